/** The calls that README.md shows answer what it says there. */
public final class ReadmeTest {
    public static void main(String[] args) {
        Bench bench = new Bench("ReadmeTest");
        DollTruce x = new DollTruce();
        bench.due("feed", x.feed(0x6e757273, 0x65206120, 0x65617374, 0x20323b64, 0x6f6c6c20), 20);
        bench.due("feed", x.feed(0x70206120, 0x35203130, 0x3b202020, 0x20202020, 0x20202020), 40);
        bench.due("text(40)", x.text(40), 2);
        bench.due("moths(0)", x.moths(0), 0);
        bench.due("go(3)", x.go(3), 3);
        bench.due("ahead(10, 0, 0)", x.ahead(10, 0, 0), 0);
        bench.due("keep()", x.keep(), 3);
        bench.due("go(1)", x.go(1), 4);
        bench.due("back()", x.back(), 3);
        bench.end();
    }
}
