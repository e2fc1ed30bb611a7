/-! PURE 2: what is meant: laws, a week -/
abbrev WS : Type := Nat → Nat → Int32
abbrev TN : Type := Nat → Nat → Nat
abbrev LWS : Type := Nat → Option (List Nat)
def wu (W : WS) (r i : Nat) (v : Int32) : WS := fun r' i' => if r' = r ∧ i' = i then v else W r' i'
theorem wu1 (W : WS) (r i r' i' : Nat) (v : Int32) : wu W r i v r' i' = if r' = r ∧ i' = i then v else W r' i' := rfl
def ow (N : TN) (d : Nat) : Nat := 1 - N 2 (N 5 d)
def mn (a b : Int32) : Int32 := if b < a then b else a
def mx (a b : Int32) : Int32 := if a < b then b else a
def mnL (a b : Int64) : Int64 := if b < a then b else a
def mxL (a b : Int64) : Int64 := if a < b then b else a
theorem f_mn (a b : Int32) (S : Mem) : f_J9_min_7cf53 a b S = some (mn a b, S) := by
  unfold f_J9_min_7cf53 mn; split <;> rfl
theorem f_mx (a b : Int32) (S : Mem) : f_J9_max_7cf53 a b S = some (mx a b, S) := by
  unfold f_J9_max_7cf53 mx; split <;> rfl
theorem f_mnL (a b : Int64) (S : Mem) : f_J9_min_f86c9 a b S = some (mnL a b, S) := by
  unfold f_J9_min_f86c9 mnL; split <;> rfl
theorem f_mxL (a b : Int64) (S : Mem) : f_J9_max_f86c9 a b S = some (mxL a b, S) := by
  unfold f_J9_max_f86c9 mxL; split <;> rfl
def clL (v : Int64) (m : Int32) : Int32 := (mxL 0 (mnL m.toInt64 v)).toInt32
theorem f_within (v : Int64) (m : Int32) (S : Mem) : f_X8_within v m S = some (clL v m, S) := by
  unfold f_X8_within
  rw [f_mnL]
  show bnd (f_J9_max_f86c9 0 (mnL m.toInt64 v) S) _ = _
  rw [f_mxL]
  rfl
/-! laws -/
def bd (v : Int64) : Prop := ¬ (1000000000000 : Int64) < v ∧ ¬ v < (-1000000000000 : Int64)
def chk (v : Int64) : Option Int64 := if (1000000000000 : Int64) < v then none else if v < (-1000000000000 : Int64) then none else some v
def jmul (x y : Int64) : Option Int64 :=
  if x = 0 then some 0 else if y = 0 then some 0 else
    if (1000000000000 : Int64) / (if 0 ≤ x then x else -x) < y then none else if -((1000000000000 : Int64) / (if 0 ≤ x then x else -x)) ≤ y then chk (x * y) else none
def jn (k : Nat) (x y : Int64) : Option Int64 :=
  if k = 7 then some (if y ≤ x then 0 else 1) else
  if k = 8 then some (if y < x then 0 else 1) else
  if k = 9 then some (if x = y then 1 else 0) else
  if k = 10 then some (if x = y then 0 else 1) else
  if k = 11 then some (if x < y then 0 else 1) else
  if k = 12 then some (if x ≤ y then 0 else 1) else
  if k = 13 then chk (x + y) else
  if k = 14 then chk (x - y) else
  if k = 15 then jmul x y else
  if k = 16 then (if y = 0 then none else chk (x / y)) else
  if k = 17 then some (if x = 0 then (if y = 0 then 0 else 1) else 1) else
  if k = 18 then some (if x = 0 then 0 else if y = 0 then 0 else 1) else jmul x y
def evS (k : Nat) (st : List Int64) : Option (List Int64) :=
  if k = 19 then (match st with
    | x :: s => some ((if x = 0 then 1 else 0) :: s)
    | [] => none) else (match st with
    | y :: x :: s => (jn k x y).map (fun v => v :: s)
    | _ => none)
def evK (nm : Nat → Int32) (k : Nat) (st : List Int64) : Option (List Int64) :=
  if k < 100 then (if k < 20 then evS k st else if 26 < k then evS k st else some ((nm (k - 20)).toInt64 :: st)) else some (lN (k - 100) :: st)
def evL (nm : Nat → Int32) : List Nat → List Int64 → Option (List Int64)
  | [], st => some st
  | k :: l, st => (evK nm k st).bind (evL nm l)
def fin1 (r : Option (List Int64)) : Option Int64 := match r with
  | some [v] => some v
  | _ => none
def lawV (l : Option (List Nat)) (nm : Nat → Int32) : Option Int64 := match l with
  | none => none
  | some l => fin1 (evL nm l [])
def er (r : Option Int64) : Int64 := r.getD (-9223372036854775808)
/-- a row of knots: each sign has its sides, one value is left -/
def wfK : List Nat → Nat → Prop
  | [], n => n = 1
  | k :: l, n => if k < 20 then (if k = 19 then 7 ≤ k ∧ 1 ≤ n ∧ wfK l n else 7 ≤ k ∧ 2 ≤ n ∧ wfK l (n - 1)) else (if k < 100 then k ≤ 26 ∧ wfK l (n + 1) else k ≤ 10099 ∧ wfK l (n + 1))
def wfL (L : LWS) : Prop := ∀ k, k < 3 → ∀ l, L k = some l → wfK l 0 ∧ l.length ≤ 64
/-! a week -/
def nmD (N : TN) (T : WS) (W : WS) (cv : Int32) (d : Nat) : Nat → Int32 := fun i =>
  if i = 0 then T 6 d else if i = 1 then T 7 d else if i = 2 then W 2 d else if i = 3 then cv else if i = 4 then W 5 (ow N d) else if i = 5 then W 3 d else W 0 0
def nmC (W : WS) (c : Nat) : Nat → Int32 := fun i => if i = 4 then W 5 c else if i = 6 then W 0 0 else 0
def byL (r : Option Int64) (m p : Int32) : Int32 := match r with
  | none => p
  | some v => clL v m
def sOdds (N : TN) (T : WS) (L : LWS) (W : WS) (cv : Int32) (d : Nat) : Int32 := byL (lawV (L 0) (nmD N T W cv d)) 100 (mx 0 (T 0 0 - 10 * cv))
def sHurt1 (W : WS) (d : Nat) : WS := wu (wu W 2 d (mn 9 (W 2 d + 1))) 0 4 (W 0 4 ||| (1 <<< (nI d &&& 31)))
def sHurt (N : TN) (T : WS) (L : LWS) (cd : Nat → Int32) (W : WS) (d : Nat) : WS :=
  wu (sHurt1 W d) 5 (ow N d) (mn 999 (W 5 (ow N d) + byL (lawV (L 1) (nmD N T (sHurt1 W d) (cd d) d)) 99 (T 6 d)))
def numN (x : Int32) : Int32 := (x * 1103515245 + 12345) &&& 2147483647
def numD (x : Int32) : Int32 := (x >>> ((16 : Int32) &&& 31)) - (x >>> ((16 : Int32) &&& 31)) / 100 * 100
def sCome (N : TN) (T : WS) (L : LWS) (cd : Nat → Int32) (W : WS) (d : Nat) : WS := sHurt N T L cd (wu W 0 2 (W 0 2 + 1)) d
def sMoth (N : TN) (T : WS) (L : LWS) (cd : Nat → Int32) (bn : Bool) (d : Nat) (W : WS) : WS :=
  if bt (W 0 3) d = true then
    (if bn = true then
      (if sOdds N T L W (cd d) d ≤ 0 then W else if 100 ≤ sOdds N T L W (cd d) d then sCome N T L cd W d else
        if sOdds N T L W (cd d) d ≤ numD (numN (W 0 1)) then wu W 0 1 (numN (W 0 1)) else sCome N T L cd (wu W 0 1 (numN (W 0 1))) d)
    else (if sOdds N T L W (cd d) d < 50 then W else sCome N T L cd W d))
  else W
def sMostStep (N : TN) (T : WS) (m : Int32) (c d : Nat) (b : Option Nat) : Option Nat :=
  if bt m d = true ∧ ow N d ≠ c then (match b with
    | none => some d
    | some e => if T 6 d ≤ T 6 e then b else some d) else b
def sMost (N : TN) (T : WS) (m : Int32) (c : Nat) : Option Nat := itN (sMostStep N T m c) (N 0 1) none
def sAns (N : TN) (T : WS) (L : LWS) (cd : Nat → Int32) (W : WS) (c : Nat) : WS :=
  if W 5 c < T 0 1 then W else match sMost N T (W 0 3) c with
    | none => W
    | some d => wu (wu (sHurt N T L cd W d) 5 c 0) 6 c (W 6 c + 1)
def sHit (N : TN) (m : Int32) (c : Nat) : Bool := (List.range (N 0 1)).any (fun d => bt m d && decide (ow N d = c))
def sForg (N : TN) (L : LWS) (W : WS) (c : Nat) : WS :=
  if sHit N (W 0 4) c = true then W else wu W 5 c (mx 0 (W 5 c - byL (lawV (L 2) (nmC W c)) 99 1))
def sFond (d : Nat) (W : WS) : WS :=
  if bt (W 0 3) d = true then wu W 3 d (if bt (W 0 4) d = true then mx 0 (W 3 d - 2) else mn 9 (W 3 d + 1)) else W
/-- how: 0 as it goes, 1 by numbers, 2 no moths, 4 no answers, 8 nothing forgiven -/
def sWeek (N : TN) (T : WS) (L : LWS) (cd : Nat → Int32) (how : Nat) (W : WS) : WS :=
  let W1 := if how = 2 then wu W 0 4 0 else itN (sMoth N T L cd (decide (how = 1))) (N 0 1) (wu W 0 4 0)
  let W2 := if how = 4 then W1 else sAns N T L cd (sAns N T L cd W1 0) 1
  let W3 := if how = 8 then W2 else sForg N L (sForg N L W2 0) 1
  let W4 := itN sFond (N 0 1) W3
  wu W4 0 0 (W4 0 0 + 1)
def sRun (N : TN) (T : WS) (L : LWS) (cd : Nat → Int32) (how : Nat) (n : Nat) (W : WS) : WS := itN (fun _ => sWeek N T L cd how) n W
