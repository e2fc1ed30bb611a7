theorem kw_1_28 : (Cond.methodLink "DollTruce" (5 : Nat) ({ cls := "java/lang/Object", name := "<init>", desc := "()V" } : MethodName)) ∈ lw_good := wg1 28 rfl rfl
theorem kw_1_29 : (Cond.instanceMethod ({ cls := "java/lang/Object", name := "<init>", desc := "()V" } : MethodName)) ∈ lw_good := wg1 29 rfl rfl
theorem kw_1_30 : (Cond.code ({ cls := "java/lang/Object", name := "<init>", desc := "()V" } : MethodName) object_method_1_code (1 : Nat) (Option.none : Option ClassFile.FieldType)) ∈ lw_good := wg1 30 rfl rfl
theorem kw_1_31 : (Cond.classLink "DollTruce" (11 : Nat) "DollTruce$Tape") ∈ lw_good := wg1 31 rfl rfl
theorem kw_1_32 : (Cond.instantiable "DollTruce$Tape" (2 : Nat)) ∈ lw_good := wg1 32 rfl rfl
theorem kw_1_34 : (Cond.instanceMethod ({ cls := "DollTruce$Tape", name := "<init>", desc := "()V" } : MethodName)) ∈ lw_good := wg1 34 rfl rfl
theorem kw_1_35 : (Cond.code ({ cls := "DollTruce$Tape", name := "<init>", desc := "()V" } : MethodName) prog_7_method_1_code (1 : Nat) (Option.none : Option ClassFile.FieldType)) ∈ lw_good := wg1 35 rfl rfl
theorem kw_1_36 : (Cond.methodLink "DollTruce$Tape" (3 : Nat) ({ cls := "java/lang/Object", name := "<init>", desc := "()V" } : MethodName)) ∈ lw_good := wg1 36 rfl rfl
theorem kw_1_46 : (Cond.arrayClass ClassFile.FieldType.int) ∈ lw_good := wg1 46 rfl rfl
theorem kw_1_47 : (Cond.classLink "DollTruce" (18 : Nat) "DollTruce$Reader") ∈ lw_good := wg1 47 rfl rfl
theorem kw_1_48 : (Cond.instantiable "DollTruce$Reader" (9 : Nat)) ∈ lw_good := wg1 48 rfl rfl
theorem kw_1_50 : (Cond.instanceMethod ({ cls := "DollTruce$Reader", name := "<init>", desc := "()V" } : MethodName)) ∈ lw_good := wg1 50 rfl rfl
theorem kw_1_51 : (Cond.code ({ cls := "DollTruce$Reader", name := "<init>", desc := "()V" } : MethodName) prog_6_method_1_code (1 : Nat) (Option.none : Option ClassFile.FieldType)) ∈ lw_good := wg1 51 rfl rfl
theorem kw_1_52 : (Cond.methodLink "DollTruce$Reader" (3 : Nat) ({ cls := "java/lang/Object", name := "<init>", desc := "()V" } : MethodName)) ∈ lw_good := wg1 52 rfl rfl
theorem kw_1_53 : (Cond.classLink "DollTruce$Reader" (9 : Nat) "DollTruce$Tokens") ∈ lw_good := wg1 53 rfl rfl
theorem kw_1_54 : (Cond.instantiable "DollTruce$Tokens" (4 : Nat)) ∈ lw_good := wg1 54 rfl rfl
theorem kw_1_56 : (Cond.instanceMethod ({ cls := "DollTruce$Tokens", name := "<init>", desc := "()V" } : MethodName)) ∈ lw_good := wg1 56 rfl rfl
theorem kw_1_57 : (Cond.code ({ cls := "DollTruce$Tokens", name := "<init>", desc := "()V" } : MethodName) prog_8_method_1_code (1 : Nat) (Option.none : Option ClassFile.FieldType)) ∈ lw_good := wg1 57 rfl rfl
theorem kw_1_58 : (Cond.methodLink "DollTruce$Tokens" (3 : Nat) ({ cls := "java/lang/Object", name := "<init>", desc := "()V" } : MethodName)) ∈ lw_good := wg1 58 rfl rfl
theorem kw_1_75 : (Cond.classLink "DollTruce$Reader" (18 : Nat) "DollTruce$Told") ∈ lw_good := wg1 75 rfl rfl
theorem kw_1_76 : (Cond.instantiable "DollTruce$Told" (15 : Nat)) ∈ lw_good := wg1 76 rfl rfl
theorem kw_1_77 : (Cond.methodLink "DollTruce$Reader" (20 : Nat) ({ cls := "DollTruce$Told", name := "<init>", desc := "()V" } : MethodName)) ∈ lw_good := wg1 77 rfl rfl
theorem kw_1_78 : (Cond.instanceMethod ({ cls := "DollTruce$Told", name := "<init>", desc := "()V" } : MethodName)) ∈ lw_good := wg1 78 rfl rfl
theorem kw_1_79 : (Cond.code ({ cls := "DollTruce$Told", name := "<init>", desc := "()V" } : MethodName) prog_9_method_1_code (2 : Nat) (Option.none : Option ClassFile.FieldType)) ∈ lw_good := wg1 79 rfl rfl
theorem kw_1_80 : (Cond.methodLink "DollTruce$Told" (3 : Nat) ({ cls := "java/lang/Object", name := "<init>", desc := "()V" } : MethodName)) ∈ lw_good := wg1 80 rfl rfl
theorem kw_1_81 : (Cond.classLink "DollTruce$Told" (56 : Nat) "DollTruce$Law") ∈ lw_good := wg1 81 rfl rfl
theorem kw_1_83 : (Cond.instantiable "DollTruce$Law" (4 : Nat)) ∈ lw_good := wg1 83 rfl rfl
theorem kw_1_85 : (Cond.instanceMethod ({ cls := "DollTruce$Law", name := "<init>", desc := "()V" } : MethodName)) ∈ lw_good := wg1 85 rfl rfl
theorem kw_1_86 : (Cond.code ({ cls := "DollTruce$Law", name := "<init>", desc := "()V" } : MethodName) prog_3_method_1_code (1 : Nat) (Option.none : Option ClassFile.FieldType)) ∈ lw_good := wg1 86 rfl rfl
theorem kw_1_87 : (Cond.methodLink "DollTruce$Law" (3 : Nat) ({ cls := "java/lang/Object", name := "<init>", desc := "()V" } : MethodName)) ∈ lw_good := wg1 87 rfl rfl
theorem kw_1_103 : (Cond.arrayClass ClassFile.FieldType.boolean) ∈ lw_good := wg1 103 rfl rfl
theorem kw_1_104 : (Cond.arrayClass ClassFile.FieldType.long) ∈ lw_good := wg1 104 rfl rfl
theorem kw_1_105 : (Cond.methodLink "DollTruce$Told" (63 : Nat) ({ cls := "DollTruce$Told", name := "clear", desc := "()V" } : MethodName)) ∈ lw_good := wg1 105 rfl rfl
theorem kw_1_228 : (Cond.classLink "DollTruce" (25 : Nat) "DollTruce$Told") ∈ lw_good := wg1 228 rfl rfl
theorem kw_1_229 : (Cond.methodLink "DollTruce" (27 : Nat) ({ cls := "DollTruce$Told", name := "<init>", desc := "()V" } : MethodName)) ∈ lw_good := wg1 229 rfl rfl
theorem kw_1_230 : (Cond.classLink "DollTruce" (32 : Nat) "DollTruce$World") ∈ lw_good := wg1 230 rfl rfl
theorem kw_1_231 : (Cond.instantiable "DollTruce$World" (13 : Nat)) ∈ lw_good := wg1 231 rfl rfl
theorem kw_1_232 : (Cond.methodLink "DollTruce" (34 : Nat) ({ cls := "DollTruce$World", name := "<init>", desc := "(LDollTruce$Told;)V" } : MethodName)) ∈ lw_good := wg1 232 rfl rfl
theorem kw_1_233 : (Cond.instanceMethod ({ cls := "DollTruce$World", name := "<init>", desc := "(LDollTruce$Told;)V" } : MethodName)) ∈ lw_good := wg1 233 rfl rfl
theorem kw_1_234 : (Cond.code ({ cls := "DollTruce$World", name := "<init>", desc := "(LDollTruce$Told;)V" } : MethodName) prog_10_method_1_code (2 : Nat) (Option.none : Option ClassFile.FieldType)) ∈ lw_good := wg1 234 rfl rfl
theorem kw_1_235 : (Cond.methodLink "DollTruce$World" (3 : Nat) ({ cls := "java/lang/Object", name := "<init>", desc := "()V" } : MethodName)) ∈ lw_good := wg1 235 rfl rfl
theorem kw_2_53 : (Cond.classLink "DollTruce" (47 : Nat) "DollTruce$Notes") ∈ lw_good := wg2 53 rfl rfl
theorem kw_2_54 : (Cond.instantiable "DollTruce$Notes" (8 : Nat)) ∈ lw_good := wg2 54 rfl rfl
theorem kw_2_56 : (Cond.instanceMethod ({ cls := "DollTruce$Notes", name := "<init>", desc := "()V" } : MethodName)) ∈ lw_good := wg2 56 rfl rfl
theorem kw_2_57 : (Cond.code ({ cls := "DollTruce$Notes", name := "<init>", desc := "()V" } : MethodName) prog_4_method_1_code (1 : Nat) (Option.none : Option ClassFile.FieldType)) ∈ lw_good := wg2 57 rfl rfl
theorem kw_2_58 : (Cond.methodLink "DollTruce$Notes" (3 : Nat) ({ cls := "java/lang/Object", name := "<init>", desc := "()V" } : MethodName)) ∈ lw_good := wg2 58 rfl rfl
theorem kw_2_86 : (Cond.classLink "DollTruce" (54 : Nat) "DollTruce$Deeds") ∈ lw_good := wg2 86 rfl rfl
theorem kw_2_87 : (Cond.instantiable "DollTruce$Deeds" (4 : Nat)) ∈ lw_good := wg2 87 rfl rfl
theorem kw_2_89 : (Cond.instanceMethod ({ cls := "DollTruce$Deeds", name := "<init>", desc := "()V" } : MethodName)) ∈ lw_good := wg2 89 rfl rfl
theorem kw_2_90 : (Cond.code ({ cls := "DollTruce$Deeds", name := "<init>", desc := "()V" } : MethodName) prog_2_method_1_code (1 : Nat) (Option.none : Option ClassFile.FieldType)) ∈ lw_good := wg2 90 rfl rfl
theorem kw_2_91 : (Cond.methodLink "DollTruce$Deeds" (3 : Nat) ({ cls := "java/lang/Object", name := "<init>", desc := "()V" } : MethodName)) ∈ lw_good := wg2 91 rfl rfl
theorem kw_2_106 : (Cond.classLink "DollTruce" (61 : Nat) "DollTruce$Nursing") ∈ lw_good := wg2 106 rfl rfl
theorem kw_2_107 : (Cond.instantiable "DollTruce$Nursing" (8 : Nat)) ∈ lw_good := wg2 107 rfl rfl
theorem kw_2_109 : (Cond.instanceMethod ({ cls := "DollTruce$Nursing", name := "<init>", desc := "()V" } : MethodName)) ∈ lw_good := wg2 109 rfl rfl
theorem kw_2_110 : (Cond.code ({ cls := "DollTruce$Nursing", name := "<init>", desc := "()V" } : MethodName) prog_5_method_1_code (1 : Nat) (Option.none : Option ClassFile.FieldType)) ∈ lw_good := wg2 110 rfl rfl
theorem kw_2_111 : (Cond.methodLink "DollTruce$Nursing" (3 : Nat) ({ cls := "java/lang/Object", name := "<init>", desc := "()V" } : MethodName)) ∈ lw_good := wg2 111 rfl rfl
theorem kw_5_163 : (Cond.methodLink "DollTruceModel" (1 : Nat) ({ cls := "java/lang/Object", name := "<init>", desc := "()V" } : MethodName)) ∈ lw_good := wg5 163 rfl rfl
theorem ok_X0_init : MOK yX0_init cX0_init 1 none 0 := ⟨kw_2_90, kw_1_9, by decide, by decide, by decide +kernel, by decide⟩
theorem im_X0_init : Cond.instanceMethod yX0_init ∈ lw_good := kw_2_89
theorem ok_X1_init : MOK yX1_init cX1_init 1 none 0 := ⟨kw_1_86, kw_1_6, by decide, by decide, by decide +kernel, by decide⟩
theorem im_X1_init : Cond.instanceMethod yX1_init ∈ lw_good := kw_1_85
theorem ok_X2_init : MOK yX2_init cX2_init 1 none 0 := ⟨kw_2_57, kw_1_8, by decide, by decide, by decide +kernel, by decide⟩
theorem im_X2_init : Cond.instanceMethod yX2_init ∈ lw_good := kw_2_56
theorem ok_X3_init : MOK yX3_init cX3_init 1 none 0 := ⟨kw_2_110, kw_1_10, by decide, by decide, by decide +kernel, by decide⟩
theorem im_X3_init : Cond.instanceMethod yX3_init ∈ lw_good := kw_2_109
theorem ok_X4_init : MOK yX4_init cX4_init 1 none 0 := ⟨kw_1_51, kw_1_3, by decide, by decide, by decide +kernel, by decide⟩
theorem im_X4_init : Cond.instanceMethod yX4_init ∈ lw_good := kw_1_50
theorem ok_X5_init : MOK yX5_init cX5_init 1 none 0 := ⟨kw_1_35, kw_1_2, by decide, by decide, by decide +kernel, by decide⟩
theorem im_X5_init : Cond.instanceMethod yX5_init ∈ lw_good := kw_1_34
theorem ok_X6_init : MOK yX6_init cX6_init 1 none 0 := ⟨kw_1_57, kw_1_4, by decide, by decide, by decide +kernel, by decide⟩
theorem im_X6_init : Cond.instanceMethod yX6_init ∈ lw_good := kw_1_56
theorem ok_X7_init : MOK yX7_init cX7_init 2 none 0 := ⟨kw_1_79, kw_1_5, by decide, by decide, by decide +kernel, by decide⟩
theorem im_X7_init : Cond.instanceMethod yX7_init ∈ lw_good := kw_1_78
theorem ok_X8_init : MOK yX8_init cX8_init 2 none 1 := ⟨kw_1_234, kw_1_7, by decide, by decide, by decide +kernel, by decide⟩
theorem im_X8_init : Cond.instanceMethod yX8_init ∈ lw_good := kw_1_233
theorem pr_X0_15 {X : XT} {loc : Nat → Nat} {cc : ByteArray} {ret : Option FieldType} {maxL d mc ms : Nat} {sk : Skel} {k n pc : Nat} {ls : List (Nat × Value)} {stk : List Value} {S : Mem} (hX : AC X loc RX0 cc ret maxL d mc ms) (hI : isInit X) {b n' r : Nat} {fs : List Value} {sk' : Skel} (hk : sk[b]? = some (4, n', fs)) (hjl : 1 < fs.length) (hsk : sk.set b (4, n', fs.set 1 (.ref r)) = sk') (hdg : decode cc pc = .ok (.putfield 15, 3)) (kk : AW X sk' loc k n (pc + 3) ls stk S) : AW X sk loc k n pc ls (.ref r :: .ref b :: stk) S :=
  aw_putR hX hI (ci := 0) (T := TX0) (N := 4) (ty0 := tyX0) rfl inGX0 tyX0_ok nmX0 hk 1 (by decide) hjl kw_2_94 rfl rfl rfl (fun _ => rfl) (fun _ => rfl) hsk hdg kk
theorem pr_X0_19 {X : XT} {loc : Nat → Nat} {cc : ByteArray} {ret : Option FieldType} {maxL d mc ms : Nat} {sk : Skel} {k n pc : Nat} {ls : List (Nat × Value)} {stk : List Value} {S : Mem} (hX : AC X loc RX0 cc ret maxL d mc ms) (hI : isInit X) {b n' r : Nat} {fs : List Value} {sk' : Skel} (hk : sk[b]? = some (4, n', fs)) (hjl : 2 < fs.length) (hsk : sk.set b (4, n', fs.set 2 (.ref r)) = sk') (hdg : decode cc pc = .ok (.putfield 19, 3)) (kk : AW X sk' loc k n (pc + 3) ls stk S) : AW X sk loc k n pc ls (.ref r :: .ref b :: stk) S :=
  aw_putR hX hI (ci := 0) (T := TX0) (N := 4) (ty0 := tyX0) rfl inGX0 tyX0_ok nmX0 hk 2 (by decide) hjl kw_2_95 rfl rfl rfl (fun _ => rfl) (fun _ => rfl) hsk hdg kk
theorem pr_X0_22 {X : XT} {loc : Nat → Nat} {cc : ByteArray} {ret : Option FieldType} {maxL d mc ms : Nat} {sk : Skel} {k n pc : Nat} {ls : List (Nat × Value)} {stk : List Value} {S : Mem} (hX : AC X loc RX0 cc ret maxL d mc ms) (hI : isInit X) {b n' r : Nat} {fs : List Value} {sk' : Skel} (hk : sk[b]? = some (4, n', fs)) (hjl : 3 < fs.length) (hsk : sk.set b (4, n', fs.set 3 (.ref r)) = sk') (hdg : decode cc pc = .ok (.putfield 22, 3)) (kk : AW X sk' loc k n (pc + 3) ls stk S) : AW X sk loc k n pc ls (.ref r :: .ref b :: stk) S :=
  aw_putR hX hI (ci := 0) (T := TX0) (N := 4) (ty0 := tyX0) rfl inGX0 tyX0_ok nmX0 hk 3 (by decide) hjl kw_2_96 rfl rfl rfl (fun _ => rfl) (fun _ => rfl) hsk hdg kk
theorem pr_X1_19 {X : XT} {loc : Nat → Nat} {cc : ByteArray} {ret : Option FieldType} {maxL d mc ms : Nat} {sk : Skel} {k n pc : Nat} {ls : List (Nat × Value)} {stk : List Value} {S : Mem} (hX : AC X loc RX1 cc ret maxL d mc ms) (hI : isInit X) {b n' r : Nat} {fs : List Value} {sk' : Skel} (hk : sk[b]? = some (5, n', fs)) (hjl : 2 < fs.length) (hsk : sk.set b (5, n', fs.set 2 (.ref r)) = sk') (hdg : decode cc pc = .ok (.putfield 19, 3)) (kk : AW X sk' loc k n (pc + 3) ls stk S) : AW X sk loc k n pc ls (.ref r :: .ref b :: stk) S :=
  aw_putR hX hI (ci := 1) (T := TX1) (N := 4) (ty0 := tyX1) rfl inGX1 tyX1_ok nmX1 hk 2 (by decide) hjl kw_1_92 rfl rfl rfl (fun _ => rfl) (fun _ => rfl) hsk hdg kk
theorem pr_X1_23 {X : XT} {loc : Nat → Nat} {cc : ByteArray} {ret : Option FieldType} {maxL d mc ms : Nat} {sk : Skel} {k n pc : Nat} {ls : List (Nat × Value)} {stk : List Value} {S : Mem} (hX : AC X loc RX1 cc ret maxL d mc ms) (hI : isInit X) {b n' r : Nat} {fs : List Value} {sk' : Skel} (hk : sk[b]? = some (5, n', fs)) (hjl : 3 < fs.length) (hsk : sk.set b (5, n', fs.set 3 (.ref r)) = sk') (hdg : decode cc pc = .ok (.putfield 23, 3)) (kk : AW X sk' loc k n (pc + 3) ls stk S) : AW X sk loc k n pc ls (.ref r :: .ref b :: stk) S :=
  aw_putR hX hI (ci := 1) (T := TX1) (N := 4) (ty0 := tyX1) rfl inGX1 tyX1_ok nmX1 hk 3 (by decide) hjl kw_1_93 rfl rfl rfl (fun _ => rfl) (fun _ => rfl) hsk hdg kk
theorem pr_X10_7 {X : XT} {loc : Nat → Nat} {cc : ByteArray} {ret : Option FieldType} {maxL d mc ms : Nat} {sk : Skel} {k n pc : Nat} {ls : List (Nat × Value)} {stk : List Value} {S : Mem} (hX : AC X loc RX10 cc ret maxL d mc ms) (hI : isInit X) {b n' r : Nat} {fs : List Value} {sk' : Skel} (hk : sk[b]? = some (14, n', fs)) (hjl : 1 < fs.length) (hsk : sk.set b (14, n', fs.set 1 (.ref r)) = sk') (hdg : decode cc pc = .ok (.putfield 7, 3)) (kk : AW X sk' loc k n (pc + 3) ls stk S) : AW X sk loc k n pc ls (.ref r :: .ref b :: stk) S :=
  aw_putR hX hI (ci := 10) (T := TX10) (N := 58) (ty0 := tyX10) rfl inGX10 tyX10_ok nmX10 hk 1 (by decide) hjl kw_5_173 rfl rfl rfl (fun _ => rfl) (fun _ => rfl) hsk hdg kk
theorem pr_X10_13 {X : XT} {loc : Nat → Nat} {cc : ByteArray} {ret : Option FieldType} {maxL d mc ms : Nat} {sk : Skel} {k n pc : Nat} {ls : List (Nat × Value)} {stk : List Value} {S : Mem} (hX : AC X loc RX10 cc ret maxL d mc ms) (hI : isInit X) {b n' r : Nat} {fs : List Value} {sk' : Skel} (hk : sk[b]? = some (14, n', fs)) (hjl : 3 < fs.length) (hsk : sk.set b (14, n', fs.set 3 (.ref r)) = sk') (hdg : decode cc pc = .ok (.putfield 13, 3)) (kk : AW X sk' loc k n (pc + 3) ls stk S) : AW X sk loc k n pc ls (.ref r :: .ref b :: stk) S :=
  aw_putR hX hI (ci := 10) (T := TX10) (N := 58) (ty0 := tyX10) rfl inGX10 tyX10_ok nmX10 hk 3 (by decide) hjl kw_5_175 rfl rfl rfl (fun _ => rfl) (fun _ => rfl) hsk hdg kk
theorem pr_X10_16 {X : XT} {loc : Nat → Nat} {cc : ByteArray} {ret : Option FieldType} {maxL d mc ms : Nat} {sk : Skel} {k n pc : Nat} {ls : List (Nat × Value)} {stk : List Value} {S : Mem} (hX : AC X loc RX10 cc ret maxL d mc ms) (hI : isInit X) {b n' r : Nat} {fs : List Value} {sk' : Skel} (hk : sk[b]? = some (14, n', fs)) (hjl : 4 < fs.length) (hsk : sk.set b (14, n', fs.set 4 (.ref r)) = sk') (hdg : decode cc pc = .ok (.putfield 16, 3)) (kk : AW X sk' loc k n (pc + 3) ls stk S) : AW X sk loc k n pc ls (.ref r :: .ref b :: stk) S :=
  aw_putR hX hI (ci := 10) (T := TX10) (N := 58) (ty0 := tyX10) rfl inGX10 tyX10_ok nmX10 hk 4 (by decide) hjl kw_5_176 rfl rfl rfl (fun _ => rfl) (fun _ => rfl) hsk hdg kk
theorem pr_X10_19 {X : XT} {loc : Nat → Nat} {cc : ByteArray} {ret : Option FieldType} {maxL d mc ms : Nat} {sk : Skel} {k n pc : Nat} {ls : List (Nat × Value)} {stk : List Value} {S : Mem} (hX : AC X loc RX10 cc ret maxL d mc ms) (hI : isInit X) {b n' r : Nat} {fs : List Value} {sk' : Skel} (hk : sk[b]? = some (14, n', fs)) (hjl : 5 < fs.length) (hsk : sk.set b (14, n', fs.set 5 (.ref r)) = sk') (hdg : decode cc pc = .ok (.putfield 19, 3)) (kk : AW X sk' loc k n (pc + 3) ls stk S) : AW X sk loc k n pc ls (.ref r :: .ref b :: stk) S :=
  aw_putR hX hI (ci := 10) (T := TX10) (N := 58) (ty0 := tyX10) rfl inGX10 tyX10_ok nmX10 hk 5 (by decide) hjl kw_5_177 rfl rfl rfl (fun _ => rfl) (fun _ => rfl) hsk hdg kk
theorem pr_X10_22 {X : XT} {loc : Nat → Nat} {cc : ByteArray} {ret : Option FieldType} {maxL d mc ms : Nat} {sk : Skel} {k n pc : Nat} {ls : List (Nat × Value)} {stk : List Value} {S : Mem} (hX : AC X loc RX10 cc ret maxL d mc ms) (hI : isInit X) {b n' r : Nat} {fs : List Value} {sk' : Skel} (hk : sk[b]? = some (14, n', fs)) (hjl : 6 < fs.length) (hsk : sk.set b (14, n', fs.set 6 (.ref r)) = sk') (hdg : decode cc pc = .ok (.putfield 22, 3)) (kk : AW X sk' loc k n (pc + 3) ls stk S) : AW X sk loc k n pc ls (.ref r :: .ref b :: stk) S :=
  aw_putR hX hI (ci := 10) (T := TX10) (N := 58) (ty0 := tyX10) rfl inGX10 tyX10_ok nmX10 hk 6 (by decide) hjl kw_5_178 rfl rfl rfl (fun _ => rfl) (fun _ => rfl) hsk hdg kk
theorem pr_X10_25 {X : XT} {loc : Nat → Nat} {cc : ByteArray} {ret : Option FieldType} {maxL d mc ms : Nat} {sk : Skel} {k n pc : Nat} {ls : List (Nat × Value)} {stk : List Value} {S : Mem} (hX : AC X loc RX10 cc ret maxL d mc ms) (hI : isInit X) {b n' r : Nat} {fs : List Value} {sk' : Skel} (hk : sk[b]? = some (14, n', fs)) (hjl : 7 < fs.length) (hsk : sk.set b (14, n', fs.set 7 (.ref r)) = sk') (hdg : decode cc pc = .ok (.putfield 25, 3)) (kk : AW X sk' loc k n (pc + 3) ls stk S) : AW X sk loc k n pc ls (.ref r :: .ref b :: stk) S :=
  aw_putR hX hI (ci := 10) (T := TX10) (N := 58) (ty0 := tyX10) rfl inGX10 tyX10_ok nmX10 hk 7 (by decide) hjl kw_5_179 rfl rfl rfl (fun _ => rfl) (fun _ => rfl) hsk hdg kk
theorem pr_X10_28 {X : XT} {loc : Nat → Nat} {cc : ByteArray} {ret : Option FieldType} {maxL d mc ms : Nat} {sk : Skel} {k n pc : Nat} {ls : List (Nat × Value)} {stk : List Value} {S : Mem} (hX : AC X loc RX10 cc ret maxL d mc ms) (hI : isInit X) {b n' r : Nat} {fs : List Value} {sk' : Skel} (hk : sk[b]? = some (14, n', fs)) (hjl : 8 < fs.length) (hsk : sk.set b (14, n', fs.set 8 (.ref r)) = sk') (hdg : decode cc pc = .ok (.putfield 28, 3)) (kk : AW X sk' loc k n (pc + 3) ls stk S) : AW X sk loc k n pc ls (.ref r :: .ref b :: stk) S :=
  aw_putR hX hI (ci := 10) (T := TX10) (N := 58) (ty0 := tyX10) rfl inGX10 tyX10_ok nmX10 hk 8 (by decide) hjl kw_5_180 rfl rfl rfl (fun _ => rfl) (fun _ => rfl) hsk hdg kk
theorem pr_X10_31 {X : XT} {loc : Nat → Nat} {cc : ByteArray} {ret : Option FieldType} {maxL d mc ms : Nat} {sk : Skel} {k n pc : Nat} {ls : List (Nat × Value)} {stk : List Value} {S : Mem} (hX : AC X loc RX10 cc ret maxL d mc ms) (hI : isInit X) {b n' r : Nat} {fs : List Value} {sk' : Skel} (hk : sk[b]? = some (14, n', fs)) (hjl : 9 < fs.length) (hsk : sk.set b (14, n', fs.set 9 (.ref r)) = sk') (hdg : decode cc pc = .ok (.putfield 31, 3)) (kk : AW X sk' loc k n (pc + 3) ls stk S) : AW X sk loc k n pc ls (.ref r :: .ref b :: stk) S :=
  aw_putR hX hI (ci := 10) (T := TX10) (N := 58) (ty0 := tyX10) rfl inGX10 tyX10_ok nmX10 hk 9 (by decide) hjl kw_5_181 rfl rfl rfl (fun _ => rfl) (fun _ => rfl) hsk hdg kk
theorem pr_X10_34 {X : XT} {loc : Nat → Nat} {cc : ByteArray} {ret : Option FieldType} {maxL d mc ms : Nat} {sk : Skel} {k n pc : Nat} {ls : List (Nat × Value)} {stk : List Value} {S : Mem} (hX : AC X loc RX10 cc ret maxL d mc ms) (hI : isInit X) {b n' r : Nat} {fs : List Value} {sk' : Skel} (hk : sk[b]? = some (14, n', fs)) (hjl : 10 < fs.length) (hsk : sk.set b (14, n', fs.set 10 (.ref r)) = sk') (hdg : decode cc pc = .ok (.putfield 34, 3)) (kk : AW X sk' loc k n (pc + 3) ls stk S) : AW X sk loc k n pc ls (.ref r :: .ref b :: stk) S :=
  aw_putR hX hI (ci := 10) (T := TX10) (N := 58) (ty0 := tyX10) rfl inGX10 tyX10_ok nmX10 hk 10 (by decide) hjl kw_5_182 rfl rfl rfl (fun _ => rfl) (fun _ => rfl) hsk hdg kk
theorem pr_X10_37 {X : XT} {loc : Nat → Nat} {cc : ByteArray} {ret : Option FieldType} {maxL d mc ms : Nat} {sk : Skel} {k n pc : Nat} {ls : List (Nat × Value)} {stk : List Value} {S : Mem} (hX : AC X loc RX10 cc ret maxL d mc ms) (hI : isInit X) {b n' r : Nat} {fs : List Value} {sk' : Skel} (hk : sk[b]? = some (14, n', fs)) (hjl : 11 < fs.length) (hsk : sk.set b (14, n', fs.set 11 (.ref r)) = sk') (hdg : decode cc pc = .ok (.putfield 37, 3)) (kk : AW X sk' loc k n (pc + 3) ls stk S) : AW X sk loc k n pc ls (.ref r :: .ref b :: stk) S :=
  aw_putR hX hI (ci := 10) (T := TX10) (N := 58) (ty0 := tyX10) rfl inGX10 tyX10_ok nmX10 hk 11 (by decide) hjl kw_5_183 rfl rfl rfl (fun _ => rfl) (fun _ => rfl) hsk hdg kk
theorem pr_X10_40 {X : XT} {loc : Nat → Nat} {cc : ByteArray} {ret : Option FieldType} {maxL d mc ms : Nat} {sk : Skel} {k n pc : Nat} {ls : List (Nat × Value)} {stk : List Value} {S : Mem} (hX : AC X loc RX10 cc ret maxL d mc ms) (hI : isInit X) {b n' r : Nat} {fs : List Value} {sk' : Skel} (hk : sk[b]? = some (14, n', fs)) (hjl : 12 < fs.length) (hsk : sk.set b (14, n', fs.set 12 (.ref r)) = sk') (hdg : decode cc pc = .ok (.putfield 40, 3)) (kk : AW X sk' loc k n (pc + 3) ls stk S) : AW X sk loc k n pc ls (.ref r :: .ref b :: stk) S :=
  aw_putR hX hI (ci := 10) (T := TX10) (N := 58) (ty0 := tyX10) rfl inGX10 tyX10_ok nmX10 hk 12 (by decide) hjl kw_5_184 rfl rfl rfl (fun _ => rfl) (fun _ => rfl) hsk hdg kk
theorem pr_X10_43 {X : XT} {loc : Nat → Nat} {cc : ByteArray} {ret : Option FieldType} {maxL d mc ms : Nat} {sk : Skel} {k n pc : Nat} {ls : List (Nat × Value)} {stk : List Value} {S : Mem} (hX : AC X loc RX10 cc ret maxL d mc ms) (hI : isInit X) {b n' r : Nat} {fs : List Value} {sk' : Skel} (hk : sk[b]? = some (14, n', fs)) (hjl : 13 < fs.length) (hsk : sk.set b (14, n', fs.set 13 (.ref r)) = sk') (hdg : decode cc pc = .ok (.putfield 43, 3)) (kk : AW X sk' loc k n (pc + 3) ls stk S) : AW X sk loc k n pc ls (.ref r :: .ref b :: stk) S :=
  aw_putR hX hI (ci := 10) (T := TX10) (N := 58) (ty0 := tyX10) rfl inGX10 tyX10_ok nmX10 hk 13 (by decide) hjl kw_5_185 rfl rfl rfl (fun _ => rfl) (fun _ => rfl) hsk hdg kk
theorem pr_X10_46 {X : XT} {loc : Nat → Nat} {cc : ByteArray} {ret : Option FieldType} {maxL d mc ms : Nat} {sk : Skel} {k n pc : Nat} {ls : List (Nat × Value)} {stk : List Value} {S : Mem} (hX : AC X loc RX10 cc ret maxL d mc ms) (hI : isInit X) {b n' r : Nat} {fs : List Value} {sk' : Skel} (hk : sk[b]? = some (14, n', fs)) (hjl : 14 < fs.length) (hsk : sk.set b (14, n', fs.set 14 (.ref r)) = sk') (hdg : decode cc pc = .ok (.putfield 46, 3)) (kk : AW X sk' loc k n (pc + 3) ls stk S) : AW X sk loc k n pc ls (.ref r :: .ref b :: stk) S :=
  aw_putR hX hI (ci := 10) (T := TX10) (N := 58) (ty0 := tyX10) rfl inGX10 tyX10_ok nmX10 hk 14 (by decide) hjl kw_5_186 rfl rfl rfl (fun _ => rfl) (fun _ => rfl) hsk hdg kk
theorem pr_X10_53 {X : XT} {loc : Nat → Nat} {cc : ByteArray} {ret : Option FieldType} {maxL d mc ms : Nat} {sk : Skel} {k n pc : Nat} {ls : List (Nat × Value)} {stk : List Value} {S : Mem} (hX : AC X loc RX10 cc ret maxL d mc ms) (hI : isInit X) {b n' r : Nat} {fs : List Value} {sk' : Skel} (hk : sk[b]? = some (14, n', fs)) (hjl : 28 < fs.length) (hsk : sk.set b (14, n', fs.set 28 (.ref r)) = sk') (hdg : decode cc pc = .ok (.putfield 53, 3)) (kk : AW X sk' loc k n (pc + 3) ls stk S) : AW X sk loc k n pc ls (.ref r :: .ref b :: stk) S :=
  aw_putR hX hI (ci := 10) (T := TX10) (N := 58) (ty0 := tyX10) rfl inGX10 tyX10_ok nmX10 hk 28 (by decide) hjl kw_5_200 rfl rfl rfl (fun _ => rfl) (fun _ => rfl) hsk hdg kk
theorem pr_X10_57 {X : XT} {loc : Nat → Nat} {cc : ByteArray} {ret : Option FieldType} {maxL d mc ms : Nat} {sk : Skel} {k n pc : Nat} {ls : List (Nat × Value)} {stk : List Value} {S : Mem} (hX : AC X loc RX10 cc ret maxL d mc ms) (hI : isInit X) {b n' r : Nat} {fs : List Value} {sk' : Skel} (hk : sk[b]? = some (14, n', fs)) (hjl : 29 < fs.length) (hsk : sk.set b (14, n', fs.set 29 (.ref r)) = sk') (hdg : decode cc pc = .ok (.putfield 57, 3)) (kk : AW X sk' loc k n (pc + 3) ls stk S) : AW X sk loc k n pc ls (.ref r :: .ref b :: stk) S :=
  aw_putR hX hI (ci := 10) (T := TX10) (N := 58) (ty0 := tyX10) rfl inGX10 tyX10_ok nmX10 hk 29 (by decide) hjl kw_5_201 rfl rfl rfl (fun _ => rfl) (fun _ => rfl) hsk hdg kk
theorem pr_X10_60 {X : XT} {loc : Nat → Nat} {cc : ByteArray} {ret : Option FieldType} {maxL d mc ms : Nat} {sk : Skel} {k n pc : Nat} {ls : List (Nat × Value)} {stk : List Value} {S : Mem} (hX : AC X loc RX10 cc ret maxL d mc ms) (hI : isInit X) {b n' r : Nat} {fs : List Value} {sk' : Skel} (hk : sk[b]? = some (14, n', fs)) (hjl : 31 < fs.length) (hsk : sk.set b (14, n', fs.set 31 (.ref r)) = sk') (hdg : decode cc pc = .ok (.putfield 60, 3)) (kk : AW X sk' loc k n (pc + 3) ls stk S) : AW X sk loc k n pc ls (.ref r :: .ref b :: stk) S :=
  aw_putR hX hI (ci := 10) (T := TX10) (N := 58) (ty0 := tyX10) rfl inGX10 tyX10_ok nmX10 hk 31 (by decide) hjl kw_5_203 rfl rfl rfl (fun _ => rfl) (fun _ => rfl) hsk hdg kk
theorem pr_X10_63 {X : XT} {loc : Nat → Nat} {cc : ByteArray} {ret : Option FieldType} {maxL d mc ms : Nat} {sk : Skel} {k n pc : Nat} {ls : List (Nat × Value)} {stk : List Value} {S : Mem} (hX : AC X loc RX10 cc ret maxL d mc ms) (hI : isInit X) {b n' r : Nat} {fs : List Value} {sk' : Skel} (hk : sk[b]? = some (14, n', fs)) (hjl : 32 < fs.length) (hsk : sk.set b (14, n', fs.set 32 (.ref r)) = sk') (hdg : decode cc pc = .ok (.putfield 63, 3)) (kk : AW X sk' loc k n (pc + 3) ls stk S) : AW X sk loc k n pc ls (.ref r :: .ref b :: stk) S :=
  aw_putR hX hI (ci := 10) (T := TX10) (N := 58) (ty0 := tyX10) rfl inGX10 tyX10_ok nmX10 hk 32 (by decide) hjl kw_5_204 rfl rfl rfl (fun _ => rfl) (fun _ => rfl) hsk hdg kk
theorem pr_X10_66 {X : XT} {loc : Nat → Nat} {cc : ByteArray} {ret : Option FieldType} {maxL d mc ms : Nat} {sk : Skel} {k n pc : Nat} {ls : List (Nat × Value)} {stk : List Value} {S : Mem} (hX : AC X loc RX10 cc ret maxL d mc ms) (hI : isInit X) {b n' r : Nat} {fs : List Value} {sk' : Skel} (hk : sk[b]? = some (14, n', fs)) (hjl : 33 < fs.length) (hsk : sk.set b (14, n', fs.set 33 (.ref r)) = sk') (hdg : decode cc pc = .ok (.putfield 66, 3)) (kk : AW X sk' loc k n (pc + 3) ls stk S) : AW X sk loc k n pc ls (.ref r :: .ref b :: stk) S :=
  aw_putR hX hI (ci := 10) (T := TX10) (N := 58) (ty0 := tyX10) rfl inGX10 tyX10_ok nmX10 hk 33 (by decide) hjl kw_5_205 rfl rfl rfl (fun _ => rfl) (fun _ => rfl) hsk hdg kk
theorem pr_X10_69 {X : XT} {loc : Nat → Nat} {cc : ByteArray} {ret : Option FieldType} {maxL d mc ms : Nat} {sk : Skel} {k n pc : Nat} {ls : List (Nat × Value)} {stk : List Value} {S : Mem} (hX : AC X loc RX10 cc ret maxL d mc ms) (hI : isInit X) {b n' r : Nat} {fs : List Value} {sk' : Skel} (hk : sk[b]? = some (14, n', fs)) (hjl : 34 < fs.length) (hsk : sk.set b (14, n', fs.set 34 (.ref r)) = sk') (hdg : decode cc pc = .ok (.putfield 69, 3)) (kk : AW X sk' loc k n (pc + 3) ls stk S) : AW X sk loc k n pc ls (.ref r :: .ref b :: stk) S :=
  aw_putR hX hI (ci := 10) (T := TX10) (N := 58) (ty0 := tyX10) rfl inGX10 tyX10_ok nmX10 hk 34 (by decide) hjl kw_5_206 rfl rfl rfl (fun _ => rfl) (fun _ => rfl) hsk hdg kk
theorem pr_X10_72 {X : XT} {loc : Nat → Nat} {cc : ByteArray} {ret : Option FieldType} {maxL d mc ms : Nat} {sk : Skel} {k n pc : Nat} {ls : List (Nat × Value)} {stk : List Value} {S : Mem} (hX : AC X loc RX10 cc ret maxL d mc ms) (hI : isInit X) {b n' r : Nat} {fs : List Value} {sk' : Skel} (hk : sk[b]? = some (14, n', fs)) (hjl : 35 < fs.length) (hsk : sk.set b (14, n', fs.set 35 (.ref r)) = sk') (hdg : decode cc pc = .ok (.putfield 72, 3)) (kk : AW X sk' loc k n (pc + 3) ls stk S) : AW X sk loc k n pc ls (.ref r :: .ref b :: stk) S :=
  aw_putR hX hI (ci := 10) (T := TX10) (N := 58) (ty0 := tyX10) rfl inGX10 tyX10_ok nmX10 hk 35 (by decide) hjl kw_5_207 rfl rfl rfl (fun _ => rfl) (fun _ => rfl) hsk hdg kk
theorem pr_X10_75 {X : XT} {loc : Nat → Nat} {cc : ByteArray} {ret : Option FieldType} {maxL d mc ms : Nat} {sk : Skel} {k n pc : Nat} {ls : List (Nat × Value)} {stk : List Value} {S : Mem} (hX : AC X loc RX10 cc ret maxL d mc ms) (hI : isInit X) {b n' r : Nat} {fs : List Value} {sk' : Skel} (hk : sk[b]? = some (14, n', fs)) (hjl : 36 < fs.length) (hsk : sk.set b (14, n', fs.set 36 (.ref r)) = sk') (hdg : decode cc pc = .ok (.putfield 75, 3)) (kk : AW X sk' loc k n (pc + 3) ls stk S) : AW X sk loc k n pc ls (.ref r :: .ref b :: stk) S :=
  aw_putR hX hI (ci := 10) (T := TX10) (N := 58) (ty0 := tyX10) rfl inGX10 tyX10_ok nmX10 hk 36 (by decide) hjl kw_5_208 rfl rfl rfl (fun _ => rfl) (fun _ => rfl) hsk hdg kk
theorem pr_X10_78 {X : XT} {loc : Nat → Nat} {cc : ByteArray} {ret : Option FieldType} {maxL d mc ms : Nat} {sk : Skel} {k n pc : Nat} {ls : List (Nat × Value)} {stk : List Value} {S : Mem} (hX : AC X loc RX10 cc ret maxL d mc ms) (hI : isInit X) {b n' r : Nat} {fs : List Value} {sk' : Skel} (hk : sk[b]? = some (14, n', fs)) (hjl : 37 < fs.length) (hsk : sk.set b (14, n', fs.set 37 (.ref r)) = sk') (hdg : decode cc pc = .ok (.putfield 78, 3)) (kk : AW X sk' loc k n (pc + 3) ls stk S) : AW X sk loc k n pc ls (.ref r :: .ref b :: stk) S :=
  aw_putR hX hI (ci := 10) (T := TX10) (N := 58) (ty0 := tyX10) rfl inGX10 tyX10_ok nmX10 hk 37 (by decide) hjl kw_5_209 rfl rfl rfl (fun _ => rfl) (fun _ => rfl) hsk hdg kk
theorem pr_X10_81 {X : XT} {loc : Nat → Nat} {cc : ByteArray} {ret : Option FieldType} {maxL d mc ms : Nat} {sk : Skel} {k n pc : Nat} {ls : List (Nat × Value)} {stk : List Value} {S : Mem} (hX : AC X loc RX10 cc ret maxL d mc ms) (hI : isInit X) {b n' r : Nat} {fs : List Value} {sk' : Skel} (hk : sk[b]? = some (14, n', fs)) (hjl : 38 < fs.length) (hsk : sk.set b (14, n', fs.set 38 (.ref r)) = sk') (hdg : decode cc pc = .ok (.putfield 81, 3)) (kk : AW X sk' loc k n (pc + 3) ls stk S) : AW X sk loc k n pc ls (.ref r :: .ref b :: stk) S :=
  aw_putR hX hI (ci := 10) (T := TX10) (N := 58) (ty0 := tyX10) rfl inGX10 tyX10_ok nmX10 hk 38 (by decide) hjl kw_5_210 rfl rfl rfl (fun _ => rfl) (fun _ => rfl) hsk hdg kk
theorem pr_X10_84 {X : XT} {loc : Nat → Nat} {cc : ByteArray} {ret : Option FieldType} {maxL d mc ms : Nat} {sk : Skel} {k n pc : Nat} {ls : List (Nat × Value)} {stk : List Value} {S : Mem} (hX : AC X loc RX10 cc ret maxL d mc ms) (hI : isInit X) {b n' r : Nat} {fs : List Value} {sk' : Skel} (hk : sk[b]? = some (14, n', fs)) (hjl : 39 < fs.length) (hsk : sk.set b (14, n', fs.set 39 (.ref r)) = sk') (hdg : decode cc pc = .ok (.putfield 84, 3)) (kk : AW X sk' loc k n (pc + 3) ls stk S) : AW X sk loc k n pc ls (.ref r :: .ref b :: stk) S :=
  aw_putR hX hI (ci := 10) (T := TX10) (N := 58) (ty0 := tyX10) rfl inGX10 tyX10_ok nmX10 hk 39 (by decide) hjl kw_5_211 rfl rfl rfl (fun _ => rfl) (fun _ => rfl) hsk hdg kk
theorem pr_X10_90 {X : XT} {loc : Nat → Nat} {cc : ByteArray} {ret : Option FieldType} {maxL d mc ms : Nat} {sk : Skel} {k n pc : Nat} {ls : List (Nat × Value)} {stk : List Value} {S : Mem} (hX : AC X loc RX10 cc ret maxL d mc ms) (hI : isInit X) {b n' r : Nat} {fs : List Value} {sk' : Skel} (hk : sk[b]? = some (14, n', fs)) (hjl : 46 < fs.length) (hsk : sk.set b (14, n', fs.set 46 (.ref r)) = sk') (hdg : decode cc pc = .ok (.putfield 90, 3)) (kk : AW X sk' loc k n (pc + 3) ls stk S) : AW X sk loc k n pc ls (.ref r :: .ref b :: stk) S :=
  aw_putR hX hI (ci := 10) (T := TX10) (N := 58) (ty0 := tyX10) rfl inGX10 tyX10_ok nmX10 hk 46 (by decide) hjl kw_5_218 rfl rfl rfl (fun _ => rfl) (fun _ => rfl) hsk hdg kk
theorem pr_X10_93 {X : XT} {loc : Nat → Nat} {cc : ByteArray} {ret : Option FieldType} {maxL d mc ms : Nat} {sk : Skel} {k n pc : Nat} {ls : List (Nat × Value)} {stk : List Value} {S : Mem} (hX : AC X loc RX10 cc ret maxL d mc ms) (hI : isInit X) {b n' r : Nat} {fs : List Value} {sk' : Skel} (hk : sk[b]? = some (14, n', fs)) (hjl : 47 < fs.length) (hsk : sk.set b (14, n', fs.set 47 (.ref r)) = sk') (hdg : decode cc pc = .ok (.putfield 93, 3)) (kk : AW X sk' loc k n (pc + 3) ls stk S) : AW X sk loc k n pc ls (.ref r :: .ref b :: stk) S :=
  aw_putR hX hI (ci := 10) (T := TX10) (N := 58) (ty0 := tyX10) rfl inGX10 tyX10_ok nmX10 hk 47 (by decide) hjl kw_5_219 rfl rfl rfl (fun _ => rfl) (fun _ => rfl) hsk hdg kk
theorem pr_X10_96 {X : XT} {loc : Nat → Nat} {cc : ByteArray} {ret : Option FieldType} {maxL d mc ms : Nat} {sk : Skel} {k n pc : Nat} {ls : List (Nat × Value)} {stk : List Value} {S : Mem} (hX : AC X loc RX10 cc ret maxL d mc ms) (hI : isInit X) {b n' r : Nat} {fs : List Value} {sk' : Skel} (hk : sk[b]? = some (14, n', fs)) (hjl : 48 < fs.length) (hsk : sk.set b (14, n', fs.set 48 (.ref r)) = sk') (hdg : decode cc pc = .ok (.putfield 96, 3)) (kk : AW X sk' loc k n (pc + 3) ls stk S) : AW X sk loc k n pc ls (.ref r :: .ref b :: stk) S :=
  aw_putR hX hI (ci := 10) (T := TX10) (N := 58) (ty0 := tyX10) rfl inGX10 tyX10_ok nmX10 hk 48 (by decide) hjl kw_5_220 rfl rfl rfl (fun _ => rfl) (fun _ => rfl) hsk hdg kk
theorem pr_X10_102 {X : XT} {loc : Nat → Nat} {cc : ByteArray} {ret : Option FieldType} {maxL d mc ms : Nat} {sk : Skel} {k n pc : Nat} {ls : List (Nat × Value)} {stk : List Value} {S : Mem} (hX : AC X loc RX10 cc ret maxL d mc ms) (hI : isInit X) {b n' r : Nat} {fs : List Value} {sk' : Skel} (hk : sk[b]? = some (14, n', fs)) (hjl : 52 < fs.length) (hsk : sk.set b (14, n', fs.set 52 (.ref r)) = sk') (hdg : decode cc pc = .ok (.putfield 102, 3)) (kk : AW X sk' loc k n (pc + 3) ls stk S) : AW X sk loc k n pc ls (.ref r :: .ref b :: stk) S :=
  aw_putR hX hI (ci := 10) (T := TX10) (N := 58) (ty0 := tyX10) rfl inGX10 tyX10_ok nmX10 hk 52 (by decide) hjl kw_5_224 rfl rfl rfl (fun _ => rfl) (fun _ => rfl) hsk hdg kk
theorem pr_X10_105 {X : XT} {loc : Nat → Nat} {cc : ByteArray} {ret : Option FieldType} {maxL d mc ms : Nat} {sk : Skel} {k n pc : Nat} {ls : List (Nat × Value)} {stk : List Value} {S : Mem} (hX : AC X loc RX10 cc ret maxL d mc ms) (hI : isInit X) {b n' r : Nat} {fs : List Value} {sk' : Skel} (hk : sk[b]? = some (14, n', fs)) (hjl : 53 < fs.length) (hsk : sk.set b (14, n', fs.set 53 (.ref r)) = sk') (hdg : decode cc pc = .ok (.putfield 105, 3)) (kk : AW X sk' loc k n (pc + 3) ls stk S) : AW X sk loc k n pc ls (.ref r :: .ref b :: stk) S :=
  aw_putR hX hI (ci := 10) (T := TX10) (N := 58) (ty0 := tyX10) rfl inGX10 tyX10_ok nmX10 hk 53 (by decide) hjl kw_5_225 rfl rfl rfl (fun _ => rfl) (fun _ => rfl) hsk hdg kk
theorem pr_X10_108 {X : XT} {loc : Nat → Nat} {cc : ByteArray} {ret : Option FieldType} {maxL d mc ms : Nat} {sk : Skel} {k n pc : Nat} {ls : List (Nat × Value)} {stk : List Value} {S : Mem} (hX : AC X loc RX10 cc ret maxL d mc ms) (hI : isInit X) {b n' r : Nat} {fs : List Value} {sk' : Skel} (hk : sk[b]? = some (14, n', fs)) (hjl : 54 < fs.length) (hsk : sk.set b (14, n', fs.set 54 (.ref r)) = sk') (hdg : decode cc pc = .ok (.putfield 108, 3)) (kk : AW X sk' loc k n (pc + 3) ls stk S) : AW X sk loc k n pc ls (.ref r :: .ref b :: stk) S :=
  aw_putR hX hI (ci := 10) (T := TX10) (N := 58) (ty0 := tyX10) rfl inGX10 tyX10_ok nmX10 hk 54 (by decide) hjl kw_5_226 rfl rfl rfl (fun _ => rfl) (fun _ => rfl) hsk hdg kk
theorem pr_X10_111 {X : XT} {loc : Nat → Nat} {cc : ByteArray} {ret : Option FieldType} {maxL d mc ms : Nat} {sk : Skel} {k n pc : Nat} {ls : List (Nat × Value)} {stk : List Value} {S : Mem} (hX : AC X loc RX10 cc ret maxL d mc ms) (hI : isInit X) {b n' r : Nat} {fs : List Value} {sk' : Skel} (hk : sk[b]? = some (14, n', fs)) (hjl : 55 < fs.length) (hsk : sk.set b (14, n', fs.set 55 (.ref r)) = sk') (hdg : decode cc pc = .ok (.putfield 111, 3)) (kk : AW X sk' loc k n (pc + 3) ls stk S) : AW X sk loc k n pc ls (.ref r :: .ref b :: stk) S :=
  aw_putR hX hI (ci := 10) (T := TX10) (N := 58) (ty0 := tyX10) rfl inGX10 tyX10_ok nmX10 hk 55 (by decide) hjl kw_5_227 rfl rfl rfl (fun _ => rfl) (fun _ => rfl) hsk hdg kk
theorem pr_X10_115 {X : XT} {loc : Nat → Nat} {cc : ByteArray} {ret : Option FieldType} {maxL d mc ms : Nat} {sk : Skel} {k n pc : Nat} {ls : List (Nat × Value)} {stk : List Value} {S : Mem} (hX : AC X loc RX10 cc ret maxL d mc ms) (hI : isInit X) {b n' r : Nat} {fs : List Value} {sk' : Skel} (hk : sk[b]? = some (14, n', fs)) (hjl : 56 < fs.length) (hsk : sk.set b (14, n', fs.set 56 (.ref r)) = sk') (hdg : decode cc pc = .ok (.putfield 115, 3)) (kk : AW X sk' loc k n (pc + 3) ls stk S) : AW X sk loc k n pc ls (.ref r :: .ref b :: stk) S :=
  aw_putR hX hI (ci := 10) (T := TX10) (N := 58) (ty0 := tyX10) rfl inGX10 tyX10_ok nmX10 hk 56 (by decide) hjl kw_5_228 rfl rfl rfl (fun _ => rfl) (fun _ => rfl) hsk hdg kk
theorem pr_X10_118 {X : XT} {loc : Nat → Nat} {cc : ByteArray} {ret : Option FieldType} {maxL d mc ms : Nat} {sk : Skel} {k n pc : Nat} {ls : List (Nat × Value)} {stk : List Value} {S : Mem} (hX : AC X loc RX10 cc ret maxL d mc ms) (hI : isInit X) {b n' r : Nat} {fs : List Value} {sk' : Skel} (hk : sk[b]? = some (14, n', fs)) (hjl : 57 < fs.length) (hsk : sk.set b (14, n', fs.set 57 (.ref r)) = sk') (hdg : decode cc pc = .ok (.putfield 118, 3)) (kk : AW X sk' loc k n (pc + 3) ls stk S) : AW X sk loc k n pc ls (.ref r :: .ref b :: stk) S :=
  aw_putR hX hI (ci := 10) (T := TX10) (N := 58) (ty0 := tyX10) rfl inGX10 tyX10_ok nmX10 hk 57 (by decide) hjl kw_5_229 rfl rfl rfl (fun _ => rfl) (fun _ => rfl) hsk hdg kk
theorem pr_X2_18 {X : XT} {loc : Nat → Nat} {cc : ByteArray} {ret : Option FieldType} {maxL d mc ms : Nat} {sk : Skel} {k n pc : Nat} {ls : List (Nat × Value)} {stk : List Value} {S : Mem} (hX : AC X loc RX2 cc ret maxL d mc ms) (hI : isInit X) {b n' r : Nat} {fs : List Value} {sk' : Skel} (hk : sk[b]? = some (6, n', fs)) (hjl : 2 < fs.length) (hsk : sk.set b (6, n', fs.set 2 (.ref r)) = sk') (hdg : decode cc pc = .ok (.putfield 18, 3)) (kk : AW X sk' loc k n (pc + 3) ls stk S) : AW X sk loc k n pc ls (.ref r :: .ref b :: stk) S :=
  aw_putR hX hI (ci := 2) (T := TX2) (N := 8) (ty0 := tyX2) rfl inGX2 tyX2_ok nmX2 hk 2 (by decide) hjl kw_2_63 rfl rfl rfl (fun _ => rfl) (fun _ => rfl) hsk hdg kk
theorem pr_X2_22 {X : XT} {loc : Nat → Nat} {cc : ByteArray} {ret : Option FieldType} {maxL d mc ms : Nat} {sk : Skel} {k n pc : Nat} {ls : List (Nat × Value)} {stk : List Value} {S : Mem} (hX : AC X loc RX2 cc ret maxL d mc ms) (hI : isInit X) {b n' r : Nat} {fs : List Value} {sk' : Skel} (hk : sk[b]? = some (6, n', fs)) (hjl : 3 < fs.length) (hsk : sk.set b (6, n', fs.set 3 (.ref r)) = sk') (hdg : decode cc pc = .ok (.putfield 22, 3)) (kk : AW X sk' loc k n (pc + 3) ls stk S) : AW X sk loc k n pc ls (.ref r :: .ref b :: stk) S :=
  aw_putR hX hI (ci := 2) (T := TX2) (N := 8) (ty0 := tyX2) rfl inGX2 tyX2_ok nmX2 hk 3 (by decide) hjl kw_2_64 rfl rfl rfl (fun _ => rfl) (fun _ => rfl) hsk hdg kk
theorem pr_X2_25 {X : XT} {loc : Nat → Nat} {cc : ByteArray} {ret : Option FieldType} {maxL d mc ms : Nat} {sk : Skel} {k n pc : Nat} {ls : List (Nat × Value)} {stk : List Value} {S : Mem} (hX : AC X loc RX2 cc ret maxL d mc ms) (hI : isInit X) {b n' r : Nat} {fs : List Value} {sk' : Skel} (hk : sk[b]? = some (6, n', fs)) (hjl : 4 < fs.length) (hsk : sk.set b (6, n', fs.set 4 (.ref r)) = sk') (hdg : decode cc pc = .ok (.putfield 25, 3)) (kk : AW X sk' loc k n (pc + 3) ls stk S) : AW X sk loc k n pc ls (.ref r :: .ref b :: stk) S :=
  aw_putR hX hI (ci := 2) (T := TX2) (N := 8) (ty0 := tyX2) rfl inGX2 tyX2_ok nmX2 hk 4 (by decide) hjl kw_2_65 rfl rfl rfl (fun _ => rfl) (fun _ => rfl) hsk hdg kk
theorem pr_X2_28 {X : XT} {loc : Nat → Nat} {cc : ByteArray} {ret : Option FieldType} {maxL d mc ms : Nat} {sk : Skel} {k n pc : Nat} {ls : List (Nat × Value)} {stk : List Value} {S : Mem} (hX : AC X loc RX2 cc ret maxL d mc ms) (hI : isInit X) {b n' r : Nat} {fs : List Value} {sk' : Skel} (hk : sk[b]? = some (6, n', fs)) (hjl : 5 < fs.length) (hsk : sk.set b (6, n', fs.set 5 (.ref r)) = sk') (hdg : decode cc pc = .ok (.putfield 28, 3)) (kk : AW X sk' loc k n (pc + 3) ls stk S) : AW X sk loc k n pc ls (.ref r :: .ref b :: stk) S :=
  aw_putR hX hI (ci := 2) (T := TX2) (N := 8) (ty0 := tyX2) rfl inGX2 tyX2_ok nmX2 hk 5 (by decide) hjl kw_2_66 rfl rfl rfl (fun _ => rfl) (fun _ => rfl) hsk hdg kk
theorem pr_X2_31 {X : XT} {loc : Nat → Nat} {cc : ByteArray} {ret : Option FieldType} {maxL d mc ms : Nat} {sk : Skel} {k n pc : Nat} {ls : List (Nat × Value)} {stk : List Value} {S : Mem} (hX : AC X loc RX2 cc ret maxL d mc ms) (hI : isInit X) {b n' r : Nat} {fs : List Value} {sk' : Skel} (hk : sk[b]? = some (6, n', fs)) (hjl : 6 < fs.length) (hsk : sk.set b (6, n', fs.set 6 (.ref r)) = sk') (hdg : decode cc pc = .ok (.putfield 31, 3)) (kk : AW X sk' loc k n (pc + 3) ls stk S) : AW X sk loc k n pc ls (.ref r :: .ref b :: stk) S :=
  aw_putR hX hI (ci := 2) (T := TX2) (N := 8) (ty0 := tyX2) rfl inGX2 tyX2_ok nmX2 hk 6 (by decide) hjl kw_2_67 rfl rfl rfl (fun _ => rfl) (fun _ => rfl) hsk hdg kk
theorem pr_X2_35 {X : XT} {loc : Nat → Nat} {cc : ByteArray} {ret : Option FieldType} {maxL d mc ms : Nat} {sk : Skel} {k n pc : Nat} {ls : List (Nat × Value)} {stk : List Value} {S : Mem} (hX : AC X loc RX2 cc ret maxL d mc ms) (hI : isInit X) {b n' r : Nat} {fs : List Value} {sk' : Skel} (hk : sk[b]? = some (6, n', fs)) (hjl : 7 < fs.length) (hsk : sk.set b (6, n', fs.set 7 (.ref r)) = sk') (hdg : decode cc pc = .ok (.putfield 35, 3)) (kk : AW X sk' loc k n (pc + 3) ls stk S) : AW X sk loc k n pc ls (.ref r :: .ref b :: stk) S :=
  aw_putR hX hI (ci := 2) (T := TX2) (N := 8) (ty0 := tyX2) rfl inGX2 tyX2_ok nmX2 hk 7 (by decide) hjl kw_2_68 rfl rfl rfl (fun _ => rfl) (fun _ => rfl) hsk hdg kk
theorem pr_X3_18 {X : XT} {loc : Nat → Nat} {cc : ByteArray} {ret : Option FieldType} {maxL d mc ms : Nat} {sk : Skel} {k n pc : Nat} {ls : List (Nat × Value)} {stk : List Value} {S : Mem} (hX : AC X loc RX3 cc ret maxL d mc ms) (hI : isInit X) {b n' r : Nat} {fs : List Value} {sk' : Skel} (hk : sk[b]? = some (7, n', fs)) (hjl : 2 < fs.length) (hsk : sk.set b (7, n', fs.set 2 (.ref r)) = sk') (hdg : decode cc pc = .ok (.putfield 18, 3)) (kk : AW X sk' loc k n (pc + 3) ls stk S) : AW X sk loc k n pc ls (.ref r :: .ref b :: stk) S :=
  aw_putR hX hI (ci := 3) (T := TX3) (N := 8) (ty0 := tyX3) rfl inGX3 tyX3_ok nmX3 hk 2 (by decide) hjl kw_2_116 rfl rfl rfl (fun _ => rfl) (fun _ => rfl) hsk hdg kk
theorem pr_X3_31 {X : XT} {loc : Nat → Nat} {cc : ByteArray} {ret : Option FieldType} {maxL d mc ms : Nat} {sk : Skel} {k n pc : Nat} {ls : List (Nat × Value)} {stk : List Value} {S : Mem} (hX : AC X loc RX3 cc ret maxL d mc ms) (hI : isInit X) {b n' r : Nat} {fs : List Value} {sk' : Skel} (hk : sk[b]? = some (7, n', fs)) (hjl : 6 < fs.length) (hsk : sk.set b (7, n', fs.set 6 (.ref r)) = sk') (hdg : decode cc pc = .ok (.putfield 31, 3)) (kk : AW X sk' loc k n (pc + 3) ls stk S) : AW X sk loc k n pc ls (.ref r :: .ref b :: stk) S :=
  aw_putR hX hI (ci := 3) (T := TX3) (N := 8) (ty0 := tyX3) rfl inGX3 tyX3_ok nmX3 hk 6 (by decide) hjl kw_2_121 rfl rfl rfl (fun _ => rfl) (fun _ => rfl) hsk hdg kk
theorem pr_X3_34 {X : XT} {loc : Nat → Nat} {cc : ByteArray} {ret : Option FieldType} {maxL d mc ms : Nat} {sk : Skel} {k n pc : Nat} {ls : List (Nat × Value)} {stk : List Value} {S : Mem} (hX : AC X loc RX3 cc ret maxL d mc ms) (hI : isInit X) {b n' r : Nat} {fs : List Value} {sk' : Skel} (hk : sk[b]? = some (7, n', fs)) (hjl : 7 < fs.length) (hsk : sk.set b (7, n', fs.set 7 (.ref r)) = sk') (hdg : decode cc pc = .ok (.putfield 34, 3)) (kk : AW X sk' loc k n (pc + 3) ls stk S) : AW X sk loc k n pc ls (.ref r :: .ref b :: stk) S :=
  aw_putR hX hI (ci := 3) (T := TX3) (N := 8) (ty0 := tyX3) rfl inGX3 tyX3_ok nmX3 hk 7 (by decide) hjl kw_2_122 rfl rfl rfl (fun _ => rfl) (fun _ => rfl) hsk hdg kk
theorem pr_X4_12 {X : XT} {loc : Nat → Nat} {cc : ByteArray} {ret : Option FieldType} {maxL d mc ms : Nat} {sk : Skel} {k n pc : Nat} {ls : List (Nat × Value)} {stk : List Value} {S : Mem} (hX : AC X loc RX4 cc ret maxL d mc ms) (hI : isInit X) {b n' r : Nat} {fs : List Value} {sk' : Skel} (hk : sk[b]? = some (8, n', fs)) (hjl : 0 < fs.length) (hsk : sk.set b (8, n', fs.set 0 (.ref r)) = sk') (hdg : decode cc pc = .ok (.putfield 12, 3)) (kk : AW X sk' loc k n (pc + 3) ls stk S) : AW X sk loc k n pc ls (.ref r :: .ref b :: stk) S :=
  aw_putR hX hI (ci := 4) (T := TX4) (N := 9) (ty0 := tyX4) rfl inGX4 tyX4_ok nmX4 hk 0 (by decide) hjl kw_1_196 rfl rfl rfl (fun _ => rfl) (fun _ => rfl) hsk hdg kk
theorem pr_X4_21 {X : XT} {loc : Nat → Nat} {cc : ByteArray} {ret : Option FieldType} {maxL d mc ms : Nat} {sk : Skel} {k n pc : Nat} {ls : List (Nat × Value)} {stk : List Value} {S : Mem} (hX : AC X loc RX4 cc ret maxL d mc ms) (hI : isInit X) {b n' r : Nat} {fs : List Value} {sk' : Skel} (hk : sk[b]? = some (8, n', fs)) (hjl : 1 < fs.length) (hsk : sk.set b (8, n', fs.set 1 (.ref r)) = sk') (hdg : decode cc pc = .ok (.putfield 21, 3)) (kk : AW X sk' loc k n (pc + 3) ls stk S) : AW X sk loc k n pc ls (.ref r :: .ref b :: stk) S :=
  aw_putR hX hI (ci := 4) (T := TX4) (N := 9) (ty0 := tyX4) rfl inGX4 tyX4_ok nmX4 hk 1 (by decide) hjl kw_1_198 rfl rfl rfl (fun _ => rfl) (fun _ => rfl) hsk hdg kk
theorem pr_X4_32 {X : XT} {loc : Nat → Nat} {cc : ByteArray} {ret : Option FieldType} {maxL d mc ms : Nat} {sk : Skel} {k n pc : Nat} {ls : List (Nat × Value)} {stk : List Value} {S : Mem} (hX : AC X loc RX4 cc ret maxL d mc ms) (hI : isInit X) {b n' r : Nat} {fs : List Value} {sk' : Skel} (hk : sk[b]? = some (8, n', fs)) (hjl : 4 < fs.length) (hsk : sk.set b (8, n', fs.set 4 (.ref r)) = sk') (hdg : decode cc pc = .ok (.putfield 32, 3)) (kk : AW X sk' loc k n (pc + 3) ls stk S) : AW X sk loc k n pc ls (.ref r :: .ref b :: stk) S :=
  aw_putR hX hI (ci := 4) (T := TX4) (N := 9) (ty0 := tyX4) rfl inGX4 tyX4_ok nmX4 hk 4 (by decide) hjl kw_1_204 rfl rfl rfl (fun _ => rfl) (fun _ => rfl) hsk hdg kk
theorem pr_X5_9 {X : XT} {loc : Nat → Nat} {cc : ByteArray} {ret : Option FieldType} {maxL d mc ms : Nat} {sk : Skel} {k n pc : Nat} {ls : List (Nat × Value)} {stk : List Value} {S : Mem} (hX : AC X loc RX5 cc ret maxL d mc ms) (hI : isInit X) {b n' r : Nat} {fs : List Value} {sk' : Skel} (hk : sk[b]? = some (9, n', fs)) (hjl : 0 < fs.length) (hsk : sk.set b (9, n', fs.set 0 (.ref r)) = sk') (hdg : decode cc pc = .ok (.putfield 9, 3)) (kk : AW X sk' loc k n (pc + 3) ls stk S) : AW X sk loc k n pc ls (.ref r :: .ref b :: stk) S :=
  aw_putR hX hI (ci := 5) (T := TX5) (N := 2) (ty0 := tyX5) rfl inGX5 tyX5_ok nmX5 hk 0 (by decide) hjl kw_1_37 rfl rfl rfl (fun _ => rfl) (fun _ => rfl) hsk hdg kk
theorem pr_X6_9 {X : XT} {loc : Nat → Nat} {cc : ByteArray} {ret : Option FieldType} {maxL d mc ms : Nat} {sk : Skel} {k n pc : Nat} {ls : List (Nat × Value)} {stk : List Value} {S : Mem} (hX : AC X loc RX6 cc ret maxL d mc ms) (hI : isInit X) {b n' r : Nat} {fs : List Value} {sk' : Skel} (hk : sk[b]? = some (10, n', fs)) (hjl : 0 < fs.length) (hsk : sk.set b (10, n', fs.set 0 (.ref r)) = sk') (hdg : decode cc pc = .ok (.putfield 9, 3)) (kk : AW X sk' loc k n (pc + 3) ls stk S) : AW X sk loc k n pc ls (.ref r :: .ref b :: stk) S :=
  aw_putR hX hI (ci := 6) (T := TX6) (N := 4) (ty0 := tyX6) rfl inGX6 tyX6_ok nmX6 hk 0 (by decide) hjl kw_1_59 rfl rfl rfl (fun _ => rfl) (fun _ => rfl) hsk hdg kk
theorem pr_X6_15 {X : XT} {loc : Nat → Nat} {cc : ByteArray} {ret : Option FieldType} {maxL d mc ms : Nat} {sk : Skel} {k n pc : Nat} {ls : List (Nat × Value)} {stk : List Value} {S : Mem} (hX : AC X loc RX6 cc ret maxL d mc ms) (hI : isInit X) {b n' r : Nat} {fs : List Value} {sk' : Skel} (hk : sk[b]? = some (10, n', fs)) (hjl : 1 < fs.length) (hsk : sk.set b (10, n', fs.set 1 (.ref r)) = sk') (hdg : decode cc pc = .ok (.putfield 15, 3)) (kk : AW X sk' loc k n (pc + 3) ls stk S) : AW X sk loc k n pc ls (.ref r :: .ref b :: stk) S :=
  aw_putR hX hI (ci := 6) (T := TX6) (N := 4) (ty0 := tyX6) rfl inGX6 tyX6_ok nmX6 hk 1 (by decide) hjl kw_1_61 rfl rfl rfl (fun _ => rfl) (fun _ => rfl) hsk hdg kk
theorem pr_X6_18 {X : XT} {loc : Nat → Nat} {cc : ByteArray} {ret : Option FieldType} {maxL d mc ms : Nat} {sk : Skel} {k n pc : Nat} {ls : List (Nat × Value)} {stk : List Value} {S : Mem} (hX : AC X loc RX6 cc ret maxL d mc ms) (hI : isInit X) {b n' r : Nat} {fs : List Value} {sk' : Skel} (hk : sk[b]? = some (10, n', fs)) (hjl : 2 < fs.length) (hsk : sk.set b (10, n', fs.set 2 (.ref r)) = sk') (hdg : decode cc pc = .ok (.putfield 18, 3)) (kk : AW X sk' loc k n (pc + 3) ls stk S) : AW X sk loc k n pc ls (.ref r :: .ref b :: stk) S :=
  aw_putR hX hI (ci := 6) (T := TX6) (N := 4) (ty0 := tyX6) rfl inGX6 tyX6_ok nmX6 hk 2 (by decide) hjl kw_1_63 rfl rfl rfl (fun _ => rfl) (fun _ => rfl) hsk hdg kk
theorem pr_X7_21 {X : XT} {loc : Nat → Nat} {cc : ByteArray} {ret : Option FieldType} {maxL d mc ms : Nat} {sk : Skel} {k n pc : Nat} {ls : List (Nat × Value)} {stk : List Value} {S : Mem} (hX : AC X loc RX7 cc ret maxL d mc ms) (hI : isInit X) {b n' r : Nat} {fs : List Value} {sk' : Skel} (hk : sk[b]? = some (11, n', fs)) (hjl : 3 < fs.length) (hsk : sk.set b (11, n', fs.set 3 (.ref r)) = sk') (hdg : decode cc pc = .ok (.putfield 21, 3)) (kk : AW X sk' loc k n (pc + 3) ls stk S) : AW X sk loc k n pc ls (.ref r :: .ref b :: stk) S :=
  aw_putR hX hI (ci := 7) (T := TX7) (N := 15) (ty0 := tyX7) rfl inGX7 tyX7_ok nmX7 hk 3 (by decide) hjl kw_1_126 rfl rfl rfl (fun _ => rfl) (fun _ => rfl) hsk hdg kk
theorem pr_X7_25 {X : XT} {loc : Nat → Nat} {cc : ByteArray} {ret : Option FieldType} {maxL d mc ms : Nat} {sk : Skel} {k n pc : Nat} {ls : List (Nat × Value)} {stk : List Value} {S : Mem} (hX : AC X loc RX7 cc ret maxL d mc ms) (hI : isInit X) {b n' r : Nat} {fs : List Value} {sk' : Skel} (hk : sk[b]? = some (11, n', fs)) (hjl : 4 < fs.length) (hsk : sk.set b (11, n', fs.set 4 (.ref r)) = sk') (hdg : decode cc pc = .ok (.putfield 25, 3)) (kk : AW X sk' loc k n (pc + 3) ls stk S) : AW X sk loc k n pc ls (.ref r :: .ref b :: stk) S :=
  aw_putR hX hI (ci := 7) (T := TX7) (N := 15) (ty0 := tyX7) rfl inGX7 tyX7_ok nmX7 hk 4 (by decide) hjl kw_1_129 rfl rfl rfl (fun _ => rfl) (fun _ => rfl) hsk hdg kk
theorem pr_X7_28 {X : XT} {loc : Nat → Nat} {cc : ByteArray} {ret : Option FieldType} {maxL d mc ms : Nat} {sk : Skel} {k n pc : Nat} {ls : List (Nat × Value)} {stk : List Value} {S : Mem} (hX : AC X loc RX7 cc ret maxL d mc ms) (hI : isInit X) {b n' r : Nat} {fs : List Value} {sk' : Skel} (hk : sk[b]? = some (11, n', fs)) (hjl : 5 < fs.length) (hsk : sk.set b (11, n', fs.set 5 (.ref r)) = sk') (hdg : decode cc pc = .ok (.putfield 28, 3)) (kk : AW X sk' loc k n (pc + 3) ls stk S) : AW X sk loc k n pc ls (.ref r :: .ref b :: stk) S :=
  aw_putR hX hI (ci := 7) (T := TX7) (N := 15) (ty0 := tyX7) rfl inGX7 tyX7_ok nmX7 hk 5 (by decide) hjl kw_1_133 rfl rfl rfl (fun _ => rfl) (fun _ => rfl) hsk hdg kk
theorem pr_X7_31 {X : XT} {loc : Nat → Nat} {cc : ByteArray} {ret : Option FieldType} {maxL d mc ms : Nat} {sk : Skel} {k n pc : Nat} {ls : List (Nat × Value)} {stk : List Value} {S : Mem} (hX : AC X loc RX7 cc ret maxL d mc ms) (hI : isInit X) {b n' r : Nat} {fs : List Value} {sk' : Skel} (hk : sk[b]? = some (11, n', fs)) (hjl : 6 < fs.length) (hsk : sk.set b (11, n', fs.set 6 (.ref r)) = sk') (hdg : decode cc pc = .ok (.putfield 31, 3)) (kk : AW X sk' loc k n (pc + 3) ls stk S) : AW X sk loc k n pc ls (.ref r :: .ref b :: stk) S :=
  aw_putR hX hI (ci := 7) (T := TX7) (N := 15) (ty0 := tyX7) rfl inGX7 tyX7_ok nmX7 hk 6 (by decide) hjl kw_1_137 rfl rfl rfl (fun _ => rfl) (fun _ => rfl) hsk hdg kk
theorem pr_X7_34 {X : XT} {loc : Nat → Nat} {cc : ByteArray} {ret : Option FieldType} {maxL d mc ms : Nat} {sk : Skel} {k n pc : Nat} {ls : List (Nat × Value)} {stk : List Value} {S : Mem} (hX : AC X loc RX7 cc ret maxL d mc ms) (hI : isInit X) {b n' r : Nat} {fs : List Value} {sk' : Skel} (hk : sk[b]? = some (11, n', fs)) (hjl : 7 < fs.length) (hsk : sk.set b (11, n', fs.set 7 (.ref r)) = sk') (hdg : decode cc pc = .ok (.putfield 34, 3)) (kk : AW X sk' loc k n (pc + 3) ls stk S) : AW X sk loc k n pc ls (.ref r :: .ref b :: stk) S :=
  aw_putR hX hI (ci := 7) (T := TX7) (N := 15) (ty0 := tyX7) rfl inGX7 tyX7_ok nmX7 hk 7 (by decide) hjl kw_1_140 rfl rfl rfl (fun _ => rfl) (fun _ => rfl) hsk hdg kk
theorem pr_X7_37 {X : XT} {loc : Nat → Nat} {cc : ByteArray} {ret : Option FieldType} {maxL d mc ms : Nat} {sk : Skel} {k n pc : Nat} {ls : List (Nat × Value)} {stk : List Value} {S : Mem} (hX : AC X loc RX7 cc ret maxL d mc ms) (hI : isInit X) {b n' r : Nat} {fs : List Value} {sk' : Skel} (hk : sk[b]? = some (11, n', fs)) (hjl : 8 < fs.length) (hsk : sk.set b (11, n', fs.set 8 (.ref r)) = sk') (hdg : decode cc pc = .ok (.putfield 37, 3)) (kk : AW X sk' loc k n (pc + 3) ls stk S) : AW X sk loc k n pc ls (.ref r :: .ref b :: stk) S :=
  aw_putR hX hI (ci := 7) (T := TX7) (N := 15) (ty0 := tyX7) rfl inGX7 tyX7_ok nmX7 hk 8 (by decide) hjl kw_1_142 rfl rfl rfl (fun _ => rfl) (fun _ => rfl) hsk hdg kk
theorem pr_X7_40 {X : XT} {loc : Nat → Nat} {cc : ByteArray} {ret : Option FieldType} {maxL d mc ms : Nat} {sk : Skel} {k n pc : Nat} {ls : List (Nat × Value)} {stk : List Value} {S : Mem} (hX : AC X loc RX7 cc ret maxL d mc ms) (hI : isInit X) {b n' r : Nat} {fs : List Value} {sk' : Skel} (hk : sk[b]? = some (11, n', fs)) (hjl : 9 < fs.length) (hsk : sk.set b (11, n', fs.set 9 (.ref r)) = sk') (hdg : decode cc pc = .ok (.putfield 40, 3)) (kk : AW X sk' loc k n (pc + 3) ls stk S) : AW X sk loc k n pc ls (.ref r :: .ref b :: stk) S :=
  aw_putR hX hI (ci := 7) (T := TX7) (N := 15) (ty0 := tyX7) rfl inGX7 tyX7_ok nmX7 hk 9 (by decide) hjl kw_1_145 rfl rfl rfl (fun _ => rfl) (fun _ => rfl) hsk hdg kk
theorem pr_X7_43 {X : XT} {loc : Nat → Nat} {cc : ByteArray} {ret : Option FieldType} {maxL d mc ms : Nat} {sk : Skel} {k n pc : Nat} {ls : List (Nat × Value)} {stk : List Value} {S : Mem} (hX : AC X loc RX7 cc ret maxL d mc ms) (hI : isInit X) {b n' r : Nat} {fs : List Value} {sk' : Skel} (hk : sk[b]? = some (11, n', fs)) (hjl : 10 < fs.length) (hsk : sk.set b (11, n', fs.set 10 (.ref r)) = sk') (hdg : decode cc pc = .ok (.putfield 43, 3)) (kk : AW X sk' loc k n (pc + 3) ls stk S) : AW X sk loc k n pc ls (.ref r :: .ref b :: stk) S :=
  aw_putR hX hI (ci := 7) (T := TX7) (N := 15) (ty0 := tyX7) rfl inGX7 tyX7_ok nmX7 hk 10 (by decide) hjl kw_1_149 rfl rfl rfl (fun _ => rfl) (fun _ => rfl) hsk hdg kk
theorem pr_X7_46 {X : XT} {loc : Nat → Nat} {cc : ByteArray} {ret : Option FieldType} {maxL d mc ms : Nat} {sk : Skel} {k n pc : Nat} {ls : List (Nat × Value)} {stk : List Value} {S : Mem} (hX : AC X loc RX7 cc ret maxL d mc ms) (hI : isInit X) {b n' r : Nat} {fs : List Value} {sk' : Skel} (hk : sk[b]? = some (11, n', fs)) (hjl : 11 < fs.length) (hsk : sk.set b (11, n', fs.set 11 (.ref r)) = sk') (hdg : decode cc pc = .ok (.putfield 46, 3)) (kk : AW X sk' loc k n (pc + 3) ls stk S) : AW X sk loc k n pc ls (.ref r :: .ref b :: stk) S :=
  aw_putR hX hI (ci := 7) (T := TX7) (N := 15) (ty0 := tyX7) rfl inGX7 tyX7_ok nmX7 hk 11 (by decide) hjl kw_1_153 rfl rfl rfl (fun _ => rfl) (fun _ => rfl) hsk hdg kk
theorem pr_X7_49 {X : XT} {loc : Nat → Nat} {cc : ByteArray} {ret : Option FieldType} {maxL d mc ms : Nat} {sk : Skel} {k n pc : Nat} {ls : List (Nat × Value)} {stk : List Value} {S : Mem} (hX : AC X loc RX7 cc ret maxL d mc ms) (hI : isInit X) {b n' r : Nat} {fs : List Value} {sk' : Skel} (hk : sk[b]? = some (11, n', fs)) (hjl : 12 < fs.length) (hsk : sk.set b (11, n', fs.set 12 (.ref r)) = sk') (hdg : decode cc pc = .ok (.putfield 49, 3)) (kk : AW X sk' loc k n (pc + 3) ls stk S) : AW X sk loc k n pc ls (.ref r :: .ref b :: stk) S :=
  aw_putR hX hI (ci := 7) (T := TX7) (N := 15) (ty0 := tyX7) rfl inGX7 tyX7_ok nmX7 hk 12 (by decide) hjl kw_1_156 rfl rfl rfl (fun _ => rfl) (fun _ => rfl) hsk hdg kk
theorem pr_X7_52 {X : XT} {loc : Nat → Nat} {cc : ByteArray} {ret : Option FieldType} {maxL d mc ms : Nat} {sk : Skel} {k n pc : Nat} {ls : List (Nat × Value)} {stk : List Value} {S : Mem} (hX : AC X loc RX7 cc ret maxL d mc ms) (hI : isInit X) {b n' r : Nat} {fs : List Value} {sk' : Skel} (hk : sk[b]? = some (11, n', fs)) (hjl : 13 < fs.length) (hsk : sk.set b (11, n', fs.set 13 (.ref r)) = sk') (hdg : decode cc pc = .ok (.putfield 52, 3)) (kk : AW X sk' loc k n (pc + 3) ls stk S) : AW X sk loc k n pc ls (.ref r :: .ref b :: stk) S :=
  aw_putR hX hI (ci := 7) (T := TX7) (N := 15) (ty0 := tyX7) rfl inGX7 tyX7_ok nmX7 hk 13 (by decide) hjl kw_1_160 rfl rfl rfl (fun _ => rfl) (fun _ => rfl) hsk hdg kk
theorem pr_X7_58 {X : XT} {loc : Nat → Nat} {cc : ByteArray} {ret : Option FieldType} {maxL d mc ms : Nat} {sk : Skel} {k n pc : Nat} {ls : List (Nat × Value)} {stk : List Value} {S : Mem} (hX : AC X loc RX7 cc ret maxL d mc ms) (hI : isInit X) {b n' r : Nat} {fs : List Value} {sk' : Skel} (hk : sk[b]? = some (11, n', fs)) (hjl : 14 < fs.length) (hsk : sk.set b (11, n', fs.set 14 (.ref r)) = sk') (hdg : decode cc pc = .ok (.putfield 58, 3)) (kk : AW X sk' loc k n (pc + 3) ls stk S) : AW X sk loc k n pc ls (.ref r :: .ref b :: stk) S :=
  aw_putR hX hI (ci := 7) (T := TX7) (N := 15) (ty0 := tyX7) rfl inGX7 tyX7_ok nmX7 hk 14 (by decide) hjl kw_1_162 rfl rfl rfl (fun _ => rfl) (fun _ => rfl) hsk hdg kk
theorem pr_X8_25 {X : XT} {loc : Nat → Nat} {cc : ByteArray} {ret : Option FieldType} {maxL d mc ms : Nat} {sk : Skel} {k n pc : Nat} {ls : List (Nat × Value)} {stk : List Value} {S : Mem} (hX : AC X loc RX8 cc ret maxL d mc ms) (hI : isInit X) {b n' r : Nat} {fs : List Value} {sk' : Skel} (hk : sk[b]? = some (12, n', fs)) (hjl : 4 < fs.length) (hsk : sk.set b (12, n', fs.set 4 (.ref r)) = sk') (hdg : decode cc pc = .ok (.putfield 25, 3)) (kk : AW X sk' loc k n (pc + 3) ls stk S) : AW X sk loc k n pc ls (.ref r :: .ref b :: stk) S :=
  aw_putR hX hI (ci := 8) (T := TX8) (N := 13) (ty0 := tyX8) rfl inGX8 tyX8_ok nmX8 hk 4 (by decide) hjl kw_2_4 rfl rfl rfl (fun _ => rfl) (fun _ => rfl) hsk hdg kk
theorem pr_X8_29 {X : XT} {loc : Nat → Nat} {cc : ByteArray} {ret : Option FieldType} {maxL d mc ms : Nat} {sk : Skel} {k n pc : Nat} {ls : List (Nat × Value)} {stk : List Value} {S : Mem} (hX : AC X loc RX8 cc ret maxL d mc ms) (hI : isInit X) {b n' r : Nat} {fs : List Value} {sk' : Skel} (hk : sk[b]? = some (12, n', fs)) (hjl : 5 < fs.length) (hsk : sk.set b (12, n', fs.set 5 (.ref r)) = sk') (hdg : decode cc pc = .ok (.putfield 29, 3)) (kk : AW X sk' loc k n (pc + 3) ls stk S) : AW X sk loc k n pc ls (.ref r :: .ref b :: stk) S :=
  aw_putR hX hI (ci := 8) (T := TX8) (N := 13) (ty0 := tyX8) rfl inGX8 tyX8_ok nmX8 hk 5 (by decide) hjl kw_2_8 rfl rfl rfl (fun _ => rfl) (fun _ => rfl) hsk hdg kk
theorem pr_X8_32 {X : XT} {loc : Nat → Nat} {cc : ByteArray} {ret : Option FieldType} {maxL d mc ms : Nat} {sk : Skel} {k n pc : Nat} {ls : List (Nat × Value)} {stk : List Value} {S : Mem} (hX : AC X loc RX8 cc ret maxL d mc ms) (hI : isInit X) {b n' r : Nat} {fs : List Value} {sk' : Skel} (hk : sk[b]? = some (12, n', fs)) (hjl : 6 < fs.length) (hsk : sk.set b (12, n', fs.set 6 (.ref r)) = sk') (hdg : decode cc pc = .ok (.putfield 32, 3)) (kk : AW X sk' loc k n (pc + 3) ls stk S) : AW X sk loc k n pc ls (.ref r :: .ref b :: stk) S :=
  aw_putR hX hI (ci := 8) (T := TX8) (N := 13) (ty0 := tyX8) rfl inGX8 tyX8_ok nmX8 hk 6 (by decide) hjl kw_2_12 rfl rfl rfl (fun _ => rfl) (fun _ => rfl) hsk hdg kk
theorem pr_X8_35 {X : XT} {loc : Nat → Nat} {cc : ByteArray} {ret : Option FieldType} {maxL d mc ms : Nat} {sk : Skel} {k n pc : Nat} {ls : List (Nat × Value)} {stk : List Value} {S : Mem} (hX : AC X loc RX8 cc ret maxL d mc ms) (hI : isInit X) {b n' r : Nat} {fs : List Value} {sk' : Skel} (hk : sk[b]? = some (12, n', fs)) (hjl : 7 < fs.length) (hsk : sk.set b (12, n', fs.set 7 (.ref r)) = sk') (hdg : decode cc pc = .ok (.putfield 35, 3)) (kk : AW X sk' loc k n (pc + 3) ls stk S) : AW X sk loc k n pc ls (.ref r :: .ref b :: stk) S :=
  aw_putR hX hI (ci := 8) (T := TX8) (N := 13) (ty0 := tyX8) rfl inGX8 tyX8_ok nmX8 hk 7 (by decide) hjl kw_2_14 rfl rfl rfl (fun _ => rfl) (fun _ => rfl) hsk hdg kk
theorem pr_X8_38 {X : XT} {loc : Nat → Nat} {cc : ByteArray} {ret : Option FieldType} {maxL d mc ms : Nat} {sk : Skel} {k n pc : Nat} {ls : List (Nat × Value)} {stk : List Value} {S : Mem} (hX : AC X loc RX8 cc ret maxL d mc ms) (hI : isInit X) {b n' r : Nat} {fs : List Value} {sk' : Skel} (hk : sk[b]? = some (12, n', fs)) (hjl : 8 < fs.length) (hsk : sk.set b (12, n', fs.set 8 (.ref r)) = sk') (hdg : decode cc pc = .ok (.putfield 38, 3)) (kk : AW X sk' loc k n (pc + 3) ls stk S) : AW X sk loc k n pc ls (.ref r :: .ref b :: stk) S :=
  aw_putR hX hI (ci := 8) (T := TX8) (N := 13) (ty0 := tyX8) rfl inGX8 tyX8_ok nmX8 hk 8 (by decide) hjl kw_2_17 rfl rfl rfl (fun _ => rfl) (fun _ => rfl) hsk hdg kk
theorem pr_X8_41 {X : XT} {loc : Nat → Nat} {cc : ByteArray} {ret : Option FieldType} {maxL d mc ms : Nat} {sk : Skel} {k n pc : Nat} {ls : List (Nat × Value)} {stk : List Value} {S : Mem} (hX : AC X loc RX8 cc ret maxL d mc ms) (hI : isInit X) {b n' r : Nat} {fs : List Value} {sk' : Skel} (hk : sk[b]? = some (12, n', fs)) (hjl : 9 < fs.length) (hsk : sk.set b (12, n', fs.set 9 (.ref r)) = sk') (hdg : decode cc pc = .ok (.putfield 41, 3)) (kk : AW X sk' loc k n (pc + 3) ls stk S) : AW X sk loc k n pc ls (.ref r :: .ref b :: stk) S :=
  aw_putR hX hI (ci := 8) (T := TX8) (N := 13) (ty0 := tyX8) rfl inGX8 tyX8_ok nmX8 hk 9 (by decide) hjl kw_2_20 rfl rfl rfl (fun _ => rfl) (fun _ => rfl) hsk hdg kk
theorem pr_X8_44 {X : XT} {loc : Nat → Nat} {cc : ByteArray} {ret : Option FieldType} {maxL d mc ms : Nat} {sk : Skel} {k n pc : Nat} {ls : List (Nat × Value)} {stk : List Value} {S : Mem} (hX : AC X loc RX8 cc ret maxL d mc ms) (hI : isInit X) {b n' r : Nat} {fs : List Value} {sk' : Skel} (hk : sk[b]? = some (12, n', fs)) (hjl : 11 < fs.length) (hsk : sk.set b (12, n', fs.set 11 (.ref r)) = sk') (hdg : decode cc pc = .ok (.putfield 44, 3)) (kk : AW X sk' loc k n (pc + 3) ls stk S) : AW X sk loc k n pc ls (.ref r :: .ref b :: stk) S :=
  aw_putR hX hI (ci := 8) (T := TX8) (N := 13) (ty0 := tyX8) rfl inGX8 tyX8_ok nmX8 hk 11 (by decide) hjl kw_2_24 rfl rfl rfl (fun _ => rfl) (fun _ => rfl) hsk hdg kk
theorem pr_X8_50 {X : XT} {loc : Nat → Nat} {cc : ByteArray} {ret : Option FieldType} {maxL d mc ms : Nat} {sk : Skel} {k n pc : Nat} {ls : List (Nat × Value)} {stk : List Value} {S : Mem} (hX : AC X loc RX8 cc ret maxL d mc ms) (hI : isInit X) {b n' r : Nat} {fs : List Value} {sk' : Skel} (hk : sk[b]? = some (12, n', fs)) (hjl : 10 < fs.length) (hsk : sk.set b (12, n', fs.set 10 (.ref r)) = sk') (hdg : decode cc pc = .ok (.putfield 50, 3)) (kk : AW X sk' loc k n (pc + 3) ls stk S) : AW X sk loc k n pc ls (.ref r :: .ref b :: stk) S :=
  aw_putR hX hI (ci := 8) (T := TX8) (N := 13) (ty0 := tyX8) rfl inGX8 tyX8_ok nmX8 hk 10 (by decide) hjl kw_2_22 rfl rfl rfl (fun _ => rfl) (fun _ => rfl) hsk hdg kk
theorem pr_X9_14 {X : XT} {loc : Nat → Nat} {cc : ByteArray} {ret : Option FieldType} {maxL d mc ms : Nat} {sk : Skel} {k n pc : Nat} {ls : List (Nat × Value)} {stk : List Value} {S : Mem} (hX : AC X loc RX9 cc ret maxL d mc ms) (hI : isInit X) {b n' r : Nat} {fs : List Value} {sk' : Skel} (hk : sk[b]? = some (13, n', fs)) (hjl : 0 < fs.length) (hsk : sk.set b (13, n', fs.set 0 (.ref r)) = sk') (hdg : decode cc pc = .ok (.putfield 14, 3)) (kk : AW X sk' loc k n (pc + 3) ls stk S) : AW X sk loc k n pc ls (.ref r :: .ref b :: stk) S :=
  aw_putR hX hI (ci := 9) (T := TX9) (N := 10) (ty0 := tyX9) rfl inGX9 tyX9_ok nmX9 hk 0 (by decide) hjl kw_2_147 rfl rfl rfl (fun _ => rfl) (fun _ => rfl) hsk hdg kk
theorem pr_X9_21 {X : XT} {loc : Nat → Nat} {cc : ByteArray} {ret : Option FieldType} {maxL d mc ms : Nat} {sk : Skel} {k n pc : Nat} {ls : List (Nat × Value)} {stk : List Value} {S : Mem} (hX : AC X loc RX9 cc ret maxL d mc ms) (hI : isInit X) {b n' r : Nat} {fs : List Value} {sk' : Skel} (hk : sk[b]? = some (13, n', fs)) (hjl : 1 < fs.length) (hsk : sk.set b (13, n', fs.set 1 (.ref r)) = sk') (hdg : decode cc pc = .ok (.putfield 21, 3)) (kk : AW X sk' loc k n (pc + 3) ls stk S) : AW X sk loc k n pc ls (.ref r :: .ref b :: stk) S :=
  aw_putR hX hI (ci := 9) (T := TX9) (N := 10) (ty0 := tyX9) rfl inGX9 tyX9_ok nmX9 hk 1 (by decide) hjl kw_2_148 rfl rfl rfl (fun _ => rfl) (fun _ => rfl) hsk hdg kk
theorem pr_X9_28 {X : XT} {loc : Nat → Nat} {cc : ByteArray} {ret : Option FieldType} {maxL d mc ms : Nat} {sk : Skel} {k n pc : Nat} {ls : List (Nat × Value)} {stk : List Value} {S : Mem} (hX : AC X loc RX9 cc ret maxL d mc ms) (hI : isInit X) {b n' r : Nat} {fs : List Value} {sk' : Skel} (hk : sk[b]? = some (13, n', fs)) (hjl : 2 < fs.length) (hsk : sk.set b (13, n', fs.set 2 (.ref r)) = sk') (hdg : decode cc pc = .ok (.putfield 28, 3)) (kk : AW X sk' loc k n (pc + 3) ls stk S) : AW X sk loc k n pc ls (.ref r :: .ref b :: stk) S :=
  aw_putR hX hI (ci := 9) (T := TX9) (N := 10) (ty0 := tyX9) rfl inGX9 tyX9_ok nmX9 hk 2 (by decide) hjl kw_2_149 rfl rfl rfl (fun _ => rfl) (fun _ => rfl) hsk hdg kk
theorem pr_X9_37 {X : XT} {loc : Nat → Nat} {cc : ByteArray} {ret : Option FieldType} {maxL d mc ms : Nat} {sk : Skel} {k n pc : Nat} {ls : List (Nat × Value)} {stk : List Value} {S : Mem} (hX : AC X loc RX9 cc ret maxL d mc ms) (hI : isInit X) {b n' r : Nat} {fs : List Value} {sk' : Skel} (hk : sk[b]? = some (13, n', fs)) (hjl : 3 < fs.length) (hsk : sk.set b (13, n', fs.set 3 (.ref r)) = sk') (hdg : decode cc pc = .ok (.putfield 37, 3)) (kk : AW X sk' loc k n (pc + 3) ls stk S) : AW X sk loc k n pc ls (.ref r :: .ref b :: stk) S :=
  aw_putR hX hI (ci := 9) (T := TX9) (N := 10) (ty0 := tyX9) rfl inGX9 tyX9_ok nmX9 hk 3 (by decide) hjl kw_2_150 rfl rfl rfl (fun _ => rfl) (fun _ => rfl) hsk hdg kk
theorem pr_X9_41 {X : XT} {loc : Nat → Nat} {cc : ByteArray} {ret : Option FieldType} {maxL d mc ms : Nat} {sk : Skel} {k n pc : Nat} {ls : List (Nat × Value)} {stk : List Value} {S : Mem} (hX : AC X loc RX9 cc ret maxL d mc ms) (hI : isInit X) {b n' r : Nat} {fs : List Value} {sk' : Skel} (hk : sk[b]? = some (13, n', fs)) (hjl : 4 < fs.length) (hsk : sk.set b (13, n', fs.set 4 (.ref r)) = sk') (hdg : decode cc pc = .ok (.putfield 41, 3)) (kk : AW X sk' loc k n (pc + 3) ls stk S) : AW X sk loc k n pc ls (.ref r :: .ref b :: stk) S :=
  aw_putR hX hI (ci := 9) (T := TX9) (N := 10) (ty0 := tyX9) rfl inGX9 tyX9_ok nmX9 hk 4 (by decide) hjl kw_2_151 rfl rfl rfl (fun _ => rfl) (fun _ => rfl) hsk hdg kk
theorem pr_X9_44 {X : XT} {loc : Nat → Nat} {cc : ByteArray} {ret : Option FieldType} {maxL d mc ms : Nat} {sk : Skel} {k n pc : Nat} {ls : List (Nat × Value)} {stk : List Value} {S : Mem} (hX : AC X loc RX9 cc ret maxL d mc ms) (hI : isInit X) {b n' r : Nat} {fs : List Value} {sk' : Skel} (hk : sk[b]? = some (13, n', fs)) (hjl : 5 < fs.length) (hsk : sk.set b (13, n', fs.set 5 (.ref r)) = sk') (hdg : decode cc pc = .ok (.putfield 44, 3)) (kk : AW X sk' loc k n (pc + 3) ls stk S) : AW X sk loc k n pc ls (.ref r :: .ref b :: stk) S :=
  aw_putR hX hI (ci := 9) (T := TX9) (N := 10) (ty0 := tyX9) rfl inGX9 tyX9_ok nmX9 hk 5 (by decide) hjl kw_2_152 rfl rfl rfl (fun _ => rfl) (fun _ => rfl) hsk hdg kk
theorem pr_X9_50 {X : XT} {loc : Nat → Nat} {cc : ByteArray} {ret : Option FieldType} {maxL d mc ms : Nat} {sk : Skel} {k n pc : Nat} {ls : List (Nat × Value)} {stk : List Value} {S : Mem} (hX : AC X loc RX9 cc ret maxL d mc ms) (hI : isInit X) {b n' r : Nat} {fs : List Value} {sk' : Skel} (hk : sk[b]? = some (13, n', fs)) (hjl : 6 < fs.length) (hsk : sk.set b (13, n', fs.set 6 (.ref r)) = sk') (hdg : decode cc pc = .ok (.putfield 50, 3)) (kk : AW X sk' loc k n (pc + 3) ls stk S) : AW X sk loc k n pc ls (.ref r :: .ref b :: stk) S :=
  aw_putR hX hI (ci := 9) (T := TX9) (N := 10) (ty0 := tyX9) rfl inGX9 tyX9_ok nmX9 hk 6 (by decide) hjl kw_2_153 rfl rfl rfl (fun _ => rfl) (fun _ => rfl) hsk hdg kk
theorem pr_X9_57 {X : XT} {loc : Nat → Nat} {cc : ByteArray} {ret : Option FieldType} {maxL d mc ms : Nat} {sk : Skel} {k n pc : Nat} {ls : List (Nat × Value)} {stk : List Value} {S : Mem} (hX : AC X loc RX9 cc ret maxL d mc ms) (hI : isInit X) {b n' r : Nat} {fs : List Value} {sk' : Skel} (hk : sk[b]? = some (13, n', fs)) (hjl : 7 < fs.length) (hsk : sk.set b (13, n', fs.set 7 (.ref r)) = sk') (hdg : decode cc pc = .ok (.putfield 57, 3)) (kk : AW X sk' loc k n (pc + 3) ls stk S) : AW X sk loc k n pc ls (.ref r :: .ref b :: stk) S :=
  aw_putR hX hI (ci := 9) (T := TX9) (N := 10) (ty0 := tyX9) rfl inGX9 tyX9_ok nmX9 hk 7 (by decide) hjl kw_2_154 rfl rfl rfl (fun _ => rfl) (fun _ => rfl) hsk hdg kk
theorem pr_X9_64 {X : XT} {loc : Nat → Nat} {cc : ByteArray} {ret : Option FieldType} {maxL d mc ms : Nat} {sk : Skel} {k n pc : Nat} {ls : List (Nat × Value)} {stk : List Value} {S : Mem} (hX : AC X loc RX9 cc ret maxL d mc ms) (hI : isInit X) {b n' r : Nat} {fs : List Value} {sk' : Skel} (hk : sk[b]? = some (13, n', fs)) (hjl : 8 < fs.length) (hsk : sk.set b (13, n', fs.set 8 (.ref r)) = sk') (hdg : decode cc pc = .ok (.putfield 64, 3)) (kk : AW X sk' loc k n (pc + 3) ls stk S) : AW X sk loc k n pc ls (.ref r :: .ref b :: stk) S :=
  aw_putR hX hI (ci := 9) (T := TX9) (N := 10) (ty0 := tyX9) rfl inGX9 tyX9_ok nmX9 hk 8 (by decide) hjl kw_2_155 rfl rfl rfl (fun _ => rfl) (fun _ => rfl) hsk hdg kk
def clrS (t : Nat) (S : Mem) : Mem := (sI (sI (sI (sI (sI (sI (sI (sI (sI (sI (sI (sI (sI (sI (sI (sI (sI (sI (sI S t 0 0) t 1 0) t 2 0) (t + 9) 0 0) (t + 9) 1 0) (t + 10) 0 20) (t + 11) 0 0) (t + 10) 1 20) (t + 11) 1 0) (t + 10) 2 5) (t + 11) 2 0) (t + 10) 3 0) (t + 11) 3 0) (t + 13 + 3 * 0) 0 0) (t + 13 + 3 * 0) 1 0) (t + 13 + 3 * 1) 0 0) (t + 13 + 3 * 1) 1 0) (t + 13 + 3 * 2) 0 0) (t + 13 + 3 * 2) 1 0)
theorem clr_eq (t : Nat) (S : Mem) : f_X7_clear t S = some (clrS t S) := rfl
theorem clr_zf {t n : Nat} {S : Mem} (h : Zf S n) (hn : t + 22 ≤ n) : Zf (clrS t S) n := by
  unfold clrS
  repeat (refine Zf.sI ?_ (by omega))
  exact h
def skX5_0 (t : Nat) : Skel := [(9, 0, [.null, .int 0])]

def skX5_1 (t : Nat) : Skel := [(9, 0, [.null, .int 0]), (0, 700, [])]

def skX5_2 (t : Nat) : Skel := [(9, 0, [.ref (t + 1), .int 0]), (0, 700, [])]

def bl_X5_init : Skel := [(9, 0, [.null, .int 0])]

def fin_X5_init (t : Nat) : Skel := [(9, 0, [.ref (t + 1), .int 0]), (0, 700, [])]

def iS_X5_init (t : Nat) (S : Mem) : Mem := (sI S t 1 (0 : Int32))

theorem cz_X5_init {t : Nat} {S : Mem} (hz : Zf S (t + 1)) : Zf (iS_X5_init t S) (t + 2) := by
  have hz0 : Zf S (t + 1) := hz
  have hz1 : Zf S (t + 2) := Zf.mono hz0 (by omega)
  have hz3 : Zf (sI S t 1 (0 : Int32)) (t + 2) := Zf.sI hz1 (by omega)
  exact hz3

set_option maxHeartbeats 4000000 in
set_option maxRecDepth 100000 in
theorem cs_X5_init {pre : Skel} {t : Nat} (ht : pre.length = t) (hsc : scs (t + 1) (pre ++ bl_X5_init)) : scs (t + 2) (pre ++ fin_X5_init t) := by
  have hsc0 : scs (t + 1) (pre ++ skX5_0 t) := hsc
  have hsc1 : scs (t + 2) (pre ++ skX5_1 t) := scs_new hsc0 (by omega) (by simp) ap_push
  have es2 : (pre ++ skX5_1 t : Skel).set t (9, 0, [.ref (t + 1), .int 0]) = pre ++ skX5_2 t := by rw [ap_set0 ht]; rfl
  have hsc2 : scs (t + 2) (pre ++ skX5_2 t) := scs_putR (b := t) (j := 0) (r := (t + 1)) hsc1 (by rw [ap_get0 ht]; rfl) (by omega) es2
  exact hsc2

set_option maxHeartbeats 4000000 in
set_option maxRecDepth 100000 in
theorem ci_X5_init {pre : Skel} {t : Nat} {S : Mem} (ht : pre.length = t) (hz : Zf S (t + 1)) (hsc : scs (t + 1) (pre ++ bl_X5_init)) (h1000 : t + 2 < 1000) : MetC yX5_init cX5_init 1 1 1 700 [.ref t] (pre ++ bl_X5_init) S (pre ++ fin_X5_init t) (iS_X5_init t S) := by
  have hpl : (pre ++ bl_X5_init).length = t + 1 := ap_len ht
  refine MetC.intro (by decide +kernel) rfl (Nat.le_of_ble_eq_true rfl) (fun X loc hX hI hQ => ?_)
  rw [hpl] at hQ
  show AW X (pre ++ skX5_0 t) loc 0 0 0 [(0, .ref t)] [] S
  have hz0 : Zf S (t + 1) := hz
  have hsc0 : scs (t + 1) (pre ++ skX5_0 t) := hsc
  have ag0 : Ag (t + 1) loc loc := Ag.rf
  refine aw_aload_n (pc := 0) hX dX5_init_0 rfl 0 rfl ?_
  refine aw_objI (pc := 1) hX kw_1_36 kw_1_29 kw_1_30 (by decide) (Nat.le_of_ble_eq_true rfl) dX5_init_1 ?_
  refine aw_aload_n (pc := 4) hX dX5_init_4 rfl 0 rfl ?_
  refine aw_sipush (v := (700 : Int32)) (pc := 5) hX dX5_init_5 (by decide) ?_
  have hsc1 : scs (t + 2) (pre ++ skX5_1 t) := scs_new hsc0 (by omega) (by simp) ap_push
  refine aw_newA' (pc := 8) hX (N0 := t + 1) (by rw [ap_len ht]; rfl) (sk' := pre ++ skX5_1 t) (at' := .int) (ty := .int) (kd := 0) (N := 700) rfl (by decide) kw_1_46 (by decide) (by decide) (by decide) hz0 hsc0 (scl_cons (scv_ref (Or.inl (by omega))) scl_nil) (scl_cons (scv_ref (Or.inl (by omega))) scl_nil) (by omega) (by omega) (by omega) dX5_init_8 ap_push (fun loc1 ag1 hX1 => ?_)
  have ag1' := ag0.tr ag1 (by omega)
  have hz1 : Zf S (t + 2) := Zf.mono hz0 (by omega)
  have es2 : (pre ++ skX5_1 t : Skel).set t (9, 0, [.ref (t + 1), .int 0]) = pre ++ skX5_2 t := by rw [ap_set0 ht]; rfl
  have hsc2 : scs (t + 2) (pre ++ skX5_2 t) := scs_putR (b := t) (j := 0) (r := (t + 1)) hsc1 (by rw [ap_get0 ht]; rfl) (by omega) es2
  refine pr_X5_9 (pc := 10) hX1 hI (by rw [ap_get0 ht]; rfl) (Nat.le_of_ble_eq_true rfl) es2 dX5_init_10 ?_
  refine aw_aload_n (pc := 13) hX1 dX5_init_13 rfl 0 rfl ?_
  refine aw_iconst (v := (0 : Int32)) (pc := 14) hX1 dX5_init_14 (by decide) ?_
  refine pf_X5_15 (pc := 15) hX1 (by rw [ap_get0 ht]; rfl) rfl dX5_init_15 ?_
  have hz3 : Zf (sI S t 1 (0 : Int32)) (t + 2) := Zf.sI hz1 (by omega)
  exact aw_vretC hX1 hQ ag1' rfl rfl dX5_init_18

def skX6_0 (t : Nat) : Skel := [(10, 0, [.null, .null, .null, .int 0])]

def skX6_1 (t : Nat) : Skel := [(10, 0, [.null, .null, .null, .int 0]), (0, 701, [])]

def skX6_2 (t : Nat) : Skel := [(10, 0, [.ref (t + 1), .null, .null, .int 0]), (0, 701, [])]

def skX6_3 (t : Nat) : Skel := [(10, 0, [.ref (t + 1), .null, .null, .int 0]), (0, 701, []), (0, 701, [])]

def skX6_4 (t : Nat) : Skel := [(10, 0, [.ref (t + 1), .ref (t + 2), .null, .int 0]), (0, 701, []), (0, 701, [])]

def skX6_5 (t : Nat) : Skel := [(10, 0, [.ref (t + 1), .ref (t + 2), .null, .int 0]), (0, 701, []), (0, 701, []), (0, 701, [])]

def skX6_6 (t : Nat) : Skel := [(10, 0, [.ref (t + 1), .ref (t + 2), .ref (t + 3), .int 0]), (0, 701, []), (0, 701, []), (0, 701, [])]

def bl_X6_init : Skel := [(10, 0, [.null, .null, .null, .int 0])]

def fin_X6_init (t : Nat) : Skel := [(10, 0, [.ref (t + 1), .ref (t + 2), .ref (t + 3), .int 0]), (0, 701, []), (0, 701, []), (0, 701, [])]

def iS_X6_init (t : Nat) (S : Mem) : Mem := (sI S t 3 (0 : Int32))

theorem cz_X6_init {t : Nat} {S : Mem} (hz : Zf S (t + 1)) : Zf (iS_X6_init t S) (t + 4) := by
  have hz0 : Zf S (t + 1) := hz
  have hz1 : Zf S (t + 2) := Zf.mono hz0 (by omega)
  have hz3 : Zf S (t + 3) := Zf.mono hz1 (by omega)
  have hz5 : Zf S (t + 4) := Zf.mono hz3 (by omega)
  have hz7 : Zf (sI S t 3 (0 : Int32)) (t + 4) := Zf.sI hz5 (by omega)
  exact hz7

set_option maxHeartbeats 4000000 in
set_option maxRecDepth 100000 in
theorem cs_X6_init {pre : Skel} {t : Nat} (ht : pre.length = t) (hsc : scs (t + 1) (pre ++ bl_X6_init)) : scs (t + 4) (pre ++ fin_X6_init t) := by
  have hsc0 : scs (t + 1) (pre ++ skX6_0 t) := hsc
  have hsc1 : scs (t + 2) (pre ++ skX6_1 t) := scs_new hsc0 (by omega) (by simp) ap_push
  have es2 : (pre ++ skX6_1 t : Skel).set t (10, 0, [.ref (t + 1), .null, .null, .int 0]) = pre ++ skX6_2 t := by rw [ap_set0 ht]; rfl
  have hsc2 : scs (t + 2) (pre ++ skX6_2 t) := scs_putR (b := t) (j := 0) (r := (t + 1)) hsc1 (by rw [ap_get0 ht]; rfl) (by omega) es2
  have hsc3 : scs (t + 3) (pre ++ skX6_3 t) := scs_new hsc2 (by omega) (by simp) ap_push
  have es4 : (pre ++ skX6_3 t : Skel).set t (10, 0, [.ref (t + 1), .ref (t + 2), .null, .int 0]) = pre ++ skX6_4 t := by rw [ap_set0 ht]; rfl
  have hsc4 : scs (t + 3) (pre ++ skX6_4 t) := scs_putR (b := t) (j := 1) (r := (t + 2)) hsc3 (by rw [ap_get0 ht]; rfl) (by omega) es4
  have hsc5 : scs (t + 4) (pre ++ skX6_5 t) := scs_new hsc4 (by omega) (by simp) ap_push
  have es6 : (pre ++ skX6_5 t : Skel).set t (10, 0, [.ref (t + 1), .ref (t + 2), .ref (t + 3), .int 0]) = pre ++ skX6_6 t := by rw [ap_set0 ht]; rfl
  have hsc6 : scs (t + 4) (pre ++ skX6_6 t) := scs_putR (b := t) (j := 2) (r := (t + 3)) hsc5 (by rw [ap_get0 ht]; rfl) (by omega) es6
  exact hsc6

set_option maxHeartbeats 4000000 in
set_option maxRecDepth 100000 in
theorem ci_X6_init {pre : Skel} {t : Nat} {S : Mem} (ht : pre.length = t) (hz : Zf S (t + 1)) (hsc : scs (t + 1) (pre ++ bl_X6_init)) (h1000 : t + 4 < 1000) : MetC yX6_init cX6_init 1 1 3 2103 [.ref t] (pre ++ bl_X6_init) S (pre ++ fin_X6_init t) (iS_X6_init t S) := by
  have hpl : (pre ++ bl_X6_init).length = t + 1 := ap_len ht
  refine MetC.intro (by decide +kernel) rfl (Nat.le_of_ble_eq_true rfl) (fun X loc hX hI hQ => ?_)
  rw [hpl] at hQ
  show AW X (pre ++ skX6_0 t) loc 0 0 0 [(0, .ref t)] [] S
  have hz0 : Zf S (t + 1) := hz
  have hsc0 : scs (t + 1) (pre ++ skX6_0 t) := hsc
  have ag0 : Ag (t + 1) loc loc := Ag.rf
  refine aw_aload_n (pc := 0) hX dX6_init_0 rfl 0 rfl ?_
  refine aw_objI (pc := 1) hX kw_1_58 kw_1_29 kw_1_30 (by decide) (Nat.le_of_ble_eq_true rfl) dX6_init_1 ?_
  refine aw_aload_n (pc := 4) hX dX6_init_4 rfl 0 rfl ?_
  refine aw_sipush (v := (701 : Int32)) (pc := 5) hX dX6_init_5 (by decide) ?_
  have hsc1 : scs (t + 2) (pre ++ skX6_1 t) := scs_new hsc0 (by omega) (by simp) ap_push
  refine aw_newA' (pc := 8) hX (N0 := t + 1) (by rw [ap_len ht]; rfl) (sk' := pre ++ skX6_1 t) (at' := .int) (ty := .int) (kd := 0) (N := 701) rfl (by decide) kw_1_46 (by decide) (by decide) (by decide) hz0 hsc0 (scl_cons (scv_ref (Or.inl (by omega))) scl_nil) (scl_cons (scv_ref (Or.inl (by omega))) scl_nil) (by omega) (by omega) (by omega) dX6_init_8 ap_push (fun loc1 ag1 hX1 => ?_)
  have ag1' := ag0.tr ag1 (by omega)
  have hz1 : Zf S (t + 2) := Zf.mono hz0 (by omega)
  have es2 : (pre ++ skX6_1 t : Skel).set t (10, 0, [.ref (t + 1), .null, .null, .int 0]) = pre ++ skX6_2 t := by rw [ap_set0 ht]; rfl
  have hsc2 : scs (t + 2) (pre ++ skX6_2 t) := scs_putR (b := t) (j := 0) (r := (t + 1)) hsc1 (by rw [ap_get0 ht]; rfl) (by omega) es2
  refine pr_X6_9 (pc := 10) hX1 hI (by rw [ap_get0 ht]; rfl) (Nat.le_of_ble_eq_true rfl) es2 dX6_init_10 ?_
  refine aw_aload_n (pc := 13) hX1 dX6_init_13 rfl 0 rfl ?_
  refine aw_sipush (v := (701 : Int32)) (pc := 14) hX1 dX6_init_14 (by decide) ?_
  have hsc3 : scs (t + 3) (pre ++ skX6_3 t) := scs_new hsc2 (by omega) (by simp) ap_push
  refine aw_newA' (pc := 17) hX1 (N0 := t + 2) (by rw [ap_len ht]; rfl) (sk' := pre ++ skX6_3 t) (at' := .int) (ty := .int) (kd := 0) (N := 701) rfl (by decide) kw_1_46 (by decide) (by decide) (by decide) hz1 hsc2 (scl_cons (scv_ref (Or.inl (by omega))) scl_nil) (scl_cons (scv_ref (Or.inl (by omega))) scl_nil) (by omega) (by omega) (by omega) dX6_init_17 ap_push (fun loc3 ag3 hX3 => ?_)
  have ag3' := ag1'.tr ag3 (by omega)
  have hz3 : Zf S (t + 3) := Zf.mono hz1 (by omega)
  have es4 : (pre ++ skX6_3 t : Skel).set t (10, 0, [.ref (t + 1), .ref (t + 2), .null, .int 0]) = pre ++ skX6_4 t := by rw [ap_set0 ht]; rfl
  have hsc4 : scs (t + 3) (pre ++ skX6_4 t) := scs_putR (b := t) (j := 1) (r := (t + 2)) hsc3 (by rw [ap_get0 ht]; rfl) (by omega) es4
  refine pr_X6_15 (pc := 19) hX3 hI (by rw [ap_get0 ht]; rfl) (Nat.le_of_ble_eq_true rfl) es4 dX6_init_19 ?_
  refine aw_aload_n (pc := 22) hX3 dX6_init_22 rfl 0 rfl ?_
  refine aw_sipush (v := (701 : Int32)) (pc := 23) hX3 dX6_init_23 (by decide) ?_
  have hsc5 : scs (t + 4) (pre ++ skX6_5 t) := scs_new hsc4 (by omega) (by simp) ap_push
  refine aw_newA' (pc := 26) hX3 (N0 := t + 3) (by rw [ap_len ht]; rfl) (sk' := pre ++ skX6_5 t) (at' := .int) (ty := .int) (kd := 0) (N := 701) rfl (by decide) kw_1_46 (by decide) (by decide) (by decide) hz3 hsc4 (scl_cons (scv_ref (Or.inl (by omega))) scl_nil) (scl_cons (scv_ref (Or.inl (by omega))) scl_nil) (by omega) (by omega) (by omega) dX6_init_26 ap_push (fun loc5 ag5 hX5 => ?_)
  have ag5' := ag3'.tr ag5 (by omega)
  have hz5 : Zf S (t + 4) := Zf.mono hz3 (by omega)
  have es6 : (pre ++ skX6_5 t : Skel).set t (10, 0, [.ref (t + 1), .ref (t + 2), .ref (t + 3), .int 0]) = pre ++ skX6_6 t := by rw [ap_set0 ht]; rfl
  have hsc6 : scs (t + 4) (pre ++ skX6_6 t) := scs_putR (b := t) (j := 2) (r := (t + 3)) hsc5 (by rw [ap_get0 ht]; rfl) (by omega) es6
  refine pr_X6_18 (pc := 28) hX5 hI (by rw [ap_get0 ht]; rfl) (Nat.le_of_ble_eq_true rfl) es6 dX6_init_28 ?_
  refine aw_aload_n (pc := 31) hX5 dX6_init_31 rfl 0 rfl ?_
  refine aw_iconst (v := (0 : Int32)) (pc := 32) hX5 dX6_init_32 (by decide) ?_
  refine pf_X6_21 (pc := 33) hX5 (by rw [ap_get0 ht]; rfl) rfl dX6_init_33 ?_
  have hz7 : Zf (sI S t 3 (0 : Int32)) (t + 4) := Zf.sI hz5 (by omega)
  exact aw_vretC hX5 hQ ag5' rfl rfl dX6_init_36

def skX1_0 (t : Nat) : Skel := [(5, 0, [.int 0, .int 0, .null, .null])]

def skX1_1 (t : Nat) : Skel := [(5, 0, [.int 0, .int 0, .null, .null]), (0, 64, [])]

def skX1_2 (t : Nat) : Skel := [(5, 0, [.int 0, .int 0, .ref (t + 1), .null]), (0, 64, [])]

def skX1_3 (t : Nat) : Skel := [(5, 0, [.int 0, .int 0, .ref (t + 1), .null]), (0, 64, []), (2, 64, [])]

def skX1_4 (t : Nat) : Skel := [(5, 0, [.int 0, .int 0, .ref (t + 1), .ref (t + 2)]), (0, 64, []), (2, 64, [])]

def bl_X1_init : Skel := [(5, 0, [.int 0, .int 0, .null, .null])]

def fin_X1_init (t : Nat) : Skel := [(5, 0, [.int 0, .int 0, .ref (t + 1), .ref (t + 2)]), (0, 64, []), (2, 64, [])]

def iS_X1_init (t : Nat) (S : Mem) : Mem := (sI (sI S t 0 (0 : Int32)) t 1 (0 : Int32))

theorem cz_X1_init {t : Nat} {S : Mem} (hz : Zf S (t + 1)) : Zf (iS_X1_init t S) (t + 3) := by
  have hz0 : Zf S (t + 1) := hz
  have hz1 : Zf (sI S t 0 (0 : Int32)) (t + 1) := Zf.sI hz0 (by omega)
  have hz2 : Zf (sI (sI S t 0 (0 : Int32)) t 1 (0 : Int32)) (t + 1) := Zf.sI hz1 (by omega)
  have hz3 : Zf (sI (sI S t 0 (0 : Int32)) t 1 (0 : Int32)) (t + 2) := Zf.mono hz2 (by omega)
  have hz5 : Zf (sI (sI S t 0 (0 : Int32)) t 1 (0 : Int32)) (t + 3) := Zf.mono hz3 (by omega)
  exact hz5

set_option maxHeartbeats 4000000 in
set_option maxRecDepth 100000 in
theorem cs_X1_init {pre : Skel} {t : Nat} (ht : pre.length = t) (hsc : scs (t + 1) (pre ++ bl_X1_init)) : scs (t + 3) (pre ++ fin_X1_init t) := by
  have hsc0 : scs (t + 1) (pre ++ skX1_0 t) := hsc
  have hsc3 : scs (t + 2) (pre ++ skX1_1 t) := scs_new hsc0 (by omega) (by simp) ap_push
  have es4 : (pre ++ skX1_1 t : Skel).set t (5, 0, [.int 0, .int 0, .ref (t + 1), .null]) = pre ++ skX1_2 t := by rw [ap_set0 ht]; rfl
  have hsc4 : scs (t + 2) (pre ++ skX1_2 t) := scs_putR (b := t) (j := 2) (r := (t + 1)) hsc3 (by rw [ap_get0 ht]; rfl) (by omega) es4
  have hsc5 : scs (t + 3) (pre ++ skX1_3 t) := scs_new hsc4 (by omega) (by simp) ap_push
  have es6 : (pre ++ skX1_3 t : Skel).set t (5, 0, [.int 0, .int 0, .ref (t + 1), .ref (t + 2)]) = pre ++ skX1_4 t := by rw [ap_set0 ht]; rfl
  have hsc6 : scs (t + 3) (pre ++ skX1_4 t) := scs_putR (b := t) (j := 3) (r := (t + 2)) hsc5 (by rw [ap_get0 ht]; rfl) (by omega) es6
  exact hsc6

set_option maxHeartbeats 4000000 in
set_option maxRecDepth 100000 in
theorem ci_X1_init {pre : Skel} {t : Nat} {S : Mem} (ht : pre.length = t) (hz : Zf S (t + 1)) (hsc : scs (t + 1) (pre ++ bl_X1_init)) (h1000 : t + 3 < 1000) : MetC yX1_init cX1_init 1 1 2 128 [.ref t] (pre ++ bl_X1_init) S (pre ++ fin_X1_init t) (iS_X1_init t S) := by
  have hpl : (pre ++ bl_X1_init).length = t + 1 := ap_len ht
  refine MetC.intro (by decide +kernel) rfl (Nat.le_of_ble_eq_true rfl) (fun X loc hX hI hQ => ?_)
  rw [hpl] at hQ
  show AW X (pre ++ skX1_0 t) loc 0 0 0 [(0, .ref t)] [] S
  have hz0 : Zf S (t + 1) := hz
  have hsc0 : scs (t + 1) (pre ++ skX1_0 t) := hsc
  have ag0 : Ag (t + 1) loc loc := Ag.rf
  refine aw_aload_n (pc := 0) hX dX1_init_0 rfl 0 rfl ?_
  refine aw_objI (pc := 1) hX kw_1_87 kw_1_29 kw_1_30 (by decide) (Nat.le_of_ble_eq_true rfl) dX1_init_1 ?_
  refine aw_aload_n (pc := 4) hX dX1_init_4 rfl 0 rfl ?_
  refine aw_iconst (v := (0 : Int32)) (pc := 5) hX dX1_init_5 (by decide) ?_
  refine pf_X1_9 (pc := 6) hX (by rw [ap_get0 ht]; rfl) rfl (by decide) dX1_init_6 ?_
  have hz1 : Zf (sI S t 0 (0 : Int32)) (t + 1) := Zf.sI hz0 (by omega)
  refine aw_aload_n (pc := 9) hX dX1_init_9 rfl 0 rfl ?_
  refine aw_iconst (v := (0 : Int32)) (pc := 10) hX dX1_init_10 (by decide) ?_
  refine pf_X1_15 (pc := 11) hX (by rw [ap_get0 ht]; rfl) rfl dX1_init_11 ?_
  have hz2 : Zf (sI (sI S t 0 (0 : Int32)) t 1 (0 : Int32)) (t + 1) := Zf.sI hz1 (by omega)
  refine aw_aload_n (pc := 14) hX dX1_init_14 rfl 0 rfl ?_
  refine aw_bipush (v := (64 : Int32)) (pc := 15) hX dX1_init_15 (by decide) ?_
  have hsc3 : scs (t + 2) (pre ++ skX1_1 t) := scs_new hsc0 (by omega) (by simp) ap_push
  refine aw_newA' (pc := 17) hX (N0 := t + 1) (by rw [ap_len ht]; rfl) (sk' := pre ++ skX1_1 t) (at' := .int) (ty := .int) (kd := 0) (N := 64) rfl (by decide) kw_1_46 (by decide) (by decide) (by decide) hz2 hsc0 (scl_cons (scv_ref (Or.inl (by omega))) scl_nil) (scl_cons (scv_ref (Or.inl (by omega))) scl_nil) (by omega) (by omega) (by omega) dX1_init_17 ap_push (fun loc3 ag3 hX3 => ?_)
  have ag3' := ag0.tr ag3 (by omega)
  have hz3 : Zf (sI (sI S t 0 (0 : Int32)) t 1 (0 : Int32)) (t + 2) := Zf.mono hz2 (by omega)
  have es4 : (pre ++ skX1_1 t : Skel).set t (5, 0, [.int 0, .int 0, .ref (t + 1), .null]) = pre ++ skX1_2 t := by rw [ap_set0 ht]; rfl
  have hsc4 : scs (t + 2) (pre ++ skX1_2 t) := scs_putR (b := t) (j := 2) (r := (t + 1)) hsc3 (by rw [ap_get0 ht]; rfl) (by omega) es4
  refine pr_X1_19 (pc := 19) hX3 hI (by rw [ap_get0 ht]; rfl) (Nat.le_of_ble_eq_true rfl) es4 dX1_init_19 ?_
  refine aw_aload_n (pc := 22) hX3 dX1_init_22 rfl 0 rfl ?_
  refine aw_bipush (v := (64 : Int32)) (pc := 23) hX3 dX1_init_23 (by decide) ?_
  have hsc5 : scs (t + 3) (pre ++ skX1_3 t) := scs_new hsc4 (by omega) (by simp) ap_push
  refine aw_newA' (pc := 25) hX3 (N0 := t + 2) (by rw [ap_len ht]; rfl) (sk' := pre ++ skX1_3 t) (at' := .long) (ty := .long) (kd := 2) (N := 64) rfl (by decide) kw_1_104 (by decide) (by decide) (by decide) hz3 hsc4 (scl_cons (scv_ref (Or.inl (by omega))) scl_nil) (scl_cons (scv_ref (Or.inl (by omega))) scl_nil) (by omega) (by omega) (by omega) dX1_init_25 ap_push (fun loc5 ag5 hX5 => ?_)
  have ag5' := ag3'.tr ag5 (by omega)
  have hz5 : Zf (sI (sI S t 0 (0 : Int32)) t 1 (0 : Int32)) (t + 3) := Zf.mono hz3 (by omega)
  have es6 : (pre ++ skX1_3 t : Skel).set t (5, 0, [.int 0, .int 0, .ref (t + 1), .ref (t + 2)]) = pre ++ skX1_4 t := by rw [ap_set0 ht]; rfl
  have hsc6 : scs (t + 3) (pre ++ skX1_4 t) := scs_putR (b := t) (j := 3) (r := (t + 2)) hsc5 (by rw [ap_get0 ht]; rfl) (by omega) es6
  refine pr_X1_23 (pc := 27) hX5 hI (by rw [ap_get0 ht]; rfl) (Nat.le_of_ble_eq_true rfl) es6 dX1_init_27 ?_
  exact aw_vretC hX5 hQ ag5' rfl rfl dX1_init_30
