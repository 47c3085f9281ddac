/-! What the Statement gives of the start: String constants, statics. -/
theorem an1 {A B : Cond} {args : Array Value} {s : State} (h : (Cond.and A B).before args s = true) : A.before args s = true := by rw [Cond.before_and, Bool.and_eq_true] at h; exact h.1
theorem an2 {A B : Cond} {args : Array Value} {s : State} (h : (Cond.and A B).before args s = true) : B.before args s = true := by rw [Cond.before_and, Bool.and_eq_true] at h; exact h.2
theorem nr_2 {args : Array Value} {s : State} (h : narrow_1.before args s = true) : (Jvm.Cond.eq (Jvm.Term.static "java/lang/String" "COMPACT_STRINGS" "Z") (Jvm.Term.int (1 : Int32))).before args s = true := an2 (an2 (an1 (an1 (an1 (an1 (an1 (an1 (an1 h))))))))
theorem nr_3 {args : Array Value} {s : State} (h : narrow_1.before args s = true) : (Jvm.Cond.isRef (Jvm.Term.static "jdk/internal/util/Preconditions" "SIOOBE_FORMATTER" "Ljava/util/function/BiFunction;")).before args s = true := an1 (an2 (an1 (an1 (an1 (an1 (an1 (an1 h)))))))
theorem nr_35 {args : Array Value} {s : State} (h : narrow_1.before args s = true) : (Jvm.Cond.exactly (Jvm.Term.string "SpoonShort$Reader" (163 : Nat)) "java/lang/String").before args s = true := an1 (an1 (an2 (an2 (an1 (an2 (an1 (an1 (an1 h))))))))
theorem nr_36 {args : Array Value} {s : State} (h : narrow_1.before args s = true) : (Jvm.Cond.eq (Jvm.Term.field (Jvm.Term.string "SpoonShort$Reader" (163 : Nat)) "java/lang/String" "coder" "B") (Jvm.Term.int (0 : Int32))).before args s = true := an2 (an1 (an2 (an2 (an1 (an2 (an1 (an1 (an1 h))))))))
theorem nr_37 {args : Array Value} {s : State} (h : narrow_1.before args s = true) : (Jvm.Cond.arrayOf (Jvm.Term.field (Jvm.Term.string "SpoonShort$Reader" (163 : Nat)) "java/lang/String" "value" "[B") Jvm.ClassFile.FieldType.byte).before args s = true := an1 (an2 (an2 (an2 (an1 (an2 (an1 (an1 (an1 h))))))))
theorem nr_38 {args : Array Value} {s : State} (h : narrow_1.before args s = true) : (Jvm.Cond.eq (Jvm.Term.length (Jvm.Term.field (Jvm.Term.string "SpoonShort$Reader" (163 : Nat)) "java/lang/String" "value" "[B")) (Jvm.Term.int (5 : Int32))).before args s = true := an2 (an2 (an2 (an2 (an1 (an2 (an1 (an1 (an1 h))))))))
theorem nr_39 {args : Array Value} {s : State} (h : narrow_1.before args s = true) : (Jvm.Cond.eq (Jvm.Term.elem (Jvm.Term.field (Jvm.Term.string "SpoonShort$Reader" (163 : Nat)) "java/lang/String" "value" "[B") (Jvm.Term.int (0 : Int32))) (Jvm.Term.int (107 : Int32))).before args s = true := an1 (an1 (an1 (an2 (an2 (an1 (an1 (an1 h)))))))
theorem nr_40 {args : Array Value} {s : State} (h : narrow_1.before args s = true) : (Jvm.Cond.eq (Jvm.Term.elem (Jvm.Term.field (Jvm.Term.string "SpoonShort$Reader" (163 : Nat)) "java/lang/String" "value" "[B") (Jvm.Term.int (1 : Int32))) (Jvm.Term.int (105 : Int32))).before args s = true := an1 (an2 (an1 (an1 (an2 (an2 (an1 (an1 (an1 h))))))))
theorem nr_41 {args : Array Value} {s : State} (h : narrow_1.before args s = true) : (Jvm.Cond.eq (Jvm.Term.elem (Jvm.Term.field (Jvm.Term.string "SpoonShort$Reader" (163 : Nat)) "java/lang/String" "value" "[B") (Jvm.Term.int (2 : Int32))) (Jvm.Term.int (110 : Int32))).before args s = true := an2 (an2 (an1 (an1 (an2 (an2 (an1 (an1 (an1 h))))))))
theorem nr_42 {args : Array Value} {s : State} (h : narrow_1.before args s = true) : (Jvm.Cond.eq (Jvm.Term.elem (Jvm.Term.field (Jvm.Term.string "SpoonShort$Reader" (163 : Nat)) "java/lang/String" "value" "[B") (Jvm.Term.int (3 : Int32))) (Jvm.Term.int (100 : Int32))).before args s = true := an1 (an1 (an2 (an1 (an2 (an2 (an1 (an1 (an1 h))))))))
theorem nr_43 {args : Array Value} {s : State} (h : narrow_1.before args s = true) : (Jvm.Cond.eq (Jvm.Term.elem (Jvm.Term.field (Jvm.Term.string "SpoonShort$Reader" (163 : Nat)) "java/lang/String" "value" "[B") (Jvm.Term.int (4 : Int32))) (Jvm.Term.int (115 : Int32))).before args s = true := an2 (an1 (an2 (an1 (an2 (an2 (an1 (an1 (an1 h))))))))
theorem nr_44 {args : Array Value} {s : State} (h : narrow_1.before args s = true) : (Jvm.Cond.exactly (Jvm.Term.string "SpoonShort$Reader" (164 : Nat)) "java/lang/String").before args s = true := an1 (an2 (an2 (an1 (an2 (an2 (an1 (an1 (an1 h))))))))
theorem nr_45 {args : Array Value} {s : State} (h : narrow_1.before args s = true) : (Jvm.Cond.eq (Jvm.Term.field (Jvm.Term.string "SpoonShort$Reader" (164 : Nat)) "java/lang/String" "coder" "B") (Jvm.Term.int (0 : Int32))).before args s = true := an2 (an2 (an2 (an1 (an2 (an2 (an1 (an1 (an1 h))))))))
theorem nr_46 {args : Array Value} {s : State} (h : narrow_1.before args s = true) : (Jvm.Cond.arrayOf (Jvm.Term.field (Jvm.Term.string "SpoonShort$Reader" (164 : Nat)) "java/lang/String" "value" "[B") Jvm.ClassFile.FieldType.byte).before args s = true := an1 (an1 (an2 (an2 (an2 (an1 (an1 (an1 h)))))))
theorem nr_47 {args : Array Value} {s : State} (h : narrow_1.before args s = true) : (Jvm.Cond.eq (Jvm.Term.length (Jvm.Term.field (Jvm.Term.string "SpoonShort$Reader" (164 : Nat)) "java/lang/String" "value" "[B")) (Jvm.Term.int (6 : Int32))).before args s = true := an1 (an2 (an1 (an2 (an2 (an2 (an1 (an1 (an1 h))))))))
theorem nr_48 {args : Array Value} {s : State} (h : narrow_1.before args s = true) : (Jvm.Cond.eq (Jvm.Term.elem (Jvm.Term.field (Jvm.Term.string "SpoonShort$Reader" (164 : Nat)) "java/lang/String" "value" "[B") (Jvm.Term.int (0 : Int32))) (Jvm.Term.int (99 : Int32))).before args s = true := an2 (an2 (an1 (an2 (an2 (an2 (an1 (an1 (an1 h))))))))
theorem nr_49 {args : Array Value} {s : State} (h : narrow_1.before args s = true) : (Jvm.Cond.eq (Jvm.Term.elem (Jvm.Term.field (Jvm.Term.string "SpoonShort$Reader" (164 : Nat)) "java/lang/String" "value" "[B") (Jvm.Term.int (1 : Int32))) (Jvm.Term.int (111 : Int32))).before args s = true := an1 (an1 (an2 (an2 (an2 (an2 (an1 (an1 (an1 h))))))))
theorem nr_50 {args : Array Value} {s : State} (h : narrow_1.before args s = true) : (Jvm.Cond.eq (Jvm.Term.elem (Jvm.Term.field (Jvm.Term.string "SpoonShort$Reader" (164 : Nat)) "java/lang/String" "value" "[B") (Jvm.Term.int (2 : Int32))) (Jvm.Term.int (112 : Int32))).before args s = true := an2 (an1 (an2 (an2 (an2 (an2 (an1 (an1 (an1 h))))))))
theorem nr_51 {args : Array Value} {s : State} (h : narrow_1.before args s = true) : (Jvm.Cond.eq (Jvm.Term.elem (Jvm.Term.field (Jvm.Term.string "SpoonShort$Reader" (164 : Nat)) "java/lang/String" "value" "[B") (Jvm.Term.int (3 : Int32))) (Jvm.Term.int (105 : Int32))).before args s = true := an1 (an2 (an2 (an2 (an2 (an2 (an1 (an1 (an1 h))))))))
theorem nr_52 {args : Array Value} {s : State} (h : narrow_1.before args s = true) : (Jvm.Cond.eq (Jvm.Term.elem (Jvm.Term.field (Jvm.Term.string "SpoonShort$Reader" (164 : Nat)) "java/lang/String" "value" "[B") (Jvm.Term.int (4 : Int32))) (Jvm.Term.int (101 : Int32))).before args s = true := an2 (an2 (an2 (an2 (an2 (an2 (an1 (an1 (an1 h))))))))
theorem nr_53 {args : Array Value} {s : State} (h : narrow_1.before args s = true) : (Jvm.Cond.eq (Jvm.Term.elem (Jvm.Term.field (Jvm.Term.string "SpoonShort$Reader" (164 : Nat)) "java/lang/String" "value" "[B") (Jvm.Term.int (5 : Int32))) (Jvm.Term.int (115 : Int32))).before args s = true := an1 (an1 (an1 (an1 (an1 (an2 (an1 (an1 h)))))))
theorem nr_54 {args : Array Value} {s : State} (h : narrow_1.before args s = true) : (Jvm.Cond.not (Jvm.Cond.eq (Jvm.Term.string "SpoonShort$Reader" (163 : Nat)) (Jvm.Term.string "SpoonShort$Reader" (164 : Nat)))).before args s = true := an1 (an2 (an1 (an1 (an1 (an1 (an2 (an1 (an1 h))))))))
theorem nr_55 {args : Array Value} {s : State} (h : narrow_1.before args s = true) : (Jvm.Cond.exactly (Jvm.Term.string "SpoonShort$Reader" (166 : Nat)) "java/lang/String").before args s = true := an2 (an2 (an1 (an1 (an1 (an1 (an2 (an1 (an1 h))))))))
theorem nr_56 {args : Array Value} {s : State} (h : narrow_1.before args s = true) : (Jvm.Cond.eq (Jvm.Term.field (Jvm.Term.string "SpoonShort$Reader" (166 : Nat)) "java/lang/String" "coder" "B") (Jvm.Term.int (0 : Int32))).before args s = true := an1 (an2 (an1 (an1 (an1 (an2 (an1 (an1 h)))))))
theorem nr_57 {args : Array Value} {s : State} (h : narrow_1.before args s = true) : (Jvm.Cond.arrayOf (Jvm.Term.field (Jvm.Term.string "SpoonShort$Reader" (166 : Nat)) "java/lang/String" "value" "[B") Jvm.ClassFile.FieldType.byte).before args s = true := an1 (an2 (an2 (an1 (an1 (an1 (an2 (an1 (an1 h))))))))
theorem nr_58 {args : Array Value} {s : State} (h : narrow_1.before args s = true) : (Jvm.Cond.eq (Jvm.Term.length (Jvm.Term.field (Jvm.Term.string "SpoonShort$Reader" (166 : Nat)) "java/lang/String" "value" "[B")) (Jvm.Term.int (5 : Int32))).before args s = true := an2 (an2 (an2 (an1 (an1 (an1 (an2 (an1 (an1 h))))))))
theorem nr_59 {args : Array Value} {s : State} (h : narrow_1.before args s = true) : (Jvm.Cond.eq (Jvm.Term.elem (Jvm.Term.field (Jvm.Term.string "SpoonShort$Reader" (166 : Nat)) "java/lang/String" "value" "[B") (Jvm.Term.int (0 : Int32))) (Jvm.Term.int (97 : Int32))).before args s = true := an1 (an1 (an2 (an1 (an1 (an2 (an1 (an1 h)))))))
theorem nr_60 {args : Array Value} {s : State} (h : narrow_1.before args s = true) : (Jvm.Cond.eq (Jvm.Term.elem (Jvm.Term.field (Jvm.Term.string "SpoonShort$Reader" (166 : Nat)) "java/lang/String" "value" "[B") (Jvm.Term.int (1 : Int32))) (Jvm.Term.int (108 : Int32))).before args s = true := an1 (an2 (an1 (an2 (an1 (an1 (an2 (an1 (an1 h))))))))
theorem nr_61 {args : Array Value} {s : State} (h : narrow_1.before args s = true) : (Jvm.Cond.eq (Jvm.Term.elem (Jvm.Term.field (Jvm.Term.string "SpoonShort$Reader" (166 : Nat)) "java/lang/String" "value" "[B") (Jvm.Term.int (2 : Int32))) (Jvm.Term.int (105 : Int32))).before args s = true := an2 (an2 (an1 (an2 (an1 (an1 (an2 (an1 (an1 h))))))))
theorem nr_62 {args : Array Value} {s : State} (h : narrow_1.before args s = true) : (Jvm.Cond.eq (Jvm.Term.elem (Jvm.Term.field (Jvm.Term.string "SpoonShort$Reader" (166 : Nat)) "java/lang/String" "value" "[B") (Jvm.Term.int (3 : Int32))) (Jvm.Term.int (107 : Int32))).before args s = true := an1 (an1 (an2 (an2 (an1 (an1 (an2 (an1 (an1 h))))))))
theorem nr_63 {args : Array Value} {s : State} (h : narrow_1.before args s = true) : (Jvm.Cond.eq (Jvm.Term.elem (Jvm.Term.field (Jvm.Term.string "SpoonShort$Reader" (166 : Nat)) "java/lang/String" "value" "[B") (Jvm.Term.int (4 : Int32))) (Jvm.Term.int (101 : Int32))).before args s = true := an2 (an1 (an2 (an2 (an1 (an1 (an2 (an1 (an1 h))))))))
theorem nr_64 {args : Array Value} {s : State} (h : narrow_1.before args s = true) : (Jvm.Cond.not (Jvm.Cond.eq (Jvm.Term.string "SpoonShort$Reader" (163 : Nat)) (Jvm.Term.string "SpoonShort$Reader" (166 : Nat)))).before args s = true := an1 (an2 (an2 (an2 (an1 (an1 (an2 (an1 (an1 h))))))))
theorem nr_65 {args : Array Value} {s : State} (h : narrow_1.before args s = true) : (Jvm.Cond.not (Jvm.Cond.eq (Jvm.Term.string "SpoonShort$Reader" (164 : Nat)) (Jvm.Term.string "SpoonShort$Reader" (166 : Nat)))).before args s = true := an2 (an2 (an2 (an2 (an1 (an1 (an2 (an1 (an1 h))))))))
theorem nr_66 {args : Array Value} {s : State} (h : narrow_1.before args s = true) : (Jvm.Cond.exactly (Jvm.Term.string "SpoonShort$Reader" (168 : Nat)) "java/lang/String").before args s = true := an1 (an1 (an1 (an2 (an1 (an2 (an1 (an1 h)))))))
theorem nr_67 {args : Array Value} {s : State} (h : narrow_1.before args s = true) : (Jvm.Cond.eq (Jvm.Term.field (Jvm.Term.string "SpoonShort$Reader" (168 : Nat)) "java/lang/String" "coder" "B") (Jvm.Term.int (0 : Int32))).before args s = true := an1 (an2 (an1 (an1 (an2 (an1 (an2 (an1 (an1 h))))))))
theorem nr_68 {args : Array Value} {s : State} (h : narrow_1.before args s = true) : (Jvm.Cond.arrayOf (Jvm.Term.field (Jvm.Term.string "SpoonShort$Reader" (168 : Nat)) "java/lang/String" "value" "[B") Jvm.ClassFile.FieldType.byte).before args s = true := an2 (an2 (an1 (an1 (an2 (an1 (an2 (an1 (an1 h))))))))
theorem nr_69 {args : Array Value} {s : State} (h : narrow_1.before args s = true) : (Jvm.Cond.eq (Jvm.Term.length (Jvm.Term.field (Jvm.Term.string "SpoonShort$Reader" (168 : Nat)) "java/lang/String" "value" "[B")) (Jvm.Term.int (7 : Int32))).before args s = true := an1 (an2 (an1 (an2 (an1 (an2 (an1 (an1 h)))))))
theorem nr_70 {args : Array Value} {s : State} (h : narrow_1.before args s = true) : (Jvm.Cond.eq (Jvm.Term.elem (Jvm.Term.field (Jvm.Term.string "SpoonShort$Reader" (168 : Nat)) "java/lang/String" "value" "[B") (Jvm.Term.int (0 : Int32))) (Jvm.Term.int (108 : Int32))).before args s = true := an1 (an2 (an2 (an1 (an2 (an1 (an2 (an1 (an1 h))))))))
theorem nr_71 {args : Array Value} {s : State} (h : narrow_1.before args s = true) : (Jvm.Cond.eq (Jvm.Term.elem (Jvm.Term.field (Jvm.Term.string "SpoonShort$Reader" (168 : Nat)) "java/lang/String" "value" "[B") (Jvm.Term.int (1 : Int32))) (Jvm.Term.int (101 : Int32))).before args s = true := an2 (an2 (an2 (an1 (an2 (an1 (an2 (an1 (an1 h))))))))
theorem nr_72 {args : Array Value} {s : State} (h : narrow_1.before args s = true) : (Jvm.Cond.eq (Jvm.Term.elem (Jvm.Term.field (Jvm.Term.string "SpoonShort$Reader" (168 : Nat)) "java/lang/String" "value" "[B") (Jvm.Term.int (2 : Int32))) (Jvm.Term.int (116 : Int32))).before args s = true := an1 (an1 (an2 (an2 (an1 (an2 (an1 (an1 h)))))))
theorem nr_73 {args : Array Value} {s : State} (h : narrow_1.before args s = true) : (Jvm.Cond.eq (Jvm.Term.elem (Jvm.Term.field (Jvm.Term.string "SpoonShort$Reader" (168 : Nat)) "java/lang/String" "value" "[B") (Jvm.Term.int (3 : Int32))) (Jvm.Term.int (116 : Int32))).before args s = true := an1 (an2 (an1 (an2 (an2 (an1 (an2 (an1 (an1 h))))))))
theorem nr_74 {args : Array Value} {s : State} (h : narrow_1.before args s = true) : (Jvm.Cond.eq (Jvm.Term.elem (Jvm.Term.field (Jvm.Term.string "SpoonShort$Reader" (168 : Nat)) "java/lang/String" "value" "[B") (Jvm.Term.int (4 : Int32))) (Jvm.Term.int (101 : Int32))).before args s = true := an2 (an2 (an1 (an2 (an2 (an1 (an2 (an1 (an1 h))))))))
theorem nr_75 {args : Array Value} {s : State} (h : narrow_1.before args s = true) : (Jvm.Cond.eq (Jvm.Term.elem (Jvm.Term.field (Jvm.Term.string "SpoonShort$Reader" (168 : Nat)) "java/lang/String" "value" "[B") (Jvm.Term.int (5 : Int32))) (Jvm.Term.int (114 : Int32))).before args s = true := an1 (an1 (an2 (an2 (an2 (an1 (an2 (an1 (an1 h))))))))
theorem nr_76 {args : Array Value} {s : State} (h : narrow_1.before args s = true) : (Jvm.Cond.eq (Jvm.Term.elem (Jvm.Term.field (Jvm.Term.string "SpoonShort$Reader" (168 : Nat)) "java/lang/String" "value" "[B") (Jvm.Term.int (6 : Int32))) (Jvm.Term.int (115 : Int32))).before args s = true := an2 (an1 (an2 (an2 (an2 (an1 (an2 (an1 (an1 h))))))))
theorem nr_77 {args : Array Value} {s : State} (h : narrow_1.before args s = true) : (Jvm.Cond.not (Jvm.Cond.eq (Jvm.Term.string "SpoonShort$Reader" (163 : Nat)) (Jvm.Term.string "SpoonShort$Reader" (168 : Nat)))).before args s = true := an1 (an2 (an2 (an2 (an2 (an1 (an2 (an1 (an1 h))))))))
theorem nr_78 {args : Array Value} {s : State} (h : narrow_1.before args s = true) : (Jvm.Cond.not (Jvm.Cond.eq (Jvm.Term.string "SpoonShort$Reader" (164 : Nat)) (Jvm.Term.string "SpoonShort$Reader" (168 : Nat)))).before args s = true := an2 (an2 (an2 (an2 (an2 (an1 (an2 (an1 (an1 h))))))))
theorem nr_79 {args : Array Value} {s : State} (h : narrow_1.before args s = true) : (Jvm.Cond.not (Jvm.Cond.eq (Jvm.Term.string "SpoonShort$Reader" (166 : Nat)) (Jvm.Term.string "SpoonShort$Reader" (168 : Nat)))).before args s = true := an1 (an1 (an1 (an1 (an2 (an2 (an1 (an1 h)))))))
theorem nr_80 {args : Array Value} {s : State} (h : narrow_1.before args s = true) : (Jvm.Cond.exactly (Jvm.Term.string "SpoonShort$Reader" (170 : Nat)) "java/lang/String").before args s = true := an1 (an2 (an1 (an1 (an1 (an2 (an2 (an1 (an1 h))))))))
theorem nr_81 {args : Array Value} {s : State} (h : narrow_1.before args s = true) : (Jvm.Cond.eq (Jvm.Term.field (Jvm.Term.string "SpoonShort$Reader" (170 : Nat)) "java/lang/String" "coder" "B") (Jvm.Term.int (0 : Int32))).before args s = true := an2 (an2 (an1 (an1 (an1 (an2 (an2 (an1 (an1 h))))))))
theorem nr_82 {args : Array Value} {s : State} (h : narrow_1.before args s = true) : (Jvm.Cond.arrayOf (Jvm.Term.field (Jvm.Term.string "SpoonShort$Reader" (170 : Nat)) "java/lang/String" "value" "[B") Jvm.ClassFile.FieldType.byte).before args s = true := an1 (an2 (an1 (an1 (an2 (an2 (an1 (an1 h)))))))
theorem nr_83 {args : Array Value} {s : State} (h : narrow_1.before args s = true) : (Jvm.Cond.eq (Jvm.Term.length (Jvm.Term.field (Jvm.Term.string "SpoonShort$Reader" (170 : Nat)) "java/lang/String" "value" "[B")) (Jvm.Term.int (3 : Int32))).before args s = true := an1 (an2 (an2 (an1 (an1 (an2 (an2 (an1 (an1 h))))))))
theorem nr_84 {args : Array Value} {s : State} (h : narrow_1.before args s = true) : (Jvm.Cond.eq (Jvm.Term.elem (Jvm.Term.field (Jvm.Term.string "SpoonShort$Reader" (170 : Nat)) "java/lang/String" "value" "[B") (Jvm.Term.int (0 : Int32))) (Jvm.Term.int (111 : Int32))).before args s = true := an2 (an2 (an2 (an1 (an1 (an2 (an2 (an1 (an1 h))))))))
theorem nr_85 {args : Array Value} {s : State} (h : narrow_1.before args s = true) : (Jvm.Cond.eq (Jvm.Term.elem (Jvm.Term.field (Jvm.Term.string "SpoonShort$Reader" (170 : Nat)) "java/lang/String" "value" "[B") (Jvm.Term.int (1 : Int32))) (Jvm.Term.int (117 : Int32))).before args s = true := an1 (an1 (an2 (an1 (an2 (an2 (an1 (an1 h)))))))
theorem nr_86 {args : Array Value} {s : State} (h : narrow_1.before args s = true) : (Jvm.Cond.eq (Jvm.Term.elem (Jvm.Term.field (Jvm.Term.string "SpoonShort$Reader" (170 : Nat)) "java/lang/String" "value" "[B") (Jvm.Term.int (2 : Int32))) (Jvm.Term.int (116 : Int32))).before args s = true := an1 (an2 (an1 (an2 (an1 (an2 (an2 (an1 (an1 h))))))))
theorem nr_87 {args : Array Value} {s : State} (h : narrow_1.before args s = true) : (Jvm.Cond.not (Jvm.Cond.eq (Jvm.Term.string "SpoonShort$Reader" (163 : Nat)) (Jvm.Term.string "SpoonShort$Reader" (170 : Nat)))).before args s = true := an2 (an2 (an1 (an2 (an1 (an2 (an2 (an1 (an1 h))))))))
theorem nr_88 {args : Array Value} {s : State} (h : narrow_1.before args s = true) : (Jvm.Cond.not (Jvm.Cond.eq (Jvm.Term.string "SpoonShort$Reader" (164 : Nat)) (Jvm.Term.string "SpoonShort$Reader" (170 : Nat)))).before args s = true := an1 (an1 (an2 (an2 (an1 (an2 (an2 (an1 (an1 h))))))))
theorem nr_89 {args : Array Value} {s : State} (h : narrow_1.before args s = true) : (Jvm.Cond.not (Jvm.Cond.eq (Jvm.Term.string "SpoonShort$Reader" (166 : Nat)) (Jvm.Term.string "SpoonShort$Reader" (170 : Nat)))).before args s = true := an2 (an1 (an2 (an2 (an1 (an2 (an2 (an1 (an1 h))))))))
theorem nr_90 {args : Array Value} {s : State} (h : narrow_1.before args s = true) : (Jvm.Cond.not (Jvm.Cond.eq (Jvm.Term.string "SpoonShort$Reader" (168 : Nat)) (Jvm.Term.string "SpoonShort$Reader" (170 : Nat)))).before args s = true := an1 (an2 (an2 (an2 (an1 (an2 (an2 (an1 (an1 h))))))))
theorem nr_91 {args : Array Value} {s : State} (h : narrow_1.before args s = true) : (Jvm.Cond.exactly (Jvm.Term.string "SpoonShort$Reader" (172 : Nat)) "java/lang/String").before args s = true := an2 (an2 (an2 (an2 (an1 (an2 (an2 (an1 (an1 h))))))))
theorem nr_92 {args : Array Value} {s : State} (h : narrow_1.before args s = true) : (Jvm.Cond.eq (Jvm.Term.field (Jvm.Term.string "SpoonShort$Reader" (172 : Nat)) "java/lang/String" "coder" "B") (Jvm.Term.int (0 : Int32))).before args s = true := an1 (an1 (an1 (an2 (an2 (an2 (an1 (an1 h)))))))
theorem nr_93 {args : Array Value} {s : State} (h : narrow_1.before args s = true) : (Jvm.Cond.arrayOf (Jvm.Term.field (Jvm.Term.string "SpoonShort$Reader" (172 : Nat)) "java/lang/String" "value" "[B") Jvm.ClassFile.FieldType.byte).before args s = true := an1 (an2 (an1 (an1 (an2 (an2 (an2 (an1 (an1 h))))))))
theorem nr_94 {args : Array Value} {s : State} (h : narrow_1.before args s = true) : (Jvm.Cond.eq (Jvm.Term.length (Jvm.Term.field (Jvm.Term.string "SpoonShort$Reader" (172 : Nat)) "java/lang/String" "value" "[B")) (Jvm.Term.int (6 : Int32))).before args s = true := an2 (an2 (an1 (an1 (an2 (an2 (an2 (an1 (an1 h))))))))
theorem nr_95 {args : Array Value} {s : State} (h : narrow_1.before args s = true) : (Jvm.Cond.eq (Jvm.Term.elem (Jvm.Term.field (Jvm.Term.string "SpoonShort$Reader" (172 : Nat)) "java/lang/String" "value" "[B") (Jvm.Term.int (0 : Int32))) (Jvm.Term.int (112 : Int32))).before args s = true := an1 (an1 (an2 (an1 (an2 (an2 (an2 (an1 (an1 h))))))))
theorem nr_96 {args : Array Value} {s : State} (h : narrow_1.before args s = true) : (Jvm.Cond.eq (Jvm.Term.elem (Jvm.Term.field (Jvm.Term.string "SpoonShort$Reader" (172 : Nat)) "java/lang/String" "value" "[B") (Jvm.Term.int (1 : Int32))) (Jvm.Term.int (101 : Int32))).before args s = true := an2 (an1 (an2 (an1 (an2 (an2 (an2 (an1 (an1 h))))))))
theorem nr_97 {args : Array Value} {s : State} (h : narrow_1.before args s = true) : (Jvm.Cond.eq (Jvm.Term.elem (Jvm.Term.field (Jvm.Term.string "SpoonShort$Reader" (172 : Nat)) "java/lang/String" "value" "[B") (Jvm.Term.int (2 : Int32))) (Jvm.Term.int (114 : Int32))).before args s = true := an1 (an2 (an2 (an1 (an2 (an2 (an2 (an1 (an1 h))))))))
theorem nr_98 {args : Array Value} {s : State} (h : narrow_1.before args s = true) : (Jvm.Cond.eq (Jvm.Term.elem (Jvm.Term.field (Jvm.Term.string "SpoonShort$Reader" (172 : Nat)) "java/lang/String" "value" "[B") (Jvm.Term.int (3 : Int32))) (Jvm.Term.int (115 : Int32))).before args s = true := an2 (an2 (an2 (an1 (an2 (an2 (an2 (an1 (an1 h))))))))
theorem nr_99 {args : Array Value} {s : State} (h : narrow_1.before args s = true) : (Jvm.Cond.eq (Jvm.Term.elem (Jvm.Term.field (Jvm.Term.string "SpoonShort$Reader" (172 : Nat)) "java/lang/String" "value" "[B") (Jvm.Term.int (4 : Int32))) (Jvm.Term.int (111 : Int32))).before args s = true := an1 (an1 (an2 (an2 (an2 (an2 (an1 (an1 h)))))))
theorem nr_100 {args : Array Value} {s : State} (h : narrow_1.before args s = true) : (Jvm.Cond.eq (Jvm.Term.elem (Jvm.Term.field (Jvm.Term.string "SpoonShort$Reader" (172 : Nat)) "java/lang/String" "value" "[B") (Jvm.Term.int (5 : Int32))) (Jvm.Term.int (110 : Int32))).before args s = true := an1 (an2 (an1 (an2 (an2 (an2 (an2 (an1 (an1 h))))))))
theorem nr_101 {args : Array Value} {s : State} (h : narrow_1.before args s = true) : (Jvm.Cond.not (Jvm.Cond.eq (Jvm.Term.string "SpoonShort$Reader" (163 : Nat)) (Jvm.Term.string "SpoonShort$Reader" (172 : Nat)))).before args s = true := an2 (an2 (an1 (an2 (an2 (an2 (an2 (an1 (an1 h))))))))
theorem nr_102 {args : Array Value} {s : State} (h : narrow_1.before args s = true) : (Jvm.Cond.not (Jvm.Cond.eq (Jvm.Term.string "SpoonShort$Reader" (164 : Nat)) (Jvm.Term.string "SpoonShort$Reader" (172 : Nat)))).before args s = true := an1 (an1 (an2 (an2 (an2 (an2 (an2 (an1 (an1 h))))))))
theorem nr_103 {args : Array Value} {s : State} (h : narrow_1.before args s = true) : (Jvm.Cond.not (Jvm.Cond.eq (Jvm.Term.string "SpoonShort$Reader" (166 : Nat)) (Jvm.Term.string "SpoonShort$Reader" (172 : Nat)))).before args s = true := an2 (an1 (an2 (an2 (an2 (an2 (an2 (an1 (an1 h))))))))
theorem nr_104 {args : Array Value} {s : State} (h : narrow_1.before args s = true) : (Jvm.Cond.not (Jvm.Cond.eq (Jvm.Term.string "SpoonShort$Reader" (168 : Nat)) (Jvm.Term.string "SpoonShort$Reader" (172 : Nat)))).before args s = true := an1 (an2 (an2 (an2 (an2 (an2 (an2 (an1 (an1 h))))))))
theorem nr_105 {args : Array Value} {s : State} (h : narrow_1.before args s = true) : (Jvm.Cond.not (Jvm.Cond.eq (Jvm.Term.string "SpoonShort$Reader" (170 : Nat)) (Jvm.Term.string "SpoonShort$Reader" (172 : Nat)))).before args s = true := an2 (an2 (an2 (an2 (an2 (an2 (an2 (an1 (an1 h))))))))
theorem nr_106 {args : Array Value} {s : State} (h : narrow_1.before args s = true) : (Jvm.Cond.exactly (Jvm.Term.string "SpoonShort$Reader" (174 : Nat)) "java/lang/String").before args s = true := an1 (an1 (an1 (an1 (an1 (an1 (an2 (an1 h)))))))
theorem nr_107 {args : Array Value} {s : State} (h : narrow_1.before args s = true) : (Jvm.Cond.eq (Jvm.Term.field (Jvm.Term.string "SpoonShort$Reader" (174 : Nat)) "java/lang/String" "coder" "B") (Jvm.Term.int (0 : Int32))).before args s = true := an1 (an2 (an1 (an1 (an1 (an1 (an1 (an2 (an1 h))))))))
theorem nr_108 {args : Array Value} {s : State} (h : narrow_1.before args s = true) : (Jvm.Cond.arrayOf (Jvm.Term.field (Jvm.Term.string "SpoonShort$Reader" (174 : Nat)) "java/lang/String" "value" "[B") Jvm.ClassFile.FieldType.byte).before args s = true := an2 (an2 (an1 (an1 (an1 (an1 (an1 (an2 (an1 h))))))))
theorem nr_109 {args : Array Value} {s : State} (h : narrow_1.before args s = true) : (Jvm.Cond.eq (Jvm.Term.length (Jvm.Term.field (Jvm.Term.string "SpoonShort$Reader" (174 : Nat)) "java/lang/String" "value" "[B")) (Jvm.Term.int (5 : Int32))).before args s = true := an1 (an2 (an1 (an1 (an1 (an1 (an2 (an1 h)))))))
theorem nr_110 {args : Array Value} {s : State} (h : narrow_1.before args s = true) : (Jvm.Cond.eq (Jvm.Term.elem (Jvm.Term.field (Jvm.Term.string "SpoonShort$Reader" (174 : Nat)) "java/lang/String" "value" "[B") (Jvm.Term.int (0 : Int32))) (Jvm.Term.int (106 : Int32))).before args s = true := an1 (an2 (an2 (an1 (an1 (an1 (an1 (an2 (an1 h))))))))
theorem nr_111 {args : Array Value} {s : State} (h : narrow_1.before args s = true) : (Jvm.Cond.eq (Jvm.Term.elem (Jvm.Term.field (Jvm.Term.string "SpoonShort$Reader" (174 : Nat)) "java/lang/String" "value" "[B") (Jvm.Term.int (1 : Int32))) (Jvm.Term.int (117 : Int32))).before args s = true := an2 (an2 (an2 (an1 (an1 (an1 (an1 (an2 (an1 h))))))))
theorem nr_112 {args : Array Value} {s : State} (h : narrow_1.before args s = true) : (Jvm.Cond.eq (Jvm.Term.elem (Jvm.Term.field (Jvm.Term.string "SpoonShort$Reader" (174 : Nat)) "java/lang/String" "value" "[B") (Jvm.Term.int (2 : Int32))) (Jvm.Term.int (109 : Int32))).before args s = true := an1 (an1 (an2 (an1 (an1 (an1 (an2 (an1 h)))))))
theorem nr_113 {args : Array Value} {s : State} (h : narrow_1.before args s = true) : (Jvm.Cond.eq (Jvm.Term.elem (Jvm.Term.field (Jvm.Term.string "SpoonShort$Reader" (174 : Nat)) "java/lang/String" "value" "[B") (Jvm.Term.int (3 : Int32))) (Jvm.Term.int (112 : Int32))).before args s = true := an1 (an2 (an1 (an2 (an1 (an1 (an1 (an2 (an1 h))))))))
theorem nr_114 {args : Array Value} {s : State} (h : narrow_1.before args s = true) : (Jvm.Cond.eq (Jvm.Term.elem (Jvm.Term.field (Jvm.Term.string "SpoonShort$Reader" (174 : Nat)) "java/lang/String" "value" "[B") (Jvm.Term.int (4 : Int32))) (Jvm.Term.int (121 : Int32))).before args s = true := an2 (an2 (an1 (an2 (an1 (an1 (an1 (an2 (an1 h))))))))
theorem nr_115 {args : Array Value} {s : State} (h : narrow_1.before args s = true) : (Jvm.Cond.not (Jvm.Cond.eq (Jvm.Term.string "SpoonShort$Reader" (163 : Nat)) (Jvm.Term.string "SpoonShort$Reader" (174 : Nat)))).before args s = true := an1 (an1 (an2 (an2 (an1 (an1 (an1 (an2 (an1 h))))))))
theorem nr_116 {args : Array Value} {s : State} (h : narrow_1.before args s = true) : (Jvm.Cond.not (Jvm.Cond.eq (Jvm.Term.string "SpoonShort$Reader" (164 : Nat)) (Jvm.Term.string "SpoonShort$Reader" (174 : Nat)))).before args s = true := an2 (an1 (an2 (an2 (an1 (an1 (an1 (an2 (an1 h))))))))
theorem nr_117 {args : Array Value} {s : State} (h : narrow_1.before args s = true) : (Jvm.Cond.not (Jvm.Cond.eq (Jvm.Term.string "SpoonShort$Reader" (166 : Nat)) (Jvm.Term.string "SpoonShort$Reader" (174 : Nat)))).before args s = true := an1 (an2 (an2 (an2 (an1 (an1 (an1 (an2 (an1 h))))))))
theorem nr_118 {args : Array Value} {s : State} (h : narrow_1.before args s = true) : (Jvm.Cond.not (Jvm.Cond.eq (Jvm.Term.string "SpoonShort$Reader" (168 : Nat)) (Jvm.Term.string "SpoonShort$Reader" (174 : Nat)))).before args s = true := an2 (an2 (an2 (an2 (an1 (an1 (an1 (an2 (an1 h))))))))
theorem nr_119 {args : Array Value} {s : State} (h : narrow_1.before args s = true) : (Jvm.Cond.not (Jvm.Cond.eq (Jvm.Term.string "SpoonShort$Reader" (170 : Nat)) (Jvm.Term.string "SpoonShort$Reader" (174 : Nat)))).before args s = true := an1 (an1 (an1 (an2 (an1 (an1 (an2 (an1 h)))))))
theorem nr_120 {args : Array Value} {s : State} (h : narrow_1.before args s = true) : (Jvm.Cond.not (Jvm.Cond.eq (Jvm.Term.string "SpoonShort$Reader" (172 : Nat)) (Jvm.Term.string "SpoonShort$Reader" (174 : Nat)))).before args s = true := an1 (an2 (an1 (an1 (an2 (an1 (an1 (an2 (an1 h))))))))
theorem nr_121 {args : Array Value} {s : State} (h : narrow_1.before args s = true) : (Jvm.Cond.exactly (Jvm.Term.string "SpoonShort$Reader" (176 : Nat)) "java/lang/String").before args s = true := an2 (an2 (an1 (an1 (an2 (an1 (an1 (an2 (an1 h))))))))
theorem nr_122 {args : Array Value} {s : State} (h : narrow_1.before args s = true) : (Jvm.Cond.eq (Jvm.Term.field (Jvm.Term.string "SpoonShort$Reader" (176 : Nat)) "java/lang/String" "coder" "B") (Jvm.Term.int (0 : Int32))).before args s = true := an1 (an2 (an1 (an2 (an1 (an1 (an2 (an1 h)))))))
theorem nr_123 {args : Array Value} {s : State} (h : narrow_1.before args s = true) : (Jvm.Cond.arrayOf (Jvm.Term.field (Jvm.Term.string "SpoonShort$Reader" (176 : Nat)) "java/lang/String" "value" "[B") Jvm.ClassFile.FieldType.byte).before args s = true := an1 (an2 (an2 (an1 (an2 (an1 (an1 (an2 (an1 h))))))))
theorem nr_124 {args : Array Value} {s : State} (h : narrow_1.before args s = true) : (Jvm.Cond.eq (Jvm.Term.length (Jvm.Term.field (Jvm.Term.string "SpoonShort$Reader" (176 : Nat)) "java/lang/String" "value" "[B")) (Jvm.Term.int (3 : Int32))).before args s = true := an2 (an2 (an2 (an1 (an2 (an1 (an1 (an2 (an1 h))))))))
theorem nr_125 {args : Array Value} {s : State} (h : narrow_1.before args s = true) : (Jvm.Cond.eq (Jvm.Term.elem (Jvm.Term.field (Jvm.Term.string "SpoonShort$Reader" (176 : Nat)) "java/lang/String" "value" "[B") (Jvm.Term.int (0 : Int32))) (Jvm.Term.int (108 : Int32))).before args s = true := an1 (an1 (an2 (an2 (an1 (an1 (an2 (an1 h)))))))
theorem nr_126 {args : Array Value} {s : State} (h : narrow_1.before args s = true) : (Jvm.Cond.eq (Jvm.Term.elem (Jvm.Term.field (Jvm.Term.string "SpoonShort$Reader" (176 : Nat)) "java/lang/String" "value" "[B") (Jvm.Term.int (1 : Int32))) (Jvm.Term.int (97 : Int32))).before args s = true := an1 (an2 (an1 (an2 (an2 (an1 (an1 (an2 (an1 h))))))))
theorem nr_127 {args : Array Value} {s : State} (h : narrow_1.before args s = true) : (Jvm.Cond.eq (Jvm.Term.elem (Jvm.Term.field (Jvm.Term.string "SpoonShort$Reader" (176 : Nat)) "java/lang/String" "value" "[B") (Jvm.Term.int (2 : Int32))) (Jvm.Term.int (119 : Int32))).before args s = true := an2 (an2 (an1 (an2 (an2 (an1 (an1 (an2 (an1 h))))))))
theorem nr_128 {args : Array Value} {s : State} (h : narrow_1.before args s = true) : (Jvm.Cond.not (Jvm.Cond.eq (Jvm.Term.string "SpoonShort$Reader" (163 : Nat)) (Jvm.Term.string "SpoonShort$Reader" (176 : Nat)))).before args s = true := an1 (an1 (an2 (an2 (an2 (an1 (an1 (an2 (an1 h))))))))
theorem nr_129 {args : Array Value} {s : State} (h : narrow_1.before args s = true) : (Jvm.Cond.not (Jvm.Cond.eq (Jvm.Term.string "SpoonShort$Reader" (164 : Nat)) (Jvm.Term.string "SpoonShort$Reader" (176 : Nat)))).before args s = true := an2 (an1 (an2 (an2 (an2 (an1 (an1 (an2 (an1 h))))))))
theorem nr_130 {args : Array Value} {s : State} (h : narrow_1.before args s = true) : (Jvm.Cond.not (Jvm.Cond.eq (Jvm.Term.string "SpoonShort$Reader" (166 : Nat)) (Jvm.Term.string "SpoonShort$Reader" (176 : Nat)))).before args s = true := an1 (an2 (an2 (an2 (an2 (an1 (an1 (an2 (an1 h))))))))
theorem nr_131 {args : Array Value} {s : State} (h : narrow_1.before args s = true) : (Jvm.Cond.not (Jvm.Cond.eq (Jvm.Term.string "SpoonShort$Reader" (168 : Nat)) (Jvm.Term.string "SpoonShort$Reader" (176 : Nat)))).before args s = true := an2 (an2 (an2 (an2 (an2 (an1 (an1 (an2 (an1 h))))))))
theorem nr_132 {args : Array Value} {s : State} (h : narrow_1.before args s = true) : (Jvm.Cond.not (Jvm.Cond.eq (Jvm.Term.string "SpoonShort$Reader" (170 : Nat)) (Jvm.Term.string "SpoonShort$Reader" (176 : Nat)))).before args s = true := an1 (an1 (an1 (an1 (an2 (an1 (an2 (an1 h)))))))
theorem nr_133 {args : Array Value} {s : State} (h : narrow_1.before args s = true) : (Jvm.Cond.not (Jvm.Cond.eq (Jvm.Term.string "SpoonShort$Reader" (172 : Nat)) (Jvm.Term.string "SpoonShort$Reader" (176 : Nat)))).before args s = true := an1 (an2 (an1 (an1 (an1 (an2 (an1 (an2 (an1 h))))))))
theorem nr_134 {args : Array Value} {s : State} (h : narrow_1.before args s = true) : (Jvm.Cond.not (Jvm.Cond.eq (Jvm.Term.string "SpoonShort$Reader" (174 : Nat)) (Jvm.Term.string "SpoonShort$Reader" (176 : Nat)))).before args s = true := an2 (an2 (an1 (an1 (an1 (an2 (an1 (an2 (an1 h))))))))
theorem nr_135 {args : Array Value} {s : State} (h : narrow_1.before args s = true) : (Jvm.Cond.exactly (Jvm.Term.string "SpoonShort$Reader" (152 : Nat)) "java/lang/String").before args s = true := an1 (an2 (an1 (an1 (an2 (an1 (an2 (an1 h)))))))
theorem nr_136 {args : Array Value} {s : State} (h : narrow_1.before args s = true) : (Jvm.Cond.eq (Jvm.Term.field (Jvm.Term.string "SpoonShort$Reader" (152 : Nat)) "java/lang/String" "coder" "B") (Jvm.Term.int (0 : Int32))).before args s = true := an1 (an2 (an2 (an1 (an1 (an2 (an1 (an2 (an1 h))))))))
theorem nr_137 {args : Array Value} {s : State} (h : narrow_1.before args s = true) : (Jvm.Cond.arrayOf (Jvm.Term.field (Jvm.Term.string "SpoonShort$Reader" (152 : Nat)) "java/lang/String" "value" "[B") Jvm.ClassFile.FieldType.byte).before args s = true := an2 (an2 (an2 (an1 (an1 (an2 (an1 (an2 (an1 h))))))))
theorem nr_138 {args : Array Value} {s : State} (h : narrow_1.before args s = true) : (Jvm.Cond.eq (Jvm.Term.length (Jvm.Term.field (Jvm.Term.string "SpoonShort$Reader" (152 : Nat)) "java/lang/String" "value" "[B")) (Jvm.Term.int (5 : Int32))).before args s = true := an1 (an1 (an2 (an1 (an2 (an1 (an2 (an1 h)))))))
theorem nr_139 {args : Array Value} {s : State} (h : narrow_1.before args s = true) : (Jvm.Cond.eq (Jvm.Term.elem (Jvm.Term.field (Jvm.Term.string "SpoonShort$Reader" (152 : Nat)) "java/lang/String" "value" "[B") (Jvm.Term.int (0 : Int32))) (Jvm.Term.int (99 : Int32))).before args s = true := an1 (an2 (an1 (an2 (an1 (an2 (an1 (an2 (an1 h))))))))
theorem nr_140 {args : Array Value} {s : State} (h : narrow_1.before args s = true) : (Jvm.Cond.eq (Jvm.Term.elem (Jvm.Term.field (Jvm.Term.string "SpoonShort$Reader" (152 : Nat)) "java/lang/String" "value" "[B") (Jvm.Term.int (1 : Int32))) (Jvm.Term.int (97 : Int32))).before args s = true := an2 (an2 (an1 (an2 (an1 (an2 (an1 (an2 (an1 h))))))))
theorem nr_141 {args : Array Value} {s : State} (h : narrow_1.before args s = true) : (Jvm.Cond.eq (Jvm.Term.elem (Jvm.Term.field (Jvm.Term.string "SpoonShort$Reader" (152 : Nat)) "java/lang/String" "value" "[B") (Jvm.Term.int (2 : Int32))) (Jvm.Term.int (114 : Int32))).before args s = true := an1 (an1 (an2 (an2 (an1 (an2 (an1 (an2 (an1 h))))))))
theorem nr_142 {args : Array Value} {s : State} (h : narrow_1.before args s = true) : (Jvm.Cond.eq (Jvm.Term.elem (Jvm.Term.field (Jvm.Term.string "SpoonShort$Reader" (152 : Nat)) "java/lang/String" "value" "[B") (Jvm.Term.int (3 : Int32))) (Jvm.Term.int (100 : Int32))).before args s = true := an2 (an1 (an2 (an2 (an1 (an2 (an1 (an2 (an1 h))))))))
theorem nr_143 {args : Array Value} {s : State} (h : narrow_1.before args s = true) : (Jvm.Cond.eq (Jvm.Term.elem (Jvm.Term.field (Jvm.Term.string "SpoonShort$Reader" (152 : Nat)) "java/lang/String" "value" "[B") (Jvm.Term.int (4 : Int32))) (Jvm.Term.int (115 : Int32))).before args s = true := an1 (an2 (an2 (an2 (an1 (an2 (an1 (an2 (an1 h))))))))
theorem nr_144 {args : Array Value} {s : State} (h : narrow_1.before args s = true) : (Jvm.Cond.not (Jvm.Cond.eq (Jvm.Term.string "SpoonShort$Reader" (163 : Nat)) (Jvm.Term.string "SpoonShort$Reader" (152 : Nat)))).before args s = true := an2 (an2 (an2 (an2 (an1 (an2 (an1 (an2 (an1 h))))))))
theorem nr_145 {args : Array Value} {s : State} (h : narrow_1.before args s = true) : (Jvm.Cond.not (Jvm.Cond.eq (Jvm.Term.string "SpoonShort$Reader" (164 : Nat)) (Jvm.Term.string "SpoonShort$Reader" (152 : Nat)))).before args s = true := an1 (an1 (an1 (an2 (an2 (an1 (an2 (an1 h)))))))
theorem nr_146 {args : Array Value} {s : State} (h : narrow_1.before args s = true) : (Jvm.Cond.not (Jvm.Cond.eq (Jvm.Term.string "SpoonShort$Reader" (166 : Nat)) (Jvm.Term.string "SpoonShort$Reader" (152 : Nat)))).before args s = true := an1 (an2 (an1 (an1 (an2 (an2 (an1 (an2 (an1 h))))))))
theorem nr_147 {args : Array Value} {s : State} (h : narrow_1.before args s = true) : (Jvm.Cond.not (Jvm.Cond.eq (Jvm.Term.string "SpoonShort$Reader" (168 : Nat)) (Jvm.Term.string "SpoonShort$Reader" (152 : Nat)))).before args s = true := an2 (an2 (an1 (an1 (an2 (an2 (an1 (an2 (an1 h))))))))
theorem nr_148 {args : Array Value} {s : State} (h : narrow_1.before args s = true) : (Jvm.Cond.not (Jvm.Cond.eq (Jvm.Term.string "SpoonShort$Reader" (170 : Nat)) (Jvm.Term.string "SpoonShort$Reader" (152 : Nat)))).before args s = true := an1 (an1 (an2 (an1 (an2 (an2 (an1 (an2 (an1 h))))))))
theorem nr_149 {args : Array Value} {s : State} (h : narrow_1.before args s = true) : (Jvm.Cond.not (Jvm.Cond.eq (Jvm.Term.string "SpoonShort$Reader" (172 : Nat)) (Jvm.Term.string "SpoonShort$Reader" (152 : Nat)))).before args s = true := an2 (an1 (an2 (an1 (an2 (an2 (an1 (an2 (an1 h))))))))
theorem nr_150 {args : Array Value} {s : State} (h : narrow_1.before args s = true) : (Jvm.Cond.not (Jvm.Cond.eq (Jvm.Term.string "SpoonShort$Reader" (174 : Nat)) (Jvm.Term.string "SpoonShort$Reader" (152 : Nat)))).before args s = true := an1 (an2 (an2 (an1 (an2 (an2 (an1 (an2 (an1 h))))))))
theorem nr_151 {args : Array Value} {s : State} (h : narrow_1.before args s = true) : (Jvm.Cond.not (Jvm.Cond.eq (Jvm.Term.string "SpoonShort$Reader" (176 : Nat)) (Jvm.Term.string "SpoonShort$Reader" (152 : Nat)))).before args s = true := an2 (an2 (an2 (an1 (an2 (an2 (an1 (an2 (an1 h))))))))
theorem nr_152 {args : Array Value} {s : State} (h : narrow_1.before args s = true) : (Jvm.Cond.exactly (Jvm.Term.string "SpoonShort$Reader" (177 : Nat)) "java/lang/String").before args s = true := an1 (an1 (an2 (an2 (an2 (an1 (an2 (an1 h)))))))
theorem nr_153 {args : Array Value} {s : State} (h : narrow_1.before args s = true) : (Jvm.Cond.eq (Jvm.Term.field (Jvm.Term.string "SpoonShort$Reader" (177 : Nat)) "java/lang/String" "coder" "B") (Jvm.Term.int (0 : Int32))).before args s = true := an1 (an2 (an1 (an2 (an2 (an2 (an1 (an2 (an1 h))))))))
theorem nr_154 {args : Array Value} {s : State} (h : narrow_1.before args s = true) : (Jvm.Cond.arrayOf (Jvm.Term.field (Jvm.Term.string "SpoonShort$Reader" (177 : Nat)) "java/lang/String" "value" "[B") Jvm.ClassFile.FieldType.byte).before args s = true := an2 (an2 (an1 (an2 (an2 (an2 (an1 (an2 (an1 h))))))))
theorem nr_155 {args : Array Value} {s : State} (h : narrow_1.before args s = true) : (Jvm.Cond.eq (Jvm.Term.length (Jvm.Term.field (Jvm.Term.string "SpoonShort$Reader" (177 : Nat)) "java/lang/String" "value" "[B")) (Jvm.Term.int (4 : Int32))).before args s = true := an1 (an1 (an2 (an2 (an2 (an2 (an1 (an2 (an1 h))))))))
theorem nr_156 {args : Array Value} {s : State} (h : narrow_1.before args s = true) : (Jvm.Cond.eq (Jvm.Term.elem (Jvm.Term.field (Jvm.Term.string "SpoonShort$Reader" (177 : Nat)) "java/lang/String" "value" "[B") (Jvm.Term.int (0 : Int32))) (Jvm.Term.int (116 : Int32))).before args s = true := an2 (an1 (an2 (an2 (an2 (an2 (an1 (an2 (an1 h))))))))
theorem nr_157 {args : Array Value} {s : State} (h : narrow_1.before args s = true) : (Jvm.Cond.eq (Jvm.Term.elem (Jvm.Term.field (Jvm.Term.string "SpoonShort$Reader" (177 : Nat)) "java/lang/String" "value" "[B") (Jvm.Term.int (1 : Int32))) (Jvm.Term.int (97 : Int32))).before args s = true := an1 (an2 (an2 (an2 (an2 (an2 (an1 (an2 (an1 h))))))))
theorem nr_158 {args : Array Value} {s : State} (h : narrow_1.before args s = true) : (Jvm.Cond.eq (Jvm.Term.elem (Jvm.Term.field (Jvm.Term.string "SpoonShort$Reader" (177 : Nat)) "java/lang/String" "value" "[B") (Jvm.Term.int (2 : Int32))) (Jvm.Term.int (107 : Int32))).before args s = true := an2 (an2 (an2 (an2 (an2 (an2 (an1 (an2 (an1 h))))))))
theorem nr_159 {args : Array Value} {s : State} (h : narrow_1.before args s = true) : (Jvm.Cond.eq (Jvm.Term.elem (Jvm.Term.field (Jvm.Term.string "SpoonShort$Reader" (177 : Nat)) "java/lang/String" "value" "[B") (Jvm.Term.int (3 : Int32))) (Jvm.Term.int (101 : Int32))).before args s = true := an1 (an1 (an1 (an1 (an1 (an2 (an2 (an1 h)))))))
theorem nr_160 {args : Array Value} {s : State} (h : narrow_1.before args s = true) : (Jvm.Cond.not (Jvm.Cond.eq (Jvm.Term.string "SpoonShort$Reader" (163 : Nat)) (Jvm.Term.string "SpoonShort$Reader" (177 : Nat)))).before args s = true := an1 (an2 (an1 (an1 (an1 (an1 (an2 (an2 (an1 h))))))))
theorem nr_161 {args : Array Value} {s : State} (h : narrow_1.before args s = true) : (Jvm.Cond.not (Jvm.Cond.eq (Jvm.Term.string "SpoonShort$Reader" (164 : Nat)) (Jvm.Term.string "SpoonShort$Reader" (177 : Nat)))).before args s = true := an2 (an2 (an1 (an1 (an1 (an1 (an2 (an2 (an1 h))))))))
theorem nr_162 {args : Array Value} {s : State} (h : narrow_1.before args s = true) : (Jvm.Cond.not (Jvm.Cond.eq (Jvm.Term.string "SpoonShort$Reader" (166 : Nat)) (Jvm.Term.string "SpoonShort$Reader" (177 : Nat)))).before args s = true := an1 (an2 (an1 (an1 (an1 (an2 (an2 (an1 h)))))))
theorem nr_163 {args : Array Value} {s : State} (h : narrow_1.before args s = true) : (Jvm.Cond.not (Jvm.Cond.eq (Jvm.Term.string "SpoonShort$Reader" (168 : Nat)) (Jvm.Term.string "SpoonShort$Reader" (177 : Nat)))).before args s = true := an1 (an2 (an2 (an1 (an1 (an1 (an2 (an2 (an1 h))))))))
theorem nr_164 {args : Array Value} {s : State} (h : narrow_1.before args s = true) : (Jvm.Cond.not (Jvm.Cond.eq (Jvm.Term.string "SpoonShort$Reader" (170 : Nat)) (Jvm.Term.string "SpoonShort$Reader" (177 : Nat)))).before args s = true := an2 (an2 (an2 (an1 (an1 (an1 (an2 (an2 (an1 h))))))))
theorem nr_165 {args : Array Value} {s : State} (h : narrow_1.before args s = true) : (Jvm.Cond.not (Jvm.Cond.eq (Jvm.Term.string "SpoonShort$Reader" (172 : Nat)) (Jvm.Term.string "SpoonShort$Reader" (177 : Nat)))).before args s = true := an1 (an1 (an2 (an1 (an1 (an2 (an2 (an1 h)))))))
theorem nr_166 {args : Array Value} {s : State} (h : narrow_1.before args s = true) : (Jvm.Cond.not (Jvm.Cond.eq (Jvm.Term.string "SpoonShort$Reader" (174 : Nat)) (Jvm.Term.string "SpoonShort$Reader" (177 : Nat)))).before args s = true := an1 (an2 (an1 (an2 (an1 (an1 (an2 (an2 (an1 h))))))))
theorem nr_167 {args : Array Value} {s : State} (h : narrow_1.before args s = true) : (Jvm.Cond.not (Jvm.Cond.eq (Jvm.Term.string "SpoonShort$Reader" (176 : Nat)) (Jvm.Term.string "SpoonShort$Reader" (177 : Nat)))).before args s = true := an2 (an2 (an1 (an2 (an1 (an1 (an2 (an2 (an1 h))))))))
theorem nr_168 {args : Array Value} {s : State} (h : narrow_1.before args s = true) : (Jvm.Cond.not (Jvm.Cond.eq (Jvm.Term.string "SpoonShort$Reader" (152 : Nat)) (Jvm.Term.string "SpoonShort$Reader" (177 : Nat)))).before args s = true := an1 (an1 (an2 (an2 (an1 (an1 (an2 (an2 (an1 h))))))))
theorem nr_169 {args : Array Value} {s : State} (h : narrow_1.before args s = true) : (Jvm.Cond.exactly (Jvm.Term.string "SpoonShort$Reader" (179 : Nat)) "java/lang/String").before args s = true := an2 (an1 (an2 (an2 (an1 (an1 (an2 (an2 (an1 h))))))))
theorem nr_170 {args : Array Value} {s : State} (h : narrow_1.before args s = true) : (Jvm.Cond.eq (Jvm.Term.field (Jvm.Term.string "SpoonShort$Reader" (179 : Nat)) "java/lang/String" "coder" "B") (Jvm.Term.int (0 : Int32))).before args s = true := an1 (an2 (an2 (an2 (an1 (an1 (an2 (an2 (an1 h))))))))
theorem nr_171 {args : Array Value} {s : State} (h : narrow_1.before args s = true) : (Jvm.Cond.arrayOf (Jvm.Term.field (Jvm.Term.string "SpoonShort$Reader" (179 : Nat)) "java/lang/String" "value" "[B") Jvm.ClassFile.FieldType.byte).before args s = true := an2 (an2 (an2 (an2 (an1 (an1 (an2 (an2 (an1 h))))))))
theorem nr_172 {args : Array Value} {s : State} (h : narrow_1.before args s = true) : (Jvm.Cond.eq (Jvm.Term.length (Jvm.Term.field (Jvm.Term.string "SpoonShort$Reader" (179 : Nat)) "java/lang/String" "value" "[B")) (Jvm.Term.int (4 : Int32))).before args s = true := an1 (an1 (an1 (an2 (an1 (an2 (an2 (an1 h)))))))
theorem nr_173 {args : Array Value} {s : State} (h : narrow_1.before args s = true) : (Jvm.Cond.eq (Jvm.Term.elem (Jvm.Term.field (Jvm.Term.string "SpoonShort$Reader" (179 : Nat)) "java/lang/String" "value" "[B") (Jvm.Term.int (0 : Int32))) (Jvm.Term.int (104 : Int32))).before args s = true := an1 (an2 (an1 (an1 (an2 (an1 (an2 (an2 (an1 h))))))))
theorem nr_174 {args : Array Value} {s : State} (h : narrow_1.before args s = true) : (Jvm.Cond.eq (Jvm.Term.elem (Jvm.Term.field (Jvm.Term.string "SpoonShort$Reader" (179 : Nat)) "java/lang/String" "value" "[B") (Jvm.Term.int (1 : Int32))) (Jvm.Term.int (97 : Int32))).before args s = true := an2 (an2 (an1 (an1 (an2 (an1 (an2 (an2 (an1 h))))))))
theorem nr_175 {args : Array Value} {s : State} (h : narrow_1.before args s = true) : (Jvm.Cond.eq (Jvm.Term.elem (Jvm.Term.field (Jvm.Term.string "SpoonShort$Reader" (179 : Nat)) "java/lang/String" "value" "[B") (Jvm.Term.int (2 : Int32))) (Jvm.Term.int (110 : Int32))).before args s = true := an1 (an2 (an1 (an2 (an1 (an2 (an2 (an1 h)))))))
theorem nr_176 {args : Array Value} {s : State} (h : narrow_1.before args s = true) : (Jvm.Cond.eq (Jvm.Term.elem (Jvm.Term.field (Jvm.Term.string "SpoonShort$Reader" (179 : Nat)) "java/lang/String" "value" "[B") (Jvm.Term.int (3 : Int32))) (Jvm.Term.int (100 : Int32))).before args s = true := an1 (an2 (an2 (an1 (an2 (an1 (an2 (an2 (an1 h))))))))
theorem nr_177 {args : Array Value} {s : State} (h : narrow_1.before args s = true) : (Jvm.Cond.not (Jvm.Cond.eq (Jvm.Term.string "SpoonShort$Reader" (163 : Nat)) (Jvm.Term.string "SpoonShort$Reader" (179 : Nat)))).before args s = true := an2 (an2 (an2 (an1 (an2 (an1 (an2 (an2 (an1 h))))))))
theorem nr_178 {args : Array Value} {s : State} (h : narrow_1.before args s = true) : (Jvm.Cond.not (Jvm.Cond.eq (Jvm.Term.string "SpoonShort$Reader" (164 : Nat)) (Jvm.Term.string "SpoonShort$Reader" (179 : Nat)))).before args s = true := an1 (an1 (an2 (an2 (an1 (an2 (an2 (an1 h)))))))
theorem nr_179 {args : Array Value} {s : State} (h : narrow_1.before args s = true) : (Jvm.Cond.not (Jvm.Cond.eq (Jvm.Term.string "SpoonShort$Reader" (166 : Nat)) (Jvm.Term.string "SpoonShort$Reader" (179 : Nat)))).before args s = true := an1 (an2 (an1 (an2 (an2 (an1 (an2 (an2 (an1 h))))))))
theorem nr_180 {args : Array Value} {s : State} (h : narrow_1.before args s = true) : (Jvm.Cond.not (Jvm.Cond.eq (Jvm.Term.string "SpoonShort$Reader" (168 : Nat)) (Jvm.Term.string "SpoonShort$Reader" (179 : Nat)))).before args s = true := an2 (an2 (an1 (an2 (an2 (an1 (an2 (an2 (an1 h))))))))
theorem nr_181 {args : Array Value} {s : State} (h : narrow_1.before args s = true) : (Jvm.Cond.not (Jvm.Cond.eq (Jvm.Term.string "SpoonShort$Reader" (170 : Nat)) (Jvm.Term.string "SpoonShort$Reader" (179 : Nat)))).before args s = true := an1 (an1 (an2 (an2 (an2 (an1 (an2 (an2 (an1 h))))))))
theorem nr_182 {args : Array Value} {s : State} (h : narrow_1.before args s = true) : (Jvm.Cond.not (Jvm.Cond.eq (Jvm.Term.string "SpoonShort$Reader" (172 : Nat)) (Jvm.Term.string "SpoonShort$Reader" (179 : Nat)))).before args s = true := an2 (an1 (an2 (an2 (an2 (an1 (an2 (an2 (an1 h))))))))
theorem nr_183 {args : Array Value} {s : State} (h : narrow_1.before args s = true) : (Jvm.Cond.not (Jvm.Cond.eq (Jvm.Term.string "SpoonShort$Reader" (174 : Nat)) (Jvm.Term.string "SpoonShort$Reader" (179 : Nat)))).before args s = true := an1 (an2 (an2 (an2 (an2 (an1 (an2 (an2 (an1 h))))))))
theorem nr_184 {args : Array Value} {s : State} (h : narrow_1.before args s = true) : (Jvm.Cond.not (Jvm.Cond.eq (Jvm.Term.string "SpoonShort$Reader" (176 : Nat)) (Jvm.Term.string "SpoonShort$Reader" (179 : Nat)))).before args s = true := an2 (an2 (an2 (an2 (an2 (an1 (an2 (an2 (an1 h))))))))
theorem nr_185 {args : Array Value} {s : State} (h : narrow_1.before args s = true) : (Jvm.Cond.not (Jvm.Cond.eq (Jvm.Term.string "SpoonShort$Reader" (152 : Nat)) (Jvm.Term.string "SpoonShort$Reader" (179 : Nat)))).before args s = true := an1 (an1 (an1 (an1 (an2 (an2 (an2 (an1 h)))))))
theorem nr_186 {args : Array Value} {s : State} (h : narrow_1.before args s = true) : (Jvm.Cond.not (Jvm.Cond.eq (Jvm.Term.string "SpoonShort$Reader" (177 : Nat)) (Jvm.Term.string "SpoonShort$Reader" (179 : Nat)))).before args s = true := an1 (an2 (an1 (an1 (an1 (an2 (an2 (an2 (an1 h))))))))
theorem nr_187 {args : Array Value} {s : State} (h : narrow_1.before args s = true) : (Jvm.Cond.exactly (Jvm.Term.string "SpoonShort$Reader" (181 : Nat)) "java/lang/String").before args s = true := an2 (an2 (an1 (an1 (an1 (an2 (an2 (an2 (an1 h))))))))
theorem nr_188 {args : Array Value} {s : State} (h : narrow_1.before args s = true) : (Jvm.Cond.eq (Jvm.Term.field (Jvm.Term.string "SpoonShort$Reader" (181 : Nat)) "java/lang/String" "coder" "B") (Jvm.Term.int (0 : Int32))).before args s = true := an1 (an2 (an1 (an1 (an2 (an2 (an2 (an1 h)))))))
theorem nr_189 {args : Array Value} {s : State} (h : narrow_1.before args s = true) : (Jvm.Cond.arrayOf (Jvm.Term.field (Jvm.Term.string "SpoonShort$Reader" (181 : Nat)) "java/lang/String" "value" "[B") Jvm.ClassFile.FieldType.byte).before args s = true := an1 (an2 (an2 (an1 (an1 (an2 (an2 (an2 (an1 h))))))))
theorem nr_190 {args : Array Value} {s : State} (h : narrow_1.before args s = true) : (Jvm.Cond.eq (Jvm.Term.length (Jvm.Term.field (Jvm.Term.string "SpoonShort$Reader" (181 : Nat)) "java/lang/String" "value" "[B")) (Jvm.Term.int (5 : Int32))).before args s = true := an2 (an2 (an2 (an1 (an1 (an2 (an2 (an2 (an1 h))))))))
theorem nr_191 {args : Array Value} {s : State} (h : narrow_1.before args s = true) : (Jvm.Cond.eq (Jvm.Term.elem (Jvm.Term.field (Jvm.Term.string "SpoonShort$Reader" (181 : Nat)) "java/lang/String" "value" "[B") (Jvm.Term.int (0 : Int32))) (Jvm.Term.int (114 : Int32))).before args s = true := an1 (an1 (an2 (an1 (an2 (an2 (an2 (an1 h)))))))
theorem nr_192 {args : Array Value} {s : State} (h : narrow_1.before args s = true) : (Jvm.Cond.eq (Jvm.Term.elem (Jvm.Term.field (Jvm.Term.string "SpoonShort$Reader" (181 : Nat)) "java/lang/String" "value" "[B") (Jvm.Term.int (1 : Int32))) (Jvm.Term.int (101 : Int32))).before args s = true := an1 (an2 (an1 (an2 (an1 (an2 (an2 (an2 (an1 h))))))))
theorem nr_193 {args : Array Value} {s : State} (h : narrow_1.before args s = true) : (Jvm.Cond.eq (Jvm.Term.elem (Jvm.Term.field (Jvm.Term.string "SpoonShort$Reader" (181 : Nat)) "java/lang/String" "value" "[B") (Jvm.Term.int (2 : Int32))) (Jvm.Term.int (97 : Int32))).before args s = true := an2 (an2 (an1 (an2 (an1 (an2 (an2 (an2 (an1 h))))))))
theorem nr_194 {args : Array Value} {s : State} (h : narrow_1.before args s = true) : (Jvm.Cond.eq (Jvm.Term.elem (Jvm.Term.field (Jvm.Term.string "SpoonShort$Reader" (181 : Nat)) "java/lang/String" "value" "[B") (Jvm.Term.int (3 : Int32))) (Jvm.Term.int (99 : Int32))).before args s = true := an1 (an1 (an2 (an2 (an1 (an2 (an2 (an2 (an1 h))))))))
theorem nr_195 {args : Array Value} {s : State} (h : narrow_1.before args s = true) : (Jvm.Cond.eq (Jvm.Term.elem (Jvm.Term.field (Jvm.Term.string "SpoonShort$Reader" (181 : Nat)) "java/lang/String" "value" "[B") (Jvm.Term.int (4 : Int32))) (Jvm.Term.int (104 : Int32))).before args s = true := an2 (an1 (an2 (an2 (an1 (an2 (an2 (an2 (an1 h))))))))
theorem nr_196 {args : Array Value} {s : State} (h : narrow_1.before args s = true) : (Jvm.Cond.not (Jvm.Cond.eq (Jvm.Term.string "SpoonShort$Reader" (163 : Nat)) (Jvm.Term.string "SpoonShort$Reader" (181 : Nat)))).before args s = true := an1 (an2 (an2 (an2 (an1 (an2 (an2 (an2 (an1 h))))))))
theorem nr_197 {args : Array Value} {s : State} (h : narrow_1.before args s = true) : (Jvm.Cond.not (Jvm.Cond.eq (Jvm.Term.string "SpoonShort$Reader" (164 : Nat)) (Jvm.Term.string "SpoonShort$Reader" (181 : Nat)))).before args s = true := an2 (an2 (an2 (an2 (an1 (an2 (an2 (an2 (an1 h))))))))
theorem nr_198 {args : Array Value} {s : State} (h : narrow_1.before args s = true) : (Jvm.Cond.not (Jvm.Cond.eq (Jvm.Term.string "SpoonShort$Reader" (166 : Nat)) (Jvm.Term.string "SpoonShort$Reader" (181 : Nat)))).before args s = true := an1 (an1 (an1 (an2 (an2 (an2 (an2 (an1 h)))))))
theorem nr_199 {args : Array Value} {s : State} (h : narrow_1.before args s = true) : (Jvm.Cond.not (Jvm.Cond.eq (Jvm.Term.string "SpoonShort$Reader" (168 : Nat)) (Jvm.Term.string "SpoonShort$Reader" (181 : Nat)))).before args s = true := an1 (an2 (an1 (an1 (an2 (an2 (an2 (an2 (an1 h))))))))
theorem nr_200 {args : Array Value} {s : State} (h : narrow_1.before args s = true) : (Jvm.Cond.not (Jvm.Cond.eq (Jvm.Term.string "SpoonShort$Reader" (170 : Nat)) (Jvm.Term.string "SpoonShort$Reader" (181 : Nat)))).before args s = true := an2 (an2 (an1 (an1 (an2 (an2 (an2 (an2 (an1 h))))))))
theorem nr_201 {args : Array Value} {s : State} (h : narrow_1.before args s = true) : (Jvm.Cond.not (Jvm.Cond.eq (Jvm.Term.string "SpoonShort$Reader" (172 : Nat)) (Jvm.Term.string "SpoonShort$Reader" (181 : Nat)))).before args s = true := an1 (an1 (an2 (an1 (an2 (an2 (an2 (an2 (an1 h))))))))
theorem nr_202 {args : Array Value} {s : State} (h : narrow_1.before args s = true) : (Jvm.Cond.not (Jvm.Cond.eq (Jvm.Term.string "SpoonShort$Reader" (174 : Nat)) (Jvm.Term.string "SpoonShort$Reader" (181 : Nat)))).before args s = true := an2 (an1 (an2 (an1 (an2 (an2 (an2 (an2 (an1 h))))))))
theorem nr_203 {args : Array Value} {s : State} (h : narrow_1.before args s = true) : (Jvm.Cond.not (Jvm.Cond.eq (Jvm.Term.string "SpoonShort$Reader" (176 : Nat)) (Jvm.Term.string "SpoonShort$Reader" (181 : Nat)))).before args s = true := an1 (an2 (an2 (an1 (an2 (an2 (an2 (an2 (an1 h))))))))
theorem nr_204 {args : Array Value} {s : State} (h : narrow_1.before args s = true) : (Jvm.Cond.not (Jvm.Cond.eq (Jvm.Term.string "SpoonShort$Reader" (152 : Nat)) (Jvm.Term.string "SpoonShort$Reader" (181 : Nat)))).before args s = true := an2 (an2 (an2 (an1 (an2 (an2 (an2 (an2 (an1 h))))))))
theorem nr_205 {args : Array Value} {s : State} (h : narrow_1.before args s = true) : (Jvm.Cond.not (Jvm.Cond.eq (Jvm.Term.string "SpoonShort$Reader" (177 : Nat)) (Jvm.Term.string "SpoonShort$Reader" (181 : Nat)))).before args s = true := an1 (an1 (an2 (an2 (an2 (an2 (an2 (an1 h)))))))
theorem nr_206 {args : Array Value} {s : State} (h : narrow_1.before args s = true) : (Jvm.Cond.not (Jvm.Cond.eq (Jvm.Term.string "SpoonShort$Reader" (179 : Nat)) (Jvm.Term.string "SpoonShort$Reader" (181 : Nat)))).before args s = true := an1 (an2 (an1 (an2 (an2 (an2 (an2 (an2 (an1 h))))))))
theorem nr_207 {args : Array Value} {s : State} (h : narrow_1.before args s = true) : (Jvm.Cond.exactly (Jvm.Term.string "SpoonShort$Reader" (183 : Nat)) "java/lang/String").before args s = true := an2 (an2 (an1 (an2 (an2 (an2 (an2 (an2 (an1 h))))))))
theorem nr_208 {args : Array Value} {s : State} (h : narrow_1.before args s = true) : (Jvm.Cond.eq (Jvm.Term.field (Jvm.Term.string "SpoonShort$Reader" (183 : Nat)) "java/lang/String" "coder" "B") (Jvm.Term.int (0 : Int32))).before args s = true := an1 (an1 (an2 (an2 (an2 (an2 (an2 (an2 (an1 h))))))))
theorem nr_209 {args : Array Value} {s : State} (h : narrow_1.before args s = true) : (Jvm.Cond.arrayOf (Jvm.Term.field (Jvm.Term.string "SpoonShort$Reader" (183 : Nat)) "java/lang/String" "value" "[B") Jvm.ClassFile.FieldType.byte).before args s = true := an2 (an1 (an2 (an2 (an2 (an2 (an2 (an2 (an1 h))))))))
theorem nr_210 {args : Array Value} {s : State} (h : narrow_1.before args s = true) : (Jvm.Cond.eq (Jvm.Term.length (Jvm.Term.field (Jvm.Term.string "SpoonShort$Reader" (183 : Nat)) "java/lang/String" "value" "[B")) (Jvm.Term.int (5 : Int32))).before args s = true := an1 (an2 (an2 (an2 (an2 (an2 (an2 (an2 (an1 h))))))))
theorem nr_211 {args : Array Value} {s : State} (h : narrow_1.before args s = true) : (Jvm.Cond.eq (Jvm.Term.elem (Jvm.Term.field (Jvm.Term.string "SpoonShort$Reader" (183 : Nat)) "java/lang/String" "value" "[B") (Jvm.Term.int (0 : Int32))) (Jvm.Term.int (102 : Int32))).before args s = true := an2 (an2 (an2 (an2 (an2 (an2 (an2 (an2 (an1 h))))))))
theorem nr_212 {args : Array Value} {s : State} (h : narrow_1.before args s = true) : (Jvm.Cond.eq (Jvm.Term.elem (Jvm.Term.field (Jvm.Term.string "SpoonShort$Reader" (183 : Nat)) "java/lang/String" "value" "[B") (Jvm.Term.int (1 : Int32))) (Jvm.Term.int (101 : Int32))).before args s = true := an1 (an1 (an1 (an1 (an1 (an1 (an1 (an2 h)))))))
theorem nr_213 {args : Array Value} {s : State} (h : narrow_1.before args s = true) : (Jvm.Cond.eq (Jvm.Term.elem (Jvm.Term.field (Jvm.Term.string "SpoonShort$Reader" (183 : Nat)) "java/lang/String" "value" "[B") (Jvm.Term.int (2 : Int32))) (Jvm.Term.int (105 : Int32))).before args s = true := an1 (an2 (an1 (an1 (an1 (an1 (an1 (an1 (an2 h))))))))
theorem nr_214 {args : Array Value} {s : State} (h : narrow_1.before args s = true) : (Jvm.Cond.eq (Jvm.Term.elem (Jvm.Term.field (Jvm.Term.string "SpoonShort$Reader" (183 : Nat)) "java/lang/String" "value" "[B") (Jvm.Term.int (3 : Int32))) (Jvm.Term.int (110 : Int32))).before args s = true := an2 (an2 (an1 (an1 (an1 (an1 (an1 (an1 (an2 h))))))))
theorem nr_215 {args : Array Value} {s : State} (h : narrow_1.before args s = true) : (Jvm.Cond.eq (Jvm.Term.elem (Jvm.Term.field (Jvm.Term.string "SpoonShort$Reader" (183 : Nat)) "java/lang/String" "value" "[B") (Jvm.Term.int (4 : Int32))) (Jvm.Term.int (116 : Int32))).before args s = true := an1 (an2 (an1 (an1 (an1 (an1 (an1 (an2 h)))))))
theorem nr_216 {args : Array Value} {s : State} (h : narrow_1.before args s = true) : (Jvm.Cond.not (Jvm.Cond.eq (Jvm.Term.string "SpoonShort$Reader" (163 : Nat)) (Jvm.Term.string "SpoonShort$Reader" (183 : Nat)))).before args s = true := an1 (an2 (an2 (an1 (an1 (an1 (an1 (an1 (an2 h))))))))
theorem nr_217 {args : Array Value} {s : State} (h : narrow_1.before args s = true) : (Jvm.Cond.not (Jvm.Cond.eq (Jvm.Term.string "SpoonShort$Reader" (164 : Nat)) (Jvm.Term.string "SpoonShort$Reader" (183 : Nat)))).before args s = true := an2 (an2 (an2 (an1 (an1 (an1 (an1 (an1 (an2 h))))))))
theorem nr_218 {args : Array Value} {s : State} (h : narrow_1.before args s = true) : (Jvm.Cond.not (Jvm.Cond.eq (Jvm.Term.string "SpoonShort$Reader" (166 : Nat)) (Jvm.Term.string "SpoonShort$Reader" (183 : Nat)))).before args s = true := an1 (an1 (an2 (an1 (an1 (an1 (an1 (an2 h)))))))
theorem nr_219 {args : Array Value} {s : State} (h : narrow_1.before args s = true) : (Jvm.Cond.not (Jvm.Cond.eq (Jvm.Term.string "SpoonShort$Reader" (168 : Nat)) (Jvm.Term.string "SpoonShort$Reader" (183 : Nat)))).before args s = true := an1 (an2 (an1 (an2 (an1 (an1 (an1 (an1 (an2 h))))))))
theorem nr_220 {args : Array Value} {s : State} (h : narrow_1.before args s = true) : (Jvm.Cond.not (Jvm.Cond.eq (Jvm.Term.string "SpoonShort$Reader" (170 : Nat)) (Jvm.Term.string "SpoonShort$Reader" (183 : Nat)))).before args s = true := an2 (an2 (an1 (an2 (an1 (an1 (an1 (an1 (an2 h))))))))
theorem nr_221 {args : Array Value} {s : State} (h : narrow_1.before args s = true) : (Jvm.Cond.not (Jvm.Cond.eq (Jvm.Term.string "SpoonShort$Reader" (172 : Nat)) (Jvm.Term.string "SpoonShort$Reader" (183 : Nat)))).before args s = true := an1 (an1 (an2 (an2 (an1 (an1 (an1 (an1 (an2 h))))))))
theorem nr_222 {args : Array Value} {s : State} (h : narrow_1.before args s = true) : (Jvm.Cond.not (Jvm.Cond.eq (Jvm.Term.string "SpoonShort$Reader" (174 : Nat)) (Jvm.Term.string "SpoonShort$Reader" (183 : Nat)))).before args s = true := an2 (an1 (an2 (an2 (an1 (an1 (an1 (an1 (an2 h))))))))
theorem nr_223 {args : Array Value} {s : State} (h : narrow_1.before args s = true) : (Jvm.Cond.not (Jvm.Cond.eq (Jvm.Term.string "SpoonShort$Reader" (176 : Nat)) (Jvm.Term.string "SpoonShort$Reader" (183 : Nat)))).before args s = true := an1 (an2 (an2 (an2 (an1 (an1 (an1 (an1 (an2 h))))))))
theorem nr_224 {args : Array Value} {s : State} (h : narrow_1.before args s = true) : (Jvm.Cond.not (Jvm.Cond.eq (Jvm.Term.string "SpoonShort$Reader" (152 : Nat)) (Jvm.Term.string "SpoonShort$Reader" (183 : Nat)))).before args s = true := an2 (an2 (an2 (an2 (an1 (an1 (an1 (an1 (an2 h))))))))
theorem nr_225 {args : Array Value} {s : State} (h : narrow_1.before args s = true) : (Jvm.Cond.not (Jvm.Cond.eq (Jvm.Term.string "SpoonShort$Reader" (177 : Nat)) (Jvm.Term.string "SpoonShort$Reader" (183 : Nat)))).before args s = true := an1 (an1 (an1 (an2 (an1 (an1 (an1 (an2 h)))))))
theorem nr_226 {args : Array Value} {s : State} (h : narrow_1.before args s = true) : (Jvm.Cond.not (Jvm.Cond.eq (Jvm.Term.string "SpoonShort$Reader" (179 : Nat)) (Jvm.Term.string "SpoonShort$Reader" (183 : Nat)))).before args s = true := an1 (an2 (an1 (an1 (an2 (an1 (an1 (an1 (an2 h))))))))
theorem nr_227 {args : Array Value} {s : State} (h : narrow_1.before args s = true) : (Jvm.Cond.not (Jvm.Cond.eq (Jvm.Term.string "SpoonShort$Reader" (181 : Nat)) (Jvm.Term.string "SpoonShort$Reader" (183 : Nat)))).before args s = true := an2 (an2 (an1 (an1 (an2 (an1 (an1 (an1 (an2 h))))))))
theorem nr_228 {args : Array Value} {s : State} (h : narrow_1.before args s = true) : (Jvm.Cond.exactly (Jvm.Term.string "SpoonShort$Reader" (185 : Nat)) "java/lang/String").before args s = true := an1 (an2 (an1 (an2 (an1 (an1 (an1 (an2 h)))))))
theorem nr_229 {args : Array Value} {s : State} (h : narrow_1.before args s = true) : (Jvm.Cond.eq (Jvm.Term.field (Jvm.Term.string "SpoonShort$Reader" (185 : Nat)) "java/lang/String" "coder" "B") (Jvm.Term.int (0 : Int32))).before args s = true := an1 (an2 (an2 (an1 (an2 (an1 (an1 (an1 (an2 h))))))))
theorem nr_230 {args : Array Value} {s : State} (h : narrow_1.before args s = true) : (Jvm.Cond.arrayOf (Jvm.Term.field (Jvm.Term.string "SpoonShort$Reader" (185 : Nat)) "java/lang/String" "value" "[B") Jvm.ClassFile.FieldType.byte).before args s = true := an2 (an2 (an2 (an1 (an2 (an1 (an1 (an1 (an2 h))))))))
theorem nr_231 {args : Array Value} {s : State} (h : narrow_1.before args s = true) : (Jvm.Cond.eq (Jvm.Term.length (Jvm.Term.field (Jvm.Term.string "SpoonShort$Reader" (185 : Nat)) "java/lang/String" "value" "[B")) (Jvm.Term.int (4 : Int32))).before args s = true := an1 (an1 (an2 (an2 (an1 (an1 (an1 (an2 h)))))))
theorem nr_232 {args : Array Value} {s : State} (h : narrow_1.before args s = true) : (Jvm.Cond.eq (Jvm.Term.elem (Jvm.Term.field (Jvm.Term.string "SpoonShort$Reader" (185 : Nat)) "java/lang/String" "value" "[B") (Jvm.Term.int (0 : Int32))) (Jvm.Term.int (112 : Int32))).before args s = true := an1 (an2 (an1 (an2 (an2 (an1 (an1 (an1 (an2 h))))))))
theorem nr_233 {args : Array Value} {s : State} (h : narrow_1.before args s = true) : (Jvm.Cond.eq (Jvm.Term.elem (Jvm.Term.field (Jvm.Term.string "SpoonShort$Reader" (185 : Nat)) "java/lang/String" "value" "[B") (Jvm.Term.int (1 : Int32))) (Jvm.Term.int (97 : Int32))).before args s = true := an2 (an2 (an1 (an2 (an2 (an1 (an1 (an1 (an2 h))))))))
theorem nr_234 {args : Array Value} {s : State} (h : narrow_1.before args s = true) : (Jvm.Cond.eq (Jvm.Term.elem (Jvm.Term.field (Jvm.Term.string "SpoonShort$Reader" (185 : Nat)) "java/lang/String" "value" "[B") (Jvm.Term.int (2 : Int32))) (Jvm.Term.int (115 : Int32))).before args s = true := an1 (an1 (an2 (an2 (an2 (an1 (an1 (an1 (an2 h))))))))
theorem nr_235 {args : Array Value} {s : State} (h : narrow_1.before args s = true) : (Jvm.Cond.eq (Jvm.Term.elem (Jvm.Term.field (Jvm.Term.string "SpoonShort$Reader" (185 : Nat)) "java/lang/String" "value" "[B") (Jvm.Term.int (3 : Int32))) (Jvm.Term.int (115 : Int32))).before args s = true := an2 (an1 (an2 (an2 (an2 (an1 (an1 (an1 (an2 h))))))))
theorem nr_236 {args : Array Value} {s : State} (h : narrow_1.before args s = true) : (Jvm.Cond.not (Jvm.Cond.eq (Jvm.Term.string "SpoonShort$Reader" (163 : Nat)) (Jvm.Term.string "SpoonShort$Reader" (185 : Nat)))).before args s = true := an1 (an2 (an2 (an2 (an2 (an1 (an1 (an1 (an2 h))))))))
theorem nr_237 {args : Array Value} {s : State} (h : narrow_1.before args s = true) : (Jvm.Cond.not (Jvm.Cond.eq (Jvm.Term.string "SpoonShort$Reader" (164 : Nat)) (Jvm.Term.string "SpoonShort$Reader" (185 : Nat)))).before args s = true := an2 (an2 (an2 (an2 (an2 (an1 (an1 (an1 (an2 h))))))))
theorem nr_238 {args : Array Value} {s : State} (h : narrow_1.before args s = true) : (Jvm.Cond.not (Jvm.Cond.eq (Jvm.Term.string "SpoonShort$Reader" (166 : Nat)) (Jvm.Term.string "SpoonShort$Reader" (185 : Nat)))).before args s = true := an1 (an1 (an1 (an1 (an2 (an1 (an1 (an2 h)))))))
theorem nr_239 {args : Array Value} {s : State} (h : narrow_1.before args s = true) : (Jvm.Cond.not (Jvm.Cond.eq (Jvm.Term.string "SpoonShort$Reader" (168 : Nat)) (Jvm.Term.string "SpoonShort$Reader" (185 : Nat)))).before args s = true := an1 (an2 (an1 (an1 (an1 (an2 (an1 (an1 (an2 h))))))))
theorem nr_240 {args : Array Value} {s : State} (h : narrow_1.before args s = true) : (Jvm.Cond.not (Jvm.Cond.eq (Jvm.Term.string "SpoonShort$Reader" (170 : Nat)) (Jvm.Term.string "SpoonShort$Reader" (185 : Nat)))).before args s = true := an2 (an2 (an1 (an1 (an1 (an2 (an1 (an1 (an2 h))))))))
theorem nr_241 {args : Array Value} {s : State} (h : narrow_1.before args s = true) : (Jvm.Cond.not (Jvm.Cond.eq (Jvm.Term.string "SpoonShort$Reader" (172 : Nat)) (Jvm.Term.string "SpoonShort$Reader" (185 : Nat)))).before args s = true := an1 (an2 (an1 (an1 (an2 (an1 (an1 (an2 h)))))))
theorem nr_242 {args : Array Value} {s : State} (h : narrow_1.before args s = true) : (Jvm.Cond.not (Jvm.Cond.eq (Jvm.Term.string "SpoonShort$Reader" (174 : Nat)) (Jvm.Term.string "SpoonShort$Reader" (185 : Nat)))).before args s = true := an1 (an2 (an2 (an1 (an1 (an2 (an1 (an1 (an2 h))))))))
theorem nr_243 {args : Array Value} {s : State} (h : narrow_1.before args s = true) : (Jvm.Cond.not (Jvm.Cond.eq (Jvm.Term.string "SpoonShort$Reader" (176 : Nat)) (Jvm.Term.string "SpoonShort$Reader" (185 : Nat)))).before args s = true := an2 (an2 (an2 (an1 (an1 (an2 (an1 (an1 (an2 h))))))))
theorem nr_244 {args : Array Value} {s : State} (h : narrow_1.before args s = true) : (Jvm.Cond.not (Jvm.Cond.eq (Jvm.Term.string "SpoonShort$Reader" (152 : Nat)) (Jvm.Term.string "SpoonShort$Reader" (185 : Nat)))).before args s = true := an1 (an1 (an2 (an1 (an2 (an1 (an1 (an2 h)))))))
theorem nr_245 {args : Array Value} {s : State} (h : narrow_1.before args s = true) : (Jvm.Cond.not (Jvm.Cond.eq (Jvm.Term.string "SpoonShort$Reader" (177 : Nat)) (Jvm.Term.string "SpoonShort$Reader" (185 : Nat)))).before args s = true := an1 (an2 (an1 (an2 (an1 (an2 (an1 (an1 (an2 h))))))))
theorem nr_246 {args : Array Value} {s : State} (h : narrow_1.before args s = true) : (Jvm.Cond.not (Jvm.Cond.eq (Jvm.Term.string "SpoonShort$Reader" (179 : Nat)) (Jvm.Term.string "SpoonShort$Reader" (185 : Nat)))).before args s = true := an2 (an2 (an1 (an2 (an1 (an2 (an1 (an1 (an2 h))))))))
theorem nr_247 {args : Array Value} {s : State} (h : narrow_1.before args s = true) : (Jvm.Cond.not (Jvm.Cond.eq (Jvm.Term.string "SpoonShort$Reader" (181 : Nat)) (Jvm.Term.string "SpoonShort$Reader" (185 : Nat)))).before args s = true := an1 (an1 (an2 (an2 (an1 (an2 (an1 (an1 (an2 h))))))))
theorem nr_248 {args : Array Value} {s : State} (h : narrow_1.before args s = true) : (Jvm.Cond.not (Jvm.Cond.eq (Jvm.Term.string "SpoonShort$Reader" (183 : Nat)) (Jvm.Term.string "SpoonShort$Reader" (185 : Nat)))).before args s = true := an2 (an1 (an2 (an2 (an1 (an2 (an1 (an1 (an2 h))))))))
theorem nr_249 {args : Array Value} {s : State} (h : narrow_1.before args s = true) : (Jvm.Cond.exactly (Jvm.Term.string "SpoonShort$Reader" (157 : Nat)) "java/lang/String").before args s = true := an1 (an2 (an2 (an2 (an1 (an2 (an1 (an1 (an2 h))))))))
theorem nr_250 {args : Array Value} {s : State} (h : narrow_1.before args s = true) : (Jvm.Cond.eq (Jvm.Term.field (Jvm.Term.string "SpoonShort$Reader" (157 : Nat)) "java/lang/String" "coder" "B") (Jvm.Term.int (0 : Int32))).before args s = true := an2 (an2 (an2 (an2 (an1 (an2 (an1 (an1 (an2 h))))))))
theorem nr_251 {args : Array Value} {s : State} (h : narrow_1.before args s = true) : (Jvm.Cond.arrayOf (Jvm.Term.field (Jvm.Term.string "SpoonShort$Reader" (157 : Nat)) "java/lang/String" "value" "[B") Jvm.ClassFile.FieldType.byte).before args s = true := an1 (an1 (an1 (an2 (an2 (an1 (an1 (an2 h)))))))
theorem nr_252 {args : Array Value} {s : State} (h : narrow_1.before args s = true) : (Jvm.Cond.eq (Jvm.Term.length (Jvm.Term.field (Jvm.Term.string "SpoonShort$Reader" (157 : Nat)) "java/lang/String" "value" "[B")) (Jvm.Term.int (4 : Int32))).before args s = true := an1 (an2 (an1 (an1 (an2 (an2 (an1 (an1 (an2 h))))))))
theorem nr_253 {args : Array Value} {s : State} (h : narrow_1.before args s = true) : (Jvm.Cond.eq (Jvm.Term.elem (Jvm.Term.field (Jvm.Term.string "SpoonShort$Reader" (157 : Nat)) "java/lang/String" "value" "[B") (Jvm.Term.int (0 : Int32))) (Jvm.Term.int (104 : Int32))).before args s = true := an2 (an2 (an1 (an1 (an2 (an2 (an1 (an1 (an2 h))))))))
theorem nr_254 {args : Array Value} {s : State} (h : narrow_1.before args s = true) : (Jvm.Cond.eq (Jvm.Term.elem (Jvm.Term.field (Jvm.Term.string "SpoonShort$Reader" (157 : Nat)) "java/lang/String" "value" "[B") (Jvm.Term.int (1 : Int32))) (Jvm.Term.int (111 : Int32))).before args s = true := an1 (an1 (an2 (an1 (an2 (an2 (an1 (an1 (an2 h))))))))
theorem nr_255 {args : Array Value} {s : State} (h : narrow_1.before args s = true) : (Jvm.Cond.eq (Jvm.Term.elem (Jvm.Term.field (Jvm.Term.string "SpoonShort$Reader" (157 : Nat)) "java/lang/String" "value" "[B") (Jvm.Term.int (2 : Int32))) (Jvm.Term.int (108 : Int32))).before args s = true := an2 (an1 (an2 (an1 (an2 (an2 (an1 (an1 (an2 h))))))))
theorem nr_256 {args : Array Value} {s : State} (h : narrow_1.before args s = true) : (Jvm.Cond.eq (Jvm.Term.elem (Jvm.Term.field (Jvm.Term.string "SpoonShort$Reader" (157 : Nat)) "java/lang/String" "value" "[B") (Jvm.Term.int (3 : Int32))) (Jvm.Term.int (100 : Int32))).before args s = true := an1 (an2 (an2 (an1 (an2 (an2 (an1 (an1 (an2 h))))))))
theorem nr_257 {args : Array Value} {s : State} (h : narrow_1.before args s = true) : (Jvm.Cond.not (Jvm.Cond.eq (Jvm.Term.string "SpoonShort$Reader" (163 : Nat)) (Jvm.Term.string "SpoonShort$Reader" (157 : Nat)))).before args s = true := an2 (an2 (an2 (an1 (an2 (an2 (an1 (an1 (an2 h))))))))
theorem nr_258 {args : Array Value} {s : State} (h : narrow_1.before args s = true) : (Jvm.Cond.not (Jvm.Cond.eq (Jvm.Term.string "SpoonShort$Reader" (164 : Nat)) (Jvm.Term.string "SpoonShort$Reader" (157 : Nat)))).before args s = true := an1 (an1 (an2 (an2 (an2 (an1 (an1 (an2 h)))))))
theorem nr_259 {args : Array Value} {s : State} (h : narrow_1.before args s = true) : (Jvm.Cond.not (Jvm.Cond.eq (Jvm.Term.string "SpoonShort$Reader" (166 : Nat)) (Jvm.Term.string "SpoonShort$Reader" (157 : Nat)))).before args s = true := an1 (an2 (an1 (an2 (an2 (an2 (an1 (an1 (an2 h))))))))
theorem nr_260 {args : Array Value} {s : State} (h : narrow_1.before args s = true) : (Jvm.Cond.not (Jvm.Cond.eq (Jvm.Term.string "SpoonShort$Reader" (168 : Nat)) (Jvm.Term.string "SpoonShort$Reader" (157 : Nat)))).before args s = true := an2 (an2 (an1 (an2 (an2 (an2 (an1 (an1 (an2 h))))))))
theorem nr_261 {args : Array Value} {s : State} (h : narrow_1.before args s = true) : (Jvm.Cond.not (Jvm.Cond.eq (Jvm.Term.string "SpoonShort$Reader" (170 : Nat)) (Jvm.Term.string "SpoonShort$Reader" (157 : Nat)))).before args s = true := an1 (an1 (an2 (an2 (an2 (an2 (an1 (an1 (an2 h))))))))
theorem nr_262 {args : Array Value} {s : State} (h : narrow_1.before args s = true) : (Jvm.Cond.not (Jvm.Cond.eq (Jvm.Term.string "SpoonShort$Reader" (172 : Nat)) (Jvm.Term.string "SpoonShort$Reader" (157 : Nat)))).before args s = true := an2 (an1 (an2 (an2 (an2 (an2 (an1 (an1 (an2 h))))))))
theorem nr_263 {args : Array Value} {s : State} (h : narrow_1.before args s = true) : (Jvm.Cond.not (Jvm.Cond.eq (Jvm.Term.string "SpoonShort$Reader" (174 : Nat)) (Jvm.Term.string "SpoonShort$Reader" (157 : Nat)))).before args s = true := an1 (an2 (an2 (an2 (an2 (an2 (an1 (an1 (an2 h))))))))
theorem nr_264 {args : Array Value} {s : State} (h : narrow_1.before args s = true) : (Jvm.Cond.not (Jvm.Cond.eq (Jvm.Term.string "SpoonShort$Reader" (176 : Nat)) (Jvm.Term.string "SpoonShort$Reader" (157 : Nat)))).before args s = true := an2 (an2 (an2 (an2 (an2 (an2 (an1 (an1 (an2 h))))))))
theorem nr_265 {args : Array Value} {s : State} (h : narrow_1.before args s = true) : (Jvm.Cond.not (Jvm.Cond.eq (Jvm.Term.string "SpoonShort$Reader" (152 : Nat)) (Jvm.Term.string "SpoonShort$Reader" (157 : Nat)))).before args s = true := an1 (an1 (an1 (an1 (an1 (an2 (an1 (an2 h)))))))
theorem nr_266 {args : Array Value} {s : State} (h : narrow_1.before args s = true) : (Jvm.Cond.not (Jvm.Cond.eq (Jvm.Term.string "SpoonShort$Reader" (177 : Nat)) (Jvm.Term.string "SpoonShort$Reader" (157 : Nat)))).before args s = true := an1 (an2 (an1 (an1 (an1 (an1 (an2 (an1 (an2 h))))))))
theorem nr_267 {args : Array Value} {s : State} (h : narrow_1.before args s = true) : (Jvm.Cond.not (Jvm.Cond.eq (Jvm.Term.string "SpoonShort$Reader" (179 : Nat)) (Jvm.Term.string "SpoonShort$Reader" (157 : Nat)))).before args s = true := an2 (an2 (an1 (an1 (an1 (an1 (an2 (an1 (an2 h))))))))
theorem nr_268 {args : Array Value} {s : State} (h : narrow_1.before args s = true) : (Jvm.Cond.not (Jvm.Cond.eq (Jvm.Term.string "SpoonShort$Reader" (181 : Nat)) (Jvm.Term.string "SpoonShort$Reader" (157 : Nat)))).before args s = true := an1 (an2 (an1 (an1 (an1 (an2 (an1 (an2 h)))))))
theorem nr_269 {args : Array Value} {s : State} (h : narrow_1.before args s = true) : (Jvm.Cond.not (Jvm.Cond.eq (Jvm.Term.string "SpoonShort$Reader" (183 : Nat)) (Jvm.Term.string "SpoonShort$Reader" (157 : Nat)))).before args s = true := an1 (an2 (an2 (an1 (an1 (an1 (an2 (an1 (an2 h))))))))
theorem nr_270 {args : Array Value} {s : State} (h : narrow_1.before args s = true) : (Jvm.Cond.not (Jvm.Cond.eq (Jvm.Term.string "SpoonShort$Reader" (185 : Nat)) (Jvm.Term.string "SpoonShort$Reader" (157 : Nat)))).before args s = true := an2 (an2 (an2 (an1 (an1 (an1 (an2 (an1 (an2 h))))))))
theorem nr_271 {args : Array Value} {s : State} (h : narrow_1.before args s = true) : (Jvm.Cond.exactly (Jvm.Term.string "SpoonShort$Reader" (159 : Nat)) "java/lang/String").before args s = true := an1 (an1 (an2 (an1 (an1 (an2 (an1 (an2 h)))))))
theorem nr_272 {args : Array Value} {s : State} (h : narrow_1.before args s = true) : (Jvm.Cond.eq (Jvm.Term.field (Jvm.Term.string "SpoonShort$Reader" (159 : Nat)) "java/lang/String" "coder" "B") (Jvm.Term.int (0 : Int32))).before args s = true := an1 (an2 (an1 (an2 (an1 (an1 (an2 (an1 (an2 h))))))))
theorem nr_273 {args : Array Value} {s : State} (h : narrow_1.before args s = true) : (Jvm.Cond.arrayOf (Jvm.Term.field (Jvm.Term.string "SpoonShort$Reader" (159 : Nat)) "java/lang/String" "value" "[B") Jvm.ClassFile.FieldType.byte).before args s = true := an2 (an2 (an1 (an2 (an1 (an1 (an2 (an1 (an2 h))))))))
theorem nr_274 {args : Array Value} {s : State} (h : narrow_1.before args s = true) : (Jvm.Cond.eq (Jvm.Term.length (Jvm.Term.field (Jvm.Term.string "SpoonShort$Reader" (159 : Nat)) "java/lang/String" "value" "[B")) (Jvm.Term.int (4 : Int32))).before args s = true := an1 (an1 (an2 (an2 (an1 (an1 (an2 (an1 (an2 h))))))))
theorem nr_275 {args : Array Value} {s : State} (h : narrow_1.before args s = true) : (Jvm.Cond.eq (Jvm.Term.elem (Jvm.Term.field (Jvm.Term.string "SpoonShort$Reader" (159 : Nat)) "java/lang/String" "value" "[B") (Jvm.Term.int (0 : Int32))) (Jvm.Term.int (103 : Int32))).before args s = true := an2 (an1 (an2 (an2 (an1 (an1 (an2 (an1 (an2 h))))))))
theorem nr_276 {args : Array Value} {s : State} (h : narrow_1.before args s = true) : (Jvm.Cond.eq (Jvm.Term.elem (Jvm.Term.field (Jvm.Term.string "SpoonShort$Reader" (159 : Nat)) "java/lang/String" "value" "[B") (Jvm.Term.int (1 : Int32))) (Jvm.Term.int (111 : Int32))).before args s = true := an1 (an2 (an2 (an2 (an1 (an1 (an2 (an1 (an2 h))))))))
theorem nr_277 {args : Array Value} {s : State} (h : narrow_1.before args s = true) : (Jvm.Cond.eq (Jvm.Term.elem (Jvm.Term.field (Jvm.Term.string "SpoonShort$Reader" (159 : Nat)) "java/lang/String" "value" "[B") (Jvm.Term.int (2 : Int32))) (Jvm.Term.int (110 : Int32))).before args s = true := an2 (an2 (an2 (an2 (an1 (an1 (an2 (an1 (an2 h))))))))
theorem nr_278 {args : Array Value} {s : State} (h : narrow_1.before args s = true) : (Jvm.Cond.eq (Jvm.Term.elem (Jvm.Term.field (Jvm.Term.string "SpoonShort$Reader" (159 : Nat)) "java/lang/String" "value" "[B") (Jvm.Term.int (3 : Int32))) (Jvm.Term.int (101 : Int32))).before args s = true := an1 (an1 (an1 (an2 (an1 (an2 (an1 (an2 h)))))))
theorem nr_279 {args : Array Value} {s : State} (h : narrow_1.before args s = true) : (Jvm.Cond.not (Jvm.Cond.eq (Jvm.Term.string "SpoonShort$Reader" (163 : Nat)) (Jvm.Term.string "SpoonShort$Reader" (159 : Nat)))).before args s = true := an1 (an2 (an1 (an1 (an2 (an1 (an2 (an1 (an2 h))))))))
theorem nr_280 {args : Array Value} {s : State} (h : narrow_1.before args s = true) : (Jvm.Cond.not (Jvm.Cond.eq (Jvm.Term.string "SpoonShort$Reader" (164 : Nat)) (Jvm.Term.string "SpoonShort$Reader" (159 : Nat)))).before args s = true := an2 (an2 (an1 (an1 (an2 (an1 (an2 (an1 (an2 h))))))))
theorem nr_281 {args : Array Value} {s : State} (h : narrow_1.before args s = true) : (Jvm.Cond.not (Jvm.Cond.eq (Jvm.Term.string "SpoonShort$Reader" (166 : Nat)) (Jvm.Term.string "SpoonShort$Reader" (159 : Nat)))).before args s = true := an1 (an2 (an1 (an2 (an1 (an2 (an1 (an2 h)))))))
theorem nr_282 {args : Array Value} {s : State} (h : narrow_1.before args s = true) : (Jvm.Cond.not (Jvm.Cond.eq (Jvm.Term.string "SpoonShort$Reader" (168 : Nat)) (Jvm.Term.string "SpoonShort$Reader" (159 : Nat)))).before args s = true := an1 (an2 (an2 (an1 (an2 (an1 (an2 (an1 (an2 h))))))))
theorem nr_283 {args : Array Value} {s : State} (h : narrow_1.before args s = true) : (Jvm.Cond.not (Jvm.Cond.eq (Jvm.Term.string "SpoonShort$Reader" (170 : Nat)) (Jvm.Term.string "SpoonShort$Reader" (159 : Nat)))).before args s = true := an2 (an2 (an2 (an1 (an2 (an1 (an2 (an1 (an2 h))))))))
theorem nr_284 {args : Array Value} {s : State} (h : narrow_1.before args s = true) : (Jvm.Cond.not (Jvm.Cond.eq (Jvm.Term.string "SpoonShort$Reader" (172 : Nat)) (Jvm.Term.string "SpoonShort$Reader" (159 : Nat)))).before args s = true := an1 (an1 (an2 (an2 (an1 (an2 (an1 (an2 h)))))))
theorem nr_285 {args : Array Value} {s : State} (h : narrow_1.before args s = true) : (Jvm.Cond.not (Jvm.Cond.eq (Jvm.Term.string "SpoonShort$Reader" (174 : Nat)) (Jvm.Term.string "SpoonShort$Reader" (159 : Nat)))).before args s = true := an1 (an2 (an1 (an2 (an2 (an1 (an2 (an1 (an2 h))))))))
theorem nr_286 {args : Array Value} {s : State} (h : narrow_1.before args s = true) : (Jvm.Cond.not (Jvm.Cond.eq (Jvm.Term.string "SpoonShort$Reader" (176 : Nat)) (Jvm.Term.string "SpoonShort$Reader" (159 : Nat)))).before args s = true := an2 (an2 (an1 (an2 (an2 (an1 (an2 (an1 (an2 h))))))))
theorem nr_287 {args : Array Value} {s : State} (h : narrow_1.before args s = true) : (Jvm.Cond.not (Jvm.Cond.eq (Jvm.Term.string "SpoonShort$Reader" (152 : Nat)) (Jvm.Term.string "SpoonShort$Reader" (159 : Nat)))).before args s = true := an1 (an1 (an2 (an2 (an2 (an1 (an2 (an1 (an2 h))))))))
theorem nr_288 {args : Array Value} {s : State} (h : narrow_1.before args s = true) : (Jvm.Cond.not (Jvm.Cond.eq (Jvm.Term.string "SpoonShort$Reader" (177 : Nat)) (Jvm.Term.string "SpoonShort$Reader" (159 : Nat)))).before args s = true := an2 (an1 (an2 (an2 (an2 (an1 (an2 (an1 (an2 h))))))))
theorem nr_289 {args : Array Value} {s : State} (h : narrow_1.before args s = true) : (Jvm.Cond.not (Jvm.Cond.eq (Jvm.Term.string "SpoonShort$Reader" (179 : Nat)) (Jvm.Term.string "SpoonShort$Reader" (159 : Nat)))).before args s = true := an1 (an2 (an2 (an2 (an2 (an1 (an2 (an1 (an2 h))))))))
theorem nr_290 {args : Array Value} {s : State} (h : narrow_1.before args s = true) : (Jvm.Cond.not (Jvm.Cond.eq (Jvm.Term.string "SpoonShort$Reader" (181 : Nat)) (Jvm.Term.string "SpoonShort$Reader" (159 : Nat)))).before args s = true := an2 (an2 (an2 (an2 (an2 (an1 (an2 (an1 (an2 h))))))))
theorem nr_291 {args : Array Value} {s : State} (h : narrow_1.before args s = true) : (Jvm.Cond.not (Jvm.Cond.eq (Jvm.Term.string "SpoonShort$Reader" (183 : Nat)) (Jvm.Term.string "SpoonShort$Reader" (159 : Nat)))).before args s = true := an1 (an1 (an1 (an1 (an2 (an2 (an1 (an2 h)))))))
theorem nr_292 {args : Array Value} {s : State} (h : narrow_1.before args s = true) : (Jvm.Cond.not (Jvm.Cond.eq (Jvm.Term.string "SpoonShort$Reader" (185 : Nat)) (Jvm.Term.string "SpoonShort$Reader" (159 : Nat)))).before args s = true := an1 (an2 (an1 (an1 (an1 (an2 (an2 (an1 (an2 h))))))))
theorem nr_293 {args : Array Value} {s : State} (h : narrow_1.before args s = true) : (Jvm.Cond.not (Jvm.Cond.eq (Jvm.Term.string "SpoonShort$Reader" (157 : Nat)) (Jvm.Term.string "SpoonShort$Reader" (159 : Nat)))).before args s = true := an2 (an2 (an1 (an1 (an1 (an2 (an2 (an1 (an2 h))))))))
theorem nr_294 {args : Array Value} {s : State} (h : narrow_1.before args s = true) : (Jvm.Cond.exactly (Jvm.Term.string "SpoonShort$Reader" (161 : Nat)) "java/lang/String").before args s = true := an1 (an2 (an1 (an1 (an2 (an2 (an1 (an2 h)))))))
theorem nr_295 {args : Array Value} {s : State} (h : narrow_1.before args s = true) : (Jvm.Cond.eq (Jvm.Term.field (Jvm.Term.string "SpoonShort$Reader" (161 : Nat)) "java/lang/String" "coder" "B") (Jvm.Term.int (0 : Int32))).before args s = true := an1 (an2 (an2 (an1 (an1 (an2 (an2 (an1 (an2 h))))))))
theorem nr_296 {args : Array Value} {s : State} (h : narrow_1.before args s = true) : (Jvm.Cond.arrayOf (Jvm.Term.field (Jvm.Term.string "SpoonShort$Reader" (161 : Nat)) "java/lang/String" "value" "[B") Jvm.ClassFile.FieldType.byte).before args s = true := an2 (an2 (an2 (an1 (an1 (an2 (an2 (an1 (an2 h))))))))
theorem nr_297 {args : Array Value} {s : State} (h : narrow_1.before args s = true) : (Jvm.Cond.eq (Jvm.Term.length (Jvm.Term.field (Jvm.Term.string "SpoonShort$Reader" (161 : Nat)) "java/lang/String" "value" "[B")) (Jvm.Term.int (5 : Int32))).before args s = true := an1 (an1 (an2 (an1 (an2 (an2 (an1 (an2 h)))))))
theorem nr_298 {args : Array Value} {s : State} (h : narrow_1.before args s = true) : (Jvm.Cond.eq (Jvm.Term.elem (Jvm.Term.field (Jvm.Term.string "SpoonShort$Reader" (161 : Nat)) "java/lang/String" "value" "[B") (Jvm.Term.int (0 : Int32))) (Jvm.Term.int (102 : Int32))).before args s = true := an1 (an2 (an1 (an2 (an1 (an2 (an2 (an1 (an2 h))))))))
theorem nr_299 {args : Array Value} {s : State} (h : narrow_1.before args s = true) : (Jvm.Cond.eq (Jvm.Term.elem (Jvm.Term.field (Jvm.Term.string "SpoonShort$Reader" (161 : Nat)) "java/lang/String" "value" "[B") (Jvm.Term.int (1 : Int32))) (Jvm.Term.int (114 : Int32))).before args s = true := an2 (an2 (an1 (an2 (an1 (an2 (an2 (an1 (an2 h))))))))
theorem nr_300 {args : Array Value} {s : State} (h : narrow_1.before args s = true) : (Jvm.Cond.eq (Jvm.Term.elem (Jvm.Term.field (Jvm.Term.string "SpoonShort$Reader" (161 : Nat)) "java/lang/String" "value" "[B") (Jvm.Term.int (2 : Int32))) (Jvm.Term.int (97 : Int32))).before args s = true := an1 (an1 (an2 (an2 (an1 (an2 (an2 (an1 (an2 h))))))))
theorem nr_301 {args : Array Value} {s : State} (h : narrow_1.before args s = true) : (Jvm.Cond.eq (Jvm.Term.elem (Jvm.Term.field (Jvm.Term.string "SpoonShort$Reader" (161 : Nat)) "java/lang/String" "value" "[B") (Jvm.Term.int (3 : Int32))) (Jvm.Term.int (109 : Int32))).before args s = true := an2 (an1 (an2 (an2 (an1 (an2 (an2 (an1 (an2 h))))))))
theorem nr_302 {args : Array Value} {s : State} (h : narrow_1.before args s = true) : (Jvm.Cond.eq (Jvm.Term.elem (Jvm.Term.field (Jvm.Term.string "SpoonShort$Reader" (161 : Nat)) "java/lang/String" "value" "[B") (Jvm.Term.int (4 : Int32))) (Jvm.Term.int (101 : Int32))).before args s = true := an1 (an2 (an2 (an2 (an1 (an2 (an2 (an1 (an2 h))))))))
theorem nr_303 {args : Array Value} {s : State} (h : narrow_1.before args s = true) : (Jvm.Cond.not (Jvm.Cond.eq (Jvm.Term.string "SpoonShort$Reader" (163 : Nat)) (Jvm.Term.string "SpoonShort$Reader" (161 : Nat)))).before args s = true := an2 (an2 (an2 (an2 (an1 (an2 (an2 (an1 (an2 h))))))))
theorem nr_304 {args : Array Value} {s : State} (h : narrow_1.before args s = true) : (Jvm.Cond.not (Jvm.Cond.eq (Jvm.Term.string "SpoonShort$Reader" (164 : Nat)) (Jvm.Term.string "SpoonShort$Reader" (161 : Nat)))).before args s = true := an1 (an1 (an1 (an2 (an2 (an2 (an1 (an2 h)))))))
theorem nr_305 {args : Array Value} {s : State} (h : narrow_1.before args s = true) : (Jvm.Cond.not (Jvm.Cond.eq (Jvm.Term.string "SpoonShort$Reader" (166 : Nat)) (Jvm.Term.string "SpoonShort$Reader" (161 : Nat)))).before args s = true := an1 (an2 (an1 (an1 (an2 (an2 (an2 (an1 (an2 h))))))))
theorem nr_306 {args : Array Value} {s : State} (h : narrow_1.before args s = true) : (Jvm.Cond.not (Jvm.Cond.eq (Jvm.Term.string "SpoonShort$Reader" (168 : Nat)) (Jvm.Term.string "SpoonShort$Reader" (161 : Nat)))).before args s = true := an2 (an2 (an1 (an1 (an2 (an2 (an2 (an1 (an2 h))))))))
theorem nr_307 {args : Array Value} {s : State} (h : narrow_1.before args s = true) : (Jvm.Cond.not (Jvm.Cond.eq (Jvm.Term.string "SpoonShort$Reader" (170 : Nat)) (Jvm.Term.string "SpoonShort$Reader" (161 : Nat)))).before args s = true := an1 (an1 (an2 (an1 (an2 (an2 (an2 (an1 (an2 h))))))))
theorem nr_308 {args : Array Value} {s : State} (h : narrow_1.before args s = true) : (Jvm.Cond.not (Jvm.Cond.eq (Jvm.Term.string "SpoonShort$Reader" (172 : Nat)) (Jvm.Term.string "SpoonShort$Reader" (161 : Nat)))).before args s = true := an2 (an1 (an2 (an1 (an2 (an2 (an2 (an1 (an2 h))))))))
theorem nr_309 {args : Array Value} {s : State} (h : narrow_1.before args s = true) : (Jvm.Cond.not (Jvm.Cond.eq (Jvm.Term.string "SpoonShort$Reader" (174 : Nat)) (Jvm.Term.string "SpoonShort$Reader" (161 : Nat)))).before args s = true := an1 (an2 (an2 (an1 (an2 (an2 (an2 (an1 (an2 h))))))))
theorem nr_310 {args : Array Value} {s : State} (h : narrow_1.before args s = true) : (Jvm.Cond.not (Jvm.Cond.eq (Jvm.Term.string "SpoonShort$Reader" (176 : Nat)) (Jvm.Term.string "SpoonShort$Reader" (161 : Nat)))).before args s = true := an2 (an2 (an2 (an1 (an2 (an2 (an2 (an1 (an2 h))))))))
theorem nr_311 {args : Array Value} {s : State} (h : narrow_1.before args s = true) : (Jvm.Cond.not (Jvm.Cond.eq (Jvm.Term.string "SpoonShort$Reader" (152 : Nat)) (Jvm.Term.string "SpoonShort$Reader" (161 : Nat)))).before args s = true := an1 (an1 (an2 (an2 (an2 (an2 (an1 (an2 h)))))))
theorem nr_312 {args : Array Value} {s : State} (h : narrow_1.before args s = true) : (Jvm.Cond.not (Jvm.Cond.eq (Jvm.Term.string "SpoonShort$Reader" (177 : Nat)) (Jvm.Term.string "SpoonShort$Reader" (161 : Nat)))).before args s = true := an1 (an2 (an1 (an2 (an2 (an2 (an2 (an1 (an2 h))))))))
theorem nr_313 {args : Array Value} {s : State} (h : narrow_1.before args s = true) : (Jvm.Cond.not (Jvm.Cond.eq (Jvm.Term.string "SpoonShort$Reader" (179 : Nat)) (Jvm.Term.string "SpoonShort$Reader" (161 : Nat)))).before args s = true := an2 (an2 (an1 (an2 (an2 (an2 (an2 (an1 (an2 h))))))))
theorem nr_314 {args : Array Value} {s : State} (h : narrow_1.before args s = true) : (Jvm.Cond.not (Jvm.Cond.eq (Jvm.Term.string "SpoonShort$Reader" (181 : Nat)) (Jvm.Term.string "SpoonShort$Reader" (161 : Nat)))).before args s = true := an1 (an1 (an2 (an2 (an2 (an2 (an2 (an1 (an2 h))))))))
theorem nr_315 {args : Array Value} {s : State} (h : narrow_1.before args s = true) : (Jvm.Cond.not (Jvm.Cond.eq (Jvm.Term.string "SpoonShort$Reader" (183 : Nat)) (Jvm.Term.string "SpoonShort$Reader" (161 : Nat)))).before args s = true := an2 (an1 (an2 (an2 (an2 (an2 (an2 (an1 (an2 h))))))))
theorem nr_316 {args : Array Value} {s : State} (h : narrow_1.before args s = true) : (Jvm.Cond.not (Jvm.Cond.eq (Jvm.Term.string "SpoonShort$Reader" (185 : Nat)) (Jvm.Term.string "SpoonShort$Reader" (161 : Nat)))).before args s = true := an1 (an2 (an2 (an2 (an2 (an2 (an2 (an1 (an2 h))))))))
theorem nr_317 {args : Array Value} {s : State} (h : narrow_1.before args s = true) : (Jvm.Cond.not (Jvm.Cond.eq (Jvm.Term.string "SpoonShort$Reader" (157 : Nat)) (Jvm.Term.string "SpoonShort$Reader" (161 : Nat)))).before args s = true := an2 (an2 (an2 (an2 (an2 (an2 (an2 (an1 (an2 h))))))))
theorem nr_318 {args : Array Value} {s : State} (h : narrow_1.before args s = true) : (Jvm.Cond.not (Jvm.Cond.eq (Jvm.Term.string "SpoonShort$Reader" (159 : Nat)) (Jvm.Term.string "SpoonShort$Reader" (161 : Nat)))).before args s = true := an1 (an1 (an1 (an1 (an1 (an1 (an2 (an2 h)))))))
theorem nr_319 {args : Array Value} {s : State} (h : narrow_1.before args s = true) : (Jvm.Cond.exactly (Jvm.Term.string "SpoonShort$Reader" (137 : Nat)) "java/lang/String").before args s = true := an1 (an2 (an1 (an1 (an1 (an1 (an1 (an2 (an2 h))))))))
theorem nr_320 {args : Array Value} {s : State} (h : narrow_1.before args s = true) : (Jvm.Cond.eq (Jvm.Term.field (Jvm.Term.string "SpoonShort$Reader" (137 : Nat)) "java/lang/String" "coder" "B") (Jvm.Term.int (0 : Int32))).before args s = true := an2 (an2 (an1 (an1 (an1 (an1 (an1 (an2 (an2 h))))))))
theorem nr_321 {args : Array Value} {s : State} (h : narrow_1.before args s = true) : (Jvm.Cond.arrayOf (Jvm.Term.field (Jvm.Term.string "SpoonShort$Reader" (137 : Nat)) "java/lang/String" "value" "[B") Jvm.ClassFile.FieldType.byte).before args s = true := an1 (an2 (an1 (an1 (an1 (an1 (an2 (an2 h)))))))
theorem nr_322 {args : Array Value} {s : State} (h : narrow_1.before args s = true) : (Jvm.Cond.eq (Jvm.Term.length (Jvm.Term.field (Jvm.Term.string "SpoonShort$Reader" (137 : Nat)) "java/lang/String" "value" "[B")) (Jvm.Term.int (4 : Int32))).before args s = true := an1 (an2 (an2 (an1 (an1 (an1 (an1 (an2 (an2 h))))))))
theorem nr_323 {args : Array Value} {s : State} (h : narrow_1.before args s = true) : (Jvm.Cond.eq (Jvm.Term.elem (Jvm.Term.field (Jvm.Term.string "SpoonShort$Reader" (137 : Nat)) "java/lang/String" "value" "[B") (Jvm.Term.int (0 : Int32))) (Jvm.Term.int (109 : Int32))).before args s = true := an2 (an2 (an2 (an1 (an1 (an1 (an1 (an2 (an2 h))))))))
theorem nr_324 {args : Array Value} {s : State} (h : narrow_1.before args s = true) : (Jvm.Cond.eq (Jvm.Term.elem (Jvm.Term.field (Jvm.Term.string "SpoonShort$Reader" (137 : Nat)) "java/lang/String" "value" "[B") (Jvm.Term.int (1 : Int32))) (Jvm.Term.int (111 : Int32))).before args s = true := an1 (an1 (an2 (an1 (an1 (an1 (an2 (an2 h)))))))
theorem nr_325 {args : Array Value} {s : State} (h : narrow_1.before args s = true) : (Jvm.Cond.eq (Jvm.Term.elem (Jvm.Term.field (Jvm.Term.string "SpoonShort$Reader" (137 : Nat)) "java/lang/String" "value" "[B") (Jvm.Term.int (2 : Int32))) (Jvm.Term.int (115 : Int32))).before args s = true := an1 (an2 (an1 (an2 (an1 (an1 (an1 (an2 (an2 h))))))))
theorem nr_326 {args : Array Value} {s : State} (h : narrow_1.before args s = true) : (Jvm.Cond.eq (Jvm.Term.elem (Jvm.Term.field (Jvm.Term.string "SpoonShort$Reader" (137 : Nat)) "java/lang/String" "value" "[B") (Jvm.Term.int (3 : Int32))) (Jvm.Term.int (116 : Int32))).before args s = true := an2 (an2 (an1 (an2 (an1 (an1 (an1 (an2 (an2 h))))))))
theorem nr_327 {args : Array Value} {s : State} (h : narrow_1.before args s = true) : (Jvm.Cond.not (Jvm.Cond.eq (Jvm.Term.string "SpoonShort$Reader" (163 : Nat)) (Jvm.Term.string "SpoonShort$Reader" (137 : Nat)))).before args s = true := an1 (an1 (an2 (an2 (an1 (an1 (an1 (an2 (an2 h))))))))
theorem nr_328 {args : Array Value} {s : State} (h : narrow_1.before args s = true) : (Jvm.Cond.not (Jvm.Cond.eq (Jvm.Term.string "SpoonShort$Reader" (164 : Nat)) (Jvm.Term.string "SpoonShort$Reader" (137 : Nat)))).before args s = true := an2 (an1 (an2 (an2 (an1 (an1 (an1 (an2 (an2 h))))))))
theorem nr_329 {args : Array Value} {s : State} (h : narrow_1.before args s = true) : (Jvm.Cond.not (Jvm.Cond.eq (Jvm.Term.string "SpoonShort$Reader" (166 : Nat)) (Jvm.Term.string "SpoonShort$Reader" (137 : Nat)))).before args s = true := an1 (an2 (an2 (an2 (an1 (an1 (an1 (an2 (an2 h))))))))
theorem nr_330 {args : Array Value} {s : State} (h : narrow_1.before args s = true) : (Jvm.Cond.not (Jvm.Cond.eq (Jvm.Term.string "SpoonShort$Reader" (168 : Nat)) (Jvm.Term.string "SpoonShort$Reader" (137 : Nat)))).before args s = true := an2 (an2 (an2 (an2 (an1 (an1 (an1 (an2 (an2 h))))))))
theorem nr_331 {args : Array Value} {s : State} (h : narrow_1.before args s = true) : (Jvm.Cond.not (Jvm.Cond.eq (Jvm.Term.string "SpoonShort$Reader" (170 : Nat)) (Jvm.Term.string "SpoonShort$Reader" (137 : Nat)))).before args s = true := an1 (an1 (an1 (an2 (an1 (an1 (an2 (an2 h)))))))
theorem nr_332 {args : Array Value} {s : State} (h : narrow_1.before args s = true) : (Jvm.Cond.not (Jvm.Cond.eq (Jvm.Term.string "SpoonShort$Reader" (172 : Nat)) (Jvm.Term.string "SpoonShort$Reader" (137 : Nat)))).before args s = true := an1 (an2 (an1 (an1 (an2 (an1 (an1 (an2 (an2 h))))))))
theorem nr_333 {args : Array Value} {s : State} (h : narrow_1.before args s = true) : (Jvm.Cond.not (Jvm.Cond.eq (Jvm.Term.string "SpoonShort$Reader" (174 : Nat)) (Jvm.Term.string "SpoonShort$Reader" (137 : Nat)))).before args s = true := an2 (an2 (an1 (an1 (an2 (an1 (an1 (an2 (an2 h))))))))
theorem nr_334 {args : Array Value} {s : State} (h : narrow_1.before args s = true) : (Jvm.Cond.not (Jvm.Cond.eq (Jvm.Term.string "SpoonShort$Reader" (176 : Nat)) (Jvm.Term.string "SpoonShort$Reader" (137 : Nat)))).before args s = true := an1 (an2 (an1 (an2 (an1 (an1 (an2 (an2 h)))))))
theorem nr_335 {args : Array Value} {s : State} (h : narrow_1.before args s = true) : (Jvm.Cond.not (Jvm.Cond.eq (Jvm.Term.string "SpoonShort$Reader" (152 : Nat)) (Jvm.Term.string "SpoonShort$Reader" (137 : Nat)))).before args s = true := an1 (an2 (an2 (an1 (an2 (an1 (an1 (an2 (an2 h))))))))
theorem nr_336 {args : Array Value} {s : State} (h : narrow_1.before args s = true) : (Jvm.Cond.not (Jvm.Cond.eq (Jvm.Term.string "SpoonShort$Reader" (177 : Nat)) (Jvm.Term.string "SpoonShort$Reader" (137 : Nat)))).before args s = true := an2 (an2 (an2 (an1 (an2 (an1 (an1 (an2 (an2 h))))))))
theorem nr_337 {args : Array Value} {s : State} (h : narrow_1.before args s = true) : (Jvm.Cond.not (Jvm.Cond.eq (Jvm.Term.string "SpoonShort$Reader" (179 : Nat)) (Jvm.Term.string "SpoonShort$Reader" (137 : Nat)))).before args s = true := an1 (an1 (an2 (an2 (an1 (an1 (an2 (an2 h)))))))
theorem nr_338 {args : Array Value} {s : State} (h : narrow_1.before args s = true) : (Jvm.Cond.not (Jvm.Cond.eq (Jvm.Term.string "SpoonShort$Reader" (181 : Nat)) (Jvm.Term.string "SpoonShort$Reader" (137 : Nat)))).before args s = true := an1 (an2 (an1 (an2 (an2 (an1 (an1 (an2 (an2 h))))))))
theorem nr_339 {args : Array Value} {s : State} (h : narrow_1.before args s = true) : (Jvm.Cond.not (Jvm.Cond.eq (Jvm.Term.string "SpoonShort$Reader" (183 : Nat)) (Jvm.Term.string "SpoonShort$Reader" (137 : Nat)))).before args s = true := an2 (an2 (an1 (an2 (an2 (an1 (an1 (an2 (an2 h))))))))
theorem nr_340 {args : Array Value} {s : State} (h : narrow_1.before args s = true) : (Jvm.Cond.not (Jvm.Cond.eq (Jvm.Term.string "SpoonShort$Reader" (185 : Nat)) (Jvm.Term.string "SpoonShort$Reader" (137 : Nat)))).before args s = true := an1 (an1 (an2 (an2 (an2 (an1 (an1 (an2 (an2 h))))))))
theorem nr_341 {args : Array Value} {s : State} (h : narrow_1.before args s = true) : (Jvm.Cond.not (Jvm.Cond.eq (Jvm.Term.string "SpoonShort$Reader" (157 : Nat)) (Jvm.Term.string "SpoonShort$Reader" (137 : Nat)))).before args s = true := an2 (an1 (an2 (an2 (an2 (an1 (an1 (an2 (an2 h))))))))
theorem nr_342 {args : Array Value} {s : State} (h : narrow_1.before args s = true) : (Jvm.Cond.not (Jvm.Cond.eq (Jvm.Term.string "SpoonShort$Reader" (159 : Nat)) (Jvm.Term.string "SpoonShort$Reader" (137 : Nat)))).before args s = true := an1 (an2 (an2 (an2 (an2 (an1 (an1 (an2 (an2 h))))))))
theorem nr_343 {args : Array Value} {s : State} (h : narrow_1.before args s = true) : (Jvm.Cond.not (Jvm.Cond.eq (Jvm.Term.string "SpoonShort$Reader" (161 : Nat)) (Jvm.Term.string "SpoonShort$Reader" (137 : Nat)))).before args s = true := an2 (an2 (an2 (an2 (an2 (an1 (an1 (an2 (an2 h))))))))
theorem nr_344 {args : Array Value} {s : State} (h : narrow_1.before args s = true) : (Jvm.Cond.exactly (Jvm.Term.string "SpoonShort$Reader" (143 : Nat)) "java/lang/String").before args s = true := an1 (an1 (an1 (an1 (an2 (an1 (an2 (an2 h)))))))
theorem nr_345 {args : Array Value} {s : State} (h : narrow_1.before args s = true) : (Jvm.Cond.eq (Jvm.Term.field (Jvm.Term.string "SpoonShort$Reader" (143 : Nat)) "java/lang/String" "coder" "B") (Jvm.Term.int (0 : Int32))).before args s = true := an1 (an2 (an1 (an1 (an1 (an2 (an1 (an2 (an2 h))))))))
theorem nr_346 {args : Array Value} {s : State} (h : narrow_1.before args s = true) : (Jvm.Cond.arrayOf (Jvm.Term.field (Jvm.Term.string "SpoonShort$Reader" (143 : Nat)) "java/lang/String" "value" "[B") Jvm.ClassFile.FieldType.byte).before args s = true := an2 (an2 (an1 (an1 (an1 (an2 (an1 (an2 (an2 h))))))))
theorem nr_347 {args : Array Value} {s : State} (h : narrow_1.before args s = true) : (Jvm.Cond.eq (Jvm.Term.length (Jvm.Term.field (Jvm.Term.string "SpoonShort$Reader" (143 : Nat)) "java/lang/String" "value" "[B")) (Jvm.Term.int (3 : Int32))).before args s = true := an1 (an2 (an1 (an1 (an2 (an1 (an2 (an2 h)))))))
theorem nr_348 {args : Array Value} {s : State} (h : narrow_1.before args s = true) : (Jvm.Cond.eq (Jvm.Term.elem (Jvm.Term.field (Jvm.Term.string "SpoonShort$Reader" (143 : Nat)) "java/lang/String" "value" "[B") (Jvm.Term.int (0 : Int32))) (Jvm.Term.int (97 : Int32))).before args s = true := an1 (an2 (an2 (an1 (an1 (an2 (an1 (an2 (an2 h))))))))
theorem nr_349 {args : Array Value} {s : State} (h : narrow_1.before args s = true) : (Jvm.Cond.eq (Jvm.Term.elem (Jvm.Term.field (Jvm.Term.string "SpoonShort$Reader" (143 : Nat)) "java/lang/String" "value" "[B") (Jvm.Term.int (1 : Int32))) (Jvm.Term.int (105 : Int32))).before args s = true := an2 (an2 (an2 (an1 (an1 (an2 (an1 (an2 (an2 h))))))))
theorem nr_350 {args : Array Value} {s : State} (h : narrow_1.before args s = true) : (Jvm.Cond.eq (Jvm.Term.elem (Jvm.Term.field (Jvm.Term.string "SpoonShort$Reader" (143 : Nat)) "java/lang/String" "value" "[B") (Jvm.Term.int (2 : Int32))) (Jvm.Term.int (109 : Int32))).before args s = true := an1 (an1 (an2 (an1 (an2 (an1 (an2 (an2 h)))))))
theorem nr_351 {args : Array Value} {s : State} (h : narrow_1.before args s = true) : (Jvm.Cond.not (Jvm.Cond.eq (Jvm.Term.string "SpoonShort$Reader" (163 : Nat)) (Jvm.Term.string "SpoonShort$Reader" (143 : Nat)))).before args s = true := an1 (an2 (an1 (an2 (an1 (an2 (an1 (an2 (an2 h))))))))
theorem nr_352 {args : Array Value} {s : State} (h : narrow_1.before args s = true) : (Jvm.Cond.not (Jvm.Cond.eq (Jvm.Term.string "SpoonShort$Reader" (164 : Nat)) (Jvm.Term.string "SpoonShort$Reader" (143 : Nat)))).before args s = true := an2 (an2 (an1 (an2 (an1 (an2 (an1 (an2 (an2 h))))))))
theorem nr_353 {args : Array Value} {s : State} (h : narrow_1.before args s = true) : (Jvm.Cond.not (Jvm.Cond.eq (Jvm.Term.string "SpoonShort$Reader" (166 : Nat)) (Jvm.Term.string "SpoonShort$Reader" (143 : Nat)))).before args s = true := an1 (an1 (an2 (an2 (an1 (an2 (an1 (an2 (an2 h))))))))
theorem nr_354 {args : Array Value} {s : State} (h : narrow_1.before args s = true) : (Jvm.Cond.not (Jvm.Cond.eq (Jvm.Term.string "SpoonShort$Reader" (168 : Nat)) (Jvm.Term.string "SpoonShort$Reader" (143 : Nat)))).before args s = true := an2 (an1 (an2 (an2 (an1 (an2 (an1 (an2 (an2 h))))))))
theorem nr_355 {args : Array Value} {s : State} (h : narrow_1.before args s = true) : (Jvm.Cond.not (Jvm.Cond.eq (Jvm.Term.string "SpoonShort$Reader" (170 : Nat)) (Jvm.Term.string "SpoonShort$Reader" (143 : Nat)))).before args s = true := an1 (an2 (an2 (an2 (an1 (an2 (an1 (an2 (an2 h))))))))
theorem nr_356 {args : Array Value} {s : State} (h : narrow_1.before args s = true) : (Jvm.Cond.not (Jvm.Cond.eq (Jvm.Term.string "SpoonShort$Reader" (172 : Nat)) (Jvm.Term.string "SpoonShort$Reader" (143 : Nat)))).before args s = true := an2 (an2 (an2 (an2 (an1 (an2 (an1 (an2 (an2 h))))))))
theorem nr_357 {args : Array Value} {s : State} (h : narrow_1.before args s = true) : (Jvm.Cond.not (Jvm.Cond.eq (Jvm.Term.string "SpoonShort$Reader" (174 : Nat)) (Jvm.Term.string "SpoonShort$Reader" (143 : Nat)))).before args s = true := an1 (an1 (an1 (an2 (an2 (an1 (an2 (an2 h)))))))
theorem nr_358 {args : Array Value} {s : State} (h : narrow_1.before args s = true) : (Jvm.Cond.not (Jvm.Cond.eq (Jvm.Term.string "SpoonShort$Reader" (176 : Nat)) (Jvm.Term.string "SpoonShort$Reader" (143 : Nat)))).before args s = true := an1 (an2 (an1 (an1 (an2 (an2 (an1 (an2 (an2 h))))))))
theorem nr_359 {args : Array Value} {s : State} (h : narrow_1.before args s = true) : (Jvm.Cond.not (Jvm.Cond.eq (Jvm.Term.string "SpoonShort$Reader" (152 : Nat)) (Jvm.Term.string "SpoonShort$Reader" (143 : Nat)))).before args s = true := an2 (an2 (an1 (an1 (an2 (an2 (an1 (an2 (an2 h))))))))
theorem nr_360 {args : Array Value} {s : State} (h : narrow_1.before args s = true) : (Jvm.Cond.not (Jvm.Cond.eq (Jvm.Term.string "SpoonShort$Reader" (177 : Nat)) (Jvm.Term.string "SpoonShort$Reader" (143 : Nat)))).before args s = true := an1 (an1 (an2 (an1 (an2 (an2 (an1 (an2 (an2 h))))))))
theorem nr_361 {args : Array Value} {s : State} (h : narrow_1.before args s = true) : (Jvm.Cond.not (Jvm.Cond.eq (Jvm.Term.string "SpoonShort$Reader" (179 : Nat)) (Jvm.Term.string "SpoonShort$Reader" (143 : Nat)))).before args s = true := an2 (an1 (an2 (an1 (an2 (an2 (an1 (an2 (an2 h))))))))
theorem nr_362 {args : Array Value} {s : State} (h : narrow_1.before args s = true) : (Jvm.Cond.not (Jvm.Cond.eq (Jvm.Term.string "SpoonShort$Reader" (181 : Nat)) (Jvm.Term.string "SpoonShort$Reader" (143 : Nat)))).before args s = true := an1 (an2 (an2 (an1 (an2 (an2 (an1 (an2 (an2 h))))))))
theorem nr_363 {args : Array Value} {s : State} (h : narrow_1.before args s = true) : (Jvm.Cond.not (Jvm.Cond.eq (Jvm.Term.string "SpoonShort$Reader" (183 : Nat)) (Jvm.Term.string "SpoonShort$Reader" (143 : Nat)))).before args s = true := an2 (an2 (an2 (an1 (an2 (an2 (an1 (an2 (an2 h))))))))
theorem nr_364 {args : Array Value} {s : State} (h : narrow_1.before args s = true) : (Jvm.Cond.not (Jvm.Cond.eq (Jvm.Term.string "SpoonShort$Reader" (185 : Nat)) (Jvm.Term.string "SpoonShort$Reader" (143 : Nat)))).before args s = true := an1 (an1 (an2 (an2 (an2 (an1 (an2 (an2 h)))))))
theorem nr_365 {args : Array Value} {s : State} (h : narrow_1.before args s = true) : (Jvm.Cond.not (Jvm.Cond.eq (Jvm.Term.string "SpoonShort$Reader" (157 : Nat)) (Jvm.Term.string "SpoonShort$Reader" (143 : Nat)))).before args s = true := an1 (an2 (an1 (an2 (an2 (an2 (an1 (an2 (an2 h))))))))
theorem nr_366 {args : Array Value} {s : State} (h : narrow_1.before args s = true) : (Jvm.Cond.not (Jvm.Cond.eq (Jvm.Term.string "SpoonShort$Reader" (159 : Nat)) (Jvm.Term.string "SpoonShort$Reader" (143 : Nat)))).before args s = true := an2 (an2 (an1 (an2 (an2 (an2 (an1 (an2 (an2 h))))))))
theorem nr_367 {args : Array Value} {s : State} (h : narrow_1.before args s = true) : (Jvm.Cond.not (Jvm.Cond.eq (Jvm.Term.string "SpoonShort$Reader" (161 : Nat)) (Jvm.Term.string "SpoonShort$Reader" (143 : Nat)))).before args s = true := an1 (an1 (an2 (an2 (an2 (an2 (an1 (an2 (an2 h))))))))
theorem nr_368 {args : Array Value} {s : State} (h : narrow_1.before args s = true) : (Jvm.Cond.not (Jvm.Cond.eq (Jvm.Term.string "SpoonShort$Reader" (137 : Nat)) (Jvm.Term.string "SpoonShort$Reader" (143 : Nat)))).before args s = true := an2 (an1 (an2 (an2 (an2 (an2 (an1 (an2 (an2 h))))))))
theorem nr_369 {args : Array Value} {s : State} (h : narrow_1.before args s = true) : (Jvm.Cond.exactly (Jvm.Term.string "SpoonShort$Reader" (145 : Nat)) "java/lang/String").before args s = true := an1 (an2 (an2 (an2 (an2 (an2 (an1 (an2 (an2 h))))))))
theorem nr_370 {args : Array Value} {s : State} (h : narrow_1.before args s = true) : (Jvm.Cond.eq (Jvm.Term.field (Jvm.Term.string "SpoonShort$Reader" (145 : Nat)) "java/lang/String" "coder" "B") (Jvm.Term.int (0 : Int32))).before args s = true := an2 (an2 (an2 (an2 (an2 (an2 (an1 (an2 (an2 h))))))))
theorem nr_371 {args : Array Value} {s : State} (h : narrow_1.before args s = true) : (Jvm.Cond.arrayOf (Jvm.Term.field (Jvm.Term.string "SpoonShort$Reader" (145 : Nat)) "java/lang/String" "value" "[B") Jvm.ClassFile.FieldType.byte).before args s = true := an1 (an1 (an1 (an1 (an1 (an2 (an2 (an2 h)))))))
theorem nr_372 {args : Array Value} {s : State} (h : narrow_1.before args s = true) : (Jvm.Cond.eq (Jvm.Term.length (Jvm.Term.field (Jvm.Term.string "SpoonShort$Reader" (145 : Nat)) "java/lang/String" "value" "[B")) (Jvm.Term.int (4 : Int32))).before args s = true := an1 (an2 (an1 (an1 (an1 (an1 (an2 (an2 (an2 h))))))))
theorem nr_373 {args : Array Value} {s : State} (h : narrow_1.before args s = true) : (Jvm.Cond.eq (Jvm.Term.elem (Jvm.Term.field (Jvm.Term.string "SpoonShort$Reader" (145 : Nat)) "java/lang/String" "value" "[B") (Jvm.Term.int (0 : Int32))) (Jvm.Term.int (107 : Int32))).before args s = true := an2 (an2 (an1 (an1 (an1 (an1 (an2 (an2 (an2 h))))))))
theorem nr_374 {args : Array Value} {s : State} (h : narrow_1.before args s = true) : (Jvm.Cond.eq (Jvm.Term.elem (Jvm.Term.field (Jvm.Term.string "SpoonShort$Reader" (145 : Nat)) "java/lang/String" "value" "[B") (Jvm.Term.int (1 : Int32))) (Jvm.Term.int (101 : Int32))).before args s = true := an1 (an2 (an1 (an1 (an1 (an2 (an2 (an2 h)))))))
theorem nr_375 {args : Array Value} {s : State} (h : narrow_1.before args s = true) : (Jvm.Cond.eq (Jvm.Term.elem (Jvm.Term.field (Jvm.Term.string "SpoonShort$Reader" (145 : Nat)) "java/lang/String" "value" "[B") (Jvm.Term.int (2 : Int32))) (Jvm.Term.int (101 : Int32))).before args s = true := an1 (an2 (an2 (an1 (an1 (an1 (an2 (an2 (an2 h))))))))
theorem nr_376 {args : Array Value} {s : State} (h : narrow_1.before args s = true) : (Jvm.Cond.eq (Jvm.Term.elem (Jvm.Term.field (Jvm.Term.string "SpoonShort$Reader" (145 : Nat)) "java/lang/String" "value" "[B") (Jvm.Term.int (3 : Int32))) (Jvm.Term.int (112 : Int32))).before args s = true := an2 (an2 (an2 (an1 (an1 (an1 (an2 (an2 (an2 h))))))))
theorem nr_377 {args : Array Value} {s : State} (h : narrow_1.before args s = true) : (Jvm.Cond.not (Jvm.Cond.eq (Jvm.Term.string "SpoonShort$Reader" (163 : Nat)) (Jvm.Term.string "SpoonShort$Reader" (145 : Nat)))).before args s = true := an1 (an1 (an2 (an1 (an1 (an2 (an2 (an2 h)))))))
theorem nr_378 {args : Array Value} {s : State} (h : narrow_1.before args s = true) : (Jvm.Cond.not (Jvm.Cond.eq (Jvm.Term.string "SpoonShort$Reader" (164 : Nat)) (Jvm.Term.string "SpoonShort$Reader" (145 : Nat)))).before args s = true := an1 (an2 (an1 (an2 (an1 (an1 (an2 (an2 (an2 h))))))))
theorem nr_379 {args : Array Value} {s : State} (h : narrow_1.before args s = true) : (Jvm.Cond.not (Jvm.Cond.eq (Jvm.Term.string "SpoonShort$Reader" (166 : Nat)) (Jvm.Term.string "SpoonShort$Reader" (145 : Nat)))).before args s = true := an2 (an2 (an1 (an2 (an1 (an1 (an2 (an2 (an2 h))))))))
theorem nr_380 {args : Array Value} {s : State} (h : narrow_1.before args s = true) : (Jvm.Cond.not (Jvm.Cond.eq (Jvm.Term.string "SpoonShort$Reader" (168 : Nat)) (Jvm.Term.string "SpoonShort$Reader" (145 : Nat)))).before args s = true := an1 (an1 (an2 (an2 (an1 (an1 (an2 (an2 (an2 h))))))))
theorem nr_381 {args : Array Value} {s : State} (h : narrow_1.before args s = true) : (Jvm.Cond.not (Jvm.Cond.eq (Jvm.Term.string "SpoonShort$Reader" (170 : Nat)) (Jvm.Term.string "SpoonShort$Reader" (145 : Nat)))).before args s = true := an2 (an1 (an2 (an2 (an1 (an1 (an2 (an2 (an2 h))))))))
theorem nr_382 {args : Array Value} {s : State} (h : narrow_1.before args s = true) : (Jvm.Cond.not (Jvm.Cond.eq (Jvm.Term.string "SpoonShort$Reader" (172 : Nat)) (Jvm.Term.string "SpoonShort$Reader" (145 : Nat)))).before args s = true := an1 (an2 (an2 (an2 (an1 (an1 (an2 (an2 (an2 h))))))))
theorem nr_383 {args : Array Value} {s : State} (h : narrow_1.before args s = true) : (Jvm.Cond.not (Jvm.Cond.eq (Jvm.Term.string "SpoonShort$Reader" (174 : Nat)) (Jvm.Term.string "SpoonShort$Reader" (145 : Nat)))).before args s = true := an2 (an2 (an2 (an2 (an1 (an1 (an2 (an2 (an2 h))))))))
theorem nr_384 {args : Array Value} {s : State} (h : narrow_1.before args s = true) : (Jvm.Cond.not (Jvm.Cond.eq (Jvm.Term.string "SpoonShort$Reader" (176 : Nat)) (Jvm.Term.string "SpoonShort$Reader" (145 : Nat)))).before args s = true := an1 (an1 (an1 (an2 (an1 (an2 (an2 (an2 h)))))))
theorem nr_385 {args : Array Value} {s : State} (h : narrow_1.before args s = true) : (Jvm.Cond.not (Jvm.Cond.eq (Jvm.Term.string "SpoonShort$Reader" (152 : Nat)) (Jvm.Term.string "SpoonShort$Reader" (145 : Nat)))).before args s = true := an1 (an2 (an1 (an1 (an2 (an1 (an2 (an2 (an2 h))))))))
theorem nr_386 {args : Array Value} {s : State} (h : narrow_1.before args s = true) : (Jvm.Cond.not (Jvm.Cond.eq (Jvm.Term.string "SpoonShort$Reader" (177 : Nat)) (Jvm.Term.string "SpoonShort$Reader" (145 : Nat)))).before args s = true := an2 (an2 (an1 (an1 (an2 (an1 (an2 (an2 (an2 h))))))))
theorem nr_387 {args : Array Value} {s : State} (h : narrow_1.before args s = true) : (Jvm.Cond.not (Jvm.Cond.eq (Jvm.Term.string "SpoonShort$Reader" (179 : Nat)) (Jvm.Term.string "SpoonShort$Reader" (145 : Nat)))).before args s = true := an1 (an1 (an2 (an1 (an2 (an1 (an2 (an2 (an2 h))))))))
theorem nr_388 {args : Array Value} {s : State} (h : narrow_1.before args s = true) : (Jvm.Cond.not (Jvm.Cond.eq (Jvm.Term.string "SpoonShort$Reader" (181 : Nat)) (Jvm.Term.string "SpoonShort$Reader" (145 : Nat)))).before args s = true := an2 (an1 (an2 (an1 (an2 (an1 (an2 (an2 (an2 h))))))))
theorem nr_389 {args : Array Value} {s : State} (h : narrow_1.before args s = true) : (Jvm.Cond.not (Jvm.Cond.eq (Jvm.Term.string "SpoonShort$Reader" (183 : Nat)) (Jvm.Term.string "SpoonShort$Reader" (145 : Nat)))).before args s = true := an1 (an2 (an2 (an1 (an2 (an1 (an2 (an2 (an2 h))))))))
theorem nr_390 {args : Array Value} {s : State} (h : narrow_1.before args s = true) : (Jvm.Cond.not (Jvm.Cond.eq (Jvm.Term.string "SpoonShort$Reader" (185 : Nat)) (Jvm.Term.string "SpoonShort$Reader" (145 : Nat)))).before args s = true := an2 (an2 (an2 (an1 (an2 (an1 (an2 (an2 (an2 h))))))))
theorem nr_391 {args : Array Value} {s : State} (h : narrow_1.before args s = true) : (Jvm.Cond.not (Jvm.Cond.eq (Jvm.Term.string "SpoonShort$Reader" (157 : Nat)) (Jvm.Term.string "SpoonShort$Reader" (145 : Nat)))).before args s = true := an1 (an1 (an2 (an2 (an1 (an2 (an2 (an2 h)))))))
theorem nr_392 {args : Array Value} {s : State} (h : narrow_1.before args s = true) : (Jvm.Cond.not (Jvm.Cond.eq (Jvm.Term.string "SpoonShort$Reader" (159 : Nat)) (Jvm.Term.string "SpoonShort$Reader" (145 : Nat)))).before args s = true := an1 (an2 (an1 (an2 (an2 (an1 (an2 (an2 (an2 h))))))))
theorem nr_393 {args : Array Value} {s : State} (h : narrow_1.before args s = true) : (Jvm.Cond.not (Jvm.Cond.eq (Jvm.Term.string "SpoonShort$Reader" (161 : Nat)) (Jvm.Term.string "SpoonShort$Reader" (145 : Nat)))).before args s = true := an2 (an2 (an1 (an2 (an2 (an1 (an2 (an2 (an2 h))))))))
theorem nr_394 {args : Array Value} {s : State} (h : narrow_1.before args s = true) : (Jvm.Cond.not (Jvm.Cond.eq (Jvm.Term.string "SpoonShort$Reader" (137 : Nat)) (Jvm.Term.string "SpoonShort$Reader" (145 : Nat)))).before args s = true := an1 (an1 (an2 (an2 (an2 (an1 (an2 (an2 (an2 h))))))))
theorem nr_395 {args : Array Value} {s : State} (h : narrow_1.before args s = true) : (Jvm.Cond.not (Jvm.Cond.eq (Jvm.Term.string "SpoonShort$Reader" (143 : Nat)) (Jvm.Term.string "SpoonShort$Reader" (145 : Nat)))).before args s = true := an2 (an1 (an2 (an2 (an2 (an1 (an2 (an2 (an2 h))))))))
theorem nr_396 {args : Array Value} {s : State} (h : narrow_1.before args s = true) : (Jvm.Cond.exactly (Jvm.Term.string "SpoonShort$Reader" (147 : Nat)) "java/lang/String").before args s = true := an1 (an2 (an2 (an2 (an2 (an1 (an2 (an2 (an2 h))))))))
theorem nr_397 {args : Array Value} {s : State} (h : narrow_1.before args s = true) : (Jvm.Cond.eq (Jvm.Term.field (Jvm.Term.string "SpoonShort$Reader" (147 : Nat)) "java/lang/String" "coder" "B") (Jvm.Term.int (0 : Int32))).before args s = true := an2 (an2 (an2 (an2 (an2 (an1 (an2 (an2 (an2 h))))))))
theorem nr_398 {args : Array Value} {s : State} (h : narrow_1.before args s = true) : (Jvm.Cond.arrayOf (Jvm.Term.field (Jvm.Term.string "SpoonShort$Reader" (147 : Nat)) "java/lang/String" "value" "[B") Jvm.ClassFile.FieldType.byte).before args s = true := an1 (an1 (an1 (an1 (an2 (an2 (an2 (an2 h)))))))
theorem nr_399 {args : Array Value} {s : State} (h : narrow_1.before args s = true) : (Jvm.Cond.eq (Jvm.Term.length (Jvm.Term.field (Jvm.Term.string "SpoonShort$Reader" (147 : Nat)) "java/lang/String" "value" "[B")) (Jvm.Term.int (5 : Int32))).before args s = true := an1 (an2 (an1 (an1 (an1 (an2 (an2 (an2 (an2 h))))))))
theorem nr_400 {args : Array Value} {s : State} (h : narrow_1.before args s = true) : (Jvm.Cond.eq (Jvm.Term.elem (Jvm.Term.field (Jvm.Term.string "SpoonShort$Reader" (147 : Nat)) "java/lang/String" "value" "[B") (Jvm.Term.int (0 : Int32))) (Jvm.Term.int (110 : Int32))).before args s = true := an2 (an2 (an1 (an1 (an1 (an2 (an2 (an2 (an2 h))))))))
theorem nr_401 {args : Array Value} {s : State} (h : narrow_1.before args s = true) : (Jvm.Cond.eq (Jvm.Term.elem (Jvm.Term.field (Jvm.Term.string "SpoonShort$Reader" (147 : Nat)) "java/lang/String" "value" "[B") (Jvm.Term.int (1 : Int32))) (Jvm.Term.int (101 : Int32))).before args s = true := an1 (an2 (an1 (an1 (an2 (an2 (an2 (an2 h)))))))
theorem nr_402 {args : Array Value} {s : State} (h : narrow_1.before args s = true) : (Jvm.Cond.eq (Jvm.Term.elem (Jvm.Term.field (Jvm.Term.string "SpoonShort$Reader" (147 : Nat)) "java/lang/String" "value" "[B") (Jvm.Term.int (2 : Int32))) (Jvm.Term.int (118 : Int32))).before args s = true := an1 (an2 (an2 (an1 (an1 (an2 (an2 (an2 (an2 h))))))))
theorem nr_403 {args : Array Value} {s : State} (h : narrow_1.before args s = true) : (Jvm.Cond.eq (Jvm.Term.elem (Jvm.Term.field (Jvm.Term.string "SpoonShort$Reader" (147 : Nat)) "java/lang/String" "value" "[B") (Jvm.Term.int (3 : Int32))) (Jvm.Term.int (101 : Int32))).before args s = true := an2 (an2 (an2 (an1 (an1 (an2 (an2 (an2 (an2 h))))))))
theorem nr_404 {args : Array Value} {s : State} (h : narrow_1.before args s = true) : (Jvm.Cond.eq (Jvm.Term.elem (Jvm.Term.field (Jvm.Term.string "SpoonShort$Reader" (147 : Nat)) "java/lang/String" "value" "[B") (Jvm.Term.int (4 : Int32))) (Jvm.Term.int (114 : Int32))).before args s = true := an1 (an1 (an2 (an1 (an2 (an2 (an2 (an2 h)))))))
theorem nr_405 {args : Array Value} {s : State} (h : narrow_1.before args s = true) : (Jvm.Cond.not (Jvm.Cond.eq (Jvm.Term.string "SpoonShort$Reader" (163 : Nat)) (Jvm.Term.string "SpoonShort$Reader" (147 : Nat)))).before args s = true := an1 (an2 (an1 (an2 (an1 (an2 (an2 (an2 (an2 h))))))))
theorem nr_406 {args : Array Value} {s : State} (h : narrow_1.before args s = true) : (Jvm.Cond.not (Jvm.Cond.eq (Jvm.Term.string "SpoonShort$Reader" (164 : Nat)) (Jvm.Term.string "SpoonShort$Reader" (147 : Nat)))).before args s = true := an2 (an2 (an1 (an2 (an1 (an2 (an2 (an2 (an2 h))))))))
theorem nr_407 {args : Array Value} {s : State} (h : narrow_1.before args s = true) : (Jvm.Cond.not (Jvm.Cond.eq (Jvm.Term.string "SpoonShort$Reader" (166 : Nat)) (Jvm.Term.string "SpoonShort$Reader" (147 : Nat)))).before args s = true := an1 (an1 (an2 (an2 (an1 (an2 (an2 (an2 (an2 h))))))))
theorem nr_408 {args : Array Value} {s : State} (h : narrow_1.before args s = true) : (Jvm.Cond.not (Jvm.Cond.eq (Jvm.Term.string "SpoonShort$Reader" (168 : Nat)) (Jvm.Term.string "SpoonShort$Reader" (147 : Nat)))).before args s = true := an2 (an1 (an2 (an2 (an1 (an2 (an2 (an2 (an2 h))))))))
theorem nr_409 {args : Array Value} {s : State} (h : narrow_1.before args s = true) : (Jvm.Cond.not (Jvm.Cond.eq (Jvm.Term.string "SpoonShort$Reader" (170 : Nat)) (Jvm.Term.string "SpoonShort$Reader" (147 : Nat)))).before args s = true := an1 (an2 (an2 (an2 (an1 (an2 (an2 (an2 (an2 h))))))))
theorem nr_410 {args : Array Value} {s : State} (h : narrow_1.before args s = true) : (Jvm.Cond.not (Jvm.Cond.eq (Jvm.Term.string "SpoonShort$Reader" (172 : Nat)) (Jvm.Term.string "SpoonShort$Reader" (147 : Nat)))).before args s = true := an2 (an2 (an2 (an2 (an1 (an2 (an2 (an2 (an2 h))))))))
theorem nr_411 {args : Array Value} {s : State} (h : narrow_1.before args s = true) : (Jvm.Cond.not (Jvm.Cond.eq (Jvm.Term.string "SpoonShort$Reader" (174 : Nat)) (Jvm.Term.string "SpoonShort$Reader" (147 : Nat)))).before args s = true := an1 (an1 (an1 (an2 (an2 (an2 (an2 (an2 h)))))))
theorem nr_412 {args : Array Value} {s : State} (h : narrow_1.before args s = true) : (Jvm.Cond.not (Jvm.Cond.eq (Jvm.Term.string "SpoonShort$Reader" (176 : Nat)) (Jvm.Term.string "SpoonShort$Reader" (147 : Nat)))).before args s = true := an1 (an2 (an1 (an1 (an2 (an2 (an2 (an2 (an2 h))))))))
theorem nr_413 {args : Array Value} {s : State} (h : narrow_1.before args s = true) : (Jvm.Cond.not (Jvm.Cond.eq (Jvm.Term.string "SpoonShort$Reader" (152 : Nat)) (Jvm.Term.string "SpoonShort$Reader" (147 : Nat)))).before args s = true := an2 (an2 (an1 (an1 (an2 (an2 (an2 (an2 (an2 h))))))))
theorem nr_414 {args : Array Value} {s : State} (h : narrow_1.before args s = true) : (Jvm.Cond.not (Jvm.Cond.eq (Jvm.Term.string "SpoonShort$Reader" (177 : Nat)) (Jvm.Term.string "SpoonShort$Reader" (147 : Nat)))).before args s = true := an1 (an1 (an2 (an1 (an2 (an2 (an2 (an2 (an2 h))))))))
theorem nr_415 {args : Array Value} {s : State} (h : narrow_1.before args s = true) : (Jvm.Cond.not (Jvm.Cond.eq (Jvm.Term.string "SpoonShort$Reader" (179 : Nat)) (Jvm.Term.string "SpoonShort$Reader" (147 : Nat)))).before args s = true := an2 (an1 (an2 (an1 (an2 (an2 (an2 (an2 (an2 h))))))))
theorem nr_416 {args : Array Value} {s : State} (h : narrow_1.before args s = true) : (Jvm.Cond.not (Jvm.Cond.eq (Jvm.Term.string "SpoonShort$Reader" (181 : Nat)) (Jvm.Term.string "SpoonShort$Reader" (147 : Nat)))).before args s = true := an1 (an2 (an2 (an1 (an2 (an2 (an2 (an2 (an2 h))))))))
theorem nr_417 {args : Array Value} {s : State} (h : narrow_1.before args s = true) : (Jvm.Cond.not (Jvm.Cond.eq (Jvm.Term.string "SpoonShort$Reader" (183 : Nat)) (Jvm.Term.string "SpoonShort$Reader" (147 : Nat)))).before args s = true := an2 (an2 (an2 (an1 (an2 (an2 (an2 (an2 (an2 h))))))))
theorem nr_418 {args : Array Value} {s : State} (h : narrow_1.before args s = true) : (Jvm.Cond.not (Jvm.Cond.eq (Jvm.Term.string "SpoonShort$Reader" (185 : Nat)) (Jvm.Term.string "SpoonShort$Reader" (147 : Nat)))).before args s = true := an1 (an1 (an2 (an2 (an2 (an2 (an2 (an2 h)))))))
theorem nr_419 {args : Array Value} {s : State} (h : narrow_1.before args s = true) : (Jvm.Cond.not (Jvm.Cond.eq (Jvm.Term.string "SpoonShort$Reader" (157 : Nat)) (Jvm.Term.string "SpoonShort$Reader" (147 : Nat)))).before args s = true := an1 (an2 (an1 (an2 (an2 (an2 (an2 (an2 (an2 h))))))))
theorem nr_420 {args : Array Value} {s : State} (h : narrow_1.before args s = true) : (Jvm.Cond.not (Jvm.Cond.eq (Jvm.Term.string "SpoonShort$Reader" (159 : Nat)) (Jvm.Term.string "SpoonShort$Reader" (147 : Nat)))).before args s = true := an2 (an2 (an1 (an2 (an2 (an2 (an2 (an2 (an2 h))))))))
theorem nr_421 {args : Array Value} {s : State} (h : narrow_1.before args s = true) : (Jvm.Cond.not (Jvm.Cond.eq (Jvm.Term.string "SpoonShort$Reader" (161 : Nat)) (Jvm.Term.string "SpoonShort$Reader" (147 : Nat)))).before args s = true := an1 (an1 (an2 (an2 (an2 (an2 (an2 (an2 (an2 h))))))))
theorem nr_422 {args : Array Value} {s : State} (h : narrow_1.before args s = true) : (Jvm.Cond.not (Jvm.Cond.eq (Jvm.Term.string "SpoonShort$Reader" (137 : Nat)) (Jvm.Term.string "SpoonShort$Reader" (147 : Nat)))).before args s = true := an2 (an1 (an2 (an2 (an2 (an2 (an2 (an2 (an2 h))))))))
theorem nr_423 {args : Array Value} {s : State} (h : narrow_1.before args s = true) : (Jvm.Cond.not (Jvm.Cond.eq (Jvm.Term.string "SpoonShort$Reader" (143 : Nat)) (Jvm.Term.string "SpoonShort$Reader" (147 : Nat)))).before args s = true := an1 (an2 (an2 (an2 (an2 (an2 (an2 (an2 (an2 h))))))))
theorem nr_424 {args : Array Value} {s : State} (h : narrow_1.before args s = true) : (Jvm.Cond.not (Jvm.Cond.eq (Jvm.Term.string "SpoonShort$Reader" (145 : Nat)) (Jvm.Term.string "SpoonShort$Reader" (147 : Nat)))).before args s = true := an2 (an2 (an2 (an2 (an2 (an2 (an2 (an2 (an2 h))))))))
def skk : List Nat := [163, 164, 166, 168, 170, 172, 174, 176, 152, 177, 179, 181, 183, 185, 157, 159, 161, 137, 143, 145, 147]
def stm (i : Nat) : Term := .string "SpoonShort$Reader" (skk.getD i 0)
theorem st_ex {args : Array Value} {s : State} (h : narrow_1.before args s = true) : ∀ i : Nat, i < 21 → (Cond.exactly (stm i) "java/lang/String").before args s = true := by
  intro i hi
  rcases (show i = 0 ∨ i = 1 ∨ i = 2 ∨ i = 3 ∨ i = 4 ∨ i = 5 ∨ i = 6 ∨ i = 7 ∨ i = 8 ∨ i = 9 ∨ i = 10 ∨ i = 11 ∨ i = 12 ∨ i = 13 ∨ i = 14 ∨ i = 15 ∨ i = 16 ∨ i = 17 ∨ i = 18 ∨ i = 19 ∨ i = 20 by omega) with rfl | rfl | rfl | rfl | rfl | rfl | rfl | rfl | rfl | rfl | rfl | rfl | rfl | rfl | rfl | rfl | rfl | rfl | rfl | rfl | rfl
  · exact nr_35 h
  · exact nr_44 h
  · exact nr_55 h
  · exact nr_66 h
  · exact nr_80 h
  · exact nr_91 h
  · exact nr_106 h
  · exact nr_121 h
  · exact nr_135 h
  · exact nr_152 h
  · exact nr_169 h
  · exact nr_187 h
  · exact nr_207 h
  · exact nr_228 h
  · exact nr_249 h
  · exact nr_271 h
  · exact nr_294 h
  · exact nr_319 h
  · exact nr_344 h
  · exact nr_369 h
  · exact nr_396 h
theorem st_co {args : Array Value} {s : State} (h : narrow_1.before args s = true) : ∀ i : Nat, i < 21 → (Cond.eq (.field (stm i) "java/lang/String" "coder" "B") (.int 0)).before args s = true := by
  intro i hi
  rcases (show i = 0 ∨ i = 1 ∨ i = 2 ∨ i = 3 ∨ i = 4 ∨ i = 5 ∨ i = 6 ∨ i = 7 ∨ i = 8 ∨ i = 9 ∨ i = 10 ∨ i = 11 ∨ i = 12 ∨ i = 13 ∨ i = 14 ∨ i = 15 ∨ i = 16 ∨ i = 17 ∨ i = 18 ∨ i = 19 ∨ i = 20 by omega) with rfl | rfl | rfl | rfl | rfl | rfl | rfl | rfl | rfl | rfl | rfl | rfl | rfl | rfl | rfl | rfl | rfl | rfl | rfl | rfl | rfl
  · exact nr_36 h
  · exact nr_45 h
  · exact nr_56 h
  · exact nr_67 h
  · exact nr_81 h
  · exact nr_92 h
  · exact nr_107 h
  · exact nr_122 h
  · exact nr_136 h
  · exact nr_153 h
  · exact nr_170 h
  · exact nr_188 h
  · exact nr_208 h
  · exact nr_229 h
  · exact nr_250 h
  · exact nr_272 h
  · exact nr_295 h
  · exact nr_320 h
  · exact nr_345 h
  · exact nr_370 h
  · exact nr_397 h
theorem st_ar {args : Array Value} {s : State} (h : narrow_1.before args s = true) : ∀ i : Nat, i < 21 → (Cond.arrayOf (.field (stm i) "java/lang/String" "value" "[B") .byte).before args s = true := by
  intro i hi
  rcases (show i = 0 ∨ i = 1 ∨ i = 2 ∨ i = 3 ∨ i = 4 ∨ i = 5 ∨ i = 6 ∨ i = 7 ∨ i = 8 ∨ i = 9 ∨ i = 10 ∨ i = 11 ∨ i = 12 ∨ i = 13 ∨ i = 14 ∨ i = 15 ∨ i = 16 ∨ i = 17 ∨ i = 18 ∨ i = 19 ∨ i = 20 by omega) with rfl | rfl | rfl | rfl | rfl | rfl | rfl | rfl | rfl | rfl | rfl | rfl | rfl | rfl | rfl | rfl | rfl | rfl | rfl | rfl | rfl
  · exact nr_37 h
  · exact nr_46 h
  · exact nr_57 h
  · exact nr_68 h
  · exact nr_82 h
  · exact nr_93 h
  · exact nr_108 h
  · exact nr_123 h
  · exact nr_137 h
  · exact nr_154 h
  · exact nr_171 h
  · exact nr_189 h
  · exact nr_209 h
  · exact nr_230 h
  · exact nr_251 h
  · exact nr_273 h
  · exact nr_296 h
  · exact nr_321 h
  · exact nr_346 h
  · exact nr_371 h
  · exact nr_398 h
theorem st_le {args : Array Value} {s : State} (h : narrow_1.before args s = true) : ∀ i : Nat, i < 21 → (Cond.eq (.length (.field (stm i) "java/lang/String" "value" "[B")) (.int (Int32.ofNat (xslens.getD i 0)))).before args s = true := by
  intro i hi
  rcases (show i = 0 ∨ i = 1 ∨ i = 2 ∨ i = 3 ∨ i = 4 ∨ i = 5 ∨ i = 6 ∨ i = 7 ∨ i = 8 ∨ i = 9 ∨ i = 10 ∨ i = 11 ∨ i = 12 ∨ i = 13 ∨ i = 14 ∨ i = 15 ∨ i = 16 ∨ i = 17 ∨ i = 18 ∨ i = 19 ∨ i = 20 by omega) with rfl | rfl | rfl | rfl | rfl | rfl | rfl | rfl | rfl | rfl | rfl | rfl | rfl | rfl | rfl | rfl | rfl | rfl | rfl | rfl | rfl
  · exact nr_38 h
  · exact nr_47 h
  · exact nr_58 h
  · exact nr_69 h
  · exact nr_83 h
  · exact nr_94 h
  · exact nr_109 h
  · exact nr_124 h
  · exact nr_138 h
  · exact nr_155 h
  · exact nr_172 h
  · exact nr_190 h
  · exact nr_210 h
  · exact nr_231 h
  · exact nr_252 h
  · exact nr_274 h
  · exact nr_297 h
  · exact nr_322 h
  · exact nr_347 h
  · exact nr_372 h
  · exact nr_399 h
theorem st_el_0 {args : Array Value} {s : State} (h : narrow_1.before args s = true) : ∀ j : Nat, j < 5 → (Cond.eq (.elem (.field (stm 0) "java/lang/String" "value" "[B") (.int (Int32.ofNat j))) (.int ((xsbyts.getD 0 []).getD j 0))).before args s = true := by
  intro j hj
  rcases (show j = 0 ∨ j = 1 ∨ j = 2 ∨ j = 3 ∨ j = 4 by omega) with rfl | rfl | rfl | rfl | rfl
  · exact nr_39 h
  · exact nr_40 h
  · exact nr_41 h
  · exact nr_42 h
  · exact nr_43 h
theorem st_el_1 {args : Array Value} {s : State} (h : narrow_1.before args s = true) : ∀ j : Nat, j < 6 → (Cond.eq (.elem (.field (stm 1) "java/lang/String" "value" "[B") (.int (Int32.ofNat j))) (.int ((xsbyts.getD 1 []).getD j 0))).before args s = true := by
  intro j hj
  rcases (show j = 0 ∨ j = 1 ∨ j = 2 ∨ j = 3 ∨ j = 4 ∨ j = 5 by omega) with rfl | rfl | rfl | rfl | rfl | rfl
  · exact nr_48 h
  · exact nr_49 h
  · exact nr_50 h
  · exact nr_51 h
  · exact nr_52 h
  · exact nr_53 h
theorem st_el_2 {args : Array Value} {s : State} (h : narrow_1.before args s = true) : ∀ j : Nat, j < 5 → (Cond.eq (.elem (.field (stm 2) "java/lang/String" "value" "[B") (.int (Int32.ofNat j))) (.int ((xsbyts.getD 2 []).getD j 0))).before args s = true := by
  intro j hj
  rcases (show j = 0 ∨ j = 1 ∨ j = 2 ∨ j = 3 ∨ j = 4 by omega) with rfl | rfl | rfl | rfl | rfl
  · exact nr_59 h
  · exact nr_60 h
  · exact nr_61 h
  · exact nr_62 h
  · exact nr_63 h
theorem st_el_3 {args : Array Value} {s : State} (h : narrow_1.before args s = true) : ∀ j : Nat, j < 7 → (Cond.eq (.elem (.field (stm 3) "java/lang/String" "value" "[B") (.int (Int32.ofNat j))) (.int ((xsbyts.getD 3 []).getD j 0))).before args s = true := by
  intro j hj
  rcases (show j = 0 ∨ j = 1 ∨ j = 2 ∨ j = 3 ∨ j = 4 ∨ j = 5 ∨ j = 6 by omega) with rfl | rfl | rfl | rfl | rfl | rfl | rfl
  · exact nr_70 h
  · exact nr_71 h
  · exact nr_72 h
  · exact nr_73 h
  · exact nr_74 h
  · exact nr_75 h
  · exact nr_76 h
theorem st_el_4 {args : Array Value} {s : State} (h : narrow_1.before args s = true) : ∀ j : Nat, j < 3 → (Cond.eq (.elem (.field (stm 4) "java/lang/String" "value" "[B") (.int (Int32.ofNat j))) (.int ((xsbyts.getD 4 []).getD j 0))).before args s = true := by
  intro j hj
  rcases (show j = 0 ∨ j = 1 ∨ j = 2 by omega) with rfl | rfl | rfl
  · exact nr_84 h
  · exact nr_85 h
  · exact nr_86 h
theorem st_el_5 {args : Array Value} {s : State} (h : narrow_1.before args s = true) : ∀ j : Nat, j < 6 → (Cond.eq (.elem (.field (stm 5) "java/lang/String" "value" "[B") (.int (Int32.ofNat j))) (.int ((xsbyts.getD 5 []).getD j 0))).before args s = true := by
  intro j hj
  rcases (show j = 0 ∨ j = 1 ∨ j = 2 ∨ j = 3 ∨ j = 4 ∨ j = 5 by omega) with rfl | rfl | rfl | rfl | rfl | rfl
  · exact nr_95 h
  · exact nr_96 h
  · exact nr_97 h
  · exact nr_98 h
  · exact nr_99 h
  · exact nr_100 h
theorem st_el_6 {args : Array Value} {s : State} (h : narrow_1.before args s = true) : ∀ j : Nat, j < 5 → (Cond.eq (.elem (.field (stm 6) "java/lang/String" "value" "[B") (.int (Int32.ofNat j))) (.int ((xsbyts.getD 6 []).getD j 0))).before args s = true := by
  intro j hj
  rcases (show j = 0 ∨ j = 1 ∨ j = 2 ∨ j = 3 ∨ j = 4 by omega) with rfl | rfl | rfl | rfl | rfl
  · exact nr_110 h
  · exact nr_111 h
  · exact nr_112 h
  · exact nr_113 h
  · exact nr_114 h
theorem st_el_7 {args : Array Value} {s : State} (h : narrow_1.before args s = true) : ∀ j : Nat, j < 3 → (Cond.eq (.elem (.field (stm 7) "java/lang/String" "value" "[B") (.int (Int32.ofNat j))) (.int ((xsbyts.getD 7 []).getD j 0))).before args s = true := by
  intro j hj
  rcases (show j = 0 ∨ j = 1 ∨ j = 2 by omega) with rfl | rfl | rfl
  · exact nr_125 h
  · exact nr_126 h
  · exact nr_127 h
theorem st_el_8 {args : Array Value} {s : State} (h : narrow_1.before args s = true) : ∀ j : Nat, j < 5 → (Cond.eq (.elem (.field (stm 8) "java/lang/String" "value" "[B") (.int (Int32.ofNat j))) (.int ((xsbyts.getD 8 []).getD j 0))).before args s = true := by
  intro j hj
  rcases (show j = 0 ∨ j = 1 ∨ j = 2 ∨ j = 3 ∨ j = 4 by omega) with rfl | rfl | rfl | rfl | rfl
  · exact nr_139 h
  · exact nr_140 h
  · exact nr_141 h
  · exact nr_142 h
  · exact nr_143 h
theorem st_el_9 {args : Array Value} {s : State} (h : narrow_1.before args s = true) : ∀ j : Nat, j < 4 → (Cond.eq (.elem (.field (stm 9) "java/lang/String" "value" "[B") (.int (Int32.ofNat j))) (.int ((xsbyts.getD 9 []).getD j 0))).before args s = true := by
  intro j hj
  rcases (show j = 0 ∨ j = 1 ∨ j = 2 ∨ j = 3 by omega) with rfl | rfl | rfl | rfl
  · exact nr_156 h
  · exact nr_157 h
  · exact nr_158 h
  · exact nr_159 h
theorem st_el_10 {args : Array Value} {s : State} (h : narrow_1.before args s = true) : ∀ j : Nat, j < 4 → (Cond.eq (.elem (.field (stm 10) "java/lang/String" "value" "[B") (.int (Int32.ofNat j))) (.int ((xsbyts.getD 10 []).getD j 0))).before args s = true := by
  intro j hj
  rcases (show j = 0 ∨ j = 1 ∨ j = 2 ∨ j = 3 by omega) with rfl | rfl | rfl | rfl
  · exact nr_173 h
  · exact nr_174 h
  · exact nr_175 h
  · exact nr_176 h
theorem st_el_11 {args : Array Value} {s : State} (h : narrow_1.before args s = true) : ∀ j : Nat, j < 5 → (Cond.eq (.elem (.field (stm 11) "java/lang/String" "value" "[B") (.int (Int32.ofNat j))) (.int ((xsbyts.getD 11 []).getD j 0))).before args s = true := by
  intro j hj
  rcases (show j = 0 ∨ j = 1 ∨ j = 2 ∨ j = 3 ∨ j = 4 by omega) with rfl | rfl | rfl | rfl | rfl
  · exact nr_191 h
  · exact nr_192 h
  · exact nr_193 h
  · exact nr_194 h
  · exact nr_195 h
theorem st_el_12 {args : Array Value} {s : State} (h : narrow_1.before args s = true) : ∀ j : Nat, j < 5 → (Cond.eq (.elem (.field (stm 12) "java/lang/String" "value" "[B") (.int (Int32.ofNat j))) (.int ((xsbyts.getD 12 []).getD j 0))).before args s = true := by
  intro j hj
  rcases (show j = 0 ∨ j = 1 ∨ j = 2 ∨ j = 3 ∨ j = 4 by omega) with rfl | rfl | rfl | rfl | rfl
  · exact nr_211 h
  · exact nr_212 h
  · exact nr_213 h
  · exact nr_214 h
  · exact nr_215 h
theorem st_el_13 {args : Array Value} {s : State} (h : narrow_1.before args s = true) : ∀ j : Nat, j < 4 → (Cond.eq (.elem (.field (stm 13) "java/lang/String" "value" "[B") (.int (Int32.ofNat j))) (.int ((xsbyts.getD 13 []).getD j 0))).before args s = true := by
  intro j hj
  rcases (show j = 0 ∨ j = 1 ∨ j = 2 ∨ j = 3 by omega) with rfl | rfl | rfl | rfl
  · exact nr_232 h
  · exact nr_233 h
  · exact nr_234 h
  · exact nr_235 h
theorem st_el_14 {args : Array Value} {s : State} (h : narrow_1.before args s = true) : ∀ j : Nat, j < 4 → (Cond.eq (.elem (.field (stm 14) "java/lang/String" "value" "[B") (.int (Int32.ofNat j))) (.int ((xsbyts.getD 14 []).getD j 0))).before args s = true := by
  intro j hj
  rcases (show j = 0 ∨ j = 1 ∨ j = 2 ∨ j = 3 by omega) with rfl | rfl | rfl | rfl
  · exact nr_253 h
  · exact nr_254 h
  · exact nr_255 h
  · exact nr_256 h
theorem st_el_15 {args : Array Value} {s : State} (h : narrow_1.before args s = true) : ∀ j : Nat, j < 4 → (Cond.eq (.elem (.field (stm 15) "java/lang/String" "value" "[B") (.int (Int32.ofNat j))) (.int ((xsbyts.getD 15 []).getD j 0))).before args s = true := by
  intro j hj
  rcases (show j = 0 ∨ j = 1 ∨ j = 2 ∨ j = 3 by omega) with rfl | rfl | rfl | rfl
  · exact nr_275 h
  · exact nr_276 h
  · exact nr_277 h
  · exact nr_278 h
theorem st_el_16 {args : Array Value} {s : State} (h : narrow_1.before args s = true) : ∀ j : Nat, j < 5 → (Cond.eq (.elem (.field (stm 16) "java/lang/String" "value" "[B") (.int (Int32.ofNat j))) (.int ((xsbyts.getD 16 []).getD j 0))).before args s = true := by
  intro j hj
  rcases (show j = 0 ∨ j = 1 ∨ j = 2 ∨ j = 3 ∨ j = 4 by omega) with rfl | rfl | rfl | rfl | rfl
  · exact nr_298 h
  · exact nr_299 h
  · exact nr_300 h
  · exact nr_301 h
  · exact nr_302 h
theorem st_el_17 {args : Array Value} {s : State} (h : narrow_1.before args s = true) : ∀ j : Nat, j < 4 → (Cond.eq (.elem (.field (stm 17) "java/lang/String" "value" "[B") (.int (Int32.ofNat j))) (.int ((xsbyts.getD 17 []).getD j 0))).before args s = true := by
  intro j hj
  rcases (show j = 0 ∨ j = 1 ∨ j = 2 ∨ j = 3 by omega) with rfl | rfl | rfl | rfl
  · exact nr_323 h
  · exact nr_324 h
  · exact nr_325 h
  · exact nr_326 h
theorem st_el_18 {args : Array Value} {s : State} (h : narrow_1.before args s = true) : ∀ j : Nat, j < 3 → (Cond.eq (.elem (.field (stm 18) "java/lang/String" "value" "[B") (.int (Int32.ofNat j))) (.int ((xsbyts.getD 18 []).getD j 0))).before args s = true := by
  intro j hj
  rcases (show j = 0 ∨ j = 1 ∨ j = 2 by omega) with rfl | rfl | rfl
  · exact nr_348 h
  · exact nr_349 h
  · exact nr_350 h
theorem st_el_19 {args : Array Value} {s : State} (h : narrow_1.before args s = true) : ∀ j : Nat, j < 4 → (Cond.eq (.elem (.field (stm 19) "java/lang/String" "value" "[B") (.int (Int32.ofNat j))) (.int ((xsbyts.getD 19 []).getD j 0))).before args s = true := by
  intro j hj
  rcases (show j = 0 ∨ j = 1 ∨ j = 2 ∨ j = 3 by omega) with rfl | rfl | rfl | rfl
  · exact nr_373 h
  · exact nr_374 h
  · exact nr_375 h
  · exact nr_376 h
theorem st_el_20 {args : Array Value} {s : State} (h : narrow_1.before args s = true) : ∀ j : Nat, j < 5 → (Cond.eq (.elem (.field (stm 20) "java/lang/String" "value" "[B") (.int (Int32.ofNat j))) (.int ((xsbyts.getD 20 []).getD j 0))).before args s = true := by
  intro j hj
  rcases (show j = 0 ∨ j = 1 ∨ j = 2 ∨ j = 3 ∨ j = 4 by omega) with rfl | rfl | rfl | rfl | rfl
  · exact nr_400 h
  · exact nr_401 h
  · exact nr_402 h
  · exact nr_403 h
  · exact nr_404 h
theorem st_el {args : Array Value} {s : State} (h : narrow_1.before args s = true) : ∀ i : Nat, i < 21 → ∀ j : Nat, j < xslens.getD i 0 → (Cond.eq (.elem (.field (stm i) "java/lang/String" "value" "[B") (.int (Int32.ofNat j))) (.int ((xsbyts.getD i []).getD j 0))).before args s = true := by
  intro i hi
  rcases (show i = 0 ∨ i = 1 ∨ i = 2 ∨ i = 3 ∨ i = 4 ∨ i = 5 ∨ i = 6 ∨ i = 7 ∨ i = 8 ∨ i = 9 ∨ i = 10 ∨ i = 11 ∨ i = 12 ∨ i = 13 ∨ i = 14 ∨ i = 15 ∨ i = 16 ∨ i = 17 ∨ i = 18 ∨ i = 19 ∨ i = 20 by omega) with rfl | rfl | rfl | rfl | rfl | rfl | rfl | rfl | rfl | rfl | rfl | rfl | rfl | rfl | rfl | rfl | rfl | rfl | rfl | rfl | rfl
  · exact st_el_0 h
  · exact st_el_1 h
  · exact st_el_2 h
  · exact st_el_3 h
  · exact st_el_4 h
  · exact st_el_5 h
  · exact st_el_6 h
  · exact st_el_7 h
  · exact st_el_8 h
  · exact st_el_9 h
  · exact st_el_10 h
  · exact st_el_11 h
  · exact st_el_12 h
  · exact st_el_13 h
  · exact st_el_14 h
  · exact st_el_15 h
  · exact st_el_16 h
  · exact st_el_17 h
  · exact st_el_18 h
  · exact st_el_19 h
  · exact st_el_20 h
theorem st_ne_0 {args : Array Value} {s : State} (h : narrow_1.before args s = true) : ∀ j : Nat, j < 21 → 0 ≠ j → (Cond.not (Cond.eq (stm 0) (stm j))).before args s = true ∨ (Cond.not (Cond.eq (stm j) (stm 0))).before args s = true := by
  intro j hj hne
  rcases (show j = 0 ∨ j = 1 ∨ j = 2 ∨ j = 3 ∨ j = 4 ∨ j = 5 ∨ j = 6 ∨ j = 7 ∨ j = 8 ∨ j = 9 ∨ j = 10 ∨ j = 11 ∨ j = 12 ∨ j = 13 ∨ j = 14 ∨ j = 15 ∨ j = 16 ∨ j = 17 ∨ j = 18 ∨ j = 19 ∨ j = 20 by omega) with rfl | rfl | rfl | rfl | rfl | rfl | rfl | rfl | rfl | rfl | rfl | rfl | rfl | rfl | rfl | rfl | rfl | rfl | rfl | rfl | rfl
  · exact absurd rfl hne
  · exact Or.inl (nr_54 h)
  · exact Or.inl (nr_64 h)
  · exact Or.inl (nr_77 h)
  · exact Or.inl (nr_87 h)
  · exact Or.inl (nr_101 h)
  · exact Or.inl (nr_115 h)
  · exact Or.inl (nr_128 h)
  · exact Or.inl (nr_144 h)
  · exact Or.inl (nr_160 h)
  · exact Or.inl (nr_177 h)
  · exact Or.inl (nr_196 h)
  · exact Or.inl (nr_216 h)
  · exact Or.inl (nr_236 h)
  · exact Or.inl (nr_257 h)
  · exact Or.inl (nr_279 h)
  · exact Or.inl (nr_303 h)
  · exact Or.inl (nr_327 h)
  · exact Or.inl (nr_351 h)
  · exact Or.inl (nr_377 h)
  · exact Or.inl (nr_405 h)
theorem st_ne_1 {args : Array Value} {s : State} (h : narrow_1.before args s = true) : ∀ j : Nat, j < 21 → 1 ≠ j → (Cond.not (Cond.eq (stm 1) (stm j))).before args s = true ∨ (Cond.not (Cond.eq (stm j) (stm 1))).before args s = true := by
  intro j hj hne
  rcases (show j = 0 ∨ j = 1 ∨ j = 2 ∨ j = 3 ∨ j = 4 ∨ j = 5 ∨ j = 6 ∨ j = 7 ∨ j = 8 ∨ j = 9 ∨ j = 10 ∨ j = 11 ∨ j = 12 ∨ j = 13 ∨ j = 14 ∨ j = 15 ∨ j = 16 ∨ j = 17 ∨ j = 18 ∨ j = 19 ∨ j = 20 by omega) with rfl | rfl | rfl | rfl | rfl | rfl | rfl | rfl | rfl | rfl | rfl | rfl | rfl | rfl | rfl | rfl | rfl | rfl | rfl | rfl | rfl
  · exact Or.inr (nr_54 h)
  · exact absurd rfl hne
  · exact Or.inl (nr_65 h)
  · exact Or.inl (nr_78 h)
  · exact Or.inl (nr_88 h)
  · exact Or.inl (nr_102 h)
  · exact Or.inl (nr_116 h)
  · exact Or.inl (nr_129 h)
  · exact Or.inl (nr_145 h)
  · exact Or.inl (nr_161 h)
  · exact Or.inl (nr_178 h)
  · exact Or.inl (nr_197 h)
  · exact Or.inl (nr_217 h)
  · exact Or.inl (nr_237 h)
  · exact Or.inl (nr_258 h)
  · exact Or.inl (nr_280 h)
  · exact Or.inl (nr_304 h)
  · exact Or.inl (nr_328 h)
  · exact Or.inl (nr_352 h)
  · exact Or.inl (nr_378 h)
  · exact Or.inl (nr_406 h)
theorem st_ne_2 {args : Array Value} {s : State} (h : narrow_1.before args s = true) : ∀ j : Nat, j < 21 → 2 ≠ j → (Cond.not (Cond.eq (stm 2) (stm j))).before args s = true ∨ (Cond.not (Cond.eq (stm j) (stm 2))).before args s = true := by
  intro j hj hne
  rcases (show j = 0 ∨ j = 1 ∨ j = 2 ∨ j = 3 ∨ j = 4 ∨ j = 5 ∨ j = 6 ∨ j = 7 ∨ j = 8 ∨ j = 9 ∨ j = 10 ∨ j = 11 ∨ j = 12 ∨ j = 13 ∨ j = 14 ∨ j = 15 ∨ j = 16 ∨ j = 17 ∨ j = 18 ∨ j = 19 ∨ j = 20 by omega) with rfl | rfl | rfl | rfl | rfl | rfl | rfl | rfl | rfl | rfl | rfl | rfl | rfl | rfl | rfl | rfl | rfl | rfl | rfl | rfl | rfl
  · exact Or.inr (nr_64 h)
  · exact Or.inr (nr_65 h)
  · exact absurd rfl hne
  · exact Or.inl (nr_79 h)
  · exact Or.inl (nr_89 h)
  · exact Or.inl (nr_103 h)
  · exact Or.inl (nr_117 h)
  · exact Or.inl (nr_130 h)
  · exact Or.inl (nr_146 h)
  · exact Or.inl (nr_162 h)
  · exact Or.inl (nr_179 h)
  · exact Or.inl (nr_198 h)
  · exact Or.inl (nr_218 h)
  · exact Or.inl (nr_238 h)
  · exact Or.inl (nr_259 h)
  · exact Or.inl (nr_281 h)
  · exact Or.inl (nr_305 h)
  · exact Or.inl (nr_329 h)
  · exact Or.inl (nr_353 h)
  · exact Or.inl (nr_379 h)
  · exact Or.inl (nr_407 h)
theorem st_ne_3 {args : Array Value} {s : State} (h : narrow_1.before args s = true) : ∀ j : Nat, j < 21 → 3 ≠ j → (Cond.not (Cond.eq (stm 3) (stm j))).before args s = true ∨ (Cond.not (Cond.eq (stm j) (stm 3))).before args s = true := by
  intro j hj hne
  rcases (show j = 0 ∨ j = 1 ∨ j = 2 ∨ j = 3 ∨ j = 4 ∨ j = 5 ∨ j = 6 ∨ j = 7 ∨ j = 8 ∨ j = 9 ∨ j = 10 ∨ j = 11 ∨ j = 12 ∨ j = 13 ∨ j = 14 ∨ j = 15 ∨ j = 16 ∨ j = 17 ∨ j = 18 ∨ j = 19 ∨ j = 20 by omega) with rfl | rfl | rfl | rfl | rfl | rfl | rfl | rfl | rfl | rfl | rfl | rfl | rfl | rfl | rfl | rfl | rfl | rfl | rfl | rfl | rfl
  · exact Or.inr (nr_77 h)
  · exact Or.inr (nr_78 h)
  · exact Or.inr (nr_79 h)
  · exact absurd rfl hne
  · exact Or.inl (nr_90 h)
  · exact Or.inl (nr_104 h)
  · exact Or.inl (nr_118 h)
  · exact Or.inl (nr_131 h)
  · exact Or.inl (nr_147 h)
  · exact Or.inl (nr_163 h)
  · exact Or.inl (nr_180 h)
  · exact Or.inl (nr_199 h)
  · exact Or.inl (nr_219 h)
  · exact Or.inl (nr_239 h)
  · exact Or.inl (nr_260 h)
  · exact Or.inl (nr_282 h)
  · exact Or.inl (nr_306 h)
  · exact Or.inl (nr_330 h)
  · exact Or.inl (nr_354 h)
  · exact Or.inl (nr_380 h)
  · exact Or.inl (nr_408 h)
theorem st_ne_4 {args : Array Value} {s : State} (h : narrow_1.before args s = true) : ∀ j : Nat, j < 21 → 4 ≠ j → (Cond.not (Cond.eq (stm 4) (stm j))).before args s = true ∨ (Cond.not (Cond.eq (stm j) (stm 4))).before args s = true := by
  intro j hj hne
  rcases (show j = 0 ∨ j = 1 ∨ j = 2 ∨ j = 3 ∨ j = 4 ∨ j = 5 ∨ j = 6 ∨ j = 7 ∨ j = 8 ∨ j = 9 ∨ j = 10 ∨ j = 11 ∨ j = 12 ∨ j = 13 ∨ j = 14 ∨ j = 15 ∨ j = 16 ∨ j = 17 ∨ j = 18 ∨ j = 19 ∨ j = 20 by omega) with rfl | rfl | rfl | rfl | rfl | rfl | rfl | rfl | rfl | rfl | rfl | rfl | rfl | rfl | rfl | rfl | rfl | rfl | rfl | rfl | rfl
  · exact Or.inr (nr_87 h)
  · exact Or.inr (nr_88 h)
  · exact Or.inr (nr_89 h)
  · exact Or.inr (nr_90 h)
  · exact absurd rfl hne
  · exact Or.inl (nr_105 h)
  · exact Or.inl (nr_119 h)
  · exact Or.inl (nr_132 h)
  · exact Or.inl (nr_148 h)
  · exact Or.inl (nr_164 h)
  · exact Or.inl (nr_181 h)
  · exact Or.inl (nr_200 h)
  · exact Or.inl (nr_220 h)
  · exact Or.inl (nr_240 h)
  · exact Or.inl (nr_261 h)
  · exact Or.inl (nr_283 h)
  · exact Or.inl (nr_307 h)
  · exact Or.inl (nr_331 h)
  · exact Or.inl (nr_355 h)
  · exact Or.inl (nr_381 h)
  · exact Or.inl (nr_409 h)
theorem st_ne_5 {args : Array Value} {s : State} (h : narrow_1.before args s = true) : ∀ j : Nat, j < 21 → 5 ≠ j → (Cond.not (Cond.eq (stm 5) (stm j))).before args s = true ∨ (Cond.not (Cond.eq (stm j) (stm 5))).before args s = true := by
  intro j hj hne
  rcases (show j = 0 ∨ j = 1 ∨ j = 2 ∨ j = 3 ∨ j = 4 ∨ j = 5 ∨ j = 6 ∨ j = 7 ∨ j = 8 ∨ j = 9 ∨ j = 10 ∨ j = 11 ∨ j = 12 ∨ j = 13 ∨ j = 14 ∨ j = 15 ∨ j = 16 ∨ j = 17 ∨ j = 18 ∨ j = 19 ∨ j = 20 by omega) with rfl | rfl | rfl | rfl | rfl | rfl | rfl | rfl | rfl | rfl | rfl | rfl | rfl | rfl | rfl | rfl | rfl | rfl | rfl | rfl | rfl
  · exact Or.inr (nr_101 h)
  · exact Or.inr (nr_102 h)
  · exact Or.inr (nr_103 h)
  · exact Or.inr (nr_104 h)
  · exact Or.inr (nr_105 h)
  · exact absurd rfl hne
  · exact Or.inl (nr_120 h)
  · exact Or.inl (nr_133 h)
  · exact Or.inl (nr_149 h)
  · exact Or.inl (nr_165 h)
  · exact Or.inl (nr_182 h)
  · exact Or.inl (nr_201 h)
  · exact Or.inl (nr_221 h)
  · exact Or.inl (nr_241 h)
  · exact Or.inl (nr_262 h)
  · exact Or.inl (nr_284 h)
  · exact Or.inl (nr_308 h)
  · exact Or.inl (nr_332 h)
  · exact Or.inl (nr_356 h)
  · exact Or.inl (nr_382 h)
  · exact Or.inl (nr_410 h)
theorem st_ne_6 {args : Array Value} {s : State} (h : narrow_1.before args s = true) : ∀ j : Nat, j < 21 → 6 ≠ j → (Cond.not (Cond.eq (stm 6) (stm j))).before args s = true ∨ (Cond.not (Cond.eq (stm j) (stm 6))).before args s = true := by
  intro j hj hne
  rcases (show j = 0 ∨ j = 1 ∨ j = 2 ∨ j = 3 ∨ j = 4 ∨ j = 5 ∨ j = 6 ∨ j = 7 ∨ j = 8 ∨ j = 9 ∨ j = 10 ∨ j = 11 ∨ j = 12 ∨ j = 13 ∨ j = 14 ∨ j = 15 ∨ j = 16 ∨ j = 17 ∨ j = 18 ∨ j = 19 ∨ j = 20 by omega) with rfl | rfl | rfl | rfl | rfl | rfl | rfl | rfl | rfl | rfl | rfl | rfl | rfl | rfl | rfl | rfl | rfl | rfl | rfl | rfl | rfl
  · exact Or.inr (nr_115 h)
  · exact Or.inr (nr_116 h)
  · exact Or.inr (nr_117 h)
  · exact Or.inr (nr_118 h)
  · exact Or.inr (nr_119 h)
  · exact Or.inr (nr_120 h)
  · exact absurd rfl hne
  · exact Or.inl (nr_134 h)
  · exact Or.inl (nr_150 h)
  · exact Or.inl (nr_166 h)
  · exact Or.inl (nr_183 h)
  · exact Or.inl (nr_202 h)
  · exact Or.inl (nr_222 h)
  · exact Or.inl (nr_242 h)
  · exact Or.inl (nr_263 h)
  · exact Or.inl (nr_285 h)
  · exact Or.inl (nr_309 h)
  · exact Or.inl (nr_333 h)
  · exact Or.inl (nr_357 h)
  · exact Or.inl (nr_383 h)
  · exact Or.inl (nr_411 h)
theorem st_ne_7 {args : Array Value} {s : State} (h : narrow_1.before args s = true) : ∀ j : Nat, j < 21 → 7 ≠ j → (Cond.not (Cond.eq (stm 7) (stm j))).before args s = true ∨ (Cond.not (Cond.eq (stm j) (stm 7))).before args s = true := by
  intro j hj hne
  rcases (show j = 0 ∨ j = 1 ∨ j = 2 ∨ j = 3 ∨ j = 4 ∨ j = 5 ∨ j = 6 ∨ j = 7 ∨ j = 8 ∨ j = 9 ∨ j = 10 ∨ j = 11 ∨ j = 12 ∨ j = 13 ∨ j = 14 ∨ j = 15 ∨ j = 16 ∨ j = 17 ∨ j = 18 ∨ j = 19 ∨ j = 20 by omega) with rfl | rfl | rfl | rfl | rfl | rfl | rfl | rfl | rfl | rfl | rfl | rfl | rfl | rfl | rfl | rfl | rfl | rfl | rfl | rfl | rfl
  · exact Or.inr (nr_128 h)
  · exact Or.inr (nr_129 h)
  · exact Or.inr (nr_130 h)
  · exact Or.inr (nr_131 h)
  · exact Or.inr (nr_132 h)
  · exact Or.inr (nr_133 h)
  · exact Or.inr (nr_134 h)
  · exact absurd rfl hne
  · exact Or.inl (nr_151 h)
  · exact Or.inl (nr_167 h)
  · exact Or.inl (nr_184 h)
  · exact Or.inl (nr_203 h)
  · exact Or.inl (nr_223 h)
  · exact Or.inl (nr_243 h)
  · exact Or.inl (nr_264 h)
  · exact Or.inl (nr_286 h)
  · exact Or.inl (nr_310 h)
  · exact Or.inl (nr_334 h)
  · exact Or.inl (nr_358 h)
  · exact Or.inl (nr_384 h)
  · exact Or.inl (nr_412 h)
theorem st_ne_8 {args : Array Value} {s : State} (h : narrow_1.before args s = true) : ∀ j : Nat, j < 21 → 8 ≠ j → (Cond.not (Cond.eq (stm 8) (stm j))).before args s = true ∨ (Cond.not (Cond.eq (stm j) (stm 8))).before args s = true := by
  intro j hj hne
  rcases (show j = 0 ∨ j = 1 ∨ j = 2 ∨ j = 3 ∨ j = 4 ∨ j = 5 ∨ j = 6 ∨ j = 7 ∨ j = 8 ∨ j = 9 ∨ j = 10 ∨ j = 11 ∨ j = 12 ∨ j = 13 ∨ j = 14 ∨ j = 15 ∨ j = 16 ∨ j = 17 ∨ j = 18 ∨ j = 19 ∨ j = 20 by omega) with rfl | rfl | rfl | rfl | rfl | rfl | rfl | rfl | rfl | rfl | rfl | rfl | rfl | rfl | rfl | rfl | rfl | rfl | rfl | rfl | rfl
  · exact Or.inr (nr_144 h)
  · exact Or.inr (nr_145 h)
  · exact Or.inr (nr_146 h)
  · exact Or.inr (nr_147 h)
  · exact Or.inr (nr_148 h)
  · exact Or.inr (nr_149 h)
  · exact Or.inr (nr_150 h)
  · exact Or.inr (nr_151 h)
  · exact absurd rfl hne
  · exact Or.inl (nr_168 h)
  · exact Or.inl (nr_185 h)
  · exact Or.inl (nr_204 h)
  · exact Or.inl (nr_224 h)
  · exact Or.inl (nr_244 h)
  · exact Or.inl (nr_265 h)
  · exact Or.inl (nr_287 h)
  · exact Or.inl (nr_311 h)
  · exact Or.inl (nr_335 h)
  · exact Or.inl (nr_359 h)
  · exact Or.inl (nr_385 h)
  · exact Or.inl (nr_413 h)
theorem st_ne_9 {args : Array Value} {s : State} (h : narrow_1.before args s = true) : ∀ j : Nat, j < 21 → 9 ≠ j → (Cond.not (Cond.eq (stm 9) (stm j))).before args s = true ∨ (Cond.not (Cond.eq (stm j) (stm 9))).before args s = true := by
  intro j hj hne
  rcases (show j = 0 ∨ j = 1 ∨ j = 2 ∨ j = 3 ∨ j = 4 ∨ j = 5 ∨ j = 6 ∨ j = 7 ∨ j = 8 ∨ j = 9 ∨ j = 10 ∨ j = 11 ∨ j = 12 ∨ j = 13 ∨ j = 14 ∨ j = 15 ∨ j = 16 ∨ j = 17 ∨ j = 18 ∨ j = 19 ∨ j = 20 by omega) with rfl | rfl | rfl | rfl | rfl | rfl | rfl | rfl | rfl | rfl | rfl | rfl | rfl | rfl | rfl | rfl | rfl | rfl | rfl | rfl | rfl
  · exact Or.inr (nr_160 h)
  · exact Or.inr (nr_161 h)
  · exact Or.inr (nr_162 h)
  · exact Or.inr (nr_163 h)
  · exact Or.inr (nr_164 h)
  · exact Or.inr (nr_165 h)
  · exact Or.inr (nr_166 h)
  · exact Or.inr (nr_167 h)
  · exact Or.inr (nr_168 h)
  · exact absurd rfl hne
  · exact Or.inl (nr_186 h)
  · exact Or.inl (nr_205 h)
  · exact Or.inl (nr_225 h)
  · exact Or.inl (nr_245 h)
  · exact Or.inl (nr_266 h)
  · exact Or.inl (nr_288 h)
  · exact Or.inl (nr_312 h)
  · exact Or.inl (nr_336 h)
  · exact Or.inl (nr_360 h)
  · exact Or.inl (nr_386 h)
  · exact Or.inl (nr_414 h)
theorem st_ne_10 {args : Array Value} {s : State} (h : narrow_1.before args s = true) : ∀ j : Nat, j < 21 → 10 ≠ j → (Cond.not (Cond.eq (stm 10) (stm j))).before args s = true ∨ (Cond.not (Cond.eq (stm j) (stm 10))).before args s = true := by
  intro j hj hne
  rcases (show j = 0 ∨ j = 1 ∨ j = 2 ∨ j = 3 ∨ j = 4 ∨ j = 5 ∨ j = 6 ∨ j = 7 ∨ j = 8 ∨ j = 9 ∨ j = 10 ∨ j = 11 ∨ j = 12 ∨ j = 13 ∨ j = 14 ∨ j = 15 ∨ j = 16 ∨ j = 17 ∨ j = 18 ∨ j = 19 ∨ j = 20 by omega) with rfl | rfl | rfl | rfl | rfl | rfl | rfl | rfl | rfl | rfl | rfl | rfl | rfl | rfl | rfl | rfl | rfl | rfl | rfl | rfl | rfl
  · exact Or.inr (nr_177 h)
  · exact Or.inr (nr_178 h)
  · exact Or.inr (nr_179 h)
  · exact Or.inr (nr_180 h)
  · exact Or.inr (nr_181 h)
  · exact Or.inr (nr_182 h)
  · exact Or.inr (nr_183 h)
  · exact Or.inr (nr_184 h)
  · exact Or.inr (nr_185 h)
  · exact Or.inr (nr_186 h)
  · exact absurd rfl hne
  · exact Or.inl (nr_206 h)
  · exact Or.inl (nr_226 h)
  · exact Or.inl (nr_246 h)
  · exact Or.inl (nr_267 h)
  · exact Or.inl (nr_289 h)
  · exact Or.inl (nr_313 h)
  · exact Or.inl (nr_337 h)
  · exact Or.inl (nr_361 h)
  · exact Or.inl (nr_387 h)
  · exact Or.inl (nr_415 h)
theorem st_ne_11 {args : Array Value} {s : State} (h : narrow_1.before args s = true) : ∀ j : Nat, j < 21 → 11 ≠ j → (Cond.not (Cond.eq (stm 11) (stm j))).before args s = true ∨ (Cond.not (Cond.eq (stm j) (stm 11))).before args s = true := by
  intro j hj hne
  rcases (show j = 0 ∨ j = 1 ∨ j = 2 ∨ j = 3 ∨ j = 4 ∨ j = 5 ∨ j = 6 ∨ j = 7 ∨ j = 8 ∨ j = 9 ∨ j = 10 ∨ j = 11 ∨ j = 12 ∨ j = 13 ∨ j = 14 ∨ j = 15 ∨ j = 16 ∨ j = 17 ∨ j = 18 ∨ j = 19 ∨ j = 20 by omega) with rfl | rfl | rfl | rfl | rfl | rfl | rfl | rfl | rfl | rfl | rfl | rfl | rfl | rfl | rfl | rfl | rfl | rfl | rfl | rfl | rfl
  · exact Or.inr (nr_196 h)
  · exact Or.inr (nr_197 h)
  · exact Or.inr (nr_198 h)
  · exact Or.inr (nr_199 h)
  · exact Or.inr (nr_200 h)
  · exact Or.inr (nr_201 h)
  · exact Or.inr (nr_202 h)
  · exact Or.inr (nr_203 h)
  · exact Or.inr (nr_204 h)
  · exact Or.inr (nr_205 h)
  · exact Or.inr (nr_206 h)
  · exact absurd rfl hne
  · exact Or.inl (nr_227 h)
  · exact Or.inl (nr_247 h)
  · exact Or.inl (nr_268 h)
  · exact Or.inl (nr_290 h)
  · exact Or.inl (nr_314 h)
  · exact Or.inl (nr_338 h)
  · exact Or.inl (nr_362 h)
  · exact Or.inl (nr_388 h)
  · exact Or.inl (nr_416 h)
theorem st_ne_12 {args : Array Value} {s : State} (h : narrow_1.before args s = true) : ∀ j : Nat, j < 21 → 12 ≠ j → (Cond.not (Cond.eq (stm 12) (stm j))).before args s = true ∨ (Cond.not (Cond.eq (stm j) (stm 12))).before args s = true := by
  intro j hj hne
  rcases (show j = 0 ∨ j = 1 ∨ j = 2 ∨ j = 3 ∨ j = 4 ∨ j = 5 ∨ j = 6 ∨ j = 7 ∨ j = 8 ∨ j = 9 ∨ j = 10 ∨ j = 11 ∨ j = 12 ∨ j = 13 ∨ j = 14 ∨ j = 15 ∨ j = 16 ∨ j = 17 ∨ j = 18 ∨ j = 19 ∨ j = 20 by omega) with rfl | rfl | rfl | rfl | rfl | rfl | rfl | rfl | rfl | rfl | rfl | rfl | rfl | rfl | rfl | rfl | rfl | rfl | rfl | rfl | rfl
  · exact Or.inr (nr_216 h)
  · exact Or.inr (nr_217 h)
  · exact Or.inr (nr_218 h)
  · exact Or.inr (nr_219 h)
  · exact Or.inr (nr_220 h)
  · exact Or.inr (nr_221 h)
  · exact Or.inr (nr_222 h)
  · exact Or.inr (nr_223 h)
  · exact Or.inr (nr_224 h)
  · exact Or.inr (nr_225 h)
  · exact Or.inr (nr_226 h)
  · exact Or.inr (nr_227 h)
  · exact absurd rfl hne
  · exact Or.inl (nr_248 h)
  · exact Or.inl (nr_269 h)
  · exact Or.inl (nr_291 h)
  · exact Or.inl (nr_315 h)
  · exact Or.inl (nr_339 h)
  · exact Or.inl (nr_363 h)
  · exact Or.inl (nr_389 h)
  · exact Or.inl (nr_417 h)
theorem st_ne_13 {args : Array Value} {s : State} (h : narrow_1.before args s = true) : ∀ j : Nat, j < 21 → 13 ≠ j → (Cond.not (Cond.eq (stm 13) (stm j))).before args s = true ∨ (Cond.not (Cond.eq (stm j) (stm 13))).before args s = true := by
  intro j hj hne
  rcases (show j = 0 ∨ j = 1 ∨ j = 2 ∨ j = 3 ∨ j = 4 ∨ j = 5 ∨ j = 6 ∨ j = 7 ∨ j = 8 ∨ j = 9 ∨ j = 10 ∨ j = 11 ∨ j = 12 ∨ j = 13 ∨ j = 14 ∨ j = 15 ∨ j = 16 ∨ j = 17 ∨ j = 18 ∨ j = 19 ∨ j = 20 by omega) with rfl | rfl | rfl | rfl | rfl | rfl | rfl | rfl | rfl | rfl | rfl | rfl | rfl | rfl | rfl | rfl | rfl | rfl | rfl | rfl | rfl
  · exact Or.inr (nr_236 h)
  · exact Or.inr (nr_237 h)
  · exact Or.inr (nr_238 h)
  · exact Or.inr (nr_239 h)
  · exact Or.inr (nr_240 h)
  · exact Or.inr (nr_241 h)
  · exact Or.inr (nr_242 h)
  · exact Or.inr (nr_243 h)
  · exact Or.inr (nr_244 h)
  · exact Or.inr (nr_245 h)
  · exact Or.inr (nr_246 h)
  · exact Or.inr (nr_247 h)
  · exact Or.inr (nr_248 h)
  · exact absurd rfl hne
  · exact Or.inl (nr_270 h)
  · exact Or.inl (nr_292 h)
  · exact Or.inl (nr_316 h)
  · exact Or.inl (nr_340 h)
  · exact Or.inl (nr_364 h)
  · exact Or.inl (nr_390 h)
  · exact Or.inl (nr_418 h)
theorem st_ne_14 {args : Array Value} {s : State} (h : narrow_1.before args s = true) : ∀ j : Nat, j < 21 → 14 ≠ j → (Cond.not (Cond.eq (stm 14) (stm j))).before args s = true ∨ (Cond.not (Cond.eq (stm j) (stm 14))).before args s = true := by
  intro j hj hne
  rcases (show j = 0 ∨ j = 1 ∨ j = 2 ∨ j = 3 ∨ j = 4 ∨ j = 5 ∨ j = 6 ∨ j = 7 ∨ j = 8 ∨ j = 9 ∨ j = 10 ∨ j = 11 ∨ j = 12 ∨ j = 13 ∨ j = 14 ∨ j = 15 ∨ j = 16 ∨ j = 17 ∨ j = 18 ∨ j = 19 ∨ j = 20 by omega) with rfl | rfl | rfl | rfl | rfl | rfl | rfl | rfl | rfl | rfl | rfl | rfl | rfl | rfl | rfl | rfl | rfl | rfl | rfl | rfl | rfl
  · exact Or.inr (nr_257 h)
  · exact Or.inr (nr_258 h)
  · exact Or.inr (nr_259 h)
  · exact Or.inr (nr_260 h)
  · exact Or.inr (nr_261 h)
  · exact Or.inr (nr_262 h)
  · exact Or.inr (nr_263 h)
  · exact Or.inr (nr_264 h)
  · exact Or.inr (nr_265 h)
  · exact Or.inr (nr_266 h)
  · exact Or.inr (nr_267 h)
  · exact Or.inr (nr_268 h)
  · exact Or.inr (nr_269 h)
  · exact Or.inr (nr_270 h)
  · exact absurd rfl hne
  · exact Or.inl (nr_293 h)
  · exact Or.inl (nr_317 h)
  · exact Or.inl (nr_341 h)
  · exact Or.inl (nr_365 h)
  · exact Or.inl (nr_391 h)
  · exact Or.inl (nr_419 h)
theorem st_ne_15 {args : Array Value} {s : State} (h : narrow_1.before args s = true) : ∀ j : Nat, j < 21 → 15 ≠ j → (Cond.not (Cond.eq (stm 15) (stm j))).before args s = true ∨ (Cond.not (Cond.eq (stm j) (stm 15))).before args s = true := by
  intro j hj hne
  rcases (show j = 0 ∨ j = 1 ∨ j = 2 ∨ j = 3 ∨ j = 4 ∨ j = 5 ∨ j = 6 ∨ j = 7 ∨ j = 8 ∨ j = 9 ∨ j = 10 ∨ j = 11 ∨ j = 12 ∨ j = 13 ∨ j = 14 ∨ j = 15 ∨ j = 16 ∨ j = 17 ∨ j = 18 ∨ j = 19 ∨ j = 20 by omega) with rfl | rfl | rfl | rfl | rfl | rfl | rfl | rfl | rfl | rfl | rfl | rfl | rfl | rfl | rfl | rfl | rfl | rfl | rfl | rfl | rfl
  · exact Or.inr (nr_279 h)
  · exact Or.inr (nr_280 h)
  · exact Or.inr (nr_281 h)
  · exact Or.inr (nr_282 h)
  · exact Or.inr (nr_283 h)
  · exact Or.inr (nr_284 h)
  · exact Or.inr (nr_285 h)
  · exact Or.inr (nr_286 h)
  · exact Or.inr (nr_287 h)
  · exact Or.inr (nr_288 h)
  · exact Or.inr (nr_289 h)
  · exact Or.inr (nr_290 h)
  · exact Or.inr (nr_291 h)
  · exact Or.inr (nr_292 h)
  · exact Or.inr (nr_293 h)
  · exact absurd rfl hne
  · exact Or.inl (nr_318 h)
  · exact Or.inl (nr_342 h)
  · exact Or.inl (nr_366 h)
  · exact Or.inl (nr_392 h)
  · exact Or.inl (nr_420 h)
theorem st_ne_16 {args : Array Value} {s : State} (h : narrow_1.before args s = true) : ∀ j : Nat, j < 21 → 16 ≠ j → (Cond.not (Cond.eq (stm 16) (stm j))).before args s = true ∨ (Cond.not (Cond.eq (stm j) (stm 16))).before args s = true := by
  intro j hj hne
  rcases (show j = 0 ∨ j = 1 ∨ j = 2 ∨ j = 3 ∨ j = 4 ∨ j = 5 ∨ j = 6 ∨ j = 7 ∨ j = 8 ∨ j = 9 ∨ j = 10 ∨ j = 11 ∨ j = 12 ∨ j = 13 ∨ j = 14 ∨ j = 15 ∨ j = 16 ∨ j = 17 ∨ j = 18 ∨ j = 19 ∨ j = 20 by omega) with rfl | rfl | rfl | rfl | rfl | rfl | rfl | rfl | rfl | rfl | rfl | rfl | rfl | rfl | rfl | rfl | rfl | rfl | rfl | rfl | rfl
  · exact Or.inr (nr_303 h)
  · exact Or.inr (nr_304 h)
  · exact Or.inr (nr_305 h)
  · exact Or.inr (nr_306 h)
  · exact Or.inr (nr_307 h)
  · exact Or.inr (nr_308 h)
  · exact Or.inr (nr_309 h)
  · exact Or.inr (nr_310 h)
  · exact Or.inr (nr_311 h)
  · exact Or.inr (nr_312 h)
  · exact Or.inr (nr_313 h)
  · exact Or.inr (nr_314 h)
  · exact Or.inr (nr_315 h)
  · exact Or.inr (nr_316 h)
  · exact Or.inr (nr_317 h)
  · exact Or.inr (nr_318 h)
  · exact absurd rfl hne
  · exact Or.inl (nr_343 h)
  · exact Or.inl (nr_367 h)
  · exact Or.inl (nr_393 h)
  · exact Or.inl (nr_421 h)
theorem st_ne_17 {args : Array Value} {s : State} (h : narrow_1.before args s = true) : ∀ j : Nat, j < 21 → 17 ≠ j → (Cond.not (Cond.eq (stm 17) (stm j))).before args s = true ∨ (Cond.not (Cond.eq (stm j) (stm 17))).before args s = true := by
  intro j hj hne
  rcases (show j = 0 ∨ j = 1 ∨ j = 2 ∨ j = 3 ∨ j = 4 ∨ j = 5 ∨ j = 6 ∨ j = 7 ∨ j = 8 ∨ j = 9 ∨ j = 10 ∨ j = 11 ∨ j = 12 ∨ j = 13 ∨ j = 14 ∨ j = 15 ∨ j = 16 ∨ j = 17 ∨ j = 18 ∨ j = 19 ∨ j = 20 by omega) with rfl | rfl | rfl | rfl | rfl | rfl | rfl | rfl | rfl | rfl | rfl | rfl | rfl | rfl | rfl | rfl | rfl | rfl | rfl | rfl | rfl
  · exact Or.inr (nr_327 h)
  · exact Or.inr (nr_328 h)
  · exact Or.inr (nr_329 h)
  · exact Or.inr (nr_330 h)
  · exact Or.inr (nr_331 h)
  · exact Or.inr (nr_332 h)
  · exact Or.inr (nr_333 h)
  · exact Or.inr (nr_334 h)
  · exact Or.inr (nr_335 h)
  · exact Or.inr (nr_336 h)
  · exact Or.inr (nr_337 h)
  · exact Or.inr (nr_338 h)
  · exact Or.inr (nr_339 h)
  · exact Or.inr (nr_340 h)
  · exact Or.inr (nr_341 h)
  · exact Or.inr (nr_342 h)
  · exact Or.inr (nr_343 h)
  · exact absurd rfl hne
  · exact Or.inl (nr_368 h)
  · exact Or.inl (nr_394 h)
  · exact Or.inl (nr_422 h)
theorem st_ne_18 {args : Array Value} {s : State} (h : narrow_1.before args s = true) : ∀ j : Nat, j < 21 → 18 ≠ j → (Cond.not (Cond.eq (stm 18) (stm j))).before args s = true ∨ (Cond.not (Cond.eq (stm j) (stm 18))).before args s = true := by
  intro j hj hne
  rcases (show j = 0 ∨ j = 1 ∨ j = 2 ∨ j = 3 ∨ j = 4 ∨ j = 5 ∨ j = 6 ∨ j = 7 ∨ j = 8 ∨ j = 9 ∨ j = 10 ∨ j = 11 ∨ j = 12 ∨ j = 13 ∨ j = 14 ∨ j = 15 ∨ j = 16 ∨ j = 17 ∨ j = 18 ∨ j = 19 ∨ j = 20 by omega) with rfl | rfl | rfl | rfl | rfl | rfl | rfl | rfl | rfl | rfl | rfl | rfl | rfl | rfl | rfl | rfl | rfl | rfl | rfl | rfl | rfl
  · exact Or.inr (nr_351 h)
  · exact Or.inr (nr_352 h)
  · exact Or.inr (nr_353 h)
  · exact Or.inr (nr_354 h)
  · exact Or.inr (nr_355 h)
  · exact Or.inr (nr_356 h)
  · exact Or.inr (nr_357 h)
  · exact Or.inr (nr_358 h)
  · exact Or.inr (nr_359 h)
  · exact Or.inr (nr_360 h)
  · exact Or.inr (nr_361 h)
  · exact Or.inr (nr_362 h)
  · exact Or.inr (nr_363 h)
  · exact Or.inr (nr_364 h)
  · exact Or.inr (nr_365 h)
  · exact Or.inr (nr_366 h)
  · exact Or.inr (nr_367 h)
  · exact Or.inr (nr_368 h)
  · exact absurd rfl hne
  · exact Or.inl (nr_395 h)
  · exact Or.inl (nr_423 h)
theorem st_ne_19 {args : Array Value} {s : State} (h : narrow_1.before args s = true) : ∀ j : Nat, j < 21 → 19 ≠ j → (Cond.not (Cond.eq (stm 19) (stm j))).before args s = true ∨ (Cond.not (Cond.eq (stm j) (stm 19))).before args s = true := by
  intro j hj hne
  rcases (show j = 0 ∨ j = 1 ∨ j = 2 ∨ j = 3 ∨ j = 4 ∨ j = 5 ∨ j = 6 ∨ j = 7 ∨ j = 8 ∨ j = 9 ∨ j = 10 ∨ j = 11 ∨ j = 12 ∨ j = 13 ∨ j = 14 ∨ j = 15 ∨ j = 16 ∨ j = 17 ∨ j = 18 ∨ j = 19 ∨ j = 20 by omega) with rfl | rfl | rfl | rfl | rfl | rfl | rfl | rfl | rfl | rfl | rfl | rfl | rfl | rfl | rfl | rfl | rfl | rfl | rfl | rfl | rfl
  · exact Or.inr (nr_377 h)
  · exact Or.inr (nr_378 h)
  · exact Or.inr (nr_379 h)
  · exact Or.inr (nr_380 h)
  · exact Or.inr (nr_381 h)
  · exact Or.inr (nr_382 h)
  · exact Or.inr (nr_383 h)
  · exact Or.inr (nr_384 h)
  · exact Or.inr (nr_385 h)
  · exact Or.inr (nr_386 h)
  · exact Or.inr (nr_387 h)
  · exact Or.inr (nr_388 h)
  · exact Or.inr (nr_389 h)
  · exact Or.inr (nr_390 h)
  · exact Or.inr (nr_391 h)
  · exact Or.inr (nr_392 h)
  · exact Or.inr (nr_393 h)
  · exact Or.inr (nr_394 h)
  · exact Or.inr (nr_395 h)
  · exact absurd rfl hne
  · exact Or.inl (nr_424 h)
theorem st_ne_20 {args : Array Value} {s : State} (h : narrow_1.before args s = true) : ∀ j : Nat, j < 21 → 20 ≠ j → (Cond.not (Cond.eq (stm 20) (stm j))).before args s = true ∨ (Cond.not (Cond.eq (stm j) (stm 20))).before args s = true := by
  intro j hj hne
  rcases (show j = 0 ∨ j = 1 ∨ j = 2 ∨ j = 3 ∨ j = 4 ∨ j = 5 ∨ j = 6 ∨ j = 7 ∨ j = 8 ∨ j = 9 ∨ j = 10 ∨ j = 11 ∨ j = 12 ∨ j = 13 ∨ j = 14 ∨ j = 15 ∨ j = 16 ∨ j = 17 ∨ j = 18 ∨ j = 19 ∨ j = 20 by omega) with rfl | rfl | rfl | rfl | rfl | rfl | rfl | rfl | rfl | rfl | rfl | rfl | rfl | rfl | rfl | rfl | rfl | rfl | rfl | rfl | rfl
  · exact Or.inr (nr_405 h)
  · exact Or.inr (nr_406 h)
  · exact Or.inr (nr_407 h)
  · exact Or.inr (nr_408 h)
  · exact Or.inr (nr_409 h)
  · exact Or.inr (nr_410 h)
  · exact Or.inr (nr_411 h)
  · exact Or.inr (nr_412 h)
  · exact Or.inr (nr_413 h)
  · exact Or.inr (nr_414 h)
  · exact Or.inr (nr_415 h)
  · exact Or.inr (nr_416 h)
  · exact Or.inr (nr_417 h)
  · exact Or.inr (nr_418 h)
  · exact Or.inr (nr_419 h)
  · exact Or.inr (nr_420 h)
  · exact Or.inr (nr_421 h)
  · exact Or.inr (nr_422 h)
  · exact Or.inr (nr_423 h)
  · exact Or.inr (nr_424 h)
  · exact absurd rfl hne
theorem st_ne {args : Array Value} {s : State} (h : narrow_1.before args s = true) : ∀ i : Nat, i < 21 → ∀ j : Nat, j < 21 → i ≠ j → (Cond.not (Cond.eq (stm i) (stm j))).before args s = true ∨ (Cond.not (Cond.eq (stm j) (stm i))).before args s = true := by
  intro i hi
  rcases (show i = 0 ∨ i = 1 ∨ i = 2 ∨ i = 3 ∨ i = 4 ∨ i = 5 ∨ i = 6 ∨ i = 7 ∨ i = 8 ∨ i = 9 ∨ i = 10 ∨ i = 11 ∨ i = 12 ∨ i = 13 ∨ i = 14 ∨ i = 15 ∨ i = 16 ∨ i = 17 ∨ i = 18 ∨ i = 19 ∨ i = 20 by omega) with rfl | rfl | rfl | rfl | rfl | rfl | rfl | rfl | rfl | rfl | rfl | rfl | rfl | rfl | rfl | rfl | rfl | rfl | rfl | rfl | rfl
  · exact st_ne_0 h
  · exact st_ne_1 h
  · exact st_ne_2 h
  · exact st_ne_3 h
  · exact st_ne_4 h
  · exact st_ne_5 h
  · exact st_ne_6 h
  · exact st_ne_7 h
  · exact st_ne_8 h
  · exact st_ne_9 h
  · exact st_ne_10 h
  · exact st_ne_11 h
  · exact st_ne_12 h
  · exact st_ne_13 h
  · exact st_ne_14 h
  · exact st_ne_15 h
  · exact st_ne_16 h
  · exact st_ne_17 h
  · exact st_ne_18 h
  · exact st_ne_19 h
  · exact st_ne_20 h
theorem st_ref : ∀ q ∈ xsl, (Cond.stringRef "SpoonShort$Reader" q.1 q.2.1) ∈ lw_tbl ∧ q.2.2 < 21 ∧ skk.getD q.2.2 0 = q.1 := by
  intro q hq
  unfold xsl at hq
  simp only [List.mem_cons, List.not_mem_nil, or_false] at hq
  rcases hq with rfl | rfl | rfl | rfl | rfl | rfl | rfl | rfl | rfl | rfl | rfl | rfl | rfl | rfl | rfl | rfl | rfl | rfl | rfl | rfl | rfl
  · exact ⟨(wd_578), by decide, rfl⟩
  · exact ⟨(wd_631), by decide, rfl⟩
  · exact ⟨(wd_632), by decide, rfl⟩
  · exact ⟨(wd_633), by decide, rfl⟩
  · exact ⟨(wd_634), by decide, rfl⟩
  · exact ⟨(wd_635), by decide, rfl⟩
  · exact ⟨(wd_636), by decide, rfl⟩
  · exact ⟨(wd_637), by decide, rfl⟩
  · exact ⟨(wd_638), by decide, rfl⟩
  · exact ⟨(wd_643), by decide, rfl⟩
  · exact ⟨(wd_644), by decide, rfl⟩
  · exact ⟨(wd_645), by decide, rfl⟩
  · exact ⟨(wd_646), by decide, rfl⟩
  · exact ⟨(wd_647), by decide, rfl⟩
  · exact ⟨(wd_648), by decide, rfl⟩
  · exact ⟨(wd_649), by decide, rfl⟩
  · exact ⟨(wd_650), by decide, rfl⟩
  · exact ⟨(wd_679), by decide, rfl⟩
  · exact ⟨(wd_680), by decide, rfl⟩
  · exact ⟨(wd_681), by decide, rfl⟩
  · exact ⟨(wd_682), by decide, rfl⟩
