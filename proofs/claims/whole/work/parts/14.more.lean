/-! Rows that were wanting. -/
theorem x_i2c {d : Nat} {m : xM} {pc : Nat} {L : List (Nat × Value)} {st : List Value} {G E : xG} {D : xD} {Q : Option Value → xD → Prop} {x : Int32} (he : m.2.2.2.2.lookup pc = some (.i2c, 1)) (k : xP d m (pc + 1) L (.int (x.toUInt32 % 65536).toInt32 :: st) G D E Q) : xP d m pc L (.int x :: st) G D E Q := by
  intro κ p l e R s mid args below meth c G0 C ls H locs hl hP hS h0 h1
  exact lv_i2c C.1 C.2.1 (C.2.2.2.2.2.2.2.2.2.2.2.2.2.2.1.dec he) rfl (k κ p l e R s mid args below meth c G0 C ls H locs hl hP hS h0 h1)
