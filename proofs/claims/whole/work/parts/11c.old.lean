/-! Rows over the old cells (tables, String constants, static fields), casts, class objects, natives, arrays of Object: each from the machine's own row. -/
theorem am_r_old (g : am_G) (k : Nat) : am_r g (am_M + k) = g.2.1 k := by
  unfold am_r
  rw [if_neg (Nat.not_lt.mpr (Nat.le_add_right _ _)), Nat.add_sub_cancel_left]
theorem am_cat_v (g : am_G) (st : List Value) : ((st.map (am_v (am_r g))).map fun v => v.category).sum = am_cat st := by
  rw [List.map_map]
  have : ((fun v : Value => v.category) ∘ am_v (am_r g)) = fun v => v.category := funext fun v => am_v_cat _ v
  rw [this]; rfl
section AO
variable {P : am_P} {sc : am_Sc} {F L mc ms j : Nat} {Q : Option Value → am_H → Prop} {pc pc' : Nat} {lo : am_Lo} {st : List Value} {h : am_H} {k n : Nat} {d0 : am_Hd}
theorem ao_iald (hd0 : P.2 j = some d0) (hdg : decode d0.2.1 pc = .ok (.iaload, 1)) {t o N jx : Nat} {f : Nat → Value} {i : Int32} {v : Int32} (ht : am_oT[t]? = some (.int, o, N, f)) (hx : am_ix i N = some jx) (hv : f jx = .int v) (hp : pc + 1 = pc') (kk : am_S P sc F L mc ms j (pc', lo, .int v :: st, h, k, n) Q) : am_S P sc F L mc ms j (pc, lo, .int i :: .ref (am_M + o) :: st, h, k, n) Q := by
  subst hp
  intro d hd p l e R s m args below meth c g Z hC hK h1 h2 h3 h4 hZ H locs ls hW hLo
  obtain rfl : d0 = d := Option.some.inj (hd0.symm.trans hd)
  have kk := kk d0 hd p l e R s m args below meth c g Z hC hK h1 h2 h3 h4 hZ H locs ls hW hLo
  obtain ⟨hxe, hb, -⟩ := hC
  obtain ⟨hin, rfl⟩ := am_ix_eq hx
  obtain ⟨cell, q1, q2, q3, q4, q5, q6, q7⟩ := (hK.2.2.2.2.2.2.2.1 t _ ht).kept hW.2.2.2.2.1
  have hlt : i.toNatClampNeg < N := Nat.not_le.mp fun q => hin (Or.inr q)
  have hin' : ¬ (i < 0 ∨ cell.slots.size ≤ i.toNatClampNeg) := by
    intro q
    rcases q with q | q
    · exact hin (Or.inl q)
    · dsimp only at q4; omega
  show W p l e R s m args below meth c H locs k n Z (F0 m pc ls (.int i :: .ref (am_r g (am_M + o)) :: st.map (am_v (am_r g))))
  rw [am_r_old]
  exact W.iald (v := .int v) hxe hb q1 q2 q3 hin' (by rw [q6 _ hlt]; exact congrArg some hv) rfl rfl hdg kk
theorem ao_alen (hd0 : P.2 j = some d0) (hdg : decode d0.2.1 pc = .ok (.arraylength, 1)) {t o N : Nat} {ty : FieldType} {f : Nat → Value} {w : Int32} (ht : am_oT[t]? = some (ty, o, N, f)) (hw : Int32.ofNat N = w) (hp : pc + 1 = pc') (kk : am_S P sc F L mc ms j (pc', lo, .int w :: st, h, k, n) Q) : am_S P sc F L mc ms j (pc, lo, .ref (am_M + o) :: st, h, k, n) Q := by
  subst hp; subst hw
  intro d hd p l e R s m args below meth c g Z hC hK h1 h2 h3 h4 hZ H locs ls hW hLo
  obtain rfl : d0 = d := Option.some.inj (hd0.symm.trans hd)
  have kk := kk d0 hd p l e R s m args below meth c g Z hC hK h1 h2 h3 h4 hZ H locs ls hW hLo
  obtain ⟨hxe, hb, -⟩ := hC
  obtain ⟨cell, q1, q2, q3, q4, q5, q6, q7⟩ := (hK.2.2.2.2.2.2.2.1 t _ ht).kept hW.2.2.2.2.1
  show W p l e R s m args below meth c H locs k n Z (F0 m pc ls (.ref (am_r g (am_M + o)) :: st.map (am_v (am_r g))))
  rw [am_r_old]
  exact W.alen (n := Int32.ofNat N) hxe hb q1 q2 q5 rfl rfl hdg kk
/-- a byte of a String constant -/
theorem ao_bald (hd0 : P.2 j = some d0) (hdg : decode d0.2.1 pc = .ok (.baload, 1)) {t jx : Nat} {q : String × Nat × String × List Int32} {i : Int32} {v : Int32} (ht : am_strs[t]? = some q) (hx : am_ix i q.2.2.2.length = some jx) (hv : q.2.2.2.getD jx 0 = v) (hp : pc + 1 = pc') (kk : am_S P sc F L mc ms j (pc', lo, .int v :: st, h, k, n) Q) : am_S P sc F L mc ms j (pc, lo, .int i :: .ref (am_M + (40 + t)) :: st, h, k, n) Q := by
  subst hp; subst hv
  intro d hd p l e R s m args below meth c g Z hC hK h1 h2 h3 h4 hZ H locs ls hW hLo
  obtain rfl : d0 = d := Option.some.inj (hd0.symm.trans hd)
  have kk := kk d0 hd p l e R s m args below meth c g Z hC hK h1 h2 h3 h4 hZ H locs ls hW hLo
  obtain ⟨hxe, hb, -⟩ := hC
  obtain ⟨hin, rfl⟩ := am_ix_eq hx
  obtain ⟨cell, q1, q2, q3, q4, q5, q6, q7⟩ := (hK.2.2.2.2.2.2.2.2.2.1 t _ ht).2.2.2.2.kept hW.2.2.2.2.1
  have hlt : i.toNatClampNeg < q.2.2.2.length := Nat.not_le.mp fun z => hin (Or.inr z)
  have hin' : ¬ (i < 0 ∨ cell.slots.size ≤ i.toNatClampNeg) := by
    intro z
    rcases z with z | z
    · exact hin (Or.inl z)
    · omega
  show W p l e R s m args below meth c H locs k n Z (F0 m pc ls (.int i :: .ref (am_r g (am_M + (40 + t))) :: st.map (am_v (am_r g))))
  rw [am_r_old]
  exact W.bald (v := .int (q.2.2.2.getD i.toNatClampNeg 0)) hxe hb q1 q2 q3 hin' (q6 _ hlt) rfl rfl hdg kk
theorem ao_slen (hd0 : P.2 j = some d0) (hdg : decode d0.2.1 pc = .ok (.arraylength, 1)) {t : Nat} {q : String × Nat × String × List Int32} {w : Int32} (ht : am_strs[t]? = some q) (hw : Int32.ofNat q.2.2.2.length = w) (hp : pc + 1 = pc') (kk : am_S P sc F L mc ms j (pc', lo, .int w :: st, h, k, n) Q) : am_S P sc F L mc ms j (pc, lo, .ref (am_M + (40 + t)) :: st, h, k, n) Q := by
  subst hp; subst hw
  intro d hd p l e R s m args below meth c g Z hC hK h1 h2 h3 h4 hZ H locs ls hW hLo
  obtain rfl : d0 = d := Option.some.inj (hd0.symm.trans hd)
  have kk := kk d0 hd p l e R s m args below meth c g Z hC hK h1 h2 h3 h4 hZ H locs ls hW hLo
  obtain ⟨hxe, hb, -⟩ := hC
  obtain ⟨cell, q1, q2, q3, q4, q5, q6, q7⟩ := (hK.2.2.2.2.2.2.2.2.2.1 t _ ht).2.2.2.2.kept hW.2.2.2.2.1
  show W p l e R s m args below meth c H locs k n Z (F0 m pc ls (.ref (am_r g (am_M + (40 + t))) :: st.map (am_v (am_r g))))
  rw [am_r_old]
  exact W.alen (n := Int32.ofNat q.2.2.2.length) hxe hb q1 q2 q5 rfl rfl hdg kk
/-- a String constant -/
theorem ao_ldcS (hd0 : P.2 j = some d0) {x t : Nat} {tx : String} {bs : List Int32} (hdg : decode d0.2.1 pc = .ok (.ldc x, 2)) (ht : am_strs[t]? = some (d0.1.cls, x, tx, bs)) (hp : pc + 2 = pc') (kk : am_S P sc F L mc ms j (pc', lo, .ref (am_M + (10 + t)) :: st, h, k, n) Q) : am_S P sc F L mc ms j (pc, lo, st, h, k, n) Q := by
  subst hp
  intro d hd p l e R s m args below meth c g Z hC hK h1 h2 h3 h4 hZ H locs ls hW hLo
  obtain rfl : d0 = d := Option.some.inj (hd0.symm.trans hd)
  have kk := kk d0 hd p l e R s m args below meth c g Z hC hK h1 h2 h3 h4 hZ H locs ls hW hLo
  obtain ⟨hxe, hb, -, hown, -⟩ := hC
  have kk2 : W p l e R s m args below meth c H locs k n Z (F0 m (pc + 2) ls (.ref (am_r g (am_M + (10 + t))) :: st.map (am_v (am_r g)))) := kk
  rw [am_r_old] at kk2
  exact va_ldcS hxe hb hown (hK.2.2.2.2.2.2.2.2.2.1 t _ ht).1 hdg kk2
theorem ao_ldcwS (hd0 : P.2 j = some d0) {x t : Nat} {tx : String} {bs : List Int32} (hdg : decode d0.2.1 pc = .ok (.ldc_w x, 3)) (ht : am_strs[t]? = some (d0.1.cls, x, tx, bs)) (hp : pc + 3 = pc') (kk : am_S P sc F L mc ms j (pc', lo, .ref (am_M + (10 + t)) :: st, h, k, n) Q) : am_S P sc F L mc ms j (pc, lo, st, h, k, n) Q := by
  subst hp
  intro d hd p l e R s m args below meth c g Z hC hK h1 h2 h3 h4 hZ H locs ls hW hLo
  obtain rfl : d0 = d := Option.some.inj (hd0.symm.trans hd)
  have kk := kk d0 hd p l e R s m args below meth c g Z hC hK h1 h2 h3 h4 hZ H locs ls hW hLo
  obtain ⟨hxe, hb, -, hown, -⟩ := hC
  have kk2 : W p l e R s m args below meth c H locs k n Z (F0 m (pc + 3) ls (.ref (am_r g (am_M + (10 + t))) :: st.map (am_v (am_r g)))) := kk
  rw [am_r_old] at kk2
  have hv := (hK.2.2.2.2.2.2.2.2.2.1 t _ ht).1
  intro T hT X
  obtain ⟨u, a1, b1⟩ := kk2 T hT X
  refine ⟨u, ?_, b1⟩
  obtain ⟨kc, cf, i, a', hk, hcf, hcp, -, hr, hev'⟩ := Cond.stringRef_spec hown hv.1
  cases hv.2.symm.trans hev'
  obtain ⟨k', hk', he⟩ := X.warmed.alike.2.2 _ _ hk
  have hr' : k'.resolved[x]? = some (some (.string (g.2.1 (10 + t)))) := by
    rcases X.warmed.entry hk hk' x with h | ⟨h, -⟩
    · rw [h]; exact hr
    · rw [hr] at h; cases h
  jvm_step X.here [hxe, hb, hdg, ldc_w.wp_string (e := e) (s := T) (f := F0 m pc ls (st.map (am_v (am_r g)))) X.here.top hk' (by rw [he]; exact hcf) hcp hr']
  exact a1
/-- a String's bytes, and its coder -/
theorem ao_getv (hd0 : P.2 j = some d0) {x t a : Nat} {q : String × Nat × String × List Int32} (hdg : decode d0.2.1 pc = .ok (.getfield x, 3)) (hl : am_wd a (.fieldLink d0.1.cls x "java/lang/String" "value" "[B") = true) (ht : am_strs[t]? = some q) (hp : pc + 3 = pc') (kk : am_S P sc F L mc ms j (pc', lo, .ref (am_M + (40 + t)) :: st, h, k, n) Q) : am_S P sc F L mc ms j (pc, lo, .ref (am_M + (10 + t)) :: st, h, k, n) Q := by
  subst hp
  intro d hd p l e R s m args below meth c g Z hC hK h1 h2 h3 h4 hZ H locs ls hW hLo
  obtain rfl : d0 = d := Option.some.inj (hd0.symm.trans hd)
  have kk := kk d0 hd p l e R s m args below meth c g Z hC hK h1 h2 h3 h4 hZ H locs ls hW hLo
  obtain ⟨hxe, hb, -, hown, hts, -⟩ := hC
  have kk2 : W p l e R s m args below meth c H locs k n Z (F0 m (pc + 3) ls (.ref (am_r g (am_M + (40 + t))) :: st.map (am_v (am_r g)))) := kk
  rw [am_r_old] at kk2
  obtain ⟨cf, kc, fi, f, cell, q1, q2, q3, q4, q5, q6⟩ := (hK.2.2.2.2.2.2.2.2.2.1 t _ ht).2.2.2.1.kept hW.2.2.2.2.1
  show W p l e R s m args below meth c H locs k n Z (F0 m pc ls (.ref (am_r g (am_M + (10 + t))) :: st.map (am_v (am_r g))))
  rw [am_r_old]
  exact W.getf hxe hb hown (hts _ (am_wd_in hl)) q1 q2 q3 q4 q5 rfl rfl hdg kk2
theorem ao_getc (hd0 : P.2 j = some d0) {x t a : Nat} {q : String × Nat × String × List Int32} (hdg : decode d0.2.1 pc = .ok (.getfield x, 3)) (hl : am_wd a (.fieldLink d0.1.cls x "java/lang/String" "coder" "B") = true) (ht : am_strs[t]? = some q) (hp : pc + 3 = pc') (kk : am_S P sc F L mc ms j (pc', lo, .int 0 :: st, h, k, n) Q) : am_S P sc F L mc ms j (pc, lo, .ref (am_M + (10 + t)) :: st, h, k, n) Q := by
  subst hp
  intro d hd p l e R s m args below meth c g Z hC hK h1 h2 h3 h4 hZ H locs ls hW hLo
  obtain rfl : d0 = d := Option.some.inj (hd0.symm.trans hd)
  have kk := kk d0 hd p l e R s m args below meth c g Z hC hK h1 h2 h3 h4 hZ H locs ls hW hLo
  obtain ⟨hxe, hb, -, hown, hts, -⟩ := hC
  obtain ⟨cf, kc, fi, f, cell, q1, q2, q3, q4, q5, q6⟩ := (hK.2.2.2.2.2.2.2.2.2.1 t _ ht).2.2.1.kept hW.2.2.2.2.1
  show W p l e R s m args below meth c H locs k n Z (F0 m pc ls (.ref (am_r g (am_M + (10 + t))) :: st.map (am_v (am_r g))))
  rw [am_r_old]
  exact W.getf hxe hb hown (hts _ (am_wd_in hl)) q1 q2 q3 q4 q5 rfl rfl hdg kk
/-- the two static fields of the JDK that are read on the way -/
theorem ao_cmp (hd0 : P.2 j = some d0) {x a : Nat} (hdg : decode d0.2.1 pc = .ok (.getstatic x, 3)) (hl : am_wd a (.fieldLink d0.1.cls x "java/lang/String" "COMPACT_STRINGS" "Z") = true) (hp : pc + 3 = pc') (kk : am_S P sc F L mc ms j (pc', lo, .int 1 :: st, h, k, n) Q) : am_S P sc F L mc ms j (pc, lo, st, h, k, n) Q := by
  subst hp
  intro d hd p l e R s m args below meth c g Z hC hK h1 h2 h3 h4 hZ H locs ls hW hLo
  obtain rfl : d0 = d := Option.some.inj (hd0.symm.trans hd)
  have kk := kk d0 hd p l e R s m args below meth c g Z hC hK h1 h2 h3 h4 hZ H locs ls hW hLo
  obtain ⟨hxe, hb, -, hown, hts, -⟩ := hC
  obtain ⟨cf, kf, fi, f, ad, cell, z1, z2, z3, z4, z5, z6, z7, z8⟩ := hK.2.2.2.2.2.2.2.2.1.1.kept hW.2.2.2.2.1
  exact W.gets hxe hb hown (hts _ (am_wd_in hl)) z1 z2 z3 z4 z5 (fun e => by rw [e] at z6; cases z6) z7 rfl hdg kk
theorem ao_sio (hd0 : P.2 j = some d0) {x a : Nat} (hdg : decode d0.2.1 pc = .ok (.getstatic x, 3)) (hl : am_wd a (.fieldLink d0.1.cls x "jdk/internal/util/Preconditions" "SIOOBE_FORMATTER" "Ljava/util/function/BiFunction;") = true) (hp : pc + 3 = pc') (kn : am_S P sc F L mc ms j (pc', lo, .null :: st, h, k, n) Q) (kk : am_S P sc F L mc ms j (pc', lo, .ref (am_M + 4) :: st, h, k, n) Q) : am_S P sc F L mc ms j (pc, lo, st, h, k, n) Q := by
  subst hp
  intro d hd p l e R s m args below meth c g Z hC hK h1 h2 h3 h4 hZ H locs ls hW hLo
  obtain rfl : d0 = d := Option.some.inj (hd0.symm.trans hd)
  have kn := kn d0 hd p l e R s m args below meth c g Z hC hK h1 h2 h3 h4 hZ H locs ls hW hLo
  have kk := kk d0 hd p l e R s m args below meth c g Z hC hK h1 h2 h3 h4 hZ H locs ls hW hLo
  obtain ⟨hxe, hb, -, hown, hts, -⟩ := hC
  have kk2 : W p l e R s m args below meth c H locs k n Z (F0 m (pc + 3) ls (.ref (am_r g (am_M + 4)) :: st.map (am_v (am_r g)))) := kk
  rw [am_r_old] at kk2
  rcases hK.2.2.2.2.2.2.2.2.1.2 with hz | hz
  · obtain ⟨cf, kf, fi, f, ad, cell, z1, z2, z3, z4, z5, z6, z7, z8⟩ := hz.kept hW.2.2.2.2.1
    exact W.gets hxe hb hown (hts _ (am_wd_in hl)) z1 z2 z3 z4 z5 (fun e => by rw [e] at z6; cases z6) z7 rfl hdg kn
  · obtain ⟨cf, kf, fi, f, ad, cell, z1, z2, z3, z4, z5, z6, z7, z8⟩ := hz.kept hW.2.2.2.2.1
    exact W.gets hxe hb hown (hts _ (am_wd_in hl)) z1 z2 z3 z4 z5 (fun e => by rw [e] at z6; cases z6) z7 rfl hdg kk2
/-- two references that are the same -/
theorem ao_acne (hd0 : P.2 j = some d0) {off : Int} {v : Nat} (hdg : decode d0.2.1 pc = .ok (.if_acmp .ne off, 3)) (ht : 0 ≤ (pc : Int) + off) (hp : pc + 3 = pc') (kk : am_S P sc F L mc ms j (pc', lo, st, h, k, n) Q) : am_S P sc F L mc ms j (pc, lo, .ref v :: .ref v :: st, h, k, n) Q := by
  subst hp
  intro d hd p l e R s m args below meth c g Z hC hK h1 h2 h3 h4 hZ H locs ls hW hLo
  obtain rfl : d0 = d := Option.some.inj (hd0.symm.trans hd)
  have kk := kk d0 hd p l e R s m args below meth c g Z hC hK h1 h2 h3 h4 hZ H locs ls hW hLo
  obtain ⟨hxe, hb, -⟩ := hC
  exact lv_acmp_ne (rx := some (am_r g v)) (ry := some (am_r g v)) hxe hb hdg (tgt := ((pc : Int) + off).toNat) (by omega) (fun z => absurd rfl z) (fun _ => kk)
theorem ao_aceq (hd0 : P.2 j = some d0) {off : Int} {v : Nat} (hdg : decode d0.2.1 pc = .ok (.if_acmp .eq off, 3)) (hp : (pc : Int) + off = (pc' : Int)) (kk : am_S P sc F L mc ms j (pc', lo, st, h, k, n) Q) : am_S P sc F L mc ms j (pc, lo, .ref v :: .ref v :: st, h, k, n) Q := by
  intro d hd p l e R s m args below meth c g Z hC hK h1 h2 h3 h4 hZ H locs ls hW hLo
  obtain rfl : d0 = d := Option.some.inj (hd0.symm.trans hd)
  have kk := kk d0 hd p l e R s m args below meth c g Z hC hK h1 h2 h3 h4 hZ H locs ls hW hLo
  obtain ⟨hxe, hb, -⟩ := hC
  exact lv_acmp_eq (rx := some (am_r g v)) (ry := some (am_r g v)) hxe hb hdg hp (fun _ => kk) (fun z => absurd rfl z)
/-- a cast to the object's own class -/
theorem ao_cast (hd0 : P.2 j = some d0) {x a b ad : Nat} {fs : List Value} {q : vw_C} (hdg : decode d0.2.1 pc = .ok (.checkcast x, 3)) (hq : am_cls[b]? = some q) (hl : am_wd a (.classLink d0.1.cls x q.1) = true) (hc : h[ad]? = some (.inr (b, fs))) (hp : pc + 3 = pc') (kk : am_S P sc F L mc ms j (pc', lo, .ref ad :: st, h, k, n) Q) : am_S P sc F L mc ms j (pc, lo, .ref ad :: st, h, k, n) Q := by
  subst hp
  intro d hd p l e R s m args below meth c g Z hC hK h1 h2 h3 h4 hZ H locs ls hW hLo
  obtain rfl : d0 = d := Option.some.inj (hd0.symm.trans hd)
  have kk := kk d0 hd p l e R s m args below meth c g Z hC hK h1 h2 h3 h4 hZ H locs ls hW hLo
  obtain ⟨hxe, hb, -, hown, hts, -⟩ := hC
  exact va_castE hxe hb hown (hts _ (am_wd_in hl)) (va_recv (q0 := ad) hK.1 hW.2.2.1 hq (by rw [am_w_get, hc]; rfl)) hdg kk
theorem ao_i2c (hd0 : P.2 j = some d0) {x v : Int32} (hdg : decode d0.2.1 pc = .ok (.i2c, 1)) (hv : (x.toUInt32 % 65536).toInt32 = v) (hp : pc + 1 = pc') (kk : am_S P sc F L mc ms j (pc', lo, .int v :: st, h, k, n) Q) : am_S P sc F L mc ms j (pc, lo, .int x :: st, h, k, n) Q := by
  subst hp
  intro d hd p l e R s m args below meth c g Z hC hK h1 h2 h3 h4 hZ H locs ls hW hLo
  obtain rfl : d0 = d := Option.some.inj (hd0.symm.trans hd)
  have kk := kk d0 hd p l e R s m args below meth c g Z hC hK h1 h2 h3 h4 hZ H locs ls hW hLo
  obtain ⟨hxe, hb, -⟩ := hC
  exact lv_i2c hxe hb hdg hv kk
/-- an answer of a small type -/
theorem ao_ret (hd0 : P.2 j = some d0) {v : Int32} {ty : FieldType} (hdg : decode d0.2.1 pc = .ok (.ireturn, 1)) (hr : d0.2.2.2.1 = some ty) (hv : narrow ty (.int v) = .int v) (hk : k ≤ mc) (hn : n ≤ ms) (hq : Q (some (.int v)) h) : am_S P sc F L mc ms j (pc, lo, [.int v], h, k, n) Q := by
  intro d hd p l e R s m args below meth c g Z hC hK h1 h2 h3 h4 hZ H locs ls hW hLo
  obtain rfl : d0 = d := Option.some.inj (hd0.symm.trans hd)
  exact hZ (some (.int v)) h hq H locs k n pc ls hW hk hn ⟨⟨ty, hr, hv⟩, hdg⟩
/-- the class object of Object[]: the constant, and an array's own -/
theorem ao_ldcM (hd0 : P.2 j = some d0) {x a : Nat} (hdg : decode d0.2.1 pc = .ok (.ldc x, 2)) (hl : am_wd a (.classLink d0.1.cls x "[Ljava/lang/Object;") = true) (hp : pc + 2 = pc') (kk : am_S P sc F L mc ms j (pc', lo, .ref (am_M + 5) :: st, h, k, n) Q) : am_S P sc F L mc ms j (pc, lo, st, h, k, n) Q := by
  subst hp
  intro d hd p l e R s m args below meth c g Z hC hK h1 h2 h3 h4 hZ H locs ls hW hLo
  obtain rfl : d0 = d := Option.some.inj (hd0.symm.trans hd)
  have kk := kk d0 hd p l e R s m args below meth c g Z hC hK h1 h2 h3 h4 hZ H locs ls hW hLo
  obtain ⟨hxe, hb, -, hown, hts, -⟩ := hC
  have kk2 : W p l e R s m args below meth c H locs k n Z (F0 m (pc + 2) ls (.ref (am_r g (am_M + 5)) :: st.map (am_v (am_r g)))) := kk
  rw [am_r_old] at kk2
  exact va_ldcM hxe hb hown (hts _ (am_wd_in hl)) hK.2.2.2.2.2.2.2.2.2.2.1 hdg kk2
theorem am_el8 : am_ty[8]? = some (.object "java/lang/Object") := rfl
theorem ao_getC (hd0 : P.2 j = some d0) {x a a2 a3 a4 ad N : Nat} {f : Nat → Option Nat} (hdg : decode d0.2.1 pc = .ok (.invokevirtual x, 3)) (hl : am_wd a (.methodLink d0.1.cls x ⟨"java/lang/Object", "getClass", "()Ljava/lang/Class;"⟩) = true) (hsel : am_wd a2 (.selects "[Ljava/lang/Object;" ⟨"java/lang/Object", "getClass", "()Ljava/lang/Class;"⟩ ⟨"java/lang/Object", "getClass", "()Ljava/lang/Class;"⟩) = true) (hin : am_wd a3 (.instanceMethod ⟨"java/lang/Object", "getClass", "()Ljava/lang/Class;"⟩) = true) (hna : am_wd a4 (.native ⟨"java/lang/Object", "getClass", "()Ljava/lang/Class;"⟩) = true) (hc : h[ad]? = some (.inl (8, N, .inr (.inr (.inr (.inr f)))))) (hF : 1 ≤ F) (hL : am_cat st + 14 ≤ L) (hp : pc + 3 = pc') (kk : am_S P sc F L mc ms j (pc', lo, .ref (am_M + 5) :: st, h, k, n) Q) : am_S P sc F L mc ms j (pc, lo, .ref ad :: st, h, k, n) Q := by
  subst hp
  intro d hd p l e R s m args below meth c g Z hC hK h1 h2 h3 h4 hZ H locs ls hW hLo
  obtain rfl : d0 = d := Option.some.inj (hd0.symm.trans hd)
  have kk := kk d0 hd p l e R s m args below meth c g Z hC hK h1 h2 h3 h4 hZ H locs ls hW hLo
  obtain ⟨hxe, hb, hml, hown, hts, -⟩ := hC
  have kk2 : W p l e R s m args below meth c H locs k n Z (F0 m (pc + 3) ls (.ref (am_r g (am_M + 5)) :: st.map (am_v (am_r g)))) := kk
  rw [am_r_old] at kk2
  have hnm : s.vm.findClass "[Ljava/lang/Object;" = some (g.2.2.2.2 8) := va_nmO ((hK.1.2 8 _ (am_tget am_el8)).2) (by decide +kernel)
  exact va_getC hxe hb (by rw [hml]; exact hLo.2.1.symm) hown (hts _ (am_wd_in hl)) (va_Dc.use hK.2.2.2.2.2.2.2.2.2.2.2.1) (hts _ (am_wd_in hsel)) (hts _ (am_wd_in hin)) (hts _ (am_wd_in hna)) hK.2.2.2.2.2.2.2.2.2.2.1 ⟨_, am_at hW hc, rfl, hnm⟩ (by omega) (by rw [am_cat_v]; omega) hdg kk2
/-- arrays of Object -/
theorem ao_aald (hd0 : P.2 j = some d0) (hdg : decode d0.2.1 pc = .ok (.aaload, 1)) {ad N jx : Nat} {f : Nat → Option Nat} {i : Int32} {v : Option Nat} (hc : h[ad]? = some (.inl (8, N, .inr (.inr (.inr (.inr f)))))) (hx : am_ix i N = some jx) (hv : f jx = v) (hp : pc + 1 = pc') (kk : am_S P sc F L mc ms j (pc', lo, va_rf v :: st, h, k, n) Q) : am_S P sc F L mc ms j (pc, lo, .int i :: .ref ad :: st, h, k, n) Q := by
  subst hp; subst hv
  intro d hd p l e R s m args below meth c g Z hC hK h1 h2 h3 h4 hZ H locs ls hW hLo
  obtain rfl : d0 = d := Option.some.inj (hd0.symm.trans hd)
  have kk := kk d0 hd p l e R s m args below meth c g Z hC hK h1 h2 h3 h4 hZ H locs ls hW hLo
  obtain ⟨hxe, hb, -⟩ := hC
  obtain ⟨hin, rfl⟩ := am_ix_eq hx
  dsimp only at kk
  rw [List.map_cons, am_v_rf] at kk
  exact va_aldq (C := "java/lang/Object") hxe hb hK.1 hW.2.2.1 ad 8 (f := fun j => (f j).map (am_r g)) (by rw [am_w_get, hc]; rfl) (am_tget am_el8) hin hdg kk
theorem ao_alenQ (hd0 : P.2 j = some d0) (hdg : decode d0.2.1 pc = .ok (.arraylength, 1)) {ad N : Nat} {f : Nat → Option Nat} {w : Int32} (hc : h[ad]? = some (.inl (8, N, .inr (.inr (.inr (.inr f)))))) (hw : Int32.ofNat N = w) (hp : pc + 1 = pc') (kk : am_S P sc F L mc ms j (pc', lo, .int w :: st, h, k, n) Q) : am_S P sc F L mc ms j (pc, lo, .ref ad :: st, h, k, n) Q := by
  subst hp; subst hw
  intro d hd p l e R s m args below meth c g Z hC hK h1 h2 h3 h4 hZ H locs ls hW hLo
  obtain rfl : d0 = d := Option.some.inj (hd0.symm.trans hd)
  have kk := kk d0 hd p l e R s m args below meth c g Z hC hK h1 h2 h3 h4 hZ H locs ls hW hLo
  obtain ⟨hxe, hb, -⟩ := hC
  exact va_alen hxe hb hK.1 hW.2.2.1 ad 8 (x := (N, am_x (am_r g) (.inr (.inr (.inr (.inr f)))))) (by rw [am_w_get, hc]; rfl) (am_tget am_el8) rfl hdg kk
theorem ao_anew (hd0 : P.2 j = some d0) {x a N ad k' n' : Nat} {i : Int32} (hdg : decode d0.2.1 pc = .ok (.anewarray x, 3)) (hl : am_wd a (.classLink d0.1.cls x "java/lang/Object") = true) (hneg : ¬ i < 0) (hN : i.toNatClampNeg = N) (hb4 : N * 4 ≤ 536870912) (hlen : h.length = ad) (hM : ad < am_M) (hp : pc + 3 = pc') (hk1 : k + 1 = k') (hn1 : n + N = n') (hk' : k' ≤ mc) (hn' : n' ≤ ms) (kk : am_S P sc F L mc ms j (pc', lo, .ref ad :: st, h ++ [.inl (8, N, .inr (.inr (.inr (.inr fun _ => none))))], k', n') Q) : am_S P sc F L mc ms j (pc, lo, .int i :: st, h, k, n) Q := by
  subst hp; subst hk1; subst hn1; subst hlen; subst hN
  intro d hd p l e R s m args below meth c g Z hC hK h1 h2 h3 h4 hZ H locs ls hW hLo
  obtain rfl : d0 = d := Option.some.inj (hd0.symm.trans hd)
  have kk := fun H1 hW1 => kk d0 hd p l e R s m args below meth c g Z hC hK h1 h2 h3 h4 hZ H1 locs ls hW1 hLo
  obtain ⟨hxe, hb, -, hown, hts, -⟩ := hC
  have hr : am_r g h.length = H.size := by rw [am_r_lt hM, hW.2.1]
  obtain ⟨kA0, comp0, -, -, -, hfc⟩ := (hK.1.2 8 _ (am_tget am_el8)).2
  refine W.anew hxe hb hown (hts _ (am_wd_in hl)) (va_AO.use (hK.2.2.2.2.1 _ (by decide +kernel))) rfl hdg rfl hneg hb4 (by show k + 1 ≤ _; omega) (by show n + _ ≤ _; omega) fun cA kA comp f1 f2 f3 f4 => ?_
  obtain rfl : g.2.2.2.2 8 = cA := Option.some.inj (hfc.symm.trans f1)
  have kk1 := kk _ (am_Wd_push (H1 := H.push ({ cls := g.2.2.2.2 8, slots := Array.replicate i.toNatClampNeg .null, vm := .none } : Cell)) hW hM (by rw [Array.size_push]) (fun z hz => by rw [Array.getElem?_push, if_neg (Nat.ne_of_lt hz)]) (by show (H.push _)[H.size]? = some (vp_cell _ _); rw [Array.getElem?_push_size, arrV_new]; rfl))
  rw [← hr]; exact kk1
end AO
