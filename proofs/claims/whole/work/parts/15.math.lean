/-! Math.min, by the kit's own row. -/
theorem kmn_s : Jvm.Cond.static Lib.Math.min.name ∈ am_ws := List.mem_filter.mpr ⟨List.mem_append_right _ (List.mem_of_getElem? (i := 358) (by decide +kernel)), rfl⟩
theorem kmn_c : Jvm.Cond.code Lib.Math.min.name Lib.Math.min.code 2 (some .int) ∈ am_ws := List.mem_filter.mpr ⟨List.mem_append_right _ (List.mem_of_getElem? (i := 359) (by decide +kernel)), rfl⟩
theorem kmn_i : Jvm.Cond.initialized "java/lang/Math" ∈ am_ws := List.mem_filter.mpr ⟨List.mem_append_right _ (List.mem_of_getElem? (i := 13) (by decide +kernel)), rfl⟩
theorem ar_min {sc : am_Sc} {F L mc ms j : Nat} {Q : Option Value → am_H → Prop} {pc pc' : Nat} {lo : am_Lo} {st : List Value} {h : am_H} {k n : Nat} (ok : am_ok am_Pr j) {x len a c : Nat} {u v w : Int32} (hi : am_Pr.1 j pc = some (.invokestatic x, len, a, 233, c)) (hv : (if v < u then v else u) = w) (hF : 1 ≤ F) (hL : am_cat st + 13 ≤ L) (hk : k ≤ mc) (hn : n ≤ ms) (hp : pc + 3 = pc') (kk : am_S am_Pr sc F L mc ms j (pc', lo, .int w :: st, h, k, n) Q) : am_S am_Pr sc F L mc ms j (pc, lo, .int v :: .int u :: st, h, k, n) Q := by
  subst hp; subst hv
  intro d hd p l e R s m args below meth cd g Z hC hK h1 h2 h3 h4 hZ H locs ls hW hLo
  obtain ⟨d0, hd0, hi0⟩ := ok
  obtain rfl : d = d0 := Option.some.inj (hd.symm.trans hd0)
  have kk := kk d hd p l e R s m args below meth cd g Z hC hK h1 h2 h3 h4 hZ H locs ls hW hLo
  obtain ⟨hx, hb, hml, hown, hts, hsf, hr, hlk, hnm⟩ := hC
  have hck := hi0 pc _ hi
  unfold am_ick at hck
  simp only [Bool.and_eq_true, decide_eq_true_eq, Bool.or_eq_true, beq_iff_eq] at hck
  obtain ⟨c1, c2, c3, c4, c5⟩ := hck
  have c2 := c2.resolve_left (fun q => Bool.noConfusion q)
  rw [c2] at c1
  have c5' : (am_wd a (.methodLink d.1.cls x y_Ma_min) && true) = true := c5
  rw [Bool.and_eq_true] at c5'
  have hcat : ((st.map (am_v (am_r g))).map fun v => v.category).sum = am_cat st := by
    rw [List.map_map]
    have : ((fun v : Value => v.category) ∘ am_v (am_r g)) = fun v => v.category := funext fun v => am_v_cat _ v
    rw [this]; rfl
  exact va_mmin (rest := st.map (am_v (am_r g))) (x := u) (y := v) hx hb (by rw [hml]; exact hLo.2.1.symm) hown (hts _ (am_wd_in c5'.1)) (hts _ kmn_s) (hts _ kmn_i) (hts _ kmn_c) (by omega) (by rw [hcat]; omega) (by rw [h3]; exact hk) (by rw [h4]; exact hn) c1 kk
