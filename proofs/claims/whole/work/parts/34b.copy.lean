/-! Arrays.copyOf of a list's row, Math.max, Math.min and abs of longs, System.arraycopy of bytes. -/
theorem kmx_s : Jvm.Cond.static Lib.Math.max.name ∈ am_ws := am_wd_in (a := 932) (by decide +kernel)
theorem kmx_c : Jvm.Cond.code Lib.Math.max.name Lib.Math.max.code 2 (some .int) ∈ am_ws := am_wd_in (a := 933) (by decide +kernel)
theorem kml_s : Jvm.Cond.static Lib.MathLoose.min_long.x ∈ am_ws := am_wd_in (a := 702) (by decide +kernel)
theorem kml_c : Jvm.Cond.code Lib.MathLoose.min_long.x Lib.MathLoose.min_long.code 4 (some .long) ∈ am_ws := am_wd_in (a := 703) (by decide +kernel)
theorem kma_s : Jvm.Cond.static Lib.MathLoose.abs_long.x ∈ am_ws := am_wd_in (a := 883) (by decide +kernel)
theorem kma_c : Jvm.Cond.code Lib.MathLoose.abs_long.x Lib.MathLoose.abs_long.code 2 (some .long) ∈ am_ws := am_wd_in (a := 884) (by decide +kernel)
section HC
variable {sc : am_Sc} {F L mc ms j : Nat} {Q : Option Value → am_H → Prop} {pc pc' : Nat} {lo : am_Lo} {st : List Value} {h : am_H} {k n : Nat}
theorem ar_max (ok : am_ok am_Pr j) {x len a c : Nat} {u v w : Int32} (hi : am_Pr.1 j pc = some (.invokestatic x, len, a, 253, c)) (hv : (if u < v then v else u) = w) (hF : 1 ≤ F) (hL : am_cat st + 13 ≤ L) (hk : k ≤ mc) (hn : n ≤ ms) (hp : pc + 3 = pc') (kk : am_S am_Pr sc F L mc ms j (pc', lo, .int w :: st, h, k, n) Q) : am_S am_Pr sc F L mc ms j (pc, lo, .int v :: .int u :: st, h, k, n) Q := by
  subst hp; subst hv
  intro d hd p l e R s m args below meth cd g Z hC hK h1 h2 h3 h4 hZ H locs ls hW hLo
  obtain ⟨d0, hd0, hi0⟩ := ok
  obtain rfl : d = d0 := Option.some.inj (hd.symm.trans hd0)
  have kk := kk d hd p l e R s m args below meth cd g Z hC hK h1 h2 h3 h4 hZ H locs ls hW hLo
  obtain ⟨hx, hb, hml, hown, hts, hsf, hr, hlk, hnm⟩ := hC
  have hck := hi0 pc _ hi
  unfold am_ick at hck
  simp only [Bool.and_eq_true, decide_eq_true_eq, Bool.or_eq_true, beq_iff_eq] at hck
  obtain ⟨c1, c2, c3, c4, c5⟩ := hck
  have c2 := c2.resolve_left (fun q => Bool.noConfusion q)
  rw [c2] at c1
  have c5' : (am_wd a (.methodLink d.1.cls x y_Ma_max) && true) = true := c5
  rw [Bool.and_eq_true] at c5'
  exact va_mmax (rest := st.map (am_v (am_r g))) (x := u) (y := v) hx hb (by rw [hml]; exact hLo.2.1.symm) hown (hts _ (am_wd_in c5'.1)) (hts _ kmx_s) (hts _ kmn_i) (hts _ kmx_c) (by omega) (by rw [am_cat_v]; omega) (by rw [h3]; exact hk) (by rw [h4]; exact hn) c1 kk
theorem ar_minL (ok : am_ok am_Pr j) {x len a c : Nat} {u v w : Int64} (hi : am_Pr.1 j pc = some (.invokestatic x, len, a, 234, c)) (hv : (if v < u then v else u) = w) (hF : 1 ≤ F) (hL : am_cat st + 15 ≤ L) (hk : k ≤ mc) (hn : n ≤ ms) (hp : pc + 3 = pc') (kk : am_S am_Pr sc F L mc ms j (pc', lo, .long w :: st, h, k, n) Q) : am_S am_Pr sc F L mc ms j (pc, lo, .long v :: .long u :: st, h, k, n) Q := by
  subst hp; subst hv
  intro d hd p l e R s m args below meth cd g Z hC hK h1 h2 h3 h4 hZ H locs ls hW hLo
  obtain ⟨d0, hd0, hi0⟩ := ok
  obtain rfl : d = d0 := Option.some.inj (hd.symm.trans hd0)
  have kk := kk d hd p l e R s m args below meth cd g Z hC hK h1 h2 h3 h4 hZ H locs ls hW hLo
  obtain ⟨hx, hb, hml, hown, hts, hsf, hr, hlk, hnm⟩ := hC
  have hck := hi0 pc _ hi
  unfold am_ick at hck
  simp only [Bool.and_eq_true, decide_eq_true_eq, Bool.or_eq_true, beq_iff_eq] at hck
  obtain ⟨c1, c2, c3, c4, c5⟩ := hck
  have c2 := c2.resolve_left (fun q => Bool.noConfusion q)
  rw [c2] at c1
  have c5' : (am_wd a (.methodLink d.1.cls x y_Ma_min2) && true) = true := c5
  rw [Bool.and_eq_true] at c5'
  exact va_mmin_long (rest := st.map (am_v (am_r g))) (x := u) (y := v) hx hb (by rw [hml]; exact hLo.2.1.symm) hown (hts _ (am_wd_in c5'.1)) (hts _ kml_s) (hts _ kmn_i) (hts _ kml_c) (by omega) (by rw [am_cat_v]; omega) (by rw [h3]; exact hk) (by rw [h4]; exact hn) c1 kk
theorem ar_absL (ok : am_ok am_Pr j) {x len a c : Nat} {u w : Int64} (hi : am_Pr.1 j pc = some (.invokestatic x, len, a, 235, c)) (hv : (if 0 < u then u else -u) = w) (hF : 1 ≤ F) (hL : am_cat st + 13 ≤ L) (hk : k ≤ mc) (hn : n ≤ ms) (hp : pc + 3 = pc') (kk : am_S am_Pr sc F L mc ms j (pc', lo, .long w :: st, h, k, n) Q) : am_S am_Pr sc F L mc ms j (pc, lo, .long u :: st, h, k, n) Q := by
  subst hp; subst hv
  intro d hd p l e R s m args below meth cd g Z hC hK h1 h2 h3 h4 hZ H locs ls hW hLo
  obtain ⟨d0, hd0, hi0⟩ := ok
  obtain rfl : d = d0 := Option.some.inj (hd.symm.trans hd0)
  have kk := kk d hd p l e R s m args below meth cd g Z hC hK h1 h2 h3 h4 hZ H locs ls hW hLo
  obtain ⟨hx, hb, hml, hown, hts, hsf, hr, hlk, hnm⟩ := hC
  have hck := hi0 pc _ hi
  unfold am_ick at hck
  simp only [Bool.and_eq_true, decide_eq_true_eq, Bool.or_eq_true, beq_iff_eq] at hck
  obtain ⟨c1, c2, c3, c4, c5⟩ := hck
  have c2 := c2.resolve_left (fun q => Bool.noConfusion q)
  rw [c2] at c1
  have c5' : (am_wd a (.methodLink d.1.cls x y_Ma_abs) && true) = true := c5
  rw [Bool.and_eq_true] at c5'
  exact va_mabs_long (rest := st.map (am_v (am_r g))) (x := u) hx hb (by rw [hml]; exact hLo.2.1.symm) hown (hts _ (am_wd_in c5'.1)) (hts _ kma_s) (hts _ kmn_i) (hts _ kma_c) (by omega) (by rw [am_cat_v]; omega) (by rw [h3]; exact hk) (by rw [h4]; exact hn) c1 kk
end HC
/-- the first m elements of b's row into a's -/
def hCpy (S : hS) (b a m : Nat) : hS := (S.1, S.2.1, S.2.2.1, S.2.2.2.1, S.2.2.2.2.1, S.2.2.2.2.2.1, fun x => if x = a then va_cpy (S.2.2.2.2.2.2 b) (S.2.2.2.2.2.2 a) 0 0 m else S.2.2.2.2.2.2 x)
def hCpb (S : hS) (b a m : Nat) : hS := (S.1, S.2.1, S.2.2.1, S.2.2.2.1, (fun x => if x = a then va_cpy (S.2.2.2.2.1 b) (S.2.2.2.2.1 a) 0 0 m else S.2.2.2.2.1 x), S.2.2.2.2.2)
theorem hs_ce_cpy {S : hS} {b a m x : Nat} {p : Nat × Nat} (hx : x ≠ a) : hs_ce (hCpy S b a m) x p = hs_ce S x p := by
  have e : (hCpy S b a m).2.2.2.2.2.2 x = S.2.2.2.2.2.2 x := if_neg hx
  unfold hs_ce
  rw [e]; rfl
theorem hs_ce_cpb {S : hS} {b a m x : Nat} {p : Nat × Nat} (hx : x ≠ a) : hs_ce (hCpb S b a m) x p = hs_ce S x p := by
  have e : (hCpb S b a m).2.2.2.2.1 x = S.2.2.2.2.1 x := if_neg hx
  unfold hs_ce
  rw [e]; rfl
theorem va_cpy_in {α : Type} (f g : Nat → α) (m i : Nat) : va_cpy f g 0 0 m i = f i ∨ va_cpy f g 0 0 m i = g i := by
  unfold va_cpy
  split
  · left
    congr 1
    omega
  · right; rfl
theorem RH_cpy {S : hS} {h : am_H} {b a kd m : Nat} (hR : RH S h) (hb : hK S.1 b kd) (ha : hK S.1 a kd) (hkd : 24 ≤ kd ∧ kd < 30) : RH (hCpy S b a m) (h.set a (.inl (hs_at kd, hln S.1 a, .inr (.inr (.inr (.inr (va_cpy (S.2.2.2.2.2.2 b) (S.2.2.2.2.2.2 a) 0 0 m))))))) := by
  have hc := hR.aq ha hkd
  have hlt : a < h.length := (List.getElem?_eq_some_iff.mp hc).1
  refine ⟨by rw [List.length_set]; exact hR.1, fun x p hp h9 => ?_, ⟨hR.2.2.1, fun x p hp i z hz => ?_, hR.2.2.2.2.1, hR.2.2.2.2.2⟩⟩
  · by_cases hx : x = a
    · subst hx
      obtain ⟨m', n'⟩ := p
      have hm := ha.un hp
      have hn : n' = hln S.1 x := by
        have := ha.ln
        rw [show S.1[x]? = some (m', n') from hp] at this
        cases this; rfl
      subst hm; subst hn
      rw [List.getElem?_set_self hlt]
      have e : (hCpy S b x m).2.2.2.2.2.2 x = va_cpy (S.2.2.2.2.2.2 b) (S.2.2.2.2.2.2 x) 0 0 m := if_pos rfl
      unfold hs_ce
      rw [if_neg (by dsimp only; omega), if_neg (by dsimp only; omega), if_neg (by dsimp only; omega), e]
    · rw [List.getElem?_set_ne (fun y => hx y.symm), hR.2.1 x p hp h9, hs_ce_cpy hx]
  · by_cases hx : x = a
    · subst hx
      have e : (hCpy S b x m).2.2.2.2.2.2 x = va_cpy (S.2.2.2.2.2.2 b) (S.2.2.2.2.2.2 x) 0 0 m := if_pos rfl
      rw [e] at hz
      have hpk : p.1 = kd := ha.un (n := p.2) (m := p.1) hp
      rcases va_cpy_in (S.2.2.2.2.2.2 b) (S.2.2.2.2.2.2 x) m i with q | q
      · rw [q] at hz
        rw [hpk]
        exact hR.2.2.2.1 b _ hb.ln i z hz
      · rw [q] at hz
        exact hR.2.2.2.1 x p hp i z hz
    · have e : (hCpy S b a m).2.2.2.2.2.2 x = S.2.2.2.2.2.2 x := if_neg hx
      rw [e] at hz
      exact hR.2.2.2.1 x p hp i z hz
theorem RH_cpb {S : hS} {h : am_H} {b a kd m : Nat} (hR : RH S h) (ha : hK S.1 a kd) (hkd : kd = 20 ∨ kd = 22 ∨ kd = 23) : RH (hCpb S b a m) (h.set a (.inl (kd - 20, hln S.1 a, .inl (va_cpy (S.2.2.2.2.1 b) (S.2.2.2.2.1 a) 0 0 m)))) := by
  have hc := hR.ai ha hkd
  have hlt : a < h.length := (List.getElem?_eq_some_iff.mp hc).1
  refine ⟨by rw [List.length_set]; exact hR.1, fun x p hp h9 => ?_, hR.2.2⟩
  by_cases hx : x = a
  · subst hx
    obtain ⟨m', n'⟩ := p
    have hm := ha.un hp
    have hn : n' = hln S.1 x := by
      have := ha.ln
      rw [show S.1[x]? = some (m', n') from hp] at this
      cases this; rfl
    subst hm; subst hn
    rw [List.getElem?_set_self hlt]
    have e : (hCpb S b x m).2.2.2.2.1 x = va_cpy (S.2.2.2.2.1 b) (S.2.2.2.2.1 x) 0 0 m := if_pos rfl
    unfold hs_ce
    rw [if_neg (by dsimp only; omega), if_neg (by dsimp only; omega), if_pos (by dsimp only; omega), e]
  · rw [List.getElem?_set_ne (fun y => hx y.symm), hR.2.1 x p hp h9, hs_ce_cpb hx]
/-- the lesser of two lengths -/
def hmin (n : Int32) (l : Nat) : Int32 := if n < Int32.ofNat l then n else Int32.ofNat l
theorem hmin_ok {n : Int32} {l : Nat} (hl : l < 2 ^ 31) (hn : ¬ n < 0) : ¬ hmin n l < 0 ∧ (hmin n l).toNatClampNeg ≤ l ∧ (hmin n l).toNatClampNeg ≤ n.toNatClampNeg := by
  have e1 : (Int32.ofNat l).toInt = (l : Int) := nI_toInt hl
  have e2 : (Int32.ofNat l).toNatClampNeg = l := nI_clamp hl
  have e3 := am_nn hn
  unfold hmin
  split
  · rename_i hq
    rw [Int32.lt_iff_toInt_lt, e1, e3] at hq
    exact ⟨hn, by omega, Nat.le_refl _⟩
  · rename_i hq
    rw [Int32.lt_iff_toInt_lt, e1, e3] at hq
    refine ⟨nI_pos hl, by omega, by omega⟩
/-- Arrays.copyOf of a list's row, to at most M places -/
def h_copyOf (kd M b : Nat) (n : Int32) (S : hS) : Option (Nat × hS) := if b = am_M + 1 ∨ M < hln S.1 b then none else (hs_nl n M).bind fun N => (hs_al S).bind fun a => some (a, hCpy (hNew S kd N) b a (hmin n (hln S.1 b)).toNatClampNeg)
theorem hE.ln {s t : List (Nat × Nat)} (h : hE s t) {b kd : Nat} (hk : hK s b kd) : hln t b = hln s b := by
  obtain ⟨n, hn⟩ := hk
  unfold hln
  rw [h.get hn, hn]
def h_Objects_checkIndex (a b : Int32) : Option Int32 := if a < 0 then none else if a < b then some a else none
theorem c_Objects_checkIndex (a b : Int32) (h0 : am_H) (q : Int32) (hd : h_Objects_checkIndex a b = some q) : am_Me am_Pr none 1 22 0 0 243 [.int a, .int b] h0 (am_is (some (.int q)) h0) := by
  unfold h_Objects_checkIndex at hd
  split at hd
  · cases hd
  · rename_i h1
    split at hd
    · rename_i h2
      cases hd
      exact k_Obj_check a b h1 h2 h0
    · cases hd
/-- may the first m bytes of b's row go into a's? -/
def hs_cb (S : hS) (b a : Nat) (m : Int32) : Bool := !(decide (m < 0)) && (decide (m.toNatClampNeg ≤ hln S.1 b) && (decide (m.toNatClampNeg ≤ hln S.1 a) && (List.range m.toNatClampNeg).all fun i => fits .byte (.int (S.2.2.2.2.1 b i))))
theorem hr_copyb {P : am_P} {sc : am_Sc} {F L mc ms j : Nat} {Q : Option Value → am_H → Prop} {pc pc' : Nat} {lo : am_Lo} {st : List Value} {h : am_H} {k n : Nat} {S : hS} {d0 : am_Hd} (hd0 : P.2 j = some d0) {x w0 a b : Nat} {m : Int32} (hdg : decode d0.2.1 pc = .ok (.invokestatic x, 3)) (hl : am_wd w0 (.methodLink d0.1.cls x arraycopyName) = true) (hR : RH S h) (hb : hK S.1 b 22) (ha : hK S.1 a 22) (hz : hs_cb S b a m = true) (hFr : 1 ≤ F) (hL : am_cat st + (nativeFrameWords "java/lang/System" "arraycopy" 5 + 11) ≤ L) (hp : pc + 3 = pc') (kk : ∀ h' : am_H, RH (hCpb S b a m.toNatClampNeg) h' → hF h h' → am_S P sc F L mc ms j (pc', lo, st, h', k, n) Q) : am_S P sc F L mc ms j (pc, lo, .int m :: .int 0 :: .ref a :: .int 0 :: .ref b :: st, h, k, n) Q := by
  unfold hs_cb at hz
  simp only [Bool.and_eq_true, Bool.not_eq_true', decide_eq_true_eq, decide_eq_false_iff_not, List.all_eq_true, List.mem_range] at hz
  obtain ⟨z1, z2, z3, z4⟩ := hz
  have z0 : (0 : Int32).toNatClampNeg = 0 := by decide
  have hne := hs_lt ha (by decide) hR.2.2.2.2.2
  refine ao_copyb hd0 (w0 := w0) (w1 := 898) (w2 := 897) (w3 := 142) hdg hl (by decide +kernel) (by decide +kernel) (by decide +kernel) (hR.ai hb (Or.inr (Or.inl rfl))) (hR.ai ha (Or.inr (Or.inl rfl))) (by decide) (by decide) z1 (by rw [z0]; omega) (by rw [z0]; omega) (fun i hi => by rw [z0, Nat.zero_add]; exact z4 i hi) hFr hL hp ?_
  rw [z0]
  exact kk _ (RH_cpb hR ha (Or.inr (Or.inl rfl))) (fun z y1 y2 => List.getElem?_set_ne (by omega))
