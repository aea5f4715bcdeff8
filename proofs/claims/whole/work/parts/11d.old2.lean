/-! A call on a String constant; System.arraycopy of bytes and of objects. -/
section AP
variable {P : am_P} {sc : am_Sc} {F L mc ms j : Nat} {Q : Option Value → am_H → Prop} {pc pc' : Nat} {lo : am_Lo} {st : List Value} {h : am_H} {k n : Nat} {d0 : am_Hd}
set_option maxHeartbeats 4000000 in
theorem ao_callS (hd0 : P.2 j = some d0) {x a j' t F' L' mc' ms' : Nat} (okh : am_hok P j') {d' : am_Hd} (hd' : P.2 j' = some d') (hkd : d'.2.2.2.2.1 = 3) {q : String × Nat × String × List Int32} (ht : am_strs[t]? = some q) (hdg : decode d0.2.1 pc = .ok (.invokevirtual x, 3)) (hl : am_wd a (.methodLink d0.1.cls x d'.1) = true) {As rest : List Value} {Q1 : Option Value → am_H → Prop} (hst : st = As.reverse ++ .ref (am_M + (10 + t)) :: rest) (hlen : As.length = d'.2.2.2.2.2.1) (hcat : am_cat rest ≤ 8) (hM : am_Me P sc F' L' mc' ms' j' (.ref (am_M + (10 + t)) :: As) h Q1)
    (hF : F' + 1 ≤ F) (hL : 8 + (d'.2.2.1 + 11) + L' ≤ L) (hmc : k + mc' ≤ mc) (hms : n + ms' ≤ ms) (hp : pc + 3 = pc') (kk : ∀ (r : Option Value) (h' : am_H), Q1 r h' → am_S P sc F L mc ms j (pc', lo, r.toList ++ rest, h', k + mc', n + ms') Q) : am_S P sc F L mc ms j (pc, lo, st, h, k, n) Q := by
  subst hp; subst hst
  intro d hd p l e R s m args below meth c g Z hC hK h1 h2 h3 h4 hZ H locs ls hW hLo
  obtain rfl : d0 = d := Option.some.inj (hd0.symm.trans hd)
  have kk2 : ∀ (r : Option Value) (h' : am_H), Q1 r h' → ∀ (H1 : Heap) (locs1 : List Loc), am_Wd g h' H1 locs1 → W p l e R s m args below meth c H1 locs1 (k + mc') (n + ms') Z (F0 m (pc + 3) ls ((r.map (am_v (am_r g))).toList ++ rest.map (am_v (am_r g)))) := by
    intro r h' hq H1 locs1 hW1
    have z := kk r h' hq d0 hd p l e R s m args below meth c g Z hC hK h1 h2 h3 h4 hZ H1 locs1 ls hW1 hLo
    have e1 : (r.toList ++ rest).map (am_v (am_r g)) = (r.map (am_v (am_r g))).toList ++ rest.map (am_v (am_r g)) := by cases r <;> rfl
    rw [← e1]; exact z
  obtain ⟨hx, hb, hml, hown, hts, hsf, hr, hlk, hnm⟩ := hC
  obtain ⟨dh, hdh, hh⟩ := okh
  obtain rfl : d' = dh := Option.some.inj (hd'.symm.trans hdh)
  unfold am_hck at hh
  simp only [Bool.and_eq_true, decide_eq_true_eq] at hh
  obtain ⟨p1, p2, p3, p4, p5, p6⟩ := hh
  rw [hkd] at p6
  simp only [Bool.and_eq_true, beq_iff_eq] at p6
  obtain ⟨p7, p8, p9⟩ := p6
  have hcat2 : 2 * (F0 m pc ls ((As.reverse ++ .ref (am_M + (10 + t)) :: rest).map (am_v (am_r g)))).monitorRoom + ((rest.map (am_v (am_r g))).map fun v => v.category).sum ≤ 8 := lv_room (by rw [am_cat_v]; exact hcat)
  have hR : ({ frames := F', cells := mc', slots := ms', locals := L' } : Room).frames + 1 ≤ R.frames ∧ 8 + (d'.2.2.1 + 11) + ({ frames := F', cells := mc', slots := ms', locals := L' } : Room).locals ≤ R.locals := ⟨by rw [h1]; exact hF, by rw [h2]; exact hL⟩
  have hfit : k + mc' ≤ R.cells ∧ n + ms' ≤ R.slots := ⟨by rw [h3]; exact hmc, by rw [h4]; exact hms⟩
  have hpre : PreS s H (am_Pc g sc h (.ref (am_M + (10 + t)) :: As)) ((.ref (am_M + (10 + t)) :: As).map (am_v (am_r g))) := by
    refine ⟨fun a U f mk q => ?_, fun U hU hWm => ?_⟩
    · obtain ⟨q0, q1, q2⟩ := q
      exact ⟨q0, am_K_call f mk a q1, q2⟩
    · exact ⟨rfl, am_K_warm hWm hK, by rw [hU]; exact am_Wd_nil hW⟩
  obtain ⟨cellS, s1, s2, s3, -⟩ := (hK.2.2.2.2.2.2.2.2.2.1 t _ ht).2.1.kept hW.2.2.2.2.1
  have hrecv : ∃ cell : Cell, H[am_r g (am_M + (10 + t))]? = some cell ∧ cell.vm.isStatics = false ∧ s.vm.findClass "java/lang/String" = some cell.cls := ⟨cellS, by rw [am_r_old]; exact s1, s2, s3⟩
  have hG : GoodIn am_ws (wsV d0.1.cls x "java/lang/String" d'.1 (.code d'.1 d'.2.1 d'.2.2.1 d'.2.2.2.1 :: am_ws)) := by
    intro w hw
    have hw2 : w ∈ am_ws := by
      unfold wsV at hw
      rcases List.mem_append.mp hw with z | z
      · simp only [List.mem_cons, List.not_mem_nil, or_false] at z
        rcases z with rfl | rfl | rfl | rfl
        · exact am_wd_in hl
        · exact am_wd_in p7
        · rw [← p9]; exact am_wd_in p8
        · rw [← p9]; exact am_wd_in p5
      · exact (am_good d' (am_wd_in p4) w z).1
    exact ⟨hw2, good_of_word (List.mem_filter.mp hw2).2⟩
  have hrun := W.runV (H := H) (locs := locs) (rest := rest.map (am_v (am_r g))) (b := am_r g (am_M + (10 + t))) (As := As.map (am_v (am_r g))) (g := F0 m pc ls ((As.reverse ++ .ref (am_M + (10 + t)) :: rest).map (am_v (am_r g)))) (below := below) (e := e) (meth := meth) (cells := k) (slots := n) ⟨hx, hb, hml, hown, hts⟩ (hM l g d' hd') (cwV d'.2.2.2.2.2.1 hts hG rfl rfl rfl ⟨p9, p2.1, p2.2, p3⟩ hR) ⟨hpre.1, hrecv, hpre.2⟩ rfl (by rw [List.length_map]; exact hlen) hLo.2.1 ?_ hcat2 hdg hfit
  · exact am_goes hrun hW kk2
  · show (As.reverse ++ .ref (am_M + (10 + t)) :: rest).map (am_v (am_r g)) = _
    rw [List.map_append, List.map_reverse]; rfl
theorem am_Wd_sets {g : am_G} {H H1 : Heap} {locs L1 : List Loc} {a : Nat} {e0 e : am_Ce} (hW : am_Wd g h H locs) (ha : h[a]? = some e0) (z : H1.size = H.size) (o : ∀ q : Nat, q ≠ am_r g a → H1[q]? = H[q]?) (he : va_at g.2.2.2.1 am_cls (am_r g a, am_c g e) H1) (hl : ∀ q ∈ L1, q.base = am_r g a) : am_Wd g (h.set a e) H1 (locs ++ L1) := by
  obtain ⟨h1, h2, h3, h4⟩ := hW
  have hp : (am_w g h)[a]? = some (am_r g a, am_c g e0) := by rw [am_w_get, ha]; rfl
  have hA : am_A g (am_r g a) := (am_D h1).2 a _ hp
  refine ⟨by rw [List.length_set]; exact h1, by rw [List.length_set, z]; exact h2, ?_, ⟨by rw [z]; exact h4.1, fun q g1 g2 => ?_, fun q hq => ?_⟩⟩
  · rw [am_w_set]
    exact h3.set (am_D h1) hp he o
  · rw [o q (fun e => g2 (by rw [e]; exact hA))]
    exact h4.2.1 q g1 g2
  · rcases List.mem_append.mp hq with y | y
    · exact h4.2.2 q y
    · rw [hl q y]; exact hA
theorem am_nn {z : Int32} (hz : ¬ z < 0) : z.toInt = (z.toNatClampNeg : Int) := by
  have hz0 : (0 : Int) ≤ z.toInt := by
    have := Int32.not_lt.mp hz
    simpa using Int32.le_iff_toInt_le.mp this
  show z.toInt = ((z.toInt.toNat : Nat) : Int)
  omega
set_option maxHeartbeats 4000000 in
theorem ao_copyb (hd0 : P.2 j = some d0) {x w0 w1 w2 w3 a0 ad n0 n1 : Nat} {f f1 : Nat → Int32} {sp dp m0 : Int32} (hdg : decode d0.2.1 pc = .ok (.invokestatic x, 3)) (hl : am_wd w0 (.methodLink d0.1.cls x arraycopyName) = true) (hna : am_wd w1 (.native arraycopyName) = true) (hs : am_wd w2 (.static arraycopyName) = true) (hi : am_wd w3 (.initialized "java/lang/System") = true) (hc0 : h[a0]? = some (.inl (2, n0, .inl f))) (hc1 : h[ad]? = some (.inl (2, n1, .inl f1))) (g1 : ¬ sp < 0) (g2 : ¬ dp < 0) (g3 : ¬ m0 < 0) (g4 : sp.toNatClampNeg + m0.toNatClampNeg ≤ n0) (g5 : dp.toNatClampNeg + m0.toNatClampNeg ≤ n1) (hfit : ∀ i : Nat, i < m0.toNatClampNeg → fits .byte (.int (f (sp.toNatClampNeg + i))) = true) (hF : 1 ≤ F) (hL : am_cat st + (nativeFrameWords "java/lang/System" "arraycopy" 5 + 11) ≤ L) (hp : pc + 3 = pc')
    (kk : am_S P sc F L mc ms j (pc', lo, st, h.set ad (.inl (2, n1, .inl (va_cpy f f1 sp.toNatClampNeg dp.toNatClampNeg m0.toNatClampNeg))), k, n) Q) : am_S P sc F L mc ms j (pc, lo, .int m0 :: .int dp :: .ref ad :: .int sp :: .ref a0 :: st, h, k, n) Q := by
  subst hp
  intro d hd p l e R s m args below meth c g Z hC hK h1 h2 h3 h4 hZ H locs ls hW hLo
  obtain rfl : d0 = d := Option.some.inj (hd0.symm.trans hd)
  have kk := fun H1 locs1 hW1 => kk d0 hd p l e R s m args below meth c g Z hC hK h1 h2 h3 h4 hZ H1 locs1 ls hW1 hLo
  obtain ⟨hx, hb, hml, hown, hts, -⟩ := hC
  have e0 : H[am_r g a0]? = some (vp_cell (g.2.2.2.2 2) (n0, .inl f)) := am_at hW hc0
  have e1 : H[am_r g ad]? = some (vp_cell (g.2.2.2.2 2) (n1, .inl f1)) := am_at hW hc1
  obtain ⟨-, k0, hk0, cm0, hkk0⟩ := (am_arrOf hK (t := 2) rfl) n0 (fun j => .int (f j))
  obtain ⟨-, k1, hk1, cm1, hkk1⟩ := (am_arrOf hK (t := 2) rfl) n1 (fun j => .int (f1 j))
  intro T hT X
  obtain ⟨vm', X', step⟩ := X.arraycopy hx hown (hts _ (am_wd_in hl)) (hts _ (am_wd_in hna)) (hts _ (am_wd_in hs)) (hts _ (am_wd_in hi)) (src := am_r g a0) (dst := am_r g ad) (cs := vp_cell (g.2.2.2.2 2) (n0, .inl f)) (cd := vp_cell (g.2.2.2.2 2) (n1, .inl f1)) (srcPos := sp) (destPos := dp) (n := m0) (by rw [hT]; exact e0) (by rw [hT]; exact e1)
    (fun _ h => by cases h) (fun _ h => by cases h) (fun h => by cases h) (fun h => by cases h) hk0 hk1 hkk0 hkk1 (by simp [refKind]) g1 g2 g3
    (by rw [am_nn g1, am_nn g3]; show ¬ _ > ((arrV _ n0 (fun j => .int (f j))).slots.size : Int); rw [arrV_size]; omega)
    (by rw [am_nn g2, am_nn g3]; show ¬ _ > ((arrV _ n1 (fun j => .int (f1 j))).slots.size : Int); rw [arrV_size]; omega)
    (fun vm₁ _ i hi => by
      have e : (vp_cell (g.2.2.2.2 2) (n0, .inl f)).slots.getD (sp.toNatClampNeg + i) .null = .int (f (sp.toNatClampNeg + i)) := by
        show (arrV _ n0 (fun j => .int (f j))).slots.getD _ _ = _
        rw [Array.getD_eq_getD_getElem?, arrV_read _ _ (by omega)]
        rfl
      refine ⟨?_, ?_⟩
      · rw [e]; exact hfit i hi
      · rw [e]; exact trivial)
    (g := F0 m pc ls (.int m0 :: .int dp :: .ref (am_r g ad) :: .int sp :: .ref (am_r g a0) :: st.map (am_v (am_r g)))) rfl (by rw [hml]; exact hLo.2.1) (rest := st.map (am_v (am_r g))) rfl (by rw [hb]; exact hdg) (by rw [h1]; exact hF) (by show 2 * 0 + _ + _ ≤ _; rw [am_cat_v, h2]; omega)
  have ec : copied (vp_cell (g.2.2.2.2 2) (n0, .inl f)) (vp_cell (g.2.2.2.2 2) (n1, .inl f1)) sp dp m0 = vp_cell (g.2.2.2.2 2) (n1, .inl (va_cpy f f1 sp.toNatClampNeg dp.toNatClampNeg m0.toNatClampNeg)) := va_copied (fun z => .int z) _ _ f f1 g4
  rw [ec] at X' step
  have hlt : am_r g ad < H.size := (Array.getElem?_eq_some_iff.mp e1).1
  have hheap : ((T.setVm vm').setCell (am_r g ad) (vp_cell (g.2.2.2.2 2) (n1, .inl (va_cpy f f1 sp.toNatClampNeg dp.toNatClampNeg m0.toNatClampNeg)))).heap = H.setIfInBounds (am_r g ad) (vp_cell (g.2.2.2.2 2) (n1, .inl (va_cpy f f1 sp.toNatClampNeg dp.toNatClampNeg m0.toNatClampNeg))) := by rw [← hT]; rfl
  obtain ⟨t, a1, b1⟩ := kk _ _ (am_Wd_sets (e := .inl (2, n1, .inl (va_cpy f f1 sp.toNatClampNeg dp.toNatClampNeg m0.toNatClampNeg))) hW hc1 (H1 := H.setIfInBounds (am_r g ad) (vp_cell (g.2.2.2.2 2) (n1, .inl (va_cpy f f1 sp.toNatClampNeg dp.toNatClampNeg m0.toNatClampNeg)))) (by simp) (fun q hq => by simp [Array.getElem?_setIfInBounds, Ne.symm hq]) (show (H.setIfInBounds (am_r g ad) _)[am_r g ad]? = some _ by simp [Array.getElem?_setIfInBounds, hlt]; rfl) (fun q hq => by
      obtain ⟨z, -, hz⟩ := List.mem_map.mp hq
      rw [← hz])) _ hheap X'
  exact ⟨t, step t a1, b1⟩
end AP
