/-! Objects into arrays of Object: their classes are ones that may stand there. -/
theorem am_K_ob {g : am_G} {sc : am_Sc} {s : State} (hK : am_K g sc s) {C : String} (hC : C ∈ am_obs) : va_Nw (.castable C "java/lang/Object") s := hK.2.2.2.2.2.2.2.2.2.2.2.2 C hC
section AQ
variable {P : am_P} {sc : am_Sc} {F L mc ms j : Nat} {Q : Option Value → am_H → Prop} {pc pc' : Nat} {lo : am_Lo} {st : List Value} {h : am_H} {k n : Nat} {d0 : am_Hd}
/-- an object into an array of Object; hO: its class is one that Object's arrays take -/
theorem ao_aastO (hd0 : P.2 j = some d0) (hdg : decode d0.2.1 pc = .ok (.aastore, 1)) {ad N jx v b : Nat} {f : Nat → Option Nat} {i : Int32} {fs : List Value} {q : vw_C} (hc : h[ad]? = some (.inl (8, N, .inr (.inr (.inr (.inr f)))))) (hx : am_ix i N = some jx) (hq : am_cls[b]? = some q) (hw : q.1 ∈ am_obs) (hv : h[v]? = some (.inr (b, fs))) (hp : pc + 1 = pc') (kk : am_S P sc F L mc ms j (pc', lo, st, h.set ad (.inl (8, N, .inr (.inr (.inr (.inr (va_up f jx (some v))))))), k, n) Q) : am_S P sc F L mc ms j (pc, lo, .ref v :: .int i :: .ref ad :: st, h, k, n) Q := by
  subst hp
  intro d hd p l e R s m args below meth c g Z hC hK h1 h2 h3 h4 hZ H locs ls hW hLo
  obtain rfl : d0 = d := Option.some.inj (hd0.symm.trans hd)
  have kk := fun H1 locs1 hW1 => kk d0 hd p l e R s m args below meth c g Z hC hK h1 h2 h3 h4 hZ H1 locs1 ls hW1 hLo
  obtain ⟨hxe, hb, -, hown, hts, -⟩ := hC
  obtain ⟨hin, rfl⟩ := am_ix_eq hx
  have hlt : i.toNatClampNeg < N := Nat.not_le.mp fun z => hin (Or.inr z)
  have h0 : ¬ i < 0 := fun z => hin (Or.inl z)
  obtain ⟨cellV, g1, g3, g2⟩ := va_recv (q0 := v) hK.1 hW.2.2.1 hq (by rw [am_w_get, hv]; rfl)
  obtain ⟨kA, comp, k1, k2, k3, -⟩ := (hK.1.2 8 _ (am_tget am_el8)).2
  obtain ⟨kE, hkE, -⟩ := Vm.findClass_spec k3
  obtain ⟨kC, hkC, -⟩ := Vm.findClass_spec g2
  have hasg := vb_asgC (s := s) (am_K_ob hK hw) comp cellV.cls k3 g2
  refine W.aast hxe hb (am_at hW hc) (fun z h => by cases h) (fun h => by cases h) k1 k2 rfl hkE ⟨h0, by show _ < (arrV _ _ _).slots.size; rw [arrV_size]; exact hlt⟩ g1 (fun z h => by rw [h] at g3; cases g3) hkC hasg rfl rfl hdg fun H1 e1 e2 e3 => ?_
  refine kk H1 _ (am_Wd_set hW hc e2 e3 ?_)
  show H1[am_r g ad]? = some (vp_cell _ (N, .inr (.inr (.inr (.inr (fun j => (va_up f i.toNatClampNeg (some v) j).map (am_r g)))))))
  rw [e1, am_up_map]
  show some ((arrV _ N (fun j => va_rf ((f j).map (am_r g)))).setSlot _ (va_rf (some (am_r g v)))) = _
  rw [arrV_store, am_updV_q]; rfl
set_option maxHeartbeats 4000000 in
theorem ao_copyqO (hd0 : P.2 j = some d0) {x w0 w1 w2 w3 a0 ad n0 n1 b : Nat} {f f1 : Nat → Option Nat} {sp dp m0 : Int32} {q : vw_C} (hdg : decode d0.2.1 pc = .ok (.invokestatic x, 3)) (hl : am_wd w0 (.methodLink d0.1.cls x arraycopyName) = true) (hna : am_wd w1 (.native arraycopyName) = true) (hs : am_wd w2 (.static arraycopyName) = true) (hi : am_wd w3 (.initialized "java/lang/System") = true) (hq : am_cls[b]? = some q) (hw : q.1 ∈ am_obs) (hc0 : h[a0]? = some (.inl (8, n0, .inr (.inr (.inr (.inr f)))))) (hc1 : h[ad]? = some (.inl (8, n1, .inr (.inr (.inr (.inr f1)))))) (g1 : ¬ sp < 0) (g2 : ¬ dp < 0) (g3 : ¬ m0 < 0) (g4 : sp.toNatClampNeg + m0.toNatClampNeg ≤ n0) (g5 : dp.toNatClampNeg + m0.toNatClampNeg ≤ n1) (hel : ∀ i : Nat, i < m0.toNatClampNeg → ∀ y : Nat, f (sp.toNatClampNeg + i) = some y → ∃ fs, h[y]? = some (.inr (b, fs))) (hF : 1 ≤ F) (hL : am_cat st + (nativeFrameWords "java/lang/System" "arraycopy" 5 + 11) ≤ L) (hp : pc + 3 = pc')
    (kk : am_S P sc F L mc ms j (pc', lo, st, h.set ad (.inl (8, n1, .inr (.inr (.inr (.inr (va_cpy f f1 sp.toNatClampNeg dp.toNatClampNeg m0.toNatClampNeg)))))), k, n) Q) : am_S P sc F L mc ms j (pc, lo, .int m0 :: .int dp :: .ref ad :: .int sp :: .ref a0 :: st, h, k, n) Q := by
  subst hp
  intro d hd p l e R s m args below meth c g Z hC hK h1 h2 h3 h4 hZ H locs ls hW hLo
  obtain rfl : d0 = d := Option.some.inj (hd0.symm.trans hd)
  have kk := fun H1 locs1 hW1 => kk d0 hd p l e R s m args below meth c g Z hC hK h1 h2 h3 h4 hZ H1 locs1 ls hW1 hLo
  obtain ⟨hx, hb, hml, hown, hts, -⟩ := hC
  let F2 : Nat → Option Nat := fun j => (f j).map (am_r g)
  let G2 : Nat → Option Nat := fun j => (f1 j).map (am_r g)
  have e0 : H[am_r g a0]? = some (vp_cell (g.2.2.2.2 8) (n0, .inr (.inr (.inr (.inr F2))))) := am_at hW hc0
  have e1 : H[am_r g ad]? = some (vp_cell (g.2.2.2.2 8) (n1, .inr (.inr (.inr (.inr G2))))) := am_at hW hc1
  obtain ⟨-, k0, hk0, cm0, hkk0⟩ := (am_arrOf hK (t := 8) am_el8) n0 (fun j => va_rf (F2 j))
  obtain ⟨-, k1, hk1, cm1, hkk1⟩ := (am_arrOf hK (t := 8) am_el8) n1 (fun j => va_rf (G2 j))
  intro T hT X
  obtain ⟨vm', X', step⟩ := X.arraycopy hx hown (hts _ (am_wd_in hl)) (hts _ (am_wd_in hna)) (hts _ (am_wd_in hs)) (hts _ (am_wd_in hi)) (src := am_r g a0) (dst := am_r g ad) (cs := vp_cell (g.2.2.2.2 8) (n0, .inr (.inr (.inr (.inr F2))))) (cd := vp_cell (g.2.2.2.2 8) (n1, .inr (.inr (.inr (.inr G2))))) (srcPos := sp) (destPos := dp) (n := m0) (by rw [hT]; exact e0) (by rw [hT]; exact e1)
    (fun _ h => by cases h) (fun _ h => by cases h) (fun h => by cases h) (fun h => by cases h) hk0 hk1 hkk0 hkk1 rfl g1 g2 g3
    (by rw [am_nn g1, am_nn g3]; show ¬ _ > ((arrV _ n0 (fun j => va_rf (F2 j))).slots.size : Int); rw [arrV_size]; omega)
    (by rw [am_nn g2, am_nn g3]; show ¬ _ > ((arrV _ n1 (fun j => va_rf (G2 j))).slots.size : Int); rw [arrV_size]; omega)
    (fun vm₁ hal i hi => by
      have e : (vp_cell (g.2.2.2.2 8) (n0, .inr (.inr (.inr (.inr F2))))).slots.getD (sp.toNatClampNeg + i) .null = va_rf (F2 (sp.toNatClampNeg + i)) := by
        show (arrV _ n0 (fun j => va_rf (F2 j))).slots.getD _ _ = _
        rw [Array.getD_eq_getD_getElem?, arrV_read _ _ (by omega)]
        rfl
      rw [e]
      cases hy : f (sp.toNatClampNeg + i) with
      | none =>
        rw [show F2 (sp.toNatClampNeg + i) = none by show (f _).map _ = _; rw [hy]; rfl]
        exact ⟨rfl, trivial⟩
      | some y =>
        rw [show F2 (sp.toNatClampNeg + i) = some (am_r g y) by show (f _).map _ = _; rw [hy]; rfl]
        obtain ⟨fs, hfs⟩ := hel i hi y hy
        obtain ⟨cellV, v1, v2, v3⟩ := va_recv (q0 := y) hK.1 hW.2.2.1 hq (by rw [am_w_get, hfs]; rfl)
        obtain ⟨kA, comp, r1, r2, r3, -⟩ := (hK.1.2 8 _ (am_tget am_el8)).2
        cases hk1.symm.trans r1
        cases hkk1.symm.trans r2
        obtain ⟨kC, hkC, -⟩ := Vm.findClass_spec v3
        obtain ⟨kE, hkE, -⟩ := Vm.findClass_spec r3
        obtain ⟨kC', hkC', -⟩ := hal.2.2 _ _ hkC
        obtain ⟨kE', hkE', -⟩ := hal.2.2 _ _ hkE
        refine ⟨rfl, cellV, (show T.heap[am_r g y]? = some cellV by rw [hT]; exact v1), (fun z h => by rw [h] at v2; cases v2), ⟨kC', hkC'⟩, ?_, ?_⟩
        · exact ⟨kE', hkE'⟩
        · show vm₁.assignable _ _ = true
          rw [hal.assignable]
          exact vb_asgC (s := s) (am_K_ob hK hw) _ _ r3 v3)
    (g := F0 m pc ls (.int m0 :: .int dp :: .ref (am_r g ad) :: .int sp :: .ref (am_r g a0) :: st.map (am_v (am_r g)))) rfl (by rw [hml]; exact hLo.2.1) (rest := st.map (am_v (am_r g))) rfl (by rw [hb]; exact hdg) (by rw [h1]; exact hF) (by show 2 * 0 + _ + _ ≤ _; rw [am_cat_v, h2]; omega)
  have eG : ∀ z, va_cpy F2 G2 sp.toNatClampNeg dp.toNatClampNeg m0.toNatClampNeg z = (va_cpy f f1 sp.toNatClampNeg dp.toNatClampNeg m0.toNatClampNeg z).map (am_r g) := by
    intro z
    unfold va_cpy
    split <;> rfl
  have ec : copied (vp_cell (g.2.2.2.2 8) (n0, .inr (.inr (.inr (.inr F2))))) (vp_cell (g.2.2.2.2 8) (n1, .inr (.inr (.inr (.inr G2))))) sp dp m0 = vp_cell (g.2.2.2.2 8) (n1, .inr (.inr (.inr (.inr (fun z => (va_cpy f f1 sp.toNatClampNeg dp.toNatClampNeg m0.toNatClampNeg z).map (am_r g)))))) := by
    rw [← funext eG, vp_cell_q, vp_cell_q, vp_cell_q]
    exact va_copied (fun z => va_rf z) _ _ F2 G2 g4
  rw [ec] at X' step
  have hlt : am_r g ad < H.size := (Array.getElem?_eq_some_iff.mp e1).1
  have hheap : ((T.setVm vm').setCell (am_r g ad) (vp_cell (g.2.2.2.2 8) (n1, .inr (.inr (.inr (.inr (fun z => (va_cpy f f1 sp.toNatClampNeg dp.toNatClampNeg m0.toNatClampNeg z).map (am_r g)))))))).heap = H.setIfInBounds (am_r g ad) (vp_cell (g.2.2.2.2 8) (n1, .inr (.inr (.inr (.inr (fun z => (va_cpy f f1 sp.toNatClampNeg dp.toNatClampNeg m0.toNatClampNeg z).map (am_r g))))))) := by rw [← hT]; rfl
  obtain ⟨t, a1, b1⟩ := kk _ _ (am_Wd_sets (e := .inl (8, n1, .inr (.inr (.inr (.inr (va_cpy f f1 sp.toNatClampNeg dp.toNatClampNeg m0.toNatClampNeg)))))) hW hc1 (H1 := H.setIfInBounds (am_r g ad) (vp_cell (g.2.2.2.2 8) (n1, .inr (.inr (.inr (.inr (fun z => (va_cpy f f1 sp.toNatClampNeg dp.toNatClampNeg m0.toNatClampNeg z).map (am_r g)))))))) (by simp) (fun q hq => by simp [Array.getElem?_setIfInBounds, Ne.symm hq]) (show (H.setIfInBounds (am_r g ad) _)[am_r g ad]? = some _ by simp [Array.getElem?_setIfInBounds, hlt]; rfl) (fun q hq => by
      obtain ⟨z, -, hz⟩ := List.mem_map.mp hq
      rw [← hz])) _ hheap X'
  exact ⟨t, step t a1, b1⟩
end AQ
