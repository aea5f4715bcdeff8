/-! The reference judges the matter. -/
theorem good_fc {n : Nat} {z : Z} (hO : okZ n z) (hG : good z) {p : Nat} (hp : p < z.mem.length) : ∀ b, z.fc = some b → p ≠ 0 → -(z.crd p : Int) ≤ z.pos (64 * p + b) := fun b hb h0 => by
  have hm := hO.mem
  have ha := hO.ast
  have hbl := (hO.fc b hb).1
  have h := hG.1 (64 * p + b) (by omega) (by omega) (by omega) (by omega)
  rw [flr_a (by omega), show (64 * p + b) % 64 = b by omega, show (64 * p + b) / 64 = p by omega, if_pos hb.symm] at h
  exact h
theorem dig_sub {M : List Nat} {f : Nat → Int32} {n j : Nat} (hT : TXT f n M) (hj : j < n) (h9 : M.getD j 0 ≤ 9) : f j - 48 = nI (M.getD j 0) ∧ f j = nI (48 + M.getD j 0) := by
  have h1 : f j = nI (48 + M.getD j 0) := by
    rw [hT.b hj]
    unfold chB chr36
    rw [if_pos (by omega)]
  refine ⟨?_, h1⟩
  rw [h1, show (48 : Int32) = nI 48 from rfl, nI_sub' (by omega), Nat.add_sub_cancel_left]
theorem b1s {s : mS} {X : Option Int32} {v : Int32} (h : X = some v) : (X.bind fun q => some (q, s)) = some (v, s) := by rw [h]; rfl
theorem b2s {s' : mS} {X : Option (Int32 × mS)} {v : Int32} (h : X = some (v, s')) : (X.bind fun q => some (q.1, q.2)) = some (v, s') := by rw [h]; rfl
set_option maxHeartbeats 1000000 in
theorem d_mat {n : Nat} {s : mS} {z : Z} (hB : MB s z) (hQ : MQu s z) (hO : okZ n z) (hG : good z) (hn : n ≤ 512) {k p : Nat} {M : List Nat} (hk : k < 15) (hok : okM k M) (hT : TXT (s.2.2.1 24) M.length M) (hp : p < z.mem.length) (h4 : s.1 4 = nI k) (h5 : s.1 5 = nI p) (hc0 : cdF z (cds k M) = 0) : d_Mo_ownFault s = some (nI (vMat z k p M), s) := by
  have hm := hO.mem
  have hl := hok.len
  have hf := hok.ok
  have h36 := hT.m36
  have hN := hok.l123
  have fnd := cdF_0 hc0
  have hc : k = 0 ∨ k = 1 ∨ k = 2 ∨ k = 3 ∨ k = 4 ∨ k = 5 ∨ k = 6 ∨ k = 7 ∨ k = 8 ∨ k = 9 ∨ k = 10 ∨ k = 11 ∨ k = 12 ∨ k = 13 ∨ k = 14 := by omega
  rcases hc with rfl | rfl | rfl | rfl | rfl | rfl | rfl | rfl | rfl | rfl | rfl | rfl | rfl | rfl | rfl
  · have hl' : M.length = 17 + 4 := hl
    unfold d_Mo_ownFault
    rw [h4, if_pos (by decide)]
    exact d_jnew hB hO hT (by omega) (by omega)
  · have hl' : M.length = 17 + 21 := hl
    unfold d_Mo_ownFault
    rw [h4, if_neg (by decide), if_pos (by decide)]
    exact d_jast hB hO hT (by omega) (by omega)
  · have hl' : M.length = 17 + 20 := hl
    have hf' : isD (sl M 18 15) = true ∧ isD (sl M 33 2) = true := hf
    have a1 := cdO_a (fnd (true, sl M 15 3) (by simp [cds]))
    unfold d_Mo_ownFault
    rw [h4, if_neg (by decide), if_neg (by decide), if_pos (by decide)]
    exact b2s (d_jprc hB hO hn hT (by omega) (by omega) a1 hf'.1 rfl hf'.2 rfl (num15 (by omega) hf'.1) (num2 (by omega) hf'.2))
  · have hl' : M.length = 17 + 22 := hl
    have hf' : isD (sl M 22 15) = true := hf
    have a1 := cdO_a (fnd (true, sl M 15 3) (by simp [cds]))
    have b1 := cdO_m (fnd (false, sl M 18 4) (by simp [cds]))
    have := d_jbnk hB hO hn hT (by omega) (by omega) (Or.inl rfl) h4 a1 b1 hf' rfl (num15 (by omega) hf')
    unfold d_Mo_ownFault
    rw [h4, if_neg (by decide), if_neg (by decide), if_neg (by decide), if_pos (by decide)]
    exact b1s this
  · have hl' : M.length = 17 + 22 := hl
    have hf' : isD (sl M 22 15) = true := hf
    have a1 := cdO_a (fnd (true, sl M 15 3) (by simp [cds]))
    have b1 := cdO_m (fnd (false, sl M 18 4) (by simp [cds]))
    have := d_jbnk hB hO hn hT (by omega) (by omega) (Or.inr rfl) h4 a1 b1 hf' rfl (num15 (by omega) hf')
    unfold d_Mo_ownFault
    rw [h4, if_neg (by decide), if_neg (by decide), if_neg (by decide), if_pos (by decide)]
    exact b1s this
  · obtain ⟨f1, f2, f3, f4⟩ := hok.l5
    have hb := legsZ_b hO hok hc0
    have hr := d_jpay_loop hQ hB hO hT (by omega) (ls := legsZ z M) (by rw [legsZ_len]; omega) (by rw [legsZ_len]; omega) (legsZ_R hok hc0) (by rw [legsZ_len]; exact (dig_sub hT (by omega) (by omega)).1) (fun l hl => by obtain ⟨x1, x2, x3, x4⟩ := hb l hl; exact ⟨by omega, by omega, x4⟩) _ 100000 0 rfl (by rw [legsZ_len]; omega) (by omega)
    rw [List.drop_zero] at hr
    have hr' : d_Mo_legsFault s = some (nI (vLeg z (legsZ z M))) := hr
    unfold d_Mo_ownFault
    rw [h4, if_neg (by decide), if_neg (by decide), if_neg (by decide), if_neg (by decide), if_pos (by decide)]
    exact b1s hr'
  · have hl' : M.length = 17 + 12 := hl
    have b1 := cdO_m (fnd (false, sl M 15 4) (by simp [cds]))
    unfold d_Mo_ownFault
    rw [h4, if_neg (by decide), if_neg (by decide), if_neg (by decide), if_neg (by decide), if_neg (by decide), if_pos (by decide)]
    exact b1s (d_jcnf hQ hB hO hT (by omega) (by omega) h36 b1 h5 (by omega))
  · have hl' : M.length = 17 + 8 := hl
    unfold d_Mo_ownFault
    rw [h4, if_neg (by decide), if_neg (by decide), if_neg (by decide), if_neg (by decide), if_neg (by decide), if_neg (by decide), if_pos (by decide)]
    exact d_jown hQ hO hT (by omega) (by omega) h36 (by omega) h5
  · have hl' : M.length = 17 + 9 := hl
    unfold d_Mo_ownFault
    rw [h4, if_neg (by decide), if_neg (by decide), if_neg (by decide), if_neg (by decide), if_neg (by decide), if_neg (by decide), if_pos (by decide)]
    exact d_jown hQ hO hT (by omega) (by omega) h36 (by omega) h5
  · have hl' : M.length = 17 + 19 := hl
    have hf' : isD (sl M 19 15) = true := hf
    have b1 := cdO_m (fnd (false, sl M 15 4) (by simp [cds]))
    unfold d_Mo_ownFault
    rw [h4, if_neg (by decide), if_neg (by decide), if_neg (by decide), if_neg (by decide), if_neg (by decide), if_neg (by decide), if_neg (by decide), if_pos (by decide)]
    exact b1s (d_jlim hB hO hn hT (by omega) (by omega) hp b1 hf' rfl (num15 (by omega) hf') h5)
  · have hl' : M.length = 17 + 4 := hl
    have b1 := cdO_m (fnd (false, sl M 15 4) (by simp [cds]))
    unfold d_Mo_ownFault
    rw [h4, if_neg (by decide), if_neg (by decide), if_neg (by decide), if_neg (by decide), if_neg (by decide), if_neg (by decide), if_neg (by decide), if_neg (by decide), if_pos (by decide)]
    exact d_junl hB hO hT (by omega) (by omega) hp b1 h5
  · have hl' : M.length = 17 + 18 := hl
    have hf' : isD (sl M 18 15) = true := hf
    have a1 := cdO_a (fnd (true, sl M 15 3) (by simp [cds]))
    unfold d_Mo_ownFault
    rw [h4, if_neg (by decide), if_neg (by decide), if_neg (by decide), if_neg (by decide), if_neg (by decide), if_neg (by decide), if_neg (by decide), if_neg (by decide), if_neg (by decide), if_pos (by decide)]
    exact b2s (d_jplg hB hO hn hT (by omega) (by omega) h4 h5 hp a1 hf' rfl (num15 (by omega) hf') (good_fc hO hG hp))
  · have hl' : M.length = 17 + 18 := hl
    have hf' : isD (sl M 18 15) = true := hf
    have a1 := cdO_a (fnd (true, sl M 15 3) (by simp [cds]))
    unfold d_Mo_ownFault
    rw [h4, if_neg (by decide), if_neg (by decide), if_neg (by decide), if_neg (by decide), if_neg (by decide), if_neg (by decide), if_neg (by decide), if_neg (by decide), if_neg (by decide), if_pos (by decide)]
    exact b2s (d_junp hB hO hn hT (by omega) (by omega) h4 h5 hp a1 hf' rfl (num15 (by omega) hf'))
  · unfold d_Mo_ownFault
    rw [h4, if_neg (by decide), if_neg (by decide), if_neg (by decide), if_neg (by decide), if_neg (by decide), if_neg (by decide), if_neg (by decide), if_neg (by decide), if_neg (by decide), if_neg (by decide)]
    rfl
  · unfold d_Mo_ownFault
    rw [h4, if_neg (by decide), if_neg (by decide), if_neg (by decide), if_neg (by decide), if_neg (by decide), if_neg (by decide), if_neg (by decide), if_neg (by decide), if_neg (by decide), if_neg (by decide)]
    rfl
