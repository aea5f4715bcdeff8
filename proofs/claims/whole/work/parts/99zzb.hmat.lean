/-! The class judges the matter. -/
theorem fdA {z : Z} {c : List Nat} {x : Int32} (h : ∃ v, cdO z (true, c) = some v ∧ x = nI v) : z.fa c = some (faD z c) ∧ x = nI (faD z c) := by
  obtain ⟨v, v1, v2⟩ := h
  have v1' : z.fa c = some v := v1
  have e : faD z c = v := by unfold faD; rw [v1']; rfl
  rw [e]; exact ⟨v1', v2⟩
theorem fdM {z : Z} {c : List Nat} {x : Int32} (h : ∃ v, cdO z (false, c) = some v ∧ x = nI v) : z.fm c = some (fmD z c) ∧ x = nI (fmD z c) := by
  obtain ⟨v, v1, v2⟩ := h
  have v1' : z.fm c = some v := v1
  have e : fmD z c = v := by unfold fmD; rw [v1']; rfl
  rw [e]; exact ⟨v1', v2⟩
theorem MG.LG {S : hS} {z : Z} {p : Nat} {M : List Nat} (m : MG S z 5 p M) : LG S (legsZ z M) := by
  intro t l hl
  obtain ⟨ht, rfl⟩ := legsZ_get hl
  obtain ⟨g1, g2, g3⟩ := legsC_get M _ t ht
  exact ⟨(fdM (m.fd _ _ g1)).2, (fdM (m.fd _ _ g2)).2, (fdA (m.fd _ _ g3)).2, m.am _ _ (legsA_get M _ t ht)⟩
theorem MG.l812 {S : hS} {z : Z} {p : Nat} {M : List Nat} (m : MG S z 5 p M) : S.2.1 812 2 = nI (legsZ z M).length := by
  have h : S.2.1 812 2 = nI (legsA M (M.getD 16 0)).length := m.e812
  rw [h, legsA_len, legsZ_len]
theorem cdF_of {z : Z} : ∀ {cs : List (Bool × List Nat)}, (∀ (t : Nat) (c : Bool × List Nat), cs[t]? = some c → ∃ v, cdO z c = some v) → cdF z cs = 0 := by
  intro cs
  induction cs with
  | nil => intro _; rfl
  | cons d l ih =>
    intro h
    obtain ⟨v, hv⟩ := h 0 d rfl
    unfold cdF
    rw [hv]
    exact ih (fun t c hc => h (t + 1) c (by rw [List.getElem?_cons_succ]; exact hc))
theorem uPrc_crdm {z : Z} {a prc cut : Nat} {x : Ast} (hx : z.ast[a]? = some x) (hm : x.mny = true) (p : Nat) : (z.uPrc a prc cut).crd p = z.crd p := by
  unfold Z.crd
  rw [uPrc_len]
  refine sumN_cong (fun b _ => ?_)
  by_cases c : b = a
  · rw [c]
    unfold Z.wor
    rw [uPrc_get z hx, hx]
    show (if x.mny = true then 0 else _) = (if x.mny = true then 0 else _)
    rw [if_pos hm, if_pos hm]
  · exact uPrc_wor z prc cut c
theorem crd_le {n : Nat} {z : Z} (hO : okZ n z) {p : Nat} (hp : p < z.mem.length) : z.crd p ≤ mostN := Nat.le_trans (sumN_le (f := z.crd) hp) hO.crd
theorem uPrc_hb2 {n : Nat} {z : Z} (hO : okZ n z) {a prc cut : Nat} (ha : a < z.ast.length) : ∀ p, p < z.mem.length → (z.uPrc a prc cut).crd p ≤ 8000000000000000001 := by
  obtain ⟨x, hx⟩ := get_lt (ks := z.ast) ha
  cases hm : x.mny with
  | false => exact uPrc_hb hO hx hm
  | true =>
    intro p hp
    rw [uPrc_crdm hx hm]
    have h1 := crd_le hO hp
    have h2 : mostN = 4000000000000000000 := rfl
    omega
theorem b1S {S : hS} {X : Option Int32} {v : Int32} (h : X = some v) : (X.bind fun q => some (q, S)) = some (v, S) := by rw [h]; rfl
set_option maxHeartbeats 1000000 in
theorem h_mat {n : Nat} {S : hS} {z : Z} {g : hG} {q u : List Ins} {L : Nat} {es : List (Ins × Bool)} (h : HZ S z g q u L es) (hO : okZ n z) (hn : n ≤ 512) {k p : Nat} {M : List Nat} (hk : k < 15) (hok : okM k M) (h36 : is36 M) (hp : p < z.mem.length) (m : MG S z k p M) (hlen : S.1.length < am_M) : ∃ S' g', h_De_judgeMatter S = some (nI (vMat z k p M), S') ∧ GR S S' z g g' ∧ S'.1.length ≤ S.1.length + 1 := by
  have hB := h.B
  have hm := hO.mem
  have hl := hok.len
  have hf := hok.ok
  have m4 := m.e804
  have same : ∀ {v : Nat}, h_De_judgeMatter S = some (nI v, S) → ∃ S' g', h_De_judgeMatter S = some (nI v, S') ∧ GR S S' z g g' ∧ S'.1.length ≤ S.1.length + 1 := fun hv => ⟨S, g, hv, GR.rf hB, by omega⟩
  have hc : k = 0 ∨ k = 1 ∨ k = 2 ∨ k = 3 ∨ k = 4 ∨ k = 5 ∨ k = 6 ∨ k = 7 ∨ k = 8 ∨ k = 9 ∨ k = 10 ∨ k = 11 ∨ k = 12 ∨ k = 13 ∨ k = 14 := by omega
  rcases hc with rfl | rfl | rfl | rfl | rfl | rfl | rfl | rfl | rfl | rfl | rfl | rfl | rfl | rfl | rfl
  · have hl' : M.length = 17 + 4 := hl
    refine same ?_
    unfold h_De_judgeMatter
    rw [m4, if_pos (by decide)]
    exact b1S (h_jnew hB hO (sl_len (by omega)) (sl_36 h36 _ _) m.ot)
  · have hl' : M.length = 17 + 21 := hl
    have ot : S.2.1 814 2 = nI (b36 (sl M 15 3)) ∧ _ := m.ot
    refine same ?_
    unfold h_De_judgeMatter
    rw [m4, if_neg (by decide), if_pos (by decide)]
    exact b1S (h_jast hB hO (sl_len (by omega)) (sl_36 h36 _ _) ot.1)
  · have hl' : M.length = 17 + 20 := hl
    have hf' : isD (sl M 18 15) = true ∧ isD (sl M 33 2) = true := hf
    have ot : S.2.1 816 2 = nI (num (sl M 33 2)) := m.ot
    obtain ⟨a1, a2⟩ := fdA (m.fd 0 (true, sl M 15 3) rfl)
    refine same ?_
    unfold h_De_judgeMatter
    rw [m4, if_neg (by decide), if_neg (by decide), if_pos (by decide)]
    exact b1S (h_jprc hB hO hn (fa_lt a1) (num15 (by omega) hf'.1) (num2 (by omega) hf'.2) (uPrc_hb2 hO (fa_lt a1)) ot a2 (m.am 0 (sl M 18 15) rfl))
  · have hl' : M.length = 17 + 22 := hl
    have hf' : isD (sl M 22 15) = true := hf
    obtain ⟨a1, a2⟩ := fdA (m.fd 0 (true, sl M 15 3) rfl)
    obtain ⟨b1, b2⟩ := fdM (m.fd 1 (false, sl M 18 4) rfl)
    refine same ?_
    unfold h_De_judgeMatter
    rw [m4, if_neg (by decide), if_neg (by decide), if_neg (by decide), if_pos (by decide)]
    exact b1S (h_jiss hB hO hn (fm_lt b1).1 (fa_lt a1) (num15 (by omega) hf') a2 b2 (m.am 0 (sl M 22 15) rfl))
  · have hl' : M.length = 17 + 22 := hl
    have hf' : isD (sl M 22 15) = true := hf
    obtain ⟨a1, a2⟩ := fdA (m.fd 0 (true, sl M 15 3) rfl)
    obtain ⟨b1, b2⟩ := fdM (m.fd 1 (false, sl M 18 4) rfl)
    obtain ⟨S', g', r1, r2, r3⟩ := h_jred hB hO hn (fm_lt b1).1 (fa_lt a1) (num15 (by omega) hf') a2 b2 (m.am 0 (sl M 22 15) rfl) hlen
    refine ⟨S', g', ?_, r2, r3⟩
    unfold h_De_judgeMatter
    rw [m4, if_neg (by decide), if_neg (by decide), if_neg (by decide), if_neg (by decide), if_pos (by decide), r1]
    rfl
  · obtain ⟨f1, f2, f3, f4⟩ := hok.l5
    have hc0 : cdF z (cds 5 M) = 0 := cdF_of (fun t c hc => by obtain ⟨v, v1, _⟩ := m.fd t c hc; exact ⟨v, v1⟩)
    have hb := legsZ_b hO hok hc0
    have hr := h_jpay_loop h.Q hO (ls := legsZ z M) (by rw [legsZ_len]; omega) m.l812 m.LG (fun l hl => by obtain ⟨x1, x2, x3, x4⟩ := hb l hl; exact ⟨by omega, by omega, x4⟩) _ 100000 0 rfl (by rw [legsZ_len]; omega) (by omega)
    rw [List.drop_zero] at hr
    have hr' : h_De_judgePay S = some (nI (vLeg z (legsZ z M))) := hr
    refine same ?_
    unfold h_De_judgeMatter
    rw [m4, if_neg (by decide), if_neg (by decide), if_neg (by decide), if_neg (by decide), if_neg (by decide), if_pos (by decide)]
    exact b1S hr'
  · have hl' : M.length = 17 + 12 := hl
    have ot : S.2.2.1 818 2 = lI (b36 (sl M 19 8) : Nat) := m.ot
    obtain ⟨b1, b2⟩ := fdM (m.fd 0 (false, sl M 15 4) rfl)
    have hw := (fm_lt b1).1
    refine same ?_
    unfold h_De_judgeMatter
    rw [m4, if_neg (by decide), if_neg (by decide), if_neg (by decide), if_neg (by decide), if_neg (by decide), if_neg (by decide), if_pos (by decide)]
    exact b1S (h_jcnf hB h.Q hO (by omega) (sl_len (by omega)) (sl_36 h36 _ _) b2 ot m.e813 (by omega))
  · have hl' : M.length = 17 + 8 := hl
    have ot : S.2.2.1 818 2 = lI (b36 (sl M 15 8) : Nat) := m.ot
    refine same ?_
    unfold h_De_judgeMatter
    rw [m4, if_neg (by decide), if_neg (by decide), if_neg (by decide), if_neg (by decide), if_neg (by decide), if_neg (by decide), if_neg (by decide), if_pos (by decide)]
    exact h_jown hB h.Q hO (by omega) (sl_len (by omega)) (sl_36 h36 _ _) m.e813 ot
  · have hl' : M.length = 17 + 9 := hl
    have ot : S.2.2.1 818 2 = lI (b36 (sl M 15 8) : Nat) ∧ _ := m.ot
    refine same ?_
    unfold h_De_judgeMatter
    rw [m4, if_neg (by decide), if_neg (by decide), if_neg (by decide), if_neg (by decide), if_neg (by decide), if_neg (by decide), if_neg (by decide), if_pos (by decide)]
    exact h_jown hB h.Q hO (by omega) (sl_len (by omega)) (sl_36 h36 _ _) m.e813 ot.1
  · have hl' : M.length = 17 + 19 := hl
    have hf' : isD (sl M 19 15) = true := hf
    obtain ⟨b1, b2⟩ := fdM (m.fd 0 (false, sl M 15 4) rfl)
    refine same ?_
    unfold h_De_judgeMatter
    rw [m4, if_neg (by decide), if_neg (by decide), if_neg (by decide), if_neg (by decide), if_neg (by decide), if_neg (by decide), if_neg (by decide), if_neg (by decide), if_pos (by decide)]
    exact b1S (h_jlim hB hO hn hp (fm_lt b1).1 (num15 (by omega) hf') m.e813 b2 (m.am 0 (sl M 19 15) rfl))
  · have hl' : M.length = 17 + 4 := hl
    obtain ⟨b1, b2⟩ := fdM (m.fd 0 (false, sl M 15 4) rfl)
    refine same ?_
    unfold h_De_judgeMatter
    rw [m4, if_neg (by decide), if_neg (by decide), if_neg (by decide), if_neg (by decide), if_neg (by decide), if_neg (by decide), if_neg (by decide), if_neg (by decide), if_neg (by decide), if_pos (by decide)]
    exact b1S (h_junl hB hO hp (fm_lt b1).1 m.e813 b2)
  · have hl' : M.length = 17 + 18 := hl
    have hf' : isD (sl M 18 15) = true := hf
    obtain ⟨a1, a2⟩ := fdA (m.fd 0 (true, sl M 15 3) rfl)
    refine same ?_
    unfold h_De_judgeMatter
    rw [m4, if_neg (by decide), if_neg (by decide), if_neg (by decide), if_neg (by decide), if_neg (by decide), if_neg (by decide), if_neg (by decide), if_neg (by decide), if_neg (by decide), if_neg (by decide), if_pos (by decide)]
    exact b1S (h_jplg hB hO hn hp (fa_lt a1) (num15 (by omega) hf') m.e813 a2 (m.am 0 (sl M 18 15) rfl))
  · have hl' : M.length = 17 + 18 := hl
    have hf' : isD (sl M 18 15) = true := hf
    obtain ⟨a1, a2⟩ := fdA (m.fd 0 (true, sl M 15 3) rfl)
    refine same ?_
    unfold h_De_judgeMatter
    rw [m4, if_neg (by decide), if_neg (by decide), if_neg (by decide), if_neg (by decide), if_neg (by decide), if_neg (by decide), if_neg (by decide), if_neg (by decide), if_neg (by decide), if_neg (by decide), if_neg (by decide), if_pos (by decide)]
    exact b1S (h_junp hB hO hn hp (fa_lt a1) (num15 (by omega) hf') m.e813 a2 (m.am 0 (sl M 18 15) rfl))
  · refine same ?_
    unfold h_De_judgeMatter
    rw [m4, if_neg (by decide), if_neg (by decide), if_neg (by decide), if_neg (by decide), if_neg (by decide), if_neg (by decide), if_neg (by decide), if_neg (by decide), if_neg (by decide), if_neg (by decide), if_neg (by decide), if_neg (by decide)]
    rfl
  · refine same ?_
    unfold h_De_judgeMatter
    rw [m4, if_neg (by decide), if_neg (by decide), if_neg (by decide), if_neg (by decide), if_neg (by decide), if_neg (by decide), if_neg (by decide), if_neg (by decide), if_neg (by decide), if_neg (by decide), if_neg (by decide), if_neg (by decide)]
    rfl
