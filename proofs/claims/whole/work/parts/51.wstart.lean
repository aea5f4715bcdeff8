/-! The law from its entry. -/
theorem ar_new {P : am_P} {sc : am_Sc} {F L mc ms j : Nat} {Q : Option Value → am_H → Prop} {pc pc' : Nat} {lo : am_Lo} {st : List Value} {h : am_H} {k n : Nat} (ok : am_ok P j) {x len a b c N ad k' n' : Nat} (hi : P.1 j pc = some (.new x, len, a, b, c)) (hl : h.length = ad) (hM : ad < am_M) (hN : am_cN b = N) (hp : pc + 3 = pc') (hk' : k + 1 = k') (hn' : n + N = n') (hk : k' ≤ mc) (hn : n' ≤ ms) (kk : am_S P sc F L mc ms j (pc', lo, .ref ad :: st, h ++ [.inr (b, am_df b)], k', n') Q) : am_S P sc F L mc ms j (pc, lo, st, h, k, n) Q := by
  subst hp; subst hk'; subst hn'; subst hN; subst hl
  refine am_step ok (am_f_hp hi rfl rfl rfl (y := (pc + 3, .ref h.length :: st, h ++ [.inr (b, am_df b)], k + 1, n + am_cN b)) ?_) hk hn kk
  show (if h.length < am_M then _ else _) = _
  exact if_pos hM
def wm0 : am_H := hx_37 ++ [.inr (1, am_df 1)]
set_option maxHeartbeats 4000000 in
set_option maxRecDepth 100000 in
theorem wl_S (I : Nat → hS → mS → Prop) (hI : wStep I) (h0 : ∀ f : Nat → Int64, (∀ j, j < 65536 → f j = -1) → I 0 w0S (w0s f)) (N : Nat) (hN : N ≤ 3072) (xs : Nat → Int32) : am_S am_Pr (some (N, xs)) 14 550 600000 7302250 227 (0, [some (.ref 16777216), none, none, none], [], [], 0, 0) (fun r _ => r = some (.int 1)) := by
  refine ar_new ok_La_law rfl (ad := 0) rfl (by decide) (N := 8) rfl (pc' := 3) rfl (k' := 1) rfl (n' := 8) rfl (Nat.le_of_ble_eq_true rfl) (Nat.le_of_ble_eq_true rfl) ?_
  refine am_steps ok_La_law 1 (x' := (4, [some (.ref 16777216), none, none, none], [.ref 0, .ref 0], hx_0, 1, 8)) rfl (Nat.le_of_ble_eq_true rfl) (Nat.le_of_ble_eq_true rfl) ?_
  refine am_call ok_La_law hk_Ho_init rfl (args' := [.ref 0]) (rest := [.ref 0]) rfl (am_Me_none hi_14) (Nat.le_of_ble_eq_true rfl) (Nat.le_of_ble_eq_true rfl) (Nat.le_of_ble_eq_true rfl) (Nat.le_of_ble_eq_true rfl) (fun r1 h1 q1 => ?_)
  rw [q1.1, q1.2]
  show am_S _ _ _ _ _ _ _ (7, [some (.ref 16777216), none, none, none], [.ref 0], hx_37, 22, 7638) _
  refine am_steps ok_La_law 1 (x' := (8, [some (.ref 16777216), some (.ref 0), none, none], [], hx_37, 22, 7638)) rfl (Nat.le_of_ble_eq_true rfl) (Nat.le_of_ble_eq_true rfl) ?_
  refine ar_new ok_La_law rfl (ad := 22) rfl (by decide) (N := 62) rfl (pc' := 11) rfl (k' := 23) rfl (n' := 7700) rfl (Nat.le_of_ble_eq_true rfl) (Nat.le_of_ble_eq_true rfl) ?_
  refine am_steps ok_La_law 1 (x' := (12, [some (.ref 16777216), some (.ref 0), none, none], [.ref 22, .ref 22], wm0, 23, 7700)) rfl (Nat.le_of_ble_eq_true rfl) (Nat.le_of_ble_eq_true rfl) ?_
  refine am_call ok_La_law hk_Mo_init rfl (args' := [.ref 22]) (rest := [.ref 22]) rfl (am_Me_none (mo_MeW wm0 rfl rfl)) (Nat.le_of_ble_eq_true rfl) (Nat.le_of_ble_eq_true rfl) (Nat.le_of_ble_eq_true rfl) (Nat.le_of_ble_eq_true rfl) (fun r2 h2 q2 => ?_)
  obtain ⟨rfl, ql, qH, f, qM, qf⟩ := q2
  have hR : RH w0S h2 := RH_fresh ql (fun q hq => (qH q hq).trans (List.getElem?_append_left (by show q < 22; exact hq)))
  show am_S _ _ _ _ _ _ _ (15, [some (.ref 16777216), some (.ref 0), none, none], [.ref 22], h2, 60, 698108) _
  refine am_steps ok_La_law 3 (x' := (18, [some (.ref 16777216), some (.ref 0), some (.ref 22), some (.int (nI (6 * 0)))], [], h2, 60 + 261 * 0, 698108 + 5860 * 0)) rfl (Nat.le_of_ble_eq_true rfl) (Nat.le_of_ble_eq_true rfl) ?_
  exact wl_loop I hI N (by omega) xs 513 0 rfl w0S (w0s f) h2 (by omega) hR qM (h0 f qf)
