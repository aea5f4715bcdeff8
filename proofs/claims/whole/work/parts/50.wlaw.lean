/-! The law over the functions of both sides: if some invariant is kept by every call, with the same answers, the law answers true. -/
theorem RM_hF {s : mS} {h h' : am_H} (hM : RM s h) (hf : hF h h') : RM s h' := ⟨(hf 22 (by decide) (by decide)).trans hM.1, fun p hp => (hf p.1 (Nat.le_of_lt (mat_lo p hp).1) (mat_lo p hp).2).trans (hM.2 p hp)⟩
theorem RH_mF {S : hS} {h h' : am_H} (hR : RH S h) (hf : mF h h') : RH S h' := ⟨hf.2.trans hR.1, fun a p hp h9 => (hf.1 a (hs_lt ⟨p.2, hp⟩ h9 hR.2.2.2.2.2)).trans (hR.2.1 a p hp h9), hR.2.2⟩
theorem lg_cmp_self (x : Int64) : lg_cmp x x = 0 := by
  unfold lg_cmp
  simp
theorem law_sub6a : ∀ q, q < 49 → ∀ r, r < 64 → (Int32.ofNat (64 * q + r) - 6).toInt = ((64 * q + r : Nat) : Int) - 6 := by decide +kernel
theorem law_sub6 (l : Nat) (h : l < 3073) : (Int32.ofNat l - 6).toInt = (l : Int) - 6 := by
  have h1 := law_sub6a (l / 64) (by omega) (l % 64) (by omega)
  rw [show 64 * (l / 64) + l % 64 = l by omega] at h1
  exact h1
section WL
variable {P : am_P} {F L mc ms j : Nat} {Q : Option Value → am_H → Prop} {pc pc' : Nat} {lo : am_Lo} {st : List Value} {h : am_H} {k n N : Nat} {f : Nat → Int32}
theorem ar_sald (ok : am_ok P j) {len a b c jx : Nat} {i v : Int32} (hi : P.1 j pc = some (.iaload, len, a, b, c)) (hx : am_ix i N = some jx) (hv : f jx = v) (hp : pc + 1 = pc') (hk : k ≤ mc) (hn : n ≤ ms) (kk : am_S P (some (N, f)) F L mc ms j (pc', lo, .int v :: st, h, k, n) Q) : am_S P (some (N, f)) F L mc ms j (pc, lo, .int i :: .ref am_M :: st, h, k, n) Q := by
  subst hp; subst hv
  refine am_step ok (am_f_hp hi rfl rfl rfl (y := (pc + 1, .int (f jx) :: st, h, k, n)) ?_) hk hn kk
  show (am_ix i N).bind _ = _
  rw [hx]; rfl
theorem ar_slen (ok : am_ok P j) {len a b c : Nat} {w : Int32} (hi : P.1 j pc = some (.arraylength, len, a, b, c)) (hv : Int32.ofNat N = w) (hp : pc + 1 = pc') (hk : k ≤ mc) (hn : n ≤ ms) (kk : am_S P (some (N, f)) F L mc ms j (pc', lo, .int w :: st, h, k, n) Q) : am_S P (some (N, f)) F L mc ms j (pc, lo, .ref am_M :: st, h, k, n) Q := by
  subst hp; subst hv
  refine am_step ok (am_f_hp hi rfl rfl rfl (y := (pc + 1, .int (Int32.ofNat N) :: st, h, k, n)) rfl) hk hn kk
end WL
/-- an invariant of both sides, by the number of calls: every call keeps it, with the same answers -/
def wStep (I : Nat → hS → mS → Prop) : Prop := ∀ (n : Nat) (S : hS) (s : mS), n < 512 → I n S s →
  (∀ a b c d e, ∃ r S' s', h_Ho_feed a b c d e S = some (r, S') ∧ d_Mo_feed a b c d e s = some (r, s') ∧ I (n + 1) S' s') ∧
  (∀ a, ∃ r S' s', h_Ho_send a S = some (r, S') ∧ d_Mo_send a s = some (r, s') ∧ I (n + 1) S' s') ∧
  (∀ a, ∃ r S' s', h_Ho_tick a S = some (r, S') ∧ d_Mo_tick a s = some (r, s') ∧ I (n + 1) S' s') ∧
  (∃ r S' s', h_Ho_fetch S = some (r, S') ∧ d_Mo_fetch s = some (r, s') ∧ I (n + 1) S' s') ∧
  (∀ a, ∃ r S' s', h_Ho_charge a S = some (r, S') ∧ d_Mo_charge a s = some (r, s') ∧ I (n + 1) S' s') ∧
  (∃ r S' s', h_Ho_start S = some (r, S') ∧ d_Mo_start s = some (r, s') ∧ I (n + 1) S' s') ∧
  (∀ a b, ∃ r, h_Ho_position a b S = some r ∧ d_Mo_position a b s = some r) ∧
  (∀ a, ∃ r, h_Ho_count a S = some r ∧ d_Mo_count a s = some r) ∧
  (∃ r, h_Ho_broken S = some r ∧ d_Mo_broken s = some r) ∧
  I (n + 1) S s

set_option maxHeartbeats 4000000 in
set_option maxRecDepth 100000 in
theorem wl_0 (I : Nat → hS → mS → Prop) (hI : wStep I) (N : Nat) (hN : N < 3073) (xs : Nat → Int32) (c i k n : Nat) (hc : c < 512) (hi : i + 6 ≤ N) (hk : k + 261 ≤ 600000) (hn : n + 5860 ≤ 7302250) (S : hS) (s : mS) (h : am_H) (hR : RH S h) (hM : RM s h) (hIn : I c S s)
    (K : ∀ (S' : hS) (s' : mS) (h' : am_H), RH S' h' → RM s' h' → I (c + 1) S' s' → am_S am_Pr (some (N, xs)) 14 550 600000 7302250 227 (18, [some (.ref am_M), some (.ref 0), some (.ref 22), some (.int (nI (i + 6)))], [], h', k + 261, n + 5860) (fun r _ => r = some (.int 1))) : am_S am_Pr (some (N, xs)) 14 550 600000 7302250 227 (33, [some (.ref am_M), some (.ref 0), some (.ref 22), some (.int (nI i))], [.int 0], h, k, n) (fun r _ => r = some (.int 1)) := by
  obtain ⟨hS1, hS2, hS3, hS4, hS5, hS6, hS7, hS8, hS9, hS10⟩ := hI c S s hc hIn
  obtain ⟨r, S1, s1, e1, e2, hI1⟩ := hS1 (xs (i + 1)) (xs (i + 2)) (xs (i + 3)) (xs (i + 4)) (xs (i + 5))
  refine am_steps ok_La_law 5 (x' := (88, [some (.ref am_M), some (.ref 0), some (.ref 22), some (.int (nI i))], [.int 1, .int (nI i), .ref am_M, .ref 0], h, k, n)) rfl (by (try dsimp only); omega) (by (try dsimp only); omega) ?_
  refine ar_iadd ok_La_law rfl (w := nI (i + 1)) (am_nadd i 1) (pc' := 89) rfl (by (try dsimp only); omega) (by (try dsimp only); omega) ?_
  refine ar_sald ok_La_law rfl (am_ixN (i := i + 1) (by omega) (by omega)) (v := xs (i + 1)) rfl (pc' := 90) rfl (by (try dsimp only); omega) (by (try dsimp only); omega) ?_
  refine am_steps ok_La_law 3 (x' := (93, [some (.ref am_M), some (.ref 0), some (.ref 22), some (.int (nI i))], [.int 2, .int (nI i), .ref am_M, .int (xs (i + 1)), .ref 0], h, k, n)) rfl (by (try dsimp only); omega) (by (try dsimp only); omega) ?_
  refine ar_iadd ok_La_law rfl (w := nI (i + 2)) (am_nadd i 2) (pc' := 94) rfl (by (try dsimp only); omega) (by (try dsimp only); omega) ?_
  refine ar_sald ok_La_law rfl (am_ixN (i := i + 2) (by omega) (by omega)) (v := xs (i + 2)) rfl (pc' := 95) rfl (by (try dsimp only); omega) (by (try dsimp only); omega) ?_
  refine am_steps ok_La_law 3 (x' := (98, [some (.ref am_M), some (.ref 0), some (.ref 22), some (.int (nI i))], [.int 3, .int (nI i), .ref am_M, .int (xs (i + 2)), .int (xs (i + 1)), .ref 0], h, k, n)) rfl (by (try dsimp only); omega) (by (try dsimp only); omega) ?_
  refine ar_iadd ok_La_law rfl (w := nI (i + 3)) (am_nadd i 3) (pc' := 99) rfl (by (try dsimp only); omega) (by (try dsimp only); omega) ?_
  refine ar_sald ok_La_law rfl (am_ixN (i := i + 3) (by omega) (by omega)) (v := xs (i + 3)) rfl (pc' := 100) rfl (by (try dsimp only); omega) (by (try dsimp only); omega) ?_
  refine am_steps ok_La_law 3 (x' := (103, [some (.ref am_M), some (.ref 0), some (.ref 22), some (.int (nI i))], [.int 4, .int (nI i), .ref am_M, .int (xs (i + 3)), .int (xs (i + 2)), .int (xs (i + 1)), .ref 0], h, k, n)) rfl (by (try dsimp only); omega) (by (try dsimp only); omega) ?_
  refine ar_iadd ok_La_law rfl (w := nI (i + 4)) (am_nadd i 4) (pc' := 104) rfl (by (try dsimp only); omega) (by (try dsimp only); omega) ?_
  refine ar_sald ok_La_law rfl (am_ixN (i := i + 4) (by omega) (by omega)) (v := xs (i + 4)) rfl (pc' := 105) rfl (by (try dsimp only); omega) (by (try dsimp only); omega) ?_
  refine am_steps ok_La_law 3 (x' := (108, [some (.ref am_M), some (.ref 0), some (.ref 22), some (.int (nI i))], [.int 5, .int (nI i), .ref am_M, .int (xs (i + 4)), .int (xs (i + 3)), .int (xs (i + 2)), .int (xs (i + 1)), .ref 0], h, k, n)) rfl (by (try dsimp only); omega) (by (try dsimp only); omega) ?_
  refine ar_iadd ok_La_law rfl (w := nI (i + 5)) (am_nadd i 5) (pc' := 109) rfl (by (try dsimp only); omega) (by (try dsimp only); omega) ?_
  refine ar_sald ok_La_law rfl (am_ixN (i := i + 5) (by omega) (by omega)) (v := xs (i + 5)) rfl (pc' := 110) rfl (by (try dsimp only); omega) (by (try dsimp only); omega) ?_
  refine ar_cv ok_La_law hk_Ho_feed rfl rfl (As := [.int (xs (i + 1)), .int (xs (i + 2)), .int (xs (i + 3)), .int (xs (i + 4)), .int (xs (i + 5))]) (ad := 0) (rest := []) rfl rfl (hR.ob (hs_k hR (a := 0) rfl) (Nat.le_of_ble_eq_true rfl)) (Nat.le_of_ble_eq_true rfl) (am_Me_none (c_Ho_feed (xs (i + 1)) (xs (i + 2)) (xs (i + 3)) (xs (i + 4)) (xs (i + 5)) S h hR _ e1)) (Nat.le_of_ble_eq_true rfl) (Nat.le_of_ble_eq_true rfl) (by (try dsimp only); omega) (by (try dsimp only); omega) (pc' := 113) rfl (fun r1 h1 z => ?_)
  obtain ⟨rfl, hR1, f1, -⟩ := z
  have hM1 := RM_hF hM f1
  show am_S _ _ _ _ _ _ _ (113, [some (.ref am_M), some (.ref 0), some (.ref 22), some (.int (nI i))], [.int r], h1, k + 0, n + 0) _
  refine am_steps ok_La_law 4 (x' := (117, [some (.ref am_M), some (.ref 0), some (.ref 22), some (.int (nI i))], [.int 1, .int (nI i), .ref am_M, .ref 22, .int r], h1, k + 0, n + 0)) rfl (by (try dsimp only); omega) (by (try dsimp only); omega) ?_
  refine ar_iadd ok_La_law rfl (w := nI (i + 1)) (am_nadd i 1) (pc' := 118) rfl (by (try dsimp only); omega) (by (try dsimp only); omega) ?_
  refine ar_sald ok_La_law rfl (am_ixN (i := i + 1) (by omega) (by omega)) (v := xs (i + 1)) rfl (pc' := 119) rfl (by (try dsimp only); omega) (by (try dsimp only); omega) ?_
  refine am_steps ok_La_law 3 (x' := (122, [some (.ref am_M), some (.ref 0), some (.ref 22), some (.int (nI i))], [.int 2, .int (nI i), .ref am_M, .int (xs (i + 1)), .ref 22, .int r], h1, k + 0, n + 0)) rfl (by (try dsimp only); omega) (by (try dsimp only); omega) ?_
  refine ar_iadd ok_La_law rfl (w := nI (i + 2)) (am_nadd i 2) (pc' := 123) rfl (by (try dsimp only); omega) (by (try dsimp only); omega) ?_
  refine ar_sald ok_La_law rfl (am_ixN (i := i + 2) (by omega) (by omega)) (v := xs (i + 2)) rfl (pc' := 124) rfl (by (try dsimp only); omega) (by (try dsimp only); omega) ?_
  refine am_steps ok_La_law 3 (x' := (127, [some (.ref am_M), some (.ref 0), some (.ref 22), some (.int (nI i))], [.int 3, .int (nI i), .ref am_M, .int (xs (i + 2)), .int (xs (i + 1)), .ref 22, .int r], h1, k + 0, n + 0)) rfl (by (try dsimp only); omega) (by (try dsimp only); omega) ?_
  refine ar_iadd ok_La_law rfl (w := nI (i + 3)) (am_nadd i 3) (pc' := 128) rfl (by (try dsimp only); omega) (by (try dsimp only); omega) ?_
  refine ar_sald ok_La_law rfl (am_ixN (i := i + 3) (by omega) (by omega)) (v := xs (i + 3)) rfl (pc' := 129) rfl (by (try dsimp only); omega) (by (try dsimp only); omega) ?_
  refine am_steps ok_La_law 3 (x' := (132, [some (.ref am_M), some (.ref 0), some (.ref 22), some (.int (nI i))], [.int 4, .int (nI i), .ref am_M, .int (xs (i + 3)), .int (xs (i + 2)), .int (xs (i + 1)), .ref 22, .int r], h1, k + 0, n + 0)) rfl (by (try dsimp only); omega) (by (try dsimp only); omega) ?_
  refine ar_iadd ok_La_law rfl (w := nI (i + 4)) (am_nadd i 4) (pc' := 133) rfl (by (try dsimp only); omega) (by (try dsimp only); omega) ?_
  refine ar_sald ok_La_law rfl (am_ixN (i := i + 4) (by omega) (by omega)) (v := xs (i + 4)) rfl (pc' := 134) rfl (by (try dsimp only); omega) (by (try dsimp only); omega) ?_
  refine am_steps ok_La_law 3 (x' := (137, [some (.ref am_M), some (.ref 0), some (.ref 22), some (.int (nI i))], [.int 5, .int (nI i), .ref am_M, .int (xs (i + 4)), .int (xs (i + 3)), .int (xs (i + 2)), .int (xs (i + 1)), .ref 22, .int r], h1, k + 0, n + 0)) rfl (by (try dsimp only); omega) (by (try dsimp only); omega) ?_
  refine ar_iadd ok_La_law rfl (w := nI (i + 5)) (am_nadd i 5) (pc' := 138) rfl (by (try dsimp only); omega) (by (try dsimp only); omega) ?_
  refine ar_sald ok_La_law rfl (am_ixN (i := i + 5) (by omega) (by omega)) (v := xs (i + 5)) rfl (pc' := 139) rfl (by (try dsimp only); omega) (by (try dsimp only); omega) ?_
  refine ar_cv ok_La_law hk_Mo_feed rfl rfl (As := [.int (xs (i + 1)), .int (xs (i + 2)), .int (xs (i + 3)), .int (xs (i + 4)), .int (xs (i + 5))]) (ad := 22) (rest := [.int r]) rfl rfl hM1.1 (Nat.le_of_ble_eq_true rfl) (am_Me_none (k_Mo_feed (xs (i + 1)) (xs (i + 2)) (xs (i + 3)) (xs (i + 4)) (xs (i + 5)) s h1 hM1 _ e2)) (Nat.le_of_ble_eq_true rfl) (Nat.le_of_ble_eq_true rfl) (by (try dsimp only); omega) (by (try dsimp only); omega) (pc' := 142) rfl (fun r2 h2 z => ?_)
  obtain ⟨rfl, hM2, g2⟩ := z
  have hR2 := RH_mF hR1 g2
  show am_S _ _ _ _ _ _ _ (142, [some (.ref am_M), some (.ref 0), some (.ref 22), some (.int (nI i))], [.int r, .int r], h2, k + 0 + 0, n + 0 + 0) _
  refine am_steps ok_La_law 1 (x' := (if r = r then 313 else 145, [some (.ref am_M), some (.ref 0), some (.ref 22), some (.int (nI i))], [], h2, k + 0 + 0, n + 0 + 0)) rfl (by (try dsimp only); omega) (by (try dsimp only); omega) ?_
  rw [if_pos rfl]
  refine ar_iinc ok_La_law rfl rfl (Nat.le_of_ble_eq_true rfl) (w := nI (i + 6)) (am_nadd i 6) (lo' := [some (.ref am_M), some (.ref 0), some (.ref 22), some (.int (nI (i + 6)))]) rfl (pc' := 316) rfl (by (try dsimp only); omega) (by (try dsimp only); omega) ?_
  refine am_steps ok_La_law 1 (x' := (18, [some (.ref am_M), some (.ref 0), some (.ref 22), some (.int (nI (i + 6)))], [], h2, k + 0 + 0, n + 0 + 0)) rfl (by (try dsimp only); omega) (by (try dsimp only); omega) ?_
  refine am_wide (k' := k + 261) (n' := n + 5860) (by omega) (by omega) ?_
  exact K S1 s1 h2 hR2 hM2 hI1
set_option maxHeartbeats 4000000 in
set_option maxRecDepth 100000 in
theorem wl_1 (I : Nat → hS → mS → Prop) (hI : wStep I) (N : Nat) (hN : N < 3073) (xs : Nat → Int32) (c i k n : Nat) (hc : c < 512) (hi : i + 6 ≤ N) (hk : k + 261 ≤ 600000) (hn : n + 5860 ≤ 7302250) (S : hS) (s : mS) (h : am_H) (hR : RH S h) (hM : RM s h) (hIn : I c S s)
    (K : ∀ (S' : hS) (s' : mS) (h' : am_H), RH S' h' → RM s' h' → I (c + 1) S' s' → am_S am_Pr (some (N, xs)) 14 550 600000 7302250 227 (18, [some (.ref am_M), some (.ref 0), some (.ref 22), some (.int (nI (i + 6)))], [], h', k + 261, n + 5860) (fun r _ => r = some (.int 1))) : am_S am_Pr (some (N, xs)) 14 550 600000 7302250 227 (33, [some (.ref am_M), some (.ref 0), some (.ref 22), some (.int (nI i))], [.int 1], h, k, n) (fun r _ => r = some (.int 1)) := by
  obtain ⟨hS1, hS2, hS3, hS4, hS5, hS6, hS7, hS8, hS9, hS10⟩ := hI c S s hc hIn
  obtain ⟨r, S1, s1, e1, e2, hI1⟩ := hS2 (xs (i + 1))
  refine am_steps ok_La_law 5 (x' := (151, [some (.ref am_M), some (.ref 0), some (.ref 22), some (.int (nI i))], [.int 1, .int (nI i), .ref am_M, .ref 0], h, k, n)) rfl (by (try dsimp only); omega) (by (try dsimp only); omega) ?_
  refine ar_iadd ok_La_law rfl (w := nI (i + 1)) (am_nadd i 1) (pc' := 152) rfl (by (try dsimp only); omega) (by (try dsimp only); omega) ?_
  refine ar_sald ok_La_law rfl (am_ixN (i := i + 1) (by omega) (by omega)) (v := xs (i + 1)) rfl (pc' := 153) rfl (by (try dsimp only); omega) (by (try dsimp only); omega) ?_
  refine ar_cv ok_La_law hk_Ho_send rfl rfl (As := [.int (xs (i + 1))]) (ad := 0) (rest := []) rfl rfl (hR.ob (hs_k hR (a := 0) rfl) (Nat.le_of_ble_eq_true rfl)) (Nat.le_of_ble_eq_true rfl) (am_Me_none (c_Ho_send (xs (i + 1)) S h hR _ e1)) (Nat.le_of_ble_eq_true rfl) (Nat.le_of_ble_eq_true rfl) (by (try dsimp only); omega) (by (try dsimp only); omega) (pc' := 156) rfl (fun r1 h1 z => ?_)
  obtain ⟨rfl, hR1, f1, -⟩ := z
  have hM1 := RM_hF hM f1
  show am_S _ _ _ _ _ _ _ (156, [some (.ref am_M), some (.ref 0), some (.ref 22), some (.int (nI i))], [.int r], h1, k + 261, n + 5860) _
  refine am_steps ok_La_law 4 (x' := (160, [some (.ref am_M), some (.ref 0), some (.ref 22), some (.int (nI i))], [.int 1, .int (nI i), .ref am_M, .ref 22, .int r], h1, k + 261, n + 5860)) rfl (by (try dsimp only); omega) (by (try dsimp only); omega) ?_
  refine ar_iadd ok_La_law rfl (w := nI (i + 1)) (am_nadd i 1) (pc' := 161) rfl (by (try dsimp only); omega) (by (try dsimp only); omega) ?_
  refine ar_sald ok_La_law rfl (am_ixN (i := i + 1) (by omega) (by omega)) (v := xs (i + 1)) rfl (pc' := 162) rfl (by (try dsimp only); omega) (by (try dsimp only); omega) ?_
  refine ar_cv ok_La_law hk_Mo_send rfl rfl (As := [.int (xs (i + 1))]) (ad := 22) (rest := [.int r]) rfl rfl hM1.1 (Nat.le_of_ble_eq_true rfl) (am_Me_none (k_Mo_send (xs (i + 1)) s h1 hM1 _ e2)) (Nat.le_of_ble_eq_true rfl) (Nat.le_of_ble_eq_true rfl) (by (try dsimp only); omega) (by (try dsimp only); omega) (pc' := 165) rfl (fun r2 h2 z => ?_)
  obtain ⟨rfl, hM2, g2⟩ := z
  have hR2 := RH_mF hR1 g2
  show am_S _ _ _ _ _ _ _ (165, [some (.ref am_M), some (.ref 0), some (.ref 22), some (.int (nI i))], [.int r, .int r], h2, k + 261 + 0, n + 5860 + 0) _
  refine am_steps ok_La_law 1 (x' := (if r = r then 313 else 168, [some (.ref am_M), some (.ref 0), some (.ref 22), some (.int (nI i))], [], h2, k + 261 + 0, n + 5860 + 0)) rfl (by (try dsimp only); omega) (by (try dsimp only); omega) ?_
  rw [if_pos rfl]
  refine ar_iinc ok_La_law rfl rfl (Nat.le_of_ble_eq_true rfl) (w := nI (i + 6)) (am_nadd i 6) (lo' := [some (.ref am_M), some (.ref 0), some (.ref 22), some (.int (nI (i + 6)))]) rfl (pc' := 316) rfl (by (try dsimp only); omega) (by (try dsimp only); omega) ?_
  refine am_steps ok_La_law 1 (x' := (18, [some (.ref am_M), some (.ref 0), some (.ref 22), some (.int (nI (i + 6)))], [], h2, k + 261 + 0, n + 5860 + 0)) rfl (by (try dsimp only); omega) (by (try dsimp only); omega) ?_
  refine am_wide (k' := k + 261) (n' := n + 5860) (by omega) (by omega) ?_
  exact K S1 s1 h2 hR2 hM2 hI1
set_option maxHeartbeats 4000000 in
set_option maxRecDepth 100000 in
theorem wl_2 (I : Nat → hS → mS → Prop) (hI : wStep I) (N : Nat) (hN : N < 3073) (xs : Nat → Int32) (c i k n : Nat) (hc : c < 512) (hi : i + 6 ≤ N) (hk : k + 261 ≤ 600000) (hn : n + 5860 ≤ 7302250) (S : hS) (s : mS) (h : am_H) (hR : RH S h) (hM : RM s h) (hIn : I c S s)
    (K : ∀ (S' : hS) (s' : mS) (h' : am_H), RH S' h' → RM s' h' → I (c + 1) S' s' → am_S am_Pr (some (N, xs)) 14 550 600000 7302250 227 (18, [some (.ref am_M), some (.ref 0), some (.ref 22), some (.int (nI (i + 6)))], [], h', k + 261, n + 5860) (fun r _ => r = some (.int 1))) : am_S am_Pr (some (N, xs)) 14 550 600000 7302250 227 (33, [some (.ref am_M), some (.ref 0), some (.ref 22), some (.int (nI i))], [.int 2], h, k, n) (fun r _ => r = some (.int 1)) := by
  obtain ⟨hS1, hS2, hS3, hS4, hS5, hS6, hS7, hS8, hS9, hS10⟩ := hI c S s hc hIn
  obtain ⟨r, S1, s1, e1, e2, hI1⟩ := hS3 (xs (i + 1))
  refine am_steps ok_La_law 5 (x' := (174, [some (.ref am_M), some (.ref 0), some (.ref 22), some (.int (nI i))], [.int 1, .int (nI i), .ref am_M, .ref 0], h, k, n)) rfl (by (try dsimp only); omega) (by (try dsimp only); omega) ?_
  refine ar_iadd ok_La_law rfl (w := nI (i + 1)) (am_nadd i 1) (pc' := 175) rfl (by (try dsimp only); omega) (by (try dsimp only); omega) ?_
  refine ar_sald ok_La_law rfl (am_ixN (i := i + 1) (by omega) (by omega)) (v := xs (i + 1)) rfl (pc' := 176) rfl (by (try dsimp only); omega) (by (try dsimp only); omega) ?_
  refine ar_cv ok_La_law hk_Ho_tick rfl rfl (As := [.int (xs (i + 1))]) (ad := 0) (rest := []) rfl rfl (hR.ob (hs_k hR (a := 0) rfl) (Nat.le_of_ble_eq_true rfl)) (Nat.le_of_ble_eq_true rfl) (am_Me_none (c_Ho_tick (xs (i + 1)) S h hR _ e1)) (Nat.le_of_ble_eq_true rfl) (Nat.le_of_ble_eq_true rfl) (by (try dsimp only); omega) (by (try dsimp only); omega) (pc' := 179) rfl (fun r1 h1 z => ?_)
  obtain ⟨rfl, hR1, f1, -⟩ := z
  have hM1 := RM_hF hM f1
  show am_S _ _ _ _ _ _ _ (179, [some (.ref am_M), some (.ref 0), some (.ref 22), some (.int (nI i))], [.int r], h1, k + 0, n + 0) _
  refine am_steps ok_La_law 4 (x' := (183, [some (.ref am_M), some (.ref 0), some (.ref 22), some (.int (nI i))], [.int 1, .int (nI i), .ref am_M, .ref 22, .int r], h1, k + 0, n + 0)) rfl (by (try dsimp only); omega) (by (try dsimp only); omega) ?_
  refine ar_iadd ok_La_law rfl (w := nI (i + 1)) (am_nadd i 1) (pc' := 184) rfl (by (try dsimp only); omega) (by (try dsimp only); omega) ?_
  refine ar_sald ok_La_law rfl (am_ixN (i := i + 1) (by omega) (by omega)) (v := xs (i + 1)) rfl (pc' := 185) rfl (by (try dsimp only); omega) (by (try dsimp only); omega) ?_
  refine ar_cv ok_La_law hk_Mo_tick rfl rfl (As := [.int (xs (i + 1))]) (ad := 22) (rest := [.int r]) rfl rfl hM1.1 (Nat.le_of_ble_eq_true rfl) (am_Me_none (k_Mo_tick (xs (i + 1)) s h1 hM1 _ e2)) (Nat.le_of_ble_eq_true rfl) (Nat.le_of_ble_eq_true rfl) (by (try dsimp only); omega) (by (try dsimp only); omega) (pc' := 188) rfl (fun r2 h2 z => ?_)
  obtain ⟨rfl, hM2, g2⟩ := z
  have hR2 := RH_mF hR1 g2
  show am_S _ _ _ _ _ _ _ (188, [some (.ref am_M), some (.ref 0), some (.ref 22), some (.int (nI i))], [.int r, .int r], h2, k + 0 + 0, n + 0 + 0) _
  refine am_steps ok_La_law 1 (x' := (if r = r then 313 else 191, [some (.ref am_M), some (.ref 0), some (.ref 22), some (.int (nI i))], [], h2, k + 0 + 0, n + 0 + 0)) rfl (by (try dsimp only); omega) (by (try dsimp only); omega) ?_
  rw [if_pos rfl]
  refine ar_iinc ok_La_law rfl rfl (Nat.le_of_ble_eq_true rfl) (w := nI (i + 6)) (am_nadd i 6) (lo' := [some (.ref am_M), some (.ref 0), some (.ref 22), some (.int (nI (i + 6)))]) rfl (pc' := 316) rfl (by (try dsimp only); omega) (by (try dsimp only); omega) ?_
  refine am_steps ok_La_law 1 (x' := (18, [some (.ref am_M), some (.ref 0), some (.ref 22), some (.int (nI (i + 6)))], [], h2, k + 0 + 0, n + 0 + 0)) rfl (by (try dsimp only); omega) (by (try dsimp only); omega) ?_
  refine am_wide (k' := k + 261) (n' := n + 5860) (by omega) (by omega) ?_
  exact K S1 s1 h2 hR2 hM2 hI1
set_option maxHeartbeats 4000000 in
set_option maxRecDepth 100000 in
theorem wl_3 (I : Nat → hS → mS → Prop) (hI : wStep I) (N : Nat) (hN : N < 3073) (xs : Nat → Int32) (c i k n : Nat) (hc : c < 512) (hi : i + 6 ≤ N) (hk : k + 261 ≤ 600000) (hn : n + 5860 ≤ 7302250) (S : hS) (s : mS) (h : am_H) (hR : RH S h) (hM : RM s h) (hIn : I c S s)
    (K : ∀ (S' : hS) (s' : mS) (h' : am_H), RH S' h' → RM s' h' → I (c + 1) S' s' → am_S am_Pr (some (N, xs)) 14 550 600000 7302250 227 (18, [some (.ref am_M), some (.ref 0), some (.ref 22), some (.int (nI (i + 6)))], [], h', k + 261, n + 5860) (fun r _ => r = some (.int 1))) : am_S am_Pr (some (N, xs)) 14 550 600000 7302250 227 (33, [some (.ref am_M), some (.ref 0), some (.ref 22), some (.int (nI i))], [.int 3], h, k, n) (fun r _ => r = some (.int 1)) := by
  obtain ⟨hS1, hS2, hS3, hS4, hS5, hS6, hS7, hS8, hS9, hS10⟩ := hI c S s hc hIn
  obtain ⟨r, S1, s1, e1, e2, hI1⟩ := hS4 
  refine am_steps ok_La_law 2 (x' := (194, [some (.ref am_M), some (.ref 0), some (.ref 22), some (.int (nI i))], [.ref 0], h, k, n)) rfl (by (try dsimp only); omega) (by (try dsimp only); omega) ?_
  refine ar_cv ok_La_law hk_Ho_fetch rfl rfl (As := []) (ad := 0) (rest := []) rfl rfl (hR.ob (hs_k hR (a := 0) rfl) (Nat.le_of_ble_eq_true rfl)) (Nat.le_of_ble_eq_true rfl) (am_Me_none (c_Ho_fetch  S h hR _ e1)) (Nat.le_of_ble_eq_true rfl) (Nat.le_of_ble_eq_true rfl) (by (try dsimp only); omega) (by (try dsimp only); omega) (pc' := 197) rfl (fun r1 h1 z => ?_)
  obtain ⟨rfl, hR1, f1, -⟩ := z
  have hM1 := RM_hF hM f1
  show am_S _ _ _ _ _ _ _ (197, [some (.ref am_M), some (.ref 0), some (.ref 22), some (.int (nI i))], [.long r], h1, k + 0, n + 0) _
  refine am_steps ok_La_law 1 (x' := (198, [some (.ref am_M), some (.ref 0), some (.ref 22), some (.int (nI i))], [.ref 22, .long r], h1, k + 0, n + 0)) rfl (by (try dsimp only); omega) (by (try dsimp only); omega) ?_
  refine ar_cv ok_La_law hk_Mo_fetch rfl rfl (As := []) (ad := 22) (rest := [.long r]) rfl rfl hM1.1 (Nat.le_of_ble_eq_true rfl) (am_Me_none (k_Mo_fetch  s h1 hM1 _ e2)) (Nat.le_of_ble_eq_true rfl) (Nat.le_of_ble_eq_true rfl) (by (try dsimp only); omega) (by (try dsimp only); omega) (pc' := 201) rfl (fun r2 h2 z => ?_)
  obtain ⟨rfl, hM2, g2⟩ := z
  have hR2 := RH_mF hR1 g2
  show am_S _ _ _ _ _ _ _ (201, [some (.ref am_M), some (.ref 0), some (.ref 22), some (.int (nI i))], [.long r, .long r], h2, k + 0 + 0, n + 0 + 0) _
  refine am_steps ok_La_law 2 (x' := (if lg_cmp r r = 0 then 313 else 205, [some (.ref am_M), some (.ref 0), some (.ref 22), some (.int (nI i))], [], h2, k + 0 + 0, n + 0 + 0)) rfl (by (try dsimp only); omega) (by (try dsimp only); omega) ?_
  rw [if_pos (lg_cmp_self r)]
  refine ar_iinc ok_La_law rfl rfl (Nat.le_of_ble_eq_true rfl) (w := nI (i + 6)) (am_nadd i 6) (lo' := [some (.ref am_M), some (.ref 0), some (.ref 22), some (.int (nI (i + 6)))]) rfl (pc' := 316) rfl (by (try dsimp only); omega) (by (try dsimp only); omega) ?_
  refine am_steps ok_La_law 1 (x' := (18, [some (.ref am_M), some (.ref 0), some (.ref 22), some (.int (nI (i + 6)))], [], h2, k + 0 + 0, n + 0 + 0)) rfl (by (try dsimp only); omega) (by (try dsimp only); omega) ?_
  refine am_wide (k' := k + 261) (n' := n + 5860) (by omega) (by omega) ?_
  exact K S1 s1 h2 hR2 hM2 hI1
set_option maxHeartbeats 4000000 in
set_option maxRecDepth 100000 in
theorem wl_4 (I : Nat → hS → mS → Prop) (hI : wStep I) (N : Nat) (hN : N < 3073) (xs : Nat → Int32) (c i k n : Nat) (hc : c < 512) (hi : i + 6 ≤ N) (hk : k + 261 ≤ 600000) (hn : n + 5860 ≤ 7302250) (S : hS) (s : mS) (h : am_H) (hR : RH S h) (hM : RM s h) (hIn : I c S s)
    (K : ∀ (S' : hS) (s' : mS) (h' : am_H), RH S' h' → RM s' h' → I (c + 1) S' s' → am_S am_Pr (some (N, xs)) 14 550 600000 7302250 227 (18, [some (.ref am_M), some (.ref 0), some (.ref 22), some (.int (nI (i + 6)))], [], h', k + 261, n + 5860) (fun r _ => r = some (.int 1))) : am_S am_Pr (some (N, xs)) 14 550 600000 7302250 227 (33, [some (.ref am_M), some (.ref 0), some (.ref 22), some (.int (nI i))], [.int 4], h, k, n) (fun r _ => r = some (.int 1)) := by
  obtain ⟨hS1, hS2, hS3, hS4, hS5, hS6, hS7, hS8, hS9, hS10⟩ := hI c S s hc hIn
  obtain ⟨r, S1, s1, e1, e2, hI1⟩ := hS5 (xs (i + 1))
  refine am_steps ok_La_law 5 (x' := (211, [some (.ref am_M), some (.ref 0), some (.ref 22), some (.int (nI i))], [.int 1, .int (nI i), .ref am_M, .ref 0], h, k, n)) rfl (by (try dsimp only); omega) (by (try dsimp only); omega) ?_
  refine ar_iadd ok_La_law rfl (w := nI (i + 1)) (am_nadd i 1) (pc' := 212) rfl (by (try dsimp only); omega) (by (try dsimp only); omega) ?_
  refine ar_sald ok_La_law rfl (am_ixN (i := i + 1) (by omega) (by omega)) (v := xs (i + 1)) rfl (pc' := 213) rfl (by (try dsimp only); omega) (by (try dsimp only); omega) ?_
  refine ar_cv ok_La_law hk_Ho_charge rfl rfl (As := [.int (xs (i + 1))]) (ad := 0) (rest := []) rfl rfl (hR.ob (hs_k hR (a := 0) rfl) (Nat.le_of_ble_eq_true rfl)) (Nat.le_of_ble_eq_true rfl) (am_Me_none (c_Ho_charge (xs (i + 1)) S h hR _ e1)) (Nat.le_of_ble_eq_true rfl) (Nat.le_of_ble_eq_true rfl) (by (try dsimp only); omega) (by (try dsimp only); omega) (pc' := 216) rfl (fun r1 h1 z => ?_)
  obtain ⟨rfl, hR1, f1, -⟩ := z
  have hM1 := RM_hF hM f1
  show am_S _ _ _ _ _ _ _ (216, [some (.ref am_M), some (.ref 0), some (.ref 22), some (.int (nI i))], [.int r], h1, k + 0, n + 0) _
  refine am_steps ok_La_law 4 (x' := (220, [some (.ref am_M), some (.ref 0), some (.ref 22), some (.int (nI i))], [.int 1, .int (nI i), .ref am_M, .ref 22, .int r], h1, k + 0, n + 0)) rfl (by (try dsimp only); omega) (by (try dsimp only); omega) ?_
  refine ar_iadd ok_La_law rfl (w := nI (i + 1)) (am_nadd i 1) (pc' := 221) rfl (by (try dsimp only); omega) (by (try dsimp only); omega) ?_
  refine ar_sald ok_La_law rfl (am_ixN (i := i + 1) (by omega) (by omega)) (v := xs (i + 1)) rfl (pc' := 222) rfl (by (try dsimp only); omega) (by (try dsimp only); omega) ?_
  refine ar_cv ok_La_law hk_Mo_charge rfl rfl (As := [.int (xs (i + 1))]) (ad := 22) (rest := [.int r]) rfl rfl hM1.1 (Nat.le_of_ble_eq_true rfl) (am_Me_none (k_Mo_charge (xs (i + 1)) s h1 hM1 _ e2)) (Nat.le_of_ble_eq_true rfl) (Nat.le_of_ble_eq_true rfl) (by (try dsimp only); omega) (by (try dsimp only); omega) (pc' := 225) rfl (fun r2 h2 z => ?_)
  obtain ⟨rfl, hM2, g2⟩ := z
  have hR2 := RH_mF hR1 g2
  show am_S _ _ _ _ _ _ _ (225, [some (.ref am_M), some (.ref 0), some (.ref 22), some (.int (nI i))], [.int r, .int r], h2, k + 0 + 0, n + 0 + 0) _
  refine am_steps ok_La_law 1 (x' := (if r = r then 313 else 228, [some (.ref am_M), some (.ref 0), some (.ref 22), some (.int (nI i))], [], h2, k + 0 + 0, n + 0 + 0)) rfl (by (try dsimp only); omega) (by (try dsimp only); omega) ?_
  rw [if_pos rfl]
  refine ar_iinc ok_La_law rfl rfl (Nat.le_of_ble_eq_true rfl) (w := nI (i + 6)) (am_nadd i 6) (lo' := [some (.ref am_M), some (.ref 0), some (.ref 22), some (.int (nI (i + 6)))]) rfl (pc' := 316) rfl (by (try dsimp only); omega) (by (try dsimp only); omega) ?_
  refine am_steps ok_La_law 1 (x' := (18, [some (.ref am_M), some (.ref 0), some (.ref 22), some (.int (nI (i + 6)))], [], h2, k + 0 + 0, n + 0 + 0)) rfl (by (try dsimp only); omega) (by (try dsimp only); omega) ?_
  refine am_wide (k' := k + 261) (n' := n + 5860) (by omega) (by omega) ?_
  exact K S1 s1 h2 hR2 hM2 hI1
set_option maxHeartbeats 4000000 in
set_option maxRecDepth 100000 in
theorem wl_5 (I : Nat → hS → mS → Prop) (hI : wStep I) (N : Nat) (hN : N < 3073) (xs : Nat → Int32) (c i k n : Nat) (hc : c < 512) (hi : i + 6 ≤ N) (hk : k + 261 ≤ 600000) (hn : n + 5860 ≤ 7302250) (S : hS) (s : mS) (h : am_H) (hR : RH S h) (hM : RM s h) (hIn : I c S s)
    (K : ∀ (S' : hS) (s' : mS) (h' : am_H), RH S' h' → RM s' h' → I (c + 1) S' s' → am_S am_Pr (some (N, xs)) 14 550 600000 7302250 227 (18, [some (.ref am_M), some (.ref 0), some (.ref 22), some (.int (nI (i + 6)))], [], h', k + 261, n + 5860) (fun r _ => r = some (.int 1))) : am_S am_Pr (some (N, xs)) 14 550 600000 7302250 227 (33, [some (.ref am_M), some (.ref 0), some (.ref 22), some (.int (nI i))], [.int 5], h, k, n) (fun r _ => r = some (.int 1)) := by
  obtain ⟨hS1, hS2, hS3, hS4, hS5, hS6, hS7, hS8, hS9, hS10⟩ := hI c S s hc hIn
  obtain ⟨r, S1, s1, e1, e2, hI1⟩ := hS6 
  refine am_steps ok_La_law 2 (x' := (231, [some (.ref am_M), some (.ref 0), some (.ref 22), some (.int (nI i))], [.ref 0], h, k, n)) rfl (by (try dsimp only); omega) (by (try dsimp only); omega) ?_
  refine ar_cv ok_La_law hk_Ho_start rfl rfl (As := []) (ad := 0) (rest := []) rfl rfl (hR.ob (hs_k hR (a := 0) rfl) (Nat.le_of_ble_eq_true rfl)) (Nat.le_of_ble_eq_true rfl) (am_Me_none (c_Ho_start  S h hR _ e1)) (Nat.le_of_ble_eq_true rfl) (Nat.le_of_ble_eq_true rfl) (by (try dsimp only); omega) (by (try dsimp only); omega) (pc' := 234) rfl (fun r1 h1 z => ?_)
  obtain ⟨rfl, hR1, f1, -⟩ := z
  have hM1 := RM_hF hM f1
  show am_S _ _ _ _ _ _ _ (234, [some (.ref am_M), some (.ref 0), some (.ref 22), some (.int (nI i))], [.int r], h1, k + 0, n + 0) _
  refine am_steps ok_La_law 1 (x' := (235, [some (.ref am_M), some (.ref 0), some (.ref 22), some (.int (nI i))], [.ref 22, .int r], h1, k + 0, n + 0)) rfl (by (try dsimp only); omega) (by (try dsimp only); omega) ?_
  refine ar_cv ok_La_law hk_Mo_start rfl rfl (As := []) (ad := 22) (rest := [.int r]) rfl rfl hM1.1 (Nat.le_of_ble_eq_true rfl) (am_Me_none (k_Mo_start  s h1 hM1 _ e2)) (Nat.le_of_ble_eq_true rfl) (Nat.le_of_ble_eq_true rfl) (by (try dsimp only); omega) (by (try dsimp only); omega) (pc' := 238) rfl (fun r2 h2 z => ?_)
  obtain ⟨rfl, hM2, g2⟩ := z
  have hR2 := RH_mF hR1 g2
  show am_S _ _ _ _ _ _ _ (238, [some (.ref am_M), some (.ref 0), some (.ref 22), some (.int (nI i))], [.int r, .int r], h2, k + 0 + 0, n + 0 + 0) _
  refine am_steps ok_La_law 1 (x' := (if r = r then 313 else 241, [some (.ref am_M), some (.ref 0), some (.ref 22), some (.int (nI i))], [], h2, k + 0 + 0, n + 0 + 0)) rfl (by (try dsimp only); omega) (by (try dsimp only); omega) ?_
  rw [if_pos rfl]
  refine ar_iinc ok_La_law rfl rfl (Nat.le_of_ble_eq_true rfl) (w := nI (i + 6)) (am_nadd i 6) (lo' := [some (.ref am_M), some (.ref 0), some (.ref 22), some (.int (nI (i + 6)))]) rfl (pc' := 316) rfl (by (try dsimp only); omega) (by (try dsimp only); omega) ?_
  refine am_steps ok_La_law 1 (x' := (18, [some (.ref am_M), some (.ref 0), some (.ref 22), some (.int (nI (i + 6)))], [], h2, k + 0 + 0, n + 0 + 0)) rfl (by (try dsimp only); omega) (by (try dsimp only); omega) ?_
  refine am_wide (k' := k + 261) (n' := n + 5860) (by omega) (by omega) ?_
  exact K S1 s1 h2 hR2 hM2 hI1
set_option maxHeartbeats 4000000 in
set_option maxRecDepth 100000 in
theorem wl_6 (I : Nat → hS → mS → Prop) (hI : wStep I) (N : Nat) (hN : N < 3073) (xs : Nat → Int32) (c i k n : Nat) (hc : c < 512) (hi : i + 6 ≤ N) (hk : k + 261 ≤ 600000) (hn : n + 5860 ≤ 7302250) (S : hS) (s : mS) (h : am_H) (hR : RH S h) (hM : RM s h) (hIn : I c S s)
    (K : ∀ (S' : hS) (s' : mS) (h' : am_H), RH S' h' → RM s' h' → I (c + 1) S' s' → am_S am_Pr (some (N, xs)) 14 550 600000 7302250 227 (18, [some (.ref am_M), some (.ref 0), some (.ref 22), some (.int (nI (i + 6)))], [], h', k + 261, n + 5860) (fun r _ => r = some (.int 1))) : am_S am_Pr (some (N, xs)) 14 550 600000 7302250 227 (33, [some (.ref am_M), some (.ref 0), some (.ref 22), some (.int (nI i))], [.int 6], h, k, n) (fun r _ => r = some (.int 1)) := by
  obtain ⟨hS1, hS2, hS3, hS4, hS5, hS6, hS7, hS8, hS9, hS10⟩ := hI c S s hc hIn
  obtain ⟨r, e1, e2⟩ := hS7 (xs (i + 1)) (xs (i + 2))
  refine am_steps ok_La_law 5 (x' := (247, [some (.ref am_M), some (.ref 0), some (.ref 22), some (.int (nI i))], [.int 1, .int (nI i), .ref am_M, .ref 0], h, k, n)) rfl (by (try dsimp only); omega) (by (try dsimp only); omega) ?_
  refine ar_iadd ok_La_law rfl (w := nI (i + 1)) (am_nadd i 1) (pc' := 248) rfl (by (try dsimp only); omega) (by (try dsimp only); omega) ?_
  refine ar_sald ok_La_law rfl (am_ixN (i := i + 1) (by omega) (by omega)) (v := xs (i + 1)) rfl (pc' := 249) rfl (by (try dsimp only); omega) (by (try dsimp only); omega) ?_
  refine am_steps ok_La_law 3 (x' := (252, [some (.ref am_M), some (.ref 0), some (.ref 22), some (.int (nI i))], [.int 2, .int (nI i), .ref am_M, .int (xs (i + 1)), .ref 0], h, k, n)) rfl (by (try dsimp only); omega) (by (try dsimp only); omega) ?_
  refine ar_iadd ok_La_law rfl (w := nI (i + 2)) (am_nadd i 2) (pc' := 253) rfl (by (try dsimp only); omega) (by (try dsimp only); omega) ?_
  refine ar_sald ok_La_law rfl (am_ixN (i := i + 2) (by omega) (by omega)) (v := xs (i + 2)) rfl (pc' := 254) rfl (by (try dsimp only); omega) (by (try dsimp only); omega) ?_
  refine ar_cv ok_La_law hk_Ho_position rfl rfl (As := [.int (xs (i + 1)), .int (xs (i + 2))]) (ad := 0) (rest := []) rfl rfl (hR.ob (hs_k hR (a := 0) rfl) (Nat.le_of_ble_eq_true rfl)) (Nat.le_of_ble_eq_true rfl) (am_Me_none (c_Ho_position (xs (i + 1)) (xs (i + 2)) S h hR _ e1)) (Nat.le_of_ble_eq_true rfl) (Nat.le_of_ble_eq_true rfl) (by (try dsimp only); omega) (by (try dsimp only); omega) (pc' := 257) rfl (fun r1 h1 z => ?_)
  obtain ⟨rfl, z⟩ := z
  rw [z]
  show am_S _ _ _ _ _ _ _ (257, [some (.ref am_M), some (.ref 0), some (.ref 22), some (.int (nI i))], [.long r], h, k + 0, n + 0) _
  refine am_steps ok_La_law 4 (x' := (261, [some (.ref am_M), some (.ref 0), some (.ref 22), some (.int (nI i))], [.int 1, .int (nI i), .ref am_M, .ref 22, .long r], h, k + 0, n + 0)) rfl (by (try dsimp only); omega) (by (try dsimp only); omega) ?_
  refine ar_iadd ok_La_law rfl (w := nI (i + 1)) (am_nadd i 1) (pc' := 262) rfl (by (try dsimp only); omega) (by (try dsimp only); omega) ?_
  refine ar_sald ok_La_law rfl (am_ixN (i := i + 1) (by omega) (by omega)) (v := xs (i + 1)) rfl (pc' := 263) rfl (by (try dsimp only); omega) (by (try dsimp only); omega) ?_
  refine am_steps ok_La_law 3 (x' := (266, [some (.ref am_M), some (.ref 0), some (.ref 22), some (.int (nI i))], [.int 2, .int (nI i), .ref am_M, .int (xs (i + 1)), .ref 22, .long r], h, k + 0, n + 0)) rfl (by (try dsimp only); omega) (by (try dsimp only); omega) ?_
  refine ar_iadd ok_La_law rfl (w := nI (i + 2)) (am_nadd i 2) (pc' := 267) rfl (by (try dsimp only); omega) (by (try dsimp only); omega) ?_
  refine ar_sald ok_La_law rfl (am_ixN (i := i + 2) (by omega) (by omega)) (v := xs (i + 2)) rfl (pc' := 268) rfl (by (try dsimp only); omega) (by (try dsimp only); omega) ?_
  refine ar_cv ok_La_law hk_Mo_position rfl rfl (As := [.int (xs (i + 1)), .int (xs (i + 2))]) (ad := 22) (rest := [.long r]) rfl rfl hM.1 (Nat.le_of_ble_eq_true rfl) (am_Me_none (k_Mo_position (xs (i + 1)) (xs (i + 2)) s h hM _ e2)) (Nat.le_of_ble_eq_true rfl) (Nat.le_of_ble_eq_true rfl) (by (try dsimp only); omega) (by (try dsimp only); omega) (pc' := 271) rfl (fun r2 h2 z => ?_)
  obtain ⟨rfl, z⟩ := z
  rw [z]
  show am_S _ _ _ _ _ _ _ (271, [some (.ref am_M), some (.ref 0), some (.ref 22), some (.int (nI i))], [.long r, .long r], h, k + 0 + 0, n + 0 + 0) _
  refine am_steps ok_La_law 2 (x' := (if lg_cmp r r = 0 then 313 else 275, [some (.ref am_M), some (.ref 0), some (.ref 22), some (.int (nI i))], [], h, k + 0 + 0, n + 0 + 0)) rfl (by (try dsimp only); omega) (by (try dsimp only); omega) ?_
  rw [if_pos (lg_cmp_self r)]
  refine ar_iinc ok_La_law rfl rfl (Nat.le_of_ble_eq_true rfl) (w := nI (i + 6)) (am_nadd i 6) (lo' := [some (.ref am_M), some (.ref 0), some (.ref 22), some (.int (nI (i + 6)))]) rfl (pc' := 316) rfl (by (try dsimp only); omega) (by (try dsimp only); omega) ?_
  refine am_steps ok_La_law 1 (x' := (18, [some (.ref am_M), some (.ref 0), some (.ref 22), some (.int (nI (i + 6)))], [], h, k + 0 + 0, n + 0 + 0)) rfl (by (try dsimp only); omega) (by (try dsimp only); omega) ?_
  refine am_wide (k' := k + 261) (n' := n + 5860) (by omega) (by omega) ?_
  exact K S s h hR hM hS10
set_option maxHeartbeats 4000000 in
set_option maxRecDepth 100000 in
theorem wl_7 (I : Nat → hS → mS → Prop) (hI : wStep I) (N : Nat) (hN : N < 3073) (xs : Nat → Int32) (c i k n : Nat) (hc : c < 512) (hi : i + 6 ≤ N) (hk : k + 261 ≤ 600000) (hn : n + 5860 ≤ 7302250) (S : hS) (s : mS) (h : am_H) (hR : RH S h) (hM : RM s h) (hIn : I c S s)
    (K : ∀ (S' : hS) (s' : mS) (h' : am_H), RH S' h' → RM s' h' → I (c + 1) S' s' → am_S am_Pr (some (N, xs)) 14 550 600000 7302250 227 (18, [some (.ref am_M), some (.ref 0), some (.ref 22), some (.int (nI (i + 6)))], [], h', k + 261, n + 5860) (fun r _ => r = some (.int 1))) : am_S am_Pr (some (N, xs)) 14 550 600000 7302250 227 (33, [some (.ref am_M), some (.ref 0), some (.ref 22), some (.int (nI i))], [.int 7], h, k, n) (fun r _ => r = some (.int 1)) := by
  obtain ⟨hS1, hS2, hS3, hS4, hS5, hS6, hS7, hS8, hS9, hS10⟩ := hI c S s hc hIn
  obtain ⟨r, e1, e2⟩ := hS8 (xs (i + 1))
  refine am_steps ok_La_law 5 (x' := (281, [some (.ref am_M), some (.ref 0), some (.ref 22), some (.int (nI i))], [.int 1, .int (nI i), .ref am_M, .ref 0], h, k, n)) rfl (by (try dsimp only); omega) (by (try dsimp only); omega) ?_
  refine ar_iadd ok_La_law rfl (w := nI (i + 1)) (am_nadd i 1) (pc' := 282) rfl (by (try dsimp only); omega) (by (try dsimp only); omega) ?_
  refine ar_sald ok_La_law rfl (am_ixN (i := i + 1) (by omega) (by omega)) (v := xs (i + 1)) rfl (pc' := 283) rfl (by (try dsimp only); omega) (by (try dsimp only); omega) ?_
  refine ar_cv ok_La_law hk_Ho_count rfl rfl (As := [.int (xs (i + 1))]) (ad := 0) (rest := []) rfl rfl (hR.ob (hs_k hR (a := 0) rfl) (Nat.le_of_ble_eq_true rfl)) (Nat.le_of_ble_eq_true rfl) (am_Me_none (c_Ho_count (xs (i + 1)) S h hR _ e1)) (Nat.le_of_ble_eq_true rfl) (Nat.le_of_ble_eq_true rfl) (by (try dsimp only); omega) (by (try dsimp only); omega) (pc' := 286) rfl (fun r1 h1 z => ?_)
  obtain ⟨rfl, z⟩ := z
  rw [z]
  show am_S _ _ _ _ _ _ _ (286, [some (.ref am_M), some (.ref 0), some (.ref 22), some (.int (nI i))], [.int r], h, k + 0, n + 0) _
  refine am_steps ok_La_law 4 (x' := (290, [some (.ref am_M), some (.ref 0), some (.ref 22), some (.int (nI i))], [.int 1, .int (nI i), .ref am_M, .ref 22, .int r], h, k + 0, n + 0)) rfl (by (try dsimp only); omega) (by (try dsimp only); omega) ?_
  refine ar_iadd ok_La_law rfl (w := nI (i + 1)) (am_nadd i 1) (pc' := 291) rfl (by (try dsimp only); omega) (by (try dsimp only); omega) ?_
  refine ar_sald ok_La_law rfl (am_ixN (i := i + 1) (by omega) (by omega)) (v := xs (i + 1)) rfl (pc' := 292) rfl (by (try dsimp only); omega) (by (try dsimp only); omega) ?_
  refine ar_cv ok_La_law hk_Mo_count rfl rfl (As := [.int (xs (i + 1))]) (ad := 22) (rest := [.int r]) rfl rfl hM.1 (Nat.le_of_ble_eq_true rfl) (am_Me_none (k_Mo_count (xs (i + 1)) s h hM _ e2)) (Nat.le_of_ble_eq_true rfl) (Nat.le_of_ble_eq_true rfl) (by (try dsimp only); omega) (by (try dsimp only); omega) (pc' := 295) rfl (fun r2 h2 z => ?_)
  obtain ⟨rfl, z⟩ := z
  rw [z]
  show am_S _ _ _ _ _ _ _ (295, [some (.ref am_M), some (.ref 0), some (.ref 22), some (.int (nI i))], [.int r, .int r], h, k + 0 + 0, n + 0 + 0) _
  refine am_steps ok_La_law 1 (x' := (if r = r then 313 else 298, [some (.ref am_M), some (.ref 0), some (.ref 22), some (.int (nI i))], [], h, k + 0 + 0, n + 0 + 0)) rfl (by (try dsimp only); omega) (by (try dsimp only); omega) ?_
  rw [if_pos rfl]
  refine ar_iinc ok_La_law rfl rfl (Nat.le_of_ble_eq_true rfl) (w := nI (i + 6)) (am_nadd i 6) (lo' := [some (.ref am_M), some (.ref 0), some (.ref 22), some (.int (nI (i + 6)))]) rfl (pc' := 316) rfl (by (try dsimp only); omega) (by (try dsimp only); omega) ?_
  refine am_steps ok_La_law 1 (x' := (18, [some (.ref am_M), some (.ref 0), some (.ref 22), some (.int (nI (i + 6)))], [], h, k + 0 + 0, n + 0 + 0)) rfl (by (try dsimp only); omega) (by (try dsimp only); omega) ?_
  refine am_wide (k' := k + 261) (n' := n + 5860) (by omega) (by omega) ?_
  exact K S s h hR hM hS10
set_option maxHeartbeats 4000000 in
set_option maxRecDepth 100000 in
theorem wl_8 (I : Nat → hS → mS → Prop) (hI : wStep I) (N : Nat) (hN : N < 3073) (xs : Nat → Int32) (c i k n : Nat) (hc : c < 512) (hi : i + 6 ≤ N) (hk : k + 261 ≤ 600000) (hn : n + 5860 ≤ 7302250) (S : hS) (s : mS) (h : am_H) (hR : RH S h) (hM : RM s h) (hIn : I c S s)
    (K : ∀ (S' : hS) (s' : mS) (h' : am_H), RH S' h' → RM s' h' → I (c + 1) S' s' → am_S am_Pr (some (N, xs)) 14 550 600000 7302250 227 (18, [some (.ref am_M), some (.ref 0), some (.ref 22), some (.int (nI (i + 6)))], [], h', k + 261, n + 5860) (fun r _ => r = some (.int 1))) : am_S am_Pr (some (N, xs)) 14 550 600000 7302250 227 (33, [some (.ref am_M), some (.ref 0), some (.ref 22), some (.int (nI i))], [.int 8], h, k, n) (fun r _ => r = some (.int 1)) := by
  obtain ⟨hS1, hS2, hS3, hS4, hS5, hS6, hS7, hS8, hS9, hS10⟩ := hI c S s hc hIn
  obtain ⟨r, e1, e2⟩ := hS9 
  refine am_steps ok_La_law 2 (x' := (301, [some (.ref am_M), some (.ref 0), some (.ref 22), some (.int (nI i))], [.ref 0], h, k, n)) rfl (by (try dsimp only); omega) (by (try dsimp only); omega) ?_
  refine ar_cv ok_La_law hk_Ho_broken rfl rfl (As := []) (ad := 0) (rest := []) rfl rfl (hR.ob (hs_k hR (a := 0) rfl) (Nat.le_of_ble_eq_true rfl)) (Nat.le_of_ble_eq_true rfl) (am_Me_none (c_Ho_broken  S h hR _ e1)) (Nat.le_of_ble_eq_true rfl) (Nat.le_of_ble_eq_true rfl) (by (try dsimp only); omega) (by (try dsimp only); omega) (pc' := 304) rfl (fun r1 h1 z => ?_)
  obtain ⟨rfl, z⟩ := z
  rw [z]
  show am_S _ _ _ _ _ _ _ (304, [some (.ref am_M), some (.ref 0), some (.ref 22), some (.int (nI i))], [.int r], h, k + 0, n + 0) _
  refine am_steps ok_La_law 1 (x' := (305, [some (.ref am_M), some (.ref 0), some (.ref 22), some (.int (nI i))], [.ref 22, .int r], h, k + 0, n + 0)) rfl (by (try dsimp only); omega) (by (try dsimp only); omega) ?_
  refine ar_cv ok_La_law hk_Mo_broken rfl rfl (As := []) (ad := 22) (rest := [.int r]) rfl rfl hM.1 (Nat.le_of_ble_eq_true rfl) (am_Me_none (k_Mo_broken  s h hM _ e2)) (Nat.le_of_ble_eq_true rfl) (Nat.le_of_ble_eq_true rfl) (by (try dsimp only); omega) (by (try dsimp only); omega) (pc' := 308) rfl (fun r2 h2 z => ?_)
  obtain ⟨rfl, z⟩ := z
  rw [z]
  show am_S _ _ _ _ _ _ _ (308, [some (.ref am_M), some (.ref 0), some (.ref 22), some (.int (nI i))], [.int r, .int r], h, k + 0 + 0, n + 0 + 0) _
  refine am_steps ok_La_law 1 (x' := (if r = r then 313 else 311, [some (.ref am_M), some (.ref 0), some (.ref 22), some (.int (nI i))], [], h, k + 0 + 0, n + 0 + 0)) rfl (by (try dsimp only); omega) (by (try dsimp only); omega) ?_
  rw [if_pos rfl]
  refine ar_iinc ok_La_law rfl rfl (Nat.le_of_ble_eq_true rfl) (w := nI (i + 6)) (am_nadd i 6) (lo' := [some (.ref am_M), some (.ref 0), some (.ref 22), some (.int (nI (i + 6)))]) rfl (pc' := 316) rfl (by (try dsimp only); omega) (by (try dsimp only); omega) ?_
  refine am_steps ok_La_law 1 (x' := (18, [some (.ref am_M), some (.ref 0), some (.ref 22), some (.int (nI (i + 6)))], [], h, k + 0 + 0, n + 0 + 0)) rfl (by (try dsimp only); omega) (by (try dsimp only); omega) ?_
  refine am_wide (k' := k + 261) (n' := n + 5860) (by omega) (by omega) ?_
  exact K S s h hR hM hS10
theorem am_sw9w (x : Int32) : x = 0 ∨ x = 1 ∨ x = 2 ∨ x = 3 ∨ x = 4 ∨ x = 5 ∨ x = 6 ∨ x = 7 ∨ x = 8 ∨ (x.toInt < 0 ∨ 8 < x.toInt) := by
  by_cases h0 : x = 0
  · exact Or.inl h0
  by_cases h1 : x = 1
  · exact Or.inr (Or.inl h1)
  by_cases h2 : x = 2
  · exact Or.inr (Or.inr (Or.inl h2))
  by_cases h3 : x = 3
  · exact Or.inr (Or.inr (Or.inr (Or.inl h3)))
  by_cases h4 : x = 4
  · exact Or.inr (Or.inr (Or.inr (Or.inr (Or.inl h4))))
  by_cases h5 : x = 5
  · exact Or.inr (Or.inr (Or.inr (Or.inr (Or.inr (Or.inl h5)))))
  by_cases h6 : x = 6
  · exact Or.inr (Or.inr (Or.inr (Or.inr (Or.inr (Or.inr (Or.inl h6))))))
  by_cases h7 : x = 7
  · exact Or.inr (Or.inr (Or.inr (Or.inr (Or.inr (Or.inr (Or.inr (Or.inl h7)))))))
  by_cases h8 : x = 8
  · exact Or.inr (Or.inr (Or.inr (Or.inr (Or.inr (Or.inr (Or.inr (Or.inr (Or.inl h8))))))))
  refine Or.inr (Or.inr (Or.inr (Or.inr (Or.inr (Or.inr (Or.inr (Or.inr (Or.inr (tsw_out (fun c g1 g2 e => ?_))))))))))
  have : c = 0 ∨ c = 1 ∨ c = 2 ∨ c = 3 ∨ c = 4 ∨ c = 5 ∨ c = 6 ∨ c = 7 ∨ c = 8 := by omega
  rcases this with rfl | rfl | rfl | rfl | rfl | rfl | rfl | rfl | rfl
  · exact h0 e
  · exact h1 e
  · exact h2 e
  · exact h3 e
  · exact h4 e
  · exact h5 e
  · exact h6 e
  · exact h7 e
  · exact h8 e
set_option maxHeartbeats 4000000 in
set_option maxRecDepth 100000 in
theorem wl_loop (I : Nat → hS → mS → Prop) (hI : wStep I) (N : Nat) (hN : N < 3073) (xs : Nat → Int32) : ∀ (fu c : Nat), c + fu = 513 → ∀ (S : hS) (s : mS) (h : am_H), 6 * c ≤ N + 5 → RH S h → RM s h → I c S s → am_S am_Pr (some (N, xs)) 14 550 600000 7302250 227 (18, [some (.ref am_M), some (.ref 0), some (.ref 22), some (.int (nI (6 * c)))], [], h, 60 + 261 * c, 698108 + 5860 * c) (fun r _ => r = some (.int 1)) := by
  intro fu
  induction fu with
  | zero => intro c hc S s h hcN; omega
  | succ fu ih =>
    intro c hc S s h hcN hR hM hIn
    have hx6 := law_sub6 N hN
    refine am_steps ok_La_law 2 (x' := (20, [some (.ref am_M), some (.ref 0), some (.ref 22), some (.int (nI (6 * c)))], [.ref am_M, .int (nI (6 * c))], h, 60 + 261 * c, 698108 + 5860 * c)) rfl (by (try dsimp only); omega) (by (try dsimp only); omega) ?_
    refine ar_slen ok_La_law rfl (w := Int32.ofNat N) rfl (pc' := 21) rfl (by (try dsimp only); omega) (by (try dsimp only); omega) ?_
    refine am_steps ok_La_law 3 (x' := (if Int32.ofNat N - 6 < nI (6 * c) then 319 else 27, [some (.ref am_M), some (.ref 0), some (.ref 22), some (.int (nI (6 * c)))], [], h, 60 + 261 * c, 698108 + 5860 * c)) rfl (by (try dsimp only); omega) (by (try dsimp only); omega) ?_
    refine am_if (fun hq => ?_) (fun hq => ?_)
    · refine am_steps ok_La_law 1 (x' := (320, [some (.ref am_M), some (.ref 0), some (.ref 22), some (.int (nI (6 * c)))], [.int 1], h, 60 + 261 * c, 698108 + 5860 * c)) rfl (by (try dsimp only); omega) (by (try dsimp only); omega) ?_
      exact am_ret ok_La_law rfl (by (try dsimp only); omega) (by (try dsimp only); omega) rfl
    · have hi : 6 * c + 6 ≤ N := by
        rw [Int32.lt_iff_toInt_lt, hx6, nI_toInt (by omega)] at hq
        omega
      refine am_steps ok_La_law 2 (x' := (29, [some (.ref am_M), some (.ref 0), some (.ref 22), some (.int (nI (6 * c)))], [.int (nI (6 * c)), .ref am_M], h, 60 + 261 * c, 698108 + 5860 * c)) rfl (by (try dsimp only); omega) (by (try dsimp only); omega) ?_
      refine ar_sald ok_La_law rfl (am_ixN (i := 6 * c) (by omega) (by omega)) (v := xs (6 * c)) rfl (pc' := 30) rfl (by (try dsimp only); omega) (by (try dsimp only); omega) ?_
      refine am_steps ok_La_law 2 (x' := (33, [some (.ref am_M), some (.ref 0), some (.ref 22), some (.int (nI (6 * c)))], [.int (xs (6 * c) &&& 15)], h, 60 + 261 * c, 698108 + 5860 * c)) rfl (by (try dsimp only); omega) (by (try dsimp only); omega) ?_
      have K : ∀ (S' : hS) (s' : mS) (h' : am_H), RH S' h' → RM s' h' → I (c + 1) S' s' → am_S am_Pr (some (N, xs)) 14 550 600000 7302250 227 (18, [some (.ref am_M), some (.ref 0), some (.ref 22), some (.int (nI (6 * c + 6)))], [], h', 60 + 261 * c + 261, 698108 + 5860 * c + 5860) (fun r _ => r = some (.int 1)) := by
        intro S' s' h' a1 a2 a3
        have := ih (c + 1) (by omega) S' s' h' (by omega) a1 a2 a3
        rw [show 6 * c + 6 = 6 * (c + 1) by omega, show 60 + 261 * c + 261 = 60 + 261 * (c + 1) by omega, show 698108 + 5860 * c + 5860 = 698108 + 5860 * (c + 1) by omega]
        exact this
      rcases am_sw9w (xs (6 * c) &&& 15) with hx | hx | hx | hx | hx | hx | hx | hx | hx | hx
      · rw [hx]; exact wl_0 I hI N hN xs c (6 * c) (60 + 261 * c) (698108 + 5860 * c) (by omega) hi (by omega) (by omega) S s h hR hM hIn K
      · rw [hx]; exact wl_1 I hI N hN xs c (6 * c) (60 + 261 * c) (698108 + 5860 * c) (by omega) hi (by omega) (by omega) S s h hR hM hIn K
      · rw [hx]; exact wl_2 I hI N hN xs c (6 * c) (60 + 261 * c) (698108 + 5860 * c) (by omega) hi (by omega) (by omega) S s h hR hM hIn K
      · rw [hx]; exact wl_3 I hI N hN xs c (6 * c) (60 + 261 * c) (698108 + 5860 * c) (by omega) hi (by omega) (by omega) S s h hR hM hIn K
      · rw [hx]; exact wl_4 I hI N hN xs c (6 * c) (60 + 261 * c) (698108 + 5860 * c) (by omega) hi (by omega) (by omega) S s h hR hM hIn K
      · rw [hx]; exact wl_5 I hI N hN xs c (6 * c) (60 + 261 * c) (698108 + 5860 * c) (by omega) hi (by omega) (by omega) S s h hR hM hIn K
      · rw [hx]; exact wl_6 I hI N hN xs c (6 * c) (60 + 261 * c) (698108 + 5860 * c) (by omega) hi (by omega) (by omega) S s h hR hM hIn K
      · rw [hx]; exact wl_7 I hI N hN xs c (6 * c) (60 + 261 * c) (698108 + 5860 * c) (by omega) hi (by omega) (by omega) S s h hR hM hIn K
      · rw [hx]; exact wl_8 I hI N hN xs c (6 * c) (60 + 261 * c) (698108 + 5860 * c) (by omega) hi (by omega) (by omega) S s h hR hM hIn K
      · obtain ⟨-, -, -, -, -, -, -, -, -, hS10⟩ := hI c S s (by omega) hIn
        refine ar_tsw ok_La_law rfl hx (t := 313) rfl (by (try dsimp only); omega) (by (try dsimp only); omega) ?_
        refine ar_iinc ok_La_law rfl rfl (Nat.le_of_ble_eq_true rfl) (w := nI (6 * c + 6)) (am_nadd (6 * c) 6) (lo' := [some (.ref am_M), some (.ref 0), some (.ref 22), some (.int (nI (6 * c + 6)))]) rfl (pc' := 316) rfl (by (try dsimp only); omega) (by (try dsimp only); omega) ?_
        refine am_steps ok_La_law 1 (x' := (18, [some (.ref am_M), some (.ref 0), some (.ref 22), some (.int (nI (6 * c + 6)))], [], h, 60 + 261 * c, 698108 + 5860 * c)) rfl (by (try dsimp only); omega) (by (try dsimp only); omega) ?_
        refine am_wide (k' := 60 + 261 * c + 261) (n' := 698108 + 5860 * c + 5860) (by omega) (by omega) ?_
        exact K S s h hR hM hS10
