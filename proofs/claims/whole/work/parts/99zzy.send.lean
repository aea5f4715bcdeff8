/-! Sending: the outcomes. -/
def CX (n : Nat) (S : hS) (s : mS) (z : Z) (g : hG) (q u : List Ins) (L : Nat) : Prop := (SG z S s) ∧ (HZ S z g q u L []) ∧ (MB s z) ∧ (MQu s z) ∧ (M0 s) ∧ (HTx S z.txs) ∧ (MXt s z.txs) ∧ (okZ n z) ∧ (okT n z) ∧ (good z) ∧ (z.fst (fun _ => false) q = none) ∧ (∀ i ∈ z.ins, ∃ t ∈ z.txs, t.who = i.who ∧ t.nm = i.nm) ∧ (900 ≤ z.tick → z.ins = []) ∧ (∃ b, s.1 54 = b2i b) ∧ (L ≤ 800000 * n) ∧ (S.1.length ≤ 61 + 300 * n) ∧ (∃ j, s.1 60 = nI j ∧ j ≤ 404 * n) ∧ (HAn S []) ∧ (AN s []) ∧ (¬ s.1 57 = 0)
theorem CX.sg {n : Nat} {S : hS} {s : mS} {z : Z} {g : hG} {q u : List Ins} {L : Nat} (h : CX n S s z g q u L) : SG z S s := h.1
theorem CX.hz {n : Nat} {S : hS} {s : mS} {z : Z} {g : hG} {q u : List Ins} {L : Nat} (h : CX n S s z g q u L) : HZ S z g q u L [] := h.2.1
theorem CX.hb {n : Nat} {S : hS} {s : mS} {z : Z} {g : hG} {q u : List Ins} {L : Nat} (h : CX n S s z g q u L) : MB s z := h.2.2.1
theorem CX.hq {n : Nat} {S : hS} {s : mS} {z : Z} {g : hG} {q u : List Ins} {L : Nat} (h : CX n S s z g q u L) : MQu s z := h.2.2.2.1
theorem CX.m0 {n : Nat} {S : hS} {s : mS} {z : Z} {g : hG} {q u : List Ins} {L : Nat} (h : CX n S s z g q u L) : M0 s := h.2.2.2.2.1
theorem CX.hc {n : Nat} {S : hS} {s : mS} {z : Z} {g : hG} {q u : List Ins} {L : Nat} (h : CX n S s z g q u L) : HTx S z.txs := h.2.2.2.2.2.1
theorem CX.hx {n : Nat} {S : hS} {s : mS} {z : Z} {g : hG} {q u : List Ins} {L : Nat} (h : CX n S s z g q u L) : MXt s z.txs := h.2.2.2.2.2.2.1
theorem CX.ok {n : Nat} {S : hS} {s : mS} {z : Z} {g : hG} {q u : List Ins} {L : Nat} (h : CX n S s z g q u L) : okZ n z := h.2.2.2.2.2.2.2.1
theorem CX.ot {n : Nat} {S : hS} {s : mS} {z : Z} {g : hG} {q u : List Ins} {L : Nat} (h : CX n S s z g q u L) : okT n z := h.2.2.2.2.2.2.2.2.1
theorem CX.gd {n : Nat} {S : hS} {s : mS} {z : Z} {g : hG} {q u : List Ins} {L : Nat} (h : CX n S s z g q u L) : good z := h.2.2.2.2.2.2.2.2.2.1
theorem CX.na {n : Nat} {S : hS} {s : mS} {z : Z} {g : hG} {q u : List Ins} {L : Nat} (h : CX n S s z g q u L) : z.fst (fun _ => false) q = none := h.2.2.2.2.2.2.2.2.2.2.1
theorem CX.us {n : Nat} {S : hS} {s : mS} {z : Z} {g : hG} {q u : List Ins} {L : Nat} (h : CX n S s z g q u L) : ∀ i ∈ z.ins, ∃ t ∈ z.txs, t.who = i.who ∧ t.nm = i.nm := h.2.2.2.2.2.2.2.2.2.2.2.1
theorem CX.sh {n : Nat} {S : hS} {s : mS} {z : Z} {g : hG} {q u : List Ins} {L : Nat} (h : CX n S s z g q u L) : 900 ≤ z.tick → z.ins = [] := h.2.2.2.2.2.2.2.2.2.2.2.2.1
theorem CX.fb {n : Nat} {S : hS} {s : mS} {z : Z} {g : hG} {q u : List Ins} {L : Nat} (h : CX n S s z g q u L) : ∃ b, s.1 54 = b2i b := h.2.2.2.2.2.2.2.2.2.2.2.2.2.1
theorem CX.lb {n : Nat} {S : hS} {s : mS} {z : Z} {g : hG} {q u : List Ins} {L : Nat} (h : CX n S s z g q u L) : L ≤ 800000 * n := h.2.2.2.2.2.2.2.2.2.2.2.2.2.2.1
theorem CX.ln {n : Nat} {S : hS} {s : mS} {z : Z} {g : hG} {q u : List Ins} {L : Nat} (h : CX n S s z g q u L) : S.1.length ≤ 61 + 300 * n := h.2.2.2.2.2.2.2.2.2.2.2.2.2.2.2.1
theorem CX.jr {n : Nat} {S : hS} {s : mS} {z : Z} {g : hG} {q u : List Ins} {L : Nat} (h : CX n S s z g q u L) : ∃ j, s.1 60 = nI j ∧ j ≤ 404 * n := h.2.2.2.2.2.2.2.2.2.2.2.2.2.2.2.2.1
theorem CX.hA {n : Nat} {S : hS} {s : mS} {z : Z} {g : hG} {q u : List Ins} {L : Nat} (h : CX n S s z g q u L) : HAn S [] := h.2.2.2.2.2.2.2.2.2.2.2.2.2.2.2.2.2.1
theorem CX.hA' {n : Nat} {S : hS} {s : mS} {z : Z} {g : hG} {q u : List Ins} {L : Nat} (h : CX n S s z g q u L) : AN s [] := h.2.2.2.2.2.2.2.2.2.2.2.2.2.2.2.2.2.2.1
theorem CX.up {n : Nat} {S : hS} {s : mS} {z : Z} {g : hG} {q u : List Ins} {L : Nat} (h : CX n S s z g q u L) : ¬ s.1 57 = 0 := h.2.2.2.2.2.2.2.2.2.2.2.2.2.2.2.2.2.2.2
section
variable {n : Nat} {S S' : hS} {s s' : mS} {z : Z} {g : hG} {q u : List Ins} {L : Nat}
theorem CX.am (c : CX n S s z g q u L) (hn : n < 512) : S.1.length + 310 < am_M ∧ S.1.length ≤ am_M + 1 := by
  have := c.ln
  have e : am_M = 16777216 := rfl
  omega
theorem CX.rs (c : CX n S s z g q u L) : RS s z [] := ⟨c.hb, c.hq, c.m0, c.hA'⟩
theorem CX.jr1 (c : CX n S s z g q u L) : ∃ j, s.1 60 = nI j ∧ j ≤ 404 * (n + 1) := by
  obtain ⟨j, j1, j2⟩ := c.jr
  exact ⟨j, j1, by omega⟩
/-- nothing but the answer changes -/
theorem CX.ans {bs : List Int32} (c : CX n S s z g q u L) (hn : n < 512) (w : aX S S') (v : mX [7] [] [25] [] s s') (hA : HAn S' bs) (hA' : AN s' bs) (hl : bs.length ≤ 6000) : IN (n + 1) S' s' := by
  have gw : GW S S' := GW.ofX w (by decide) (by simp) (by simp) (by decide) (by simp) rfl
  refine (c.sg.tr (z' := z) (KP.ofX w (by decide) (by decide)) (w.ei 202 (by decide) _) v (by decide) (by decide) rfl).fin hA hA' hl (c.hz.w gw) (c.hb.x5 v (by decide) (by decide) (by simp)) (c.hq.x5 v (by decide) (by decide) (by simp) (by simp)) (c.m0.x v (by decide) (by decide) (by simp)) (c.hc.x (c.am hn).2 w (by decide) (by simp) (by simp) (fun k hk => Or.inl (by rw [List.mem_singleton] at hk; omega)) (by simp)) (c.hx.x v (by decide) (by decide) (by simp)) c.ok.up c.ot.up c.gd c.na c.us c.sh ?_ ?_ ?_ ?_ ?_
  · rw [v.1 54 (by decide)]; exact c.fb
  · have := c.lb; omega
  · rw [w.sh]; have := c.ln; omega
  · rw [v.1 60 (by decide)]; exact c.jr1
  · rw [v.1 57 (by decide)]; exact fun w => absurd w c.up
theorem CX.verd (c : CX n S s z g q u L) (hn : n < 512) {v : Int32} (hv : v = -1 ∨ ∃ m, m < 13 ∧ v = nI m) (hv0 : v ≠ 0) : ∃ S' s', h_An_putVerdict v S = some S' ∧ (∀ X : Option (Int32 × mS), (if (v : Int32) ≤ 0 then (if ¬ (v : Int32) = (-1) then X else ((d_Mo_putWord 79 75 32 65 71 s).bind fun q112 => ((d_Mo_putWord 65 73 78 10 0 q112).bind fun q121 => ((d_Mo_check q121).bind fun q130 => (some (1, q130)))))) else ((d_Mo_putWord 78 79 32 (48 + (v / 10)) (48 + (v - v / 10 * 10)) s).bind fun q139 => ((d_Mo_put 10 q139).bind fun q148 => ((d_Mo_check q148).bind fun q157 => (some (1, q157)))))) = some (1, s')) ∧ IN (n + 1) S' s' := by
  obtain ⟨S', a1, a2, a3⟩ := h_verd c.hA hv
  have hl : (vdB v).length ≤ 6000 := by have := vdB_len v; omega
  rcases hv with rfl | ⟨m, m1, rfl⟩
  · obtain ⟨s1, s2, b1, b2, b3, b4⟩ := d_verdA c.hA'
    have dc := d_check (c.hb.x5 b4 (by decide) (by decide) (by simp)) c.ok (by omega) c.gd
    refine ⟨S', s2, a1, fun X => ?_, c.ans hn a3 b4 a2 b3 hl⟩
    rw [if_pos (by decide), if_neg (by decide), b1, Option.bind_some, b2, Option.bind_some, dc]; rfl
  · obtain ⟨s1, s2, b1, b2, b3, b4⟩ := d_verdN c.hA' m1
    have dc := d_check (c.hb.x5 b4 (by decide) (by decide) (by simp)) c.ok (by omega) c.gd
    refine ⟨S', s2, a1, fun X => ?_, c.ans hn a3 b4 a2 b3 hl⟩
    have m0 : 0 < m := Nat.pos_of_ne_zero (fun e => hv0 (by rw [e]; rfl))
    rw [if_neg (show ¬ nI m ≤ (0 : Int32) from nI_ngt (b := 0) (by omega) (by omega) m0), b1, Option.bind_some, b2, Option.bind_some, dc]; rfl
/-- the record on the disk -/
theorem CX.rec (c : CX n S s z g q u L) (hn : n < 512) {N : Nat} (hN : N ≤ 400) : ∃ r S' s', h_Di_writeRecord (nI N) S = some (r, S') ∧ d_Mo_record (4 + nI N) s = some (r, s') ∧ mX [7, 8, 57, 58, 59, 60] [] [] [] s s' ∧ hX [600, 601, 602, 603] [] [] [] [] [] S S' ∧ ((r = 0 ∧ IN (n + 1) S' s') ∨ (r = 1 ∧ CX (n + 1) S' s' z g q u L ∧ S'.1.length ≤ 61 + 300 * n ∧ L ≤ 800000 * n ∧ okZ n z ∧ okT n z)) := by
  obtain ⟨j, j1, j2⟩ := c.jr
  obtain ⟨r, S', s', a1, a2, a3, a4, a5, a6⟩ := record_both S s c.sg.dk j N j1 (by omega) hN
  have w : hX [600, 601, 602, 603] [] [] [] [] [] S S' := a4.x kDi_in
  have v : mX [7, 8, 57, 58, 59, 60] [] [] [] s s' := a5.x kMd_in
  have gw : GW S S' := GW.ofX w (by decide) (by simp) (by simp) (by simp) (by simp) rfl
  have hz' := c.hz.w gw
  have hb' : MB s' z := c.hb.x5 v (by decide) (by simp) (by simp)
  have hq' : MQu s' z := c.hq.x5 v (by decide) (by simp) (by simp) (by simp)
  have m0' : M0 s' := c.m0.x v (by decide) (by simp) (by simp)
  have hc' : HTx S' z.txs := c.hc.x (c.am hn).2 w (by decide) (by simp) (by simp) (by simp) (by simp)
  have hx' : MXt s' z.txs := c.hx.x v (by decide) (by simp) (by simp)
  have hA1 : HAn S' [] := c.hA.x w (by decide) (by simp)
  have fb' : ∃ b, s'.1 54 = b2i b := by rw [v.1 54 (by decide)]; exact c.fb
  have hln := c.ln
  have hlb := c.lb
  refine ⟨r, S', s', a1, a2, v, w, ?_⟩
  rcases a6 with ⟨r1, r7, r8, r57, r60⟩ | ⟨r1, r7, r8, r57, r60⟩
  · refine Or.inr ⟨r1, ⟨c.sg.rc w v a3 (by rw [r8]; exact c.sg.e2), hz', hb', hq', m0', hc', hx', c.ok.up, c.ot.up, c.gd, c.na, c.us, c.sh, fb', by omega, by rw [w.sh]; omega, ⟨j + 4 + N, r60, by omega⟩, hA1, ⟨by rw [r7]; exact c.hA'.1, fun j b hb => by cases hb⟩, by rw [r57]; exact c.up⟩, by rw [w.sh]; exact hln, hlb, c.ok, c.ot⟩
  · refine Or.inl ⟨r1, (c.sg.rc w v a3 r8).fin (bs := []) hA1 ⟨r7, fun j b hb => by cases hb⟩ (by show 0 ≤ 6000; omega) hz' hb' hq' m0' hc' hx' c.ok.up c.ot.up c.gd c.na c.us c.sh fb' (by omega) (by rw [w.sh]; omega) ⟨j, r60, by omega⟩ (fun _ => ⟨r7, r8⟩)⟩
theorem CX.stm {p : Nat} {M : List Nat} (c : CX n S s z g q u L) (hn : n < 512) (hp : p < z.mem.length) (m : MG S z 14 p M) (h5 : s.1 5 = nI p) : ∃ S' s', h_De_carryOut S = some S' ∧ ((d_Mo_statement s).bind fun q94 => ((d_Mo_check q94).bind fun q103 => (some ((1 : Int32), q103)))) = some (1, s') ∧ IN (n + 1) S' s' := by
  obtain ⟨S', a1, a2, a3, a4, a5, a6, a7⟩ := h_carryS c.hz c.ok (by omega) hp m c.hc c.hA (c.am hn).2
  obtain ⟨s', b1, b2, b3⟩ := d_stm c.rs c.ok (by omega) hp h5
  have dc := d_check b2.1 c.ok (by omega) c.gd
  have sl := stmD_len (c.ok.b3 (by omega)) (p := p) (r := z.ast) (a := 0) (fun x hx => (c.ok.acd x hx).1)
  have ha := c.ok.ast
  refine ⟨S', s', a1, by rw [b1, Option.bind_some, dc]; rfl, ?_⟩
  refine (c.sg.tr (z' := z) a4 a5 b3 (by decide) (by decide) rfl).fin a7 b2.2.2.2 (by rw [List.length_append]; show 3 + _ ≤ 6000; omega) a2 b2.1 b2.2.1 b2.2.2.1 a3 (c.hx.x b3 (by decide) (by decide) (by simp)) c.ok.up c.ot.up c.gd c.na c.us c.sh ?_ ?_ ?_ ?_ ?_
  · rw [b3.1 54 (by decide)]; exact c.fb
  · have := c.lb; omega
  · have := c.ln; omega
  · rw [b3.1 60 (by decide)]; exact c.jr1
  · rw [b3.1 57 (by decide)]; exact fun w => absurd w c.up
end
