/-! The reference does what a message says: books. -/
theorem MB.addM {s : mS} {z : Z} (h : MB s z) (c : List Nat) : MB (mI (mB s 26 z.mem.length (lI (b256 c : Nat))) 10 (nI (z.mem.length + 1))) (z.addM c) := by
  obtain ⟨a1, a2, a3, a4, a5, a6, a7, a8, a9, a10, a11, a12, a13, a14⟩ := h
  refine ⟨?_, fun k d hd => ?_, a3, fun k x hx => ?_, a5, fun Q hQ => (mB_ne (by decide)).trans (a6 Q hQ), fun Q hQ => (mB_ne (by decide)).trans (a7 Q hQ), fun Q hQ => (mB_ne (by decide)).trans (a8 Q hQ), fun Q hQ => (mB_ne (by decide)).trans (a9 Q hQ), fun Q hQ => (mB_ne (by decide)).trans (a10 Q hQ), a11, fun Q hQ => (mB_ne (by decide)).trans (a12 Q hQ), fun Q hQ => (mB_ne (by decide)).trans (a13 Q hQ), a14⟩
  · show _ = nI (z.mem ++ [c]).length
    rw [List.length_append]; rfl
  · have hd' : (z.mem ++ [c])[k]? = some d := hd
    show (mB s 26 z.mem.length (lI (b256 c : Nat))).2.2.2 26 k = _
    rw [mB_at]
    by_cases e : k < z.mem.length
    · rw [List.getElem?_append_left e] at hd'
      rw [if_neg (by omega)]; exact a2 k d hd'
    · have ek : k = z.mem.length := by
        have := get_lt' hd'
        rw [List.length_append, List.length_singleton] at this
        omega
      rw [ek, List.getElem?_append_right (Nat.le_refl _), Nat.sub_self] at hd'
      cases hd'
      rw [if_pos ek]
  · obtain ⟨b1, b2, b3, b4⟩ := a4 k x hx
    exact ⟨(mB_ne (by decide)).trans b1, b2, (mB_ne (by decide)).trans b3, b4⟩
theorem MB.uLim {s : mS} {z : Z} (h : MB s z) (k : Nat) (v m : Int) : MB (mB (mI s 25 (Int32.ofInt m)) 38 k (lI v)) (z.uLim k v m) := by
  obtain ⟨a1, a2, a3, a4, a5, a6, a7, a8, a9, a10, a11, a12, a13, a14⟩ := h
  refine ⟨a1, fun k c hc => (mB_ne (by decide)).trans (a2 k c hc), a3, fun k x hx => ?_, a5, fun Q hQ => (mB_ne (by decide)).trans (a6 Q hQ), fun Q hQ => (mB_ne (by decide)).trans (a7 Q hQ), fun Q hQ => (mB_ne (by decide)).trans (a8 Q hQ), fun Q hQ => (mB_ne (by decide)).trans (a9 Q hQ), fun Q hQ => (mB_ne (by decide)).trans (a10 Q hQ), a11, fun Q hQ => (mB_ne (by decide)).trans (a12 Q hQ), fun Q hQ => ?_, rfl⟩
  · obtain ⟨b1, b2, b3, b4⟩ := a4 k x hx
    exact ⟨(mB_ne (by decide)).trans b1, b2, (mB_ne (by decide)).trans b3, b4⟩
  · rw [mB_at, uLim_lim]
    by_cases c : Q = k
    · rw [if_pos c, if_pos c]
    · rw [if_neg c, if_neg c]; exact a13 Q hQ
theorem MB.addA {s s' : mS} {z : Z} (h : MB s z) (x : Ast) (w : mX [15, 16] [] [28, 30] [27, 29] s s') (e15 : s'.1 15 = nI (z.ast.length + 1)) (e16 : s'.1 16 = oI (z.addA x).fc) (e27 : ∀ k, s'.2.2.2 27 k = if k = z.ast.length then lI (b256 x.cd : Nat) else s.2.2.2 27 k) (e28 : ∀ k, s'.2.2.1 28 k = if k = z.ast.length then b2i x.mny else s.2.2.1 28 k) (e29 : ∀ k, s'.2.2.2 29 k = if k = z.ast.length then lI (x.prc : Nat) else s.2.2.2 29 k) (e30 : ∀ k, s'.2.2.1 30 k = if k = z.ast.length then nI x.cut else s.2.2.1 30 k) : MB s' (z.addA x) := by
  obtain ⟨a1, a2, a3, a4, a5, a6, a7, a8, a9, a10, a11, a12, a13, a14⟩ := h
  refine ⟨by rw [w.1 10 (by decide)]; exact a1, fun k c hc => by rw [w.2.2.2 26 (by decide)]; exact a2 k c hc, ?_, fun k y hy => ?_, e16, by rw [w.2.2.2 31 (by decide)]; exact a6, by rw [w.2.2.2 32 (by decide)]; exact a7, by rw [w.2.2.2 33 (by decide)]; exact a8, by rw [w.2.2.2 34 (by decide)]; exact a9, by rw [w.2.2.2 35 (by decide)]; exact a10, by rw [w.2.2.1 36 (by decide)]; exact a11, by rw [w.2.2.2 37 (by decide)]; exact a12, by rw [w.2.2.2 38 (by decide)]; exact a13, by rw [w.1 25 (by decide)]; exact a14⟩
  · rw [e15]
    show _ = nI (z.ast ++ [x]).length
    rw [List.length_append]; rfl
  · have hy' : (z.ast ++ [x])[k]? = some y := hy
    rw [e27, e28, e29, e30]
    by_cases e : k < z.ast.length
    · rw [List.getElem?_append_left e] at hy'
      rw [if_neg (by omega), if_neg (by omega), if_neg (by omega), if_neg (by omega)]; exact a4 k y hy'
    · have ek : k = z.ast.length := by
        have := get_lt' hy'
        rw [List.length_append, List.length_singleton] at this
        omega
      rw [ek, List.getElem?_append_right (Nat.le_refl _), Nat.sub_self] at hy'
      cases hy'
      rw [if_pos ek, if_pos ek, if_pos ek, if_pos ek]
      exact ⟨rfl, rfl, rfl, rfl⟩
abbrev eI : List Nat := [10, 15, 16, 25, 31]
abbrev eA : List Nat := [28, 30, 36, 43, 44, 45, 48, 49, 50, 51, 52, 54]
abbrev eB : List Nat := [26, 27, 29, 31, 32, 34, 35, 37, 38, 46, 47, 53]
def DE (s s' : mS) (z : Z) : Prop := MB s' z ∧ MQu s' z ∧ mX eI [45] eA eB s s'
section
variable {n : Nat} {s : mS} {z : Z} {p k : Nat} {M : List Nat}
theorem DE.bk {s' : mS} {z' : Z} {ki ka kb : List Nat} (hQ : MQu s z) (w : mX ki [] ka kb s s') (hB : MB s' z') (h1 : ∀ k ∈ ki, k ∈ [10, 15, 16, 25]) (h2 : ∀ k ∈ ka, k ∈ [28, 30, 36]) (h3 : ∀ k ∈ kb, k ∈ [26, 27, 29, 31, 32, 34, 35, 37, 38]) (hi : z'.ins = z.ins) (ht : z'.turns = z.turns) : DE s s' z' := by
  refine ⟨hB, ?_, w.mono (fun k hk => ?_) (by simp) (fun k hk => ?_) (fun k hk => ?_)⟩
  · have q := hQ.x5 w (fun c => by have := h1 31 c; simp at this) (fun k hk => by have := h2 k hk; simp at this; omega) (fun k hk => by have := h3 k hk; simp at this; omega) (by simp)
    exact ⟨by rw [hi]; exact q.many, by rw [hi]; exact q.ins, by rw [ht]; exact q.turns⟩
  · have := h1 k hk; simp at this ⊢; omega
  · have := h2 k hk; simp at this ⊢; omega
  · have := h3 k hk; simp at this ⊢; omega
/-- the codes that stand first -/
theorem d_two (hB : MB s z) (hO : okZ n z) (hk : k < 13) (hok : okM k M) (hT : TXT (s.2.2.1 24) M.length M) : d_Mo_assetAt 15 s = some (oI (z.fa (sl M 15 3))) ∧ d_Mo_memberAt 15 s = some (oI (z.fm (sl M 15 4))) ∧ 21 ≤ M.length := by
  have hN := hok.l123
  have hl := hok.len
  have hm := hO.mem
  have h21 : 21 ≤ M.length := by
    by_cases c : k = 5
    · subst c
      have := hok.l5
      omega
    · have hc : k = 0 ∨ k = 1 ∨ k = 2 ∨ k = 3 ∨ k = 4 ∨ k = 6 ∨ k = 7 ∨ k = 8 ∨ k = 9 ∨ k = 10 ∨ k = 11 ∨ k = 12 := by omega
      have : 4 ≤ fLen k M := by
        rcases hc with rfl | rfl | rfl | rfl | rfl | rfl | rfl | rfl | rfl | rfl | rfl | rfl <;> simp [fLen]
      omega
  exact ⟨d_ast hT (by omega) hB hO.ast (fun x hx => ⟨(hO.acd x hx).1, (hO.acd x hx).2.1⟩) 15 (by omega), d_mem hT (by omega) hB hm.2 hO.cod 15 (by omega), h21⟩
theorem d_e0 (hB : MB s z) (hQ : MQu s z) (hO : okZ n z) (hok : okM 0 M) (hT : TXT (s.2.2.1 24) M.length M) (h4 : s.1 4 = nI 0) (hv : vMat z 0 p M = 0) : ∃ s', d_Mo_does s = some s' ∧ DE s s' (eff z 0 p M) := by
  obtain ⟨t1, t2, t3⟩ := d_two hB hO (by omega) hok hT
  have hN := hok.l123
  have hm := hO.mem
  have hv' : vNew z (sl M 15 4) = 0 := hv
  have h256 : z.mem.length < 256 := by
    unfold vNew at hv'
    by_cases c : z.fm (sl M 15 4) = none
    · rw [if_pos c] at hv'
      by_cases c2 : z.mem.length = 256
      · rw [if_pos c2] at hv'; cases hv'
      · omega
    · rw [if_neg c] at hv'; cases hv'
  have dp : d_Mo_packed 15 4 s = some (lI (b256 (sl M 15 4) : Nat)) := d_pck hT (by omega) 15 4 (by omega) (by omega)
  obtain ⟨s', hs'⟩ : ∃ s', s' = mI (mB s 26 z.mem.length (lI (b256 (sl M 15 4) : Nat))) 10 (nI (z.mem.length + 1)) := ⟨_, rfl⟩
  have w : mX [10] [] [] [26] s s' := by rw [hs']; exact mX.I (mX.B mX.rf (by decide)) (by decide)
  have b' : MB s' (z.addM (sl M 15 4)) := by rw [hs']; exact hB.addM (sl M 15 4)
  refine ⟨s', ?_, DE.bk hQ w b' (by decide) (by simp) (by decide) rfl rfl⟩
  unfold d_Mo_does
  rw [t1, Option.bind_some, t2, Option.bind_some, h4, if_pos (by decide), dp, Option.bind_some, hB.mem, ix_N (by omega) (by omega), Option.bind_some, nI_add1, ← hs']
theorem d_e1 (hB : MB s z) (hQ : MQu s z) (hO : okZ n z) (hok : okM 1 M) (hT : TXT (s.2.2.1 24) M.length M) (h4 : s.1 4 = nI 1) (hv : vMat z 1 p M = 0) : ∃ s', d_Mo_does s = some s' ∧ DE s s' (eff z 1 p M) := by
  obtain ⟨t1, t2, t3⟩ := d_two hB hO (by omega) hok hT
  have hl' : M.length = 17 + 21 := hok.len
  have hf' : (M.getD 18 0 = 28 ∨ M.getD 18 0 = 12) ∧ isD (sl M 19 15) = true ∧ isD (sl M 34 2) = true := hok.ok
  have hv' : vAst z (sl M 15 3) = 0 := hv
  have hla := hO.ast
  have h64 : z.ast.length < 64 := by
    unfold vAst at hv'
    by_cases c : z.fa (sl M 15 3) = none
    · rw [if_pos c] at hv'
      by_cases c2 : z.ast.length = 64
      · rw [if_pos c2] at hv'; cases hv'
      · omega
    · rw [if_neg c] at hv'; cases hv'
  obtain ⟨x, hx⟩ : ∃ x, x = mkAst (sl M 15 3) (decide (M.getD 18 0 = 12)) (num (sl M 19 15)) (num (sl M 34 2)) := ⟨_, rfl⟩
  have ee : eff z 1 p M = z.addA x := by rw [hx]; rfl
  have dp : d_Mo_packed 15 3 s = some (lI (b256 (sl M 15 3) : Nat)) := d_pck hT (by omega) 15 3 (by omega) (by omega)
  have e18 : (if ¬ ((s.2.2.1 24 18) : Int32) = 67 then (some 0) else (some 1)) = some (b2i x.mny) := by
    rw [hT.b (by omega), hx]
    show _ = some (b2i (decide (M.getD 18 0 = 12)))
    unfold chB
    rcases hf'.1 with c | c <;> rw [c] <;> decide
  obtain ⟨s1, hs1⟩ : ∃ s1, s1 = mA (mB s 27 z.ast.length (lI (b256 (sl M 15 3) : Nat))) 28 z.ast.length (am_bn 3 (b2i x.mny)) := ⟨_, rfl⟩
  have w1 : mX [] [] [28] [27] s s1 := by rw [hs1]; exact mX.A (mX.B mX.rf (by decide)) (by decide)
  have n1 : d_Mo_number 19 15 s1 = some (lI (x.prc : Nat)) := by
    rw [hx]
    exact d_nmb (by rw [w1.2.2.1 24 (by decide)]; exact hT) (by omega) 19 15 (by omega) hf'.2.1
  obtain ⟨s2, hs2⟩ : ∃ s2, s2 = mB s1 29 z.ast.length (lI (x.prc : Nat)) := ⟨_, rfl⟩
  have w2 : mX [] [] [] [29] s1 s2 := by rw [hs2]; exact mX.B mX.rf (by decide)
  have n2 : d_Mo_number 34 2 s2 = some (lI (x.cut : Nat)) := by
    rw [hx]
    exact d_nmb (by rw [w2.2.2.1 24 (by decide), w1.2.2.1 24 (by decide)]; exact hT) (by omega) 34 2 (by omega) hf'.2.2
  obtain ⟨s3, hs3⟩ : ∃ s3, s3 = mA s2 30 z.ast.length (nI x.cut) := ⟨_, rfl⟩
  have w3 : mX [] [] [30] [] s2 s3 := by rw [hs3]; exact mX.A mX.rf (by decide)
  have wa : mX [15, 16] [] [28, 30] [27, 29] s s3 := (w1.mono (by simp) (by simp) (by decide) (by decide)).tr ((w2.mono (by simp) (by simp) (by simp) (by decide)).tr (w3.mono (by simp) (by simp) (by decide) (by simp)))
  have b28 : s1.2.2.1 28 z.ast.length = b2i x.mny := by rw [hs1, mA_at, if_pos rfl, bn_b2i]
  have h16 : s.1 16 = oI z.fc := hB.fir
  obtain ⟨s4, hs4⟩ : ∃ s4, s4 = (if z.fc = none ∧ x.mny = true then mI s3 16 (nI z.ast.length) else s3) := ⟨_, rfl⟩
  have w4 : mX [15, 16] [] [28, 30] [27, 29] s3 s4 := by
    rw [hs4]
    split
    · exact mX.I mX.rf (by decide)
    · exact mX.rf
  have i16 : s4.1 16 = oI (z.addA x).fc := by
    rw [hs4, addA_fc]
    by_cases c : z.fc = none ∧ x.mny = true
    · rw [if_pos c, if_pos c]
      simp [mI, va_up]; rfl
    · rw [if_neg c, if_neg c, w3.1 16 (by simp), w2.1 16 (by simp), w1.1 16 (by simp)]; exact h16
  have i15 : s4.1 15 = nI z.ast.length := by
    rw [hs4]
    split
    · show (mI s3 16 _).1 15 = _
      rw [show (mI s3 16 (nI z.ast.length)).1 15 = s3.1 15 from rfl, w3.1 15 (by simp), w2.1 15 (by simp), w1.1 15 (by simp)]; exact hB.asn
    · rw [w3.1 15 (by simp), w2.1 15 (by simp), w1.1 15 (by simp)]; exact hB.asn
  have u : (if ((s1.2.2.1 28 z.ast.length) : Int32) = 0 then (some s3) else (if (0 : Int32) ≤ (s.1 16) then (some s3) else (some (mI s3 16 (s.1 15))))) = some s4 := by
    rw [b28, h16, hB.asn, hs4]
    cases hx2 : x.mny with
    | false => rw [if_pos (by decide), if_neg (fun c => by cases c.2)]
    | true =>
      rw [if_neg (by decide)]
      cases hfc : z.fc with
      | none => rw [if_neg (by decide), if_pos ⟨rfl, rfl⟩]
      | some b =>
        have hb := (hO.fc b hfc).1
        rw [if_pos (show (0 : Int32) ≤ oI (some b) from nI_le0 (a := 0) (b := b) (by omega) (by omega) (by omega)), if_neg (fun c => by cases c.1)]
  obtain ⟨s', hs'⟩ : ∃ s', s' = mI s4 15 (nI (z.ast.length + 1)) := ⟨_, rfl⟩
  have w5 : mX [15, 16] [] [28, 30] [27, 29] s4 s' := by rw [hs']; exact mX.I mX.rf (by decide)
  have wf : mX [15, 16] [] [28, 30] [27, 29] s s' := wa.tr (w4.tr w5)
  have x45 : mX [15, 16] [] [] [] s3 s' := by
    rw [hs', hs4]
    split
    · exact mX.I (mX.I mX.rf (by decide)) (by decide)
    · exact mX.I mX.rf (by decide)
  have bb : MB s' (z.addA x) := by
    refine hB.addA x wf (by rw [hs']; simp [mI, va_up]) (by rw [hs']; exact i16) (fun k => ?_) (fun k => ?_) (fun k => ?_) (fun k => ?_)
    · rw [x45.2.2.2 27 (by simp), w3.2.2.2 27 (by simp), w2.2.2.2 27 (by decide), hs1]
      show (mB s 27 z.ast.length _).2.2.2 27 k = _
      rw [mB_at, hx]; rfl
    · rw [x45.2.2.1 28 (by simp), w3.2.2.1 28 (by decide), w2.2.2.1 28 (by simp), hs1, mA_at, bn_b2i]; rfl
    · rw [x45.2.2.2 29 (by simp), w3.2.2.2 29 (by simp), hs2, mB_at, w1.2.2.2 29 (by decide)]
    · rw [x45.2.2.1 30 (by simp), hs3, mA_at, w2.2.2.1 30 (by simp), w1.2.2.1 30 (by decide)]
  rw [ee]
  refine ⟨s', ?_, DE.bk hQ wf bb (by decide) (by decide) (by decide) rfl rfl⟩
  unfold d_Mo_does
  rw [t1, Option.bind_some, t2, Option.bind_some, h4, if_neg (by decide), if_pos (by decide), dp, Option.bind_some, hB.asn, ix_N (by omega) (by omega), Option.bind_some, show am_ix 18 400 = some 18 from by decide, Option.bind_some, e18, Option.bind_some, ← hs1, n1, Option.bind_some, ← hs2, n2, Option.bind_some, lI_to32, ← hs3]
  rw [hB.asn] at u
  rw [u, Option.bind_some, i15, nI_add1, ← hs']
theorem d_e2 (hB : MB s z) (hQ : MQu s z) (hO : okZ n z) (hok : okM 2 M) (hT : TXT (s.2.2.1 24) M.length M) (h4 : s.1 4 = nI 2) (hc0 : cdF z (cds 2 M) = 0) : ∃ s', d_Mo_does s = some s' ∧ DE s s' (eff z 2 p M) := by
  obtain ⟨t1, t2, t3⟩ := d_two hB hO (by omega) hok hT
  have hl' : M.length = 17 + 20 := hok.len
  have hf' : isD (sl M 18 15) = true ∧ isD (sl M 33 2) = true := hok.ok
  have a1 := cdO_a (cdF_0 hc0 (true, sl M 15 3) (by simp [cds]))
  have ha := fa_lt a1
  have hla := hO.ast
  have n1 : d_Mo_number 18 15 s = some (lI (num (sl M 18 15) : Nat)) := d_nmb hT (by omega) 18 15 (by omega) hf'.1
  obtain ⟨s1, hs1⟩ : ∃ s1, s1 = mB s 29 (faD z (sl M 15 3)) (lI (num (sl M 18 15) : Nat)) := ⟨_, rfl⟩
  have w1 : mX [] [] [] [29] s s1 := by rw [hs1]; exact mX.B mX.rf (by decide)
  have n2 : d_Mo_number 33 2 s1 = some (lI (num (sl M 33 2) : Nat)) := d_nmb (by rw [w1.2.2.1 24 (by decide)]; exact hT) (by omega) 33 2 (by omega) hf'.2
  obtain ⟨s', hs'⟩ : ∃ s', s' = mA s1 30 (faD z (sl M 15 3)) (nI (num (sl M 33 2))) := ⟨_, rfl⟩
  have w : mX [] [] [30] [29] s s' := by rw [hs', hs1]; exact mX.A (mX.B mX.rf (by decide)) (by decide)
  have b' : MB s' (eff z 2 p M) := by rw [hs', hs1]; exact hB.uPrc _ _ _
  refine ⟨s', ?_, DE.bk hQ w b' (by simp) (by decide) (by decide) rfl rfl⟩
  rw [a1] at t1
  have t1' : d_Mo_assetAt 15 s = some (nI (faD z (sl M 15 3))) := t1
  unfold d_Mo_does
  rw [t1', Option.bind_some, t2, Option.bind_some, h4, if_neg (by decide), if_neg (by decide), if_pos (by decide), n1, Option.bind_some, ix_N (by omega) (by omega), Option.bind_some, ← hs1, n2, Option.bind_some, lI_to32, ← hs']
theorem d_giv {s : mS} (hB : MB s z) (hO : okZ n z) {a p' : Nat} (ha : a < z.ast.length) (hp : p' < z.mem.length) {v : Int} (hv : -1000000000000000 < v ∧ v < 1000000000000000) {X : mS → Option Int32} (hX : ∀ s', mX [] [] [36] [31, 34, 35, 37] s s' → MB s' (z.mvH a (-v)) → X s' = some (nI p')) : ∃ s', ((d_Mo_move (nI a) (-(lI v)) s).bind fun q170 => ((X q170).bind fun q179 => ((d_Mo_move ((64 * q179) + (nI a)) (lI v) q170).bind fun q190 => (some q190)))) = some s' ∧ MB s' ((z.mvH a (-v)).mvH (64 * p' + a) v) ∧ mX [] [] [36] [31, 34, 35, 37] s s' := by
  have hla := hO.ast
  have hm := hO.mem
  obtain ⟨s1, r1, r2, r3⟩ := d_move hB (P := a) (by omega) (v := -v) (by omega)
  rw [← mvH_mv1 (by omega)] at r2
  obtain ⟨s2, q1, q2, q3⟩ := d_move r2 (P := 64 * p' + a) (by omega) (v := v) (by omega)
  rw [← mvH_mv1 (by omega)] at q2
  refine ⟨s2, ?_, q2, r3.tr q3⟩
  rw [lI_neg, r1, Option.bind_some, hX s1 r3 r2, Option.bind_some, show (64 : Int32) * nI p' + nI a = nI (64 * p' + a) from by rw [show (64 : Int32) = nI 64 from rfl, nI_mul, nI_add'], q1]; rfl
theorem d_e34 (hB : MB s z) (hQ : MQu s z) (hO : okZ n z) (hk : k = 3 ∨ k = 4) (hok : okM k M) (hT : TXT (s.2.2.1 24) M.length M) (h4 : s.1 4 = nI k) (hc0 : cdF z (cds k M) = 0) : ∃ s', d_Mo_does s = some s' ∧ DE s s' (eff z k p M) := by
  obtain ⟨t1, t2, t3⟩ := d_two hB hO (by omega) hok hT
  have hm := hO.mem
  have hl' : M.length = 17 + 22 := by rcases hk with c | c <;> subst c <;> exact hok.len
  have hf' : isD (sl M 22 15) = true := by rcases hk with c | c <;> subst c <;> exact hok.ok
  have n15 := num15 (by omega) hf'
  have a1 : z.fa (sl M 15 3) = some (faD z (sl M 15 3)) := by rcases hk with c | c <;> subst c <;> exact cdO_a (cdF_0 hc0 (true, sl M 15 3) (by simp [cds]))
  have b1 : z.fm (sl M 18 4) = some (fmD z (sl M 18 4)) := by rcases hk with c | c <;> subst c <;> exact cdO_m (cdF_0 hc0 (false, sl M 18 4) (by simp [cds]))
  have n1 : d_Mo_number 22 15 s = some (lI (num (sl M 22 15) : Nat)) := d_nmb hT (by omega) 22 15 (by omega) hf'
  rw [a1] at t1
  have t1' : d_Mo_assetAt 15 s = some (nI (faD z (sl M 15 3))) := t1
  have hX : ∀ (v : Int) (s' : mS), mX [] [] [36] [31, 34, 35, 37] s s' → MB s' (z.mvH (faD z (sl M 15 3)) (-v)) → d_Mo_memberAt 18 s' = some (nI (fmD z (sl M 18 4))) := fun v s' w b => by
    have := d_mem (s := s') (by rw [w.2.2.1 24 (by decide)]; exact hT) (by omega) b hm.2 hO.cod 18 (by omega)
    have e : (z.mvH (faD z (sl M 15 3)) (-v)).fm (sl M 18 4) = some (fmD z (sl M 18 4)) := b1
    rw [e] at this
    exact this
  rcases hk with c | c
  · subst c
    obtain ⟨s', r1, r2, r3⟩ := d_giv hB hO (fa_lt a1) (fm_lt b1).1 (v := (num (sl M 22 15) : Int)) (by omega) (hX _)
    refine ⟨s', ?_, DE.bk hQ r3 r2 (by simp) (by decide) (by decide) rfl rfl⟩
    unfold d_Mo_does
    rw [t1', Option.bind_some, t2, Option.bind_some, h4, if_neg (by decide), if_neg (by decide), if_neg (by decide), if_pos (by decide), if_neg (by decide), n1, Option.bind_some, Option.bind_some]
    exact r1
  · subst c
    obtain ⟨s', r1, r2, r3⟩ := d_giv hB hO (fa_lt a1) (fm_lt b1).1 (v := -(num (sl M 22 15) : Int)) (by omega) (hX _)
    refine ⟨s', ?_, DE.bk hQ r3 r2 (by simp) (by decide) (by decide) rfl rfl⟩
    unfold d_Mo_does
    rw [t1', Option.bind_some, t2, Option.bind_some, h4, if_neg (by decide), if_neg (by decide), if_neg (by decide), if_pos (by decide), if_pos (by decide), n1, Option.bind_some, Option.bind_some, lI_neg]
    exact r1
end
