/-! The reference tries a price, a pledge: the state between, and the state after. -/
theorem uPrc_hb {n : Nat} {z : Z} (hO : okZ n z) {a prc cut : Nat} {x : Ast} (hx : z.ast[a]? = some x) (hsec : x.mny = false) : ∀ p, p < z.mem.length → (z.uPrc a prc cut).crd p ≤ 8000000000000000001 := fun p hp => by
  have h1 := uPrc_crd z prc cut (get_lt' hx) p
  have h2 := uPrc_wor1 z (prc := prc) (cut := cut) hx hsec p
  have h3 : wth (z.pl (64 * p + a)).toNat prc cut ≤ 4000000000000000001 := Nat.min_le_right _ _
  have h4 := hO.crd1 hp
  unfold mostN at h4
  omega
theorem mB_back (s : mS) (a j : Nat) (v : Int64) : mB (mB s a j v) a j (s.2.2.2 a j) = s := by
  have : (mB (mB s a j v) a j (s.2.2.2 a j)).2.2.2 = s.2.2.2 := by
    funext b i
    rw [mB_get, mB_get]
    by_cases c : b = a
    · by_cases d : i = j
      · rw [if_pos c, if_pos d, c, d]
      · rw [if_pos c, if_neg d, if_pos c, if_neg d]
    · rw [if_neg c, if_neg c]
  show (s.1, s.2.1, s.2.2.1, (mB (mB s a j v) a j (s.2.2.2 a j)).2.2.2) = s
  rw [this]
theorem mA_back (s : mS) (a j : Nat) (v : Int32) : mA (mA s a j v) a j (s.2.2.1 a j) = s := by
  have : (mA (mA s a j v) a j (s.2.2.1 a j)).2.2.1 = s.2.2.1 := by
    funext b i
    rw [mA_get, mA_get]
    by_cases c : b = a
    · by_cases d : i = j
      · rw [if_pos c, if_pos d, c, d]
      · rw [if_pos c, if_neg d, if_pos c, if_neg d]
    · rw [if_neg c, if_neg c]
  show (s.1, s.2.1, (mA (mA s a j v) a j (s.2.2.1 a j)).2.2.1, s.2.2.2) = s
  rw [this]
theorem mAB_back (s : mS) (a b j : Nat) (v : Int64) (w : Int32) : mA (mB (mA (mB s a j v) b j w) a j (s.2.2.2 a j)) b j (s.2.2.1 b j) = s := by
  have : mB (mA (mB s a j v) b j w) a j (s.2.2.2 a j) = mA (mB (mB s a j v) a j (s.2.2.2 a j)) b j w := rfl
  rw [this, mB_back, mA_back]
theorem MB.uPl {s : mS} {z : Z} (h : MB s z) (P : Nat) (v : Int) : MB (mB s 32 P (lI v)) (z.uPl P v) := by
  obtain ⟨a1, a2, a3, a4, a5, a6, a7, a8, a9, a10, a11, a12, a13, a14⟩ := h
  refine ⟨a1, fun k c hc => (mB_ne (by decide)).trans (a2 k c hc), a3, fun k x hx => ?_, a5, fun Q hQ => (mB_ne (by decide)).trans (a6 Q hQ), fun Q hQ => ?_, fun Q hQ => (mB_ne (by decide)).trans (a8 Q hQ), fun Q hQ => (mB_ne (by decide)).trans (a9 Q hQ), fun Q hQ => (mB_ne (by decide)).trans (a10 Q hQ), a11, fun Q hQ => (mB_ne (by decide)).trans (a12 Q hQ), fun Q hQ => (mB_ne (by decide)).trans (a13 Q hQ), a14⟩
  · obtain ⟨b1, b2, b3, b4⟩ := a4 k x hx
    exact ⟨(mB_ne (by decide)).trans b1, b2, (mB_ne (by decide)).trans b3, b4⟩
  · rw [mB_at, uPl_pl]
    by_cases c : Q = P
    · rw [if_pos c, if_pos c]
    · rw [if_neg c, if_neg c]; exact a7 Q hQ
theorem MB.uPrc {s : mS} {z : Z} (h : MB s z) (a prc cut : Nat) : MB (mA (mB s 29 a (lI (prc : Int))) 30 a (nI cut)) (z.uPrc a prc cut) := by
  obtain ⟨a1, a2, a3, a4, a5, a6, a7, a8, a9, a10, a11, a12, a13, a14⟩ := h
  have eB : ∀ {b i : Nat}, b ≠ 29 → (mA (mB s 29 a (lI (prc : Int))) 30 a (nI cut)).2.2.2 b i = s.2.2.2 b i := fun hb => mB_ne hb
  have eA : ∀ {b i : Nat}, b ≠ 30 → (mA (mB s 29 a (lI (prc : Int))) 30 a (nI cut)).2.2.1 b i = s.2.2.1 b i := fun hb => mA_ne hb
  refine ⟨a1, fun k c hc => (eB (by decide)).trans (a2 k c hc), by rw [uPrc_len]; exact a3, fun k y hy => ?_, a5, fun Q hQ => (eB (by decide)).trans (a6 Q hQ), fun Q hQ => (eB (by decide)).trans (a7 Q hQ), fun Q hQ => (eB (by decide)).trans (a8 Q hQ), fun Q hQ => (eB (by decide)).trans (a9 Q hQ), fun Q hQ => (eB (by decide)).trans (a10 Q hQ), fun Q hQ => (eA (by decide)).trans (a11 Q hQ), fun Q hQ => (eB (by decide)).trans (a12 Q hQ), fun Q hQ => (eB (by decide)).trans (a13 Q hQ), a14⟩
  rw [uPrc_ast, List.getElem?_modify] at hy
  cases hx : z.ast[k]? with
  | none => rw [hx] at hy; cases hy
  | some x =>
    rw [hx] at hy
    have hy' : (if a = k then mkAst x.cd x.mny prc cut else x) = y := Option.some.inj hy
    obtain ⟨b1, b2, b3, b4⟩ := a4 k x hx
    by_cases c : a = k
    · subst c
      rw [if_pos rfl] at hy'
      cases hy'
      exact ⟨(eB (by decide)).trans b1, (eA (by decide)).trans b2, (show (mB s 29 a (lI (prc : Int))).2.2.2 29 a = lI (prc : Int) from (mB_at _ _ _ _ _).trans (if_pos rfl)), (mA_at _ _ _ _ _).trans (if_pos rfl)⟩
    · rw [if_neg c] at hy'
      cases hy'
      refine ⟨(eB (by decide)).trans b1, (eA (by decide)).trans b2, ?_, ?_⟩
      · exact (show (mB s 29 a (lI (prc : Int))).2.2.2 29 k = _ from (mB_at _ _ _ _ _).trans (if_neg (fun q => c q.symm))).trans b3
      · exact ((mA_at _ _ _ _ _).trans (if_neg (fun q => c q.symm))).trans b4
