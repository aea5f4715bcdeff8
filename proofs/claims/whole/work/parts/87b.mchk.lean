/-! All credit, floors, values, the check. -/
def sumZ (f : Nat → Int) : Nat → Int
  | 0 => 0
  | n + 1 => sumZ f n + f n
theorem d_all_loop {s : mS} {z : Z} (hM : MB s z) (hC : okC z) (hm : z.mem.length ≤ 256) : ∀ (d fu k : Nat), z.mem.length - k = d → d < fu → k ≤ z.mem.length → l_Mo_allCredit_4 fu (lI (min (sumN z.crd k) (mostN + 1) : Nat)) (nI k) s = some (lI (min (sumN z.crd z.mem.length) (mostN + 1) : Nat)) := by
  intro d
  induction d with
  | zero =>
    intro fu k hk hf hle
    obtain ⟨fu, rfl⟩ : ∃ m, fu = m + 1 := ⟨fu - 1, by omega⟩
    unfold l_Mo_allCredit_4
    rw [hM.mem, if_pos ((nI_le' (by omega) (by omega)).mpr (by omega)), show k = z.mem.length by omega]
  | succ d ih =>
    intro fu k hk hf hle
    obtain ⟨fu, rfl⟩ : ∃ m, fu = m + 1 := ⟨fu - 1, by omega⟩
    unfold l_Mo_allCredit_4
    rw [hM.mem, if_neg (fun q => by have := (nI_le' (by omega) (by omega)).mp q; omega), d_credit hM hC (show k < 256 by omega), Option.bind_some, nI_add1]
    have hnext := ih fu (k + 1) (by omega) (by omega) (by omega)
    rw [i64_most, i64_most1, lI_add, mostV] at *
    have e : sumN z.crd (k + 1) = sumN z.crd k + z.crd k := rfl
    rw [e] at hnext
    generalize sumN z.crd k = X at *
    generalize z.crd k = w at *
    by_cases hc : X + w ≤ 4000000000000000000
    · rw [if_pos ((cmp_le0 (by omega) (by omega)).mpr (by omega)), Option.bind_some, ← hnext]
      congr 2; omega
    · rw [if_neg (fun q => hc (by have := (cmp_le0 (by omega) (by omega)).mp q; omega)), Option.bind_some, ← hnext]
      congr 2; omega
theorem wor_bank {z : Z} (hb : ∀ P, P < 64 → z.pl P = 0) (hl : z.ast.length ≤ 64) (a : Nat) : z.wor 0 a = 0 := by
  unfold Z.wor
  split
  · rename_i x hx
    have : a < z.ast.length := (List.getElem?_eq_some_iff.mp hx).1
    rw [hb (64 * 0 + a) (by omega)]
    split
    · rfl
    · exact wth_00 _ _
  · rfl
theorem sumN_0 {f : Nat → Nat} : ∀ {n : Nat}, (∀ k, k < n → f k = 0) → sumN f n = 0 := by
  intro n
  induction n with
  | zero => intro _; rfl
  | succ n ih =>
    intro h
    show sumN f n + f n = 0
    rw [ih (fun k hk => h k (by omega)), h n (by omega)]
theorem crd_bank {z : Z} (hb : ∀ P, P < 64 → z.pl P = 0) (hl : z.ast.length ≤ 64) : z.crd 0 = 0 := sumN_0 fun a _ => wor_bank hb hl a
theorem d_all {s : mS} {z : Z} (hM : MB s z) (hC : okC z) (hm : 1 ≤ z.mem.length ∧ z.mem.length ≤ 256) (hb : ∀ P, P < 64 → z.pl P = 0) : d_Mo_allCredit s = some (lI (min z.all (mostN + 1) : Nat)) := by
  unfold d_Mo_allCredit
  have e : (0 : Int64) = lI (min (sumN z.crd 1) (mostN + 1) : Nat) := by
    show lI 0 = lI (min (0 + z.crd 0) (mostN + 1) : Nat)
    rw [crd_bank hb hC.ast]
    rfl
  rw [e, show (1 : Int32) = nI 1 from rfl, d_all_loop hM hC hm.2 _ 100000 1 rfl (by omega) (by omega)]
  rfl
theorem sumN_le {f : Nat → Nat} {k : Nat} : ∀ {n : Nat}, k < n → f k ≤ sumN f n := by
  intro n
  induction n with
  | zero => intro h; omega
  | succ n ih =>
    intro h
    show f k ≤ sumN f n + f n
    by_cases hq : k = n
    · rw [hq]; omega
    · have := ih (by omega)
      omega
theorem okZ.crd1 {n : Nat} {z : Z} (h : okZ n z) {p : Nat} (hp : p < z.mem.length) : z.crd p ≤ mostN := Nat.le_trans (sumN_le hp) h.crd
def Z.bel (z : Z) (p : Nat) : Bool := match z.fc with
  | none => false
  | some a => decide (z.pos (64 * p + a) < -((min (z.crd p) (mostN + 1) : Nat) : Int))
theorem d_below {s : mS} {z : Z} (hM : MB s z) (hC : okC z) (hf : ∀ a, z.fc = some a → a < z.ast.length) (hpos : ∀ P, inL (z.pos P)) {p : Nat} (hp : p < 256) : d_Mo_isBelow (nI p) s = some (b2i (z.bel p)) := by
  unfold d_Mo_isBelow Z.bel
  rw [hM.fir]
  cases hc : z.fc with
  | none => rfl
  | some a =>
    have ha := hf a hc
    have hl := hC.ast
    rw [show oI (some a) = nI a from rfl, if_neg (nI_neg1 (by omega)), show (64 : Int32) * nI p + nI a = nI (64 * p + a) by rw [show (64 : Int32) = nI 64 from rfl, nI_mul, nI_add'], ixI (show 64 * p + a < 16384 by omega) (by omega), Option.bind_some, d_credit hM hC hp, Option.bind_some, hM.pos _ (by omega), lI_neg, mostV]
    have := hpos (64 * p + a)
    generalize z.crd p = c
    by_cases hq : z.pos (64 * p + a) < -((min c (4000000000000000000 + 1) : Nat) : Int)
    · rw [if_neg (fun q => by have := (cmp_ge0 (by omega) (by omega)).mp q; omega)]
      simp [hq, b2i]
    · rw [if_pos ((cmp_ge0 (by omega) (by omega)).mpr (by omega))]
      simp [hq, b2i]
theorem oI_eq {z : Z} {a : Nat} (hf : ∀ b, z.fc = some b → b < 2147483648) (ha : a < 2147483648) : nI a = oI z.fc ↔ some a = z.fc := by
  cases hc : z.fc with
  | none =>
    constructor
    · intro h; exact absurd h (nI_ne1 ha)
    · intro h; cases h
  | some b =>
    have := hf b hc
    constructor
    · intro h; rw [nI_inj ha this h]
    · intro h; cases h; rfl
theorem d_floor {s : mS} {z : Z} (hM : MB s z) (hC : okC z) (hf : ∀ a, z.fc = some a → a < z.ast.length) {P : Nat} (hP : P < 16384) (ha : P % 64 < z.ast.length) (hc : z.crd (P / 64) ≤ mostN) : d_Mo_floor (nI P) s = some (lI (z.flr P)) := by
  have hl := hC.ast
  unfold d_Mo_floor Z.flr
  rw [if_pos hP, if_pos (show nI P < (16384 : Int32) from (nI_lt' (b := 16384) (by omega) (by omega)).mpr hP), hM.fir]
  rw [show nI P - nI P / 64 * 64 = nI (P % 64) by
    rw [show (64 : Int32) = nI 64 from rfl, nI_div' (by omega) (by omega) (by omega), nI_mul, nI_sub' (by omega)]
    congr 1; omega]
  have ho := oI_eq (z := z) (a := P % 64) (fun b hb => by have := hf b hb; omega) (by omega)
  by_cases hq : some (P % 64) = z.fc
  · rw [if_neg (fun q => q (ho.mpr hq)), if_pos hq, show (64 : Int32) = nI 64 from rfl, nI_div' (by omega) (by omega) (by omega), d_credit hM hC (by omega), Option.bind_some, lI_neg, Nat.min_eq_left (by omega)]
  · rw [if_pos (fun q => hq (ho.mp q)), if_neg hq, ixI (by omega) (by omega), Option.bind_some]
    obtain ⟨x, hx⟩ : ∃ x, z.ast[P % 64]? = some x := ⟨_, List.getElem?_eq_getElem ha⟩
    rw [(hM.asc _ x hx).2.1, mny_some hx]
    by_cases hm : x.mny = true
    · rw [if_neg (b2i_ne0.mpr hm), if_pos hm]; rfl
    · rw [if_pos (b2i_eq0.mpr (by simpa using hm)), if_neg hm, ixI hP (by omega), Option.bind_some, hM.pl P hP]
theorem d_floor_r {s : mS} {P : Nat} (hP : 16384 ≤ P) (hP2 : P < 2147483648) : d_Mo_floor (nI P) s = some 0 := by
  unfold d_Mo_floor
  rw [if_neg (fun q => by have := (nI_lt' (b := 16384) (by omega) (by omega)).mp q; omega)]
theorem d_value {s : mS} {z : Z} (hM : MB s z) {P : Nat} (hP : P < 16384) : d_Mo_value (nI P) s = some (lI (z.pos P)) := by
  unfold d_Mo_value
  rw [if_neg (fun q => by have := (nI_le' (a := 16384) (by omega) (by omega)).mp q; omega), ixI hP (by omega), Option.bind_some, hM.pos P hP]
theorem d_value_r {s : mS} {z : Z} (hM : MB s z) {k : Nat} (hP : k < 65536) : d_Mo_value (nI (16384 + k)) s = some (lI (z.lim k - z.paid k)) := by
  unfold d_Mo_value
  rw [if_pos (show (16384 : Int32) ≤ nI (16384 + k) from (nI_le' (a := 16384) (by omega) (by omega)).mpr (by omega)), show nI (16384 + k) - 16384 = nI k by rw [show (16384 : Int32) = nI 16384 from rfl, nI_sub' (by omega), Nat.add_sub_cancel_left], ixI hP (by omega), Option.bind_some, hM.paid k hP, hM.lim k hP, lI_sub]
/-- what never breaks -/
def good (z : Z) : Prop := (∀ P, 64 ≤ P → P < 16384 → P / 64 < z.mem.length → P % 64 < z.ast.length → z.flr P ≤ z.pos P) ∧ (∀ a, a < z.ast.length → sumZ (fun p => z.pos (64 * p + a)) z.mem.length = 0) ∧ (∀ k, k < 65536 → 0 ≤ z.lim k → z.paid k ≤ z.lim k)
theorem good.flo {z : Z} (h : good z) : ∀ P, 64 ≤ P → P < 16384 → P / 64 < z.mem.length → P % 64 < z.ast.length → z.flr P ≤ z.pos P := h.1
theorem good.sum {z : Z} (h : good z) : ∀ a, a < z.ast.length → sumZ (fun p => z.pos (64 * p + a)) z.mem.length = 0 := h.2.1
theorem good.lim {z : Z} (h : good z) : ∀ k, k < 65536 → 0 ≤ z.lim k → z.paid k ≤ z.lim k := h.2.2
theorem d_chk22 {n : Nat} {s : mS} {z : Z} (hM : MB s z) (hO : okZ n z) (hn : n ≤ 512) (hG : good z) {a : Nat} (ha : a < z.ast.length) : ∀ (d fu k : Nat), z.mem.length - k = d → d < fu → 1 ≤ k → k ≤ z.mem.length → l_Mo_check_22 fu 0 (nI a) (lI (sumZ (fun p => z.pos (64 * p + a)) k)) (nI k) s = some (0, lI 0) := by
  have hl := hO.ast
  have hm := hO.mem
  intro d
  induction d with
  | zero =>
    intro fu k hk hf h1 hle
    obtain ⟨fu, rfl⟩ : ∃ m, fu = m + 1 := ⟨fu - 1, by omega⟩
    unfold l_Mo_check_22
    rw [hM.mem, if_pos ((nI_le' (by omega) (by omega)).mpr (by omega)), show k = z.mem.length by omega, hG.sum a ha]
  | succ d ih =>
    intro fu k hk hf h1 hle
    obtain ⟨fu, rfl⟩ : ∃ m, fu = m + 1 := ⟨fu - 1, by omega⟩
    unfold l_Mo_check_22
    have e1 : (64 : Int32) * nI k + nI a = nI (64 * k + a) := by rw [show (64 : Int32) = nI 64 from rfl, nI_mul, nI_add']
    have hfl := hG.flo (64 * k + a) (by omega) (by omega) (by omega) (by omega)
    have hc := hO.crd1 (show k < z.mem.length by omega)
    rw [hM.mem, if_neg (fun q => by have := (nI_le' (by omega) (by omega)).mp q; omega), e1, ixI (show 64 * k + a < 16384 by omega) (by omega), Option.bind_some, if_neg (fun q => q rfl)]
    rw [d_floor hM (hO.c hn) (fun a h => (hO.fc a h).1) (show 64 * k + a < 16384 by omega) (by omega) (by rw [show (64 * k + a) / 64 = k by omega]; exact hc), Option.bind_some, hM.pos _ (by omega)]
    have hp := hO.pos (64 * k + a)
    have hb : inL (z.flr (64 * k + a)) := by
      unfold Z.flr
      have h1 := hO.crd1 (p := (64 * k + a) / 64) (by omega)
      have h2 := hO.pl (64 * k + a)
      unfold big at *
      rw [mostV] at h1
      split
      · split
        · omega
        · split <;> omega
      · omega
    unfold big at hp
    rw [if_pos ((cmp_ge0 (by omega) hb).mpr hfl), Option.bind_some, lI_add, nI_add1]
    exact ih fu (k + 1) (by omega) (by omega) (by omega) (by omega)
theorem d_chk4 {n : Nat} {s : mS} {z : Z} (hM : MB s z) (hO : okZ n z) (hn : n ≤ 512) (hG : good z) : ∀ (d fu k : Nat), z.ast.length - k = d → d < fu → k ≤ z.ast.length → l_Mo_check_4 fu 0 (nI k) s = some 0 := by
  have hl := hO.ast
  have hm := hO.mem
  intro d
  induction d with
  | zero =>
    intro fu k hk hf hle
    obtain ⟨fu, rfl⟩ : ∃ m, fu = m + 1 := ⟨fu - 1, by omega⟩
    unfold l_Mo_check_4
    rw [hM.asn, if_pos ((nI_le' (by omega) (by omega)).mpr (by omega))]
  | succ d ih =>
    intro fu k hk hf hle
    obtain ⟨fu, rfl⟩ : ∃ m, fu = m + 1 := ⟨fu - 1, by omega⟩
    unfold l_Mo_check_4
    have e : lI (z.pos k) = lI (sumZ (fun p => z.pos (64 * p + k)) 1) := by
      congr 1
      show z.pos k = 0 + z.pos (64 * 0 + k)
      simp
    rw [hM.asn, if_neg (fun q => by have := (nI_le' (by omega) (by omega)).mp q; omega), ixI (show k < 16384 by omega) (by omega), Option.bind_some, hM.pos k (by omega), e, show (1 : Int32) = nI 1 from rfl, d_chk22 hM hO hn hG (by omega) _ 100000 1 rfl (by omega) (by omega) (by omega), Option.bind_some, if_neg (fun q => q rfl), if_pos (by decide), Option.bind_some, nI_add']
    exact ih fu (k + 1) (by omega) (by omega) (by omega)
theorem d_chk117 {n : Nat} {s : mS} {z : Z} (hM : MB s z) (hO : okZ n z) (hn : n ≤ 512) (hG : good z) {p : Nat} (hp : p < z.mem.length) : ∀ (d fu k : Nat), z.mem.length - k = d → d < fu → k ≤ z.mem.length → l_Mo_check_117 fu 0 (nI p) (nI k) s = some 0 := by
  have hm := hO.mem
  intro d
  induction d with
  | zero =>
    intro fu k hk hf hle
    obtain ⟨fu, rfl⟩ : ∃ m, fu = m + 1 := ⟨fu - 1, by omega⟩
    unfold l_Mo_check_117
    rw [hM.mem, if_pos ((nI_le' (by omega) (by omega)).mpr (by omega))]
  | succ d ih =>
    intro fu k hk hf hle
    obtain ⟨fu, rfl⟩ : ∃ m, fu = m + 1 := ⟨fu - 1, by omega⟩
    unfold l_Mo_check_117
    have hli := hG.lim (256 * p + k) (by omega)
    have h1 := hO.lim (256 * p + k)
    have h2 := hO.paid (256 * p + k)
    unfold big at h2
    rw [hM.mem, if_neg (fun q => by have := (nI_le' (by omega) (by omega)).mp q; omega), if_neg (fun q => q rfl), show (256 : Int32) * nI p + nI k = nI (256 * p + k) by rw [show (256 : Int32) = nI 256 from rfl, nI_mul, nI_add'], ixI (show 256 * p + k < 65536 by omega) (by omega), Option.bind_some, hM.lim _ (by omega), hM.paid _ (by omega), lI_0]
    have hnext := ih fu (k + 1) (by omega) (by omega) (by omega)
    by_cases hq : z.lim (256 * p + k) < 0
    · rw [if_pos ((cmp_lt0 (by omega) (by omega)).mpr hq), Option.bind_some, nI_add1]; exact hnext
    · rw [if_neg (fun q => hq ((cmp_lt0 (by omega) (by omega)).mp q)), if_pos ((cmp_ge0 (by omega) (by omega)).mpr (hli (by omega))), Option.bind_some, nI_add1]; exact hnext
theorem d_chk107 {n : Nat} {s : mS} {z : Z} (hM : MB s z) (hO : okZ n z) (hn : n ≤ 512) (hG : good z) : ∀ (d fu k : Nat), z.mem.length - k = d → d < fu → k ≤ z.mem.length → l_Mo_check_107 fu 0 (nI k) s = some 0 := by
  have hm := hO.mem
  intro d
  induction d with
  | zero =>
    intro fu k hk hf hle
    obtain ⟨fu, rfl⟩ : ∃ m, fu = m + 1 := ⟨fu - 1, by omega⟩
    unfold l_Mo_check_107
    rw [hM.mem, if_pos ((nI_le' (by omega) (by omega)).mpr (by omega))]
  | succ d ih =>
    intro fu k hk hf hle
    obtain ⟨fu, rfl⟩ : ∃ m, fu = m + 1 := ⟨fu - 1, by omega⟩
    unfold l_Mo_check_107
    rw [hM.mem, if_neg (fun q => by have := (nI_le' (by omega) (by omega)).mp q; omega), show (0 : Int32) = nI 0 from rfl]
    rw [show l_Mo_check_117 100000 (nI 0) (nI k) (nI 0) s = some 0 from d_chk117 hM hO hn hG (by omega) _ 100000 0 rfl (by omega) (by omega), Option.bind_some, nI_add1]
    exact ih fu (k + 1) (by omega) (by omega) (by omega)
theorem mI_id (s : mS) (k : Nat) : mI s k (s.1 k) = s := by
  unfold mI
  refine Prod.ext (funext fun j => ?_) rfl
  show (if j = k then s.1 k else s.1 j) = s.1 j
  split
  · rename_i h; rw [h]
  · rfl
theorem d_check {n : Nat} {s : mS} {z : Z} (hM : MB s z) (hO : okZ n z) (hn : n ≤ 512) (hG : good z) : d_Mo_check s = some s := by
  have hl := hO.ast
  have hm := hO.mem
  unfold d_Mo_check
  rw [show l_Mo_check_4 100000 0 0 s = some 0 from d_chk4 hM hO hn hG _ 100000 0 rfl (by omega) (by omega), Option.bind_some, show l_Mo_check_107 100000 0 0 s = some 0 from d_chk107 hM hO hn hG _ 100000 0 rfl (by omega) (by omega), Option.bind_some, if_pos rfl, Option.bind_some, Int32.add_zero, mI_id]
