/-! Judging: confirmation (reference), names, new ones, limits. -/
theorem d_jcnf {n : Nat} {s : mS} {z : Z} (hQ : MQu s z) (hB : MB s z) (hO : okZ n z) {M : List Nat} (hT : TXT (s.2.2.1 24) M.length M) (hN : M.length ≤ 400) (h27 : 27 ≤ M.length) (h36 : is36 M) {w : Nat} (hw : z.fm (sl M 15 4) = some w) {p : Nat} (h5 : s.1 5 = nI p) (hp : p < 256) : d_Mo_confirmFault s = some (nI (vCnf z w (sl M 19 8) p)) := by
  have hm := hO.mem
  have hzl := hO.ins
  have hw' := (fm_lt hw).1
  have d1 : d_Mo_memberAt 15 s = some (oI (z.fm (sl M 15 4))) := d_mem hT hN hB hm.2 hO.cod 15 (by omega)
  have d2 : d_Mo_packed 19 8 s = some (lI (b256 (sl M 19 8) : Nat)) := d_pck hT hN 19 8 (by omega) (by omega)
  rw [hw] at d1
  have d1' : d_Mo_memberAt 15 s = some (nI w) := d1
  have d3 := d_open hQ hO (w := w) (nm := sl M 19 8) (by omega) (sl_len (by omega)) (sl_36 h36 _ _)
  unfold d_Mo_confirmFault vCnf
  rw [d1', Option.bind_some, d2, Option.bind_some, d3, Option.bind_some]
  cases hk : z.opk w (sl M 19 8) with
  | none => rw [opk_none hk, if_neg (show ¬ (0 : Int32) ≤ oI none by decide)]; rfl
  | some k =>
    obtain ⟨i, h1, h2⟩ := opk_some hk
    have hkl := get_lt' h1
    have hi := hO.oki i (List.mem_of_getElem? h1)
    have hl := d_jcnf_loop (hQ.ins k i h1) (by omega) hi.len.2 hp (fun l hl => by have := (hi.lg l hl).f; omega) h5 _ 100000 0 false rfl (by have := hi.len.2; omega) (by omega)
    rw [List.drop_zero, Bool.false_or] at hl
    have hl' : l_Mo_confirmFault_30 100000 (nI k) 0 0 s = some (b2i (cfB i p)) := hl
    rw [h2, if_pos ((oI_ge (o := some k) (fun v hv => by cases hv; omega)).mpr rfl)]
    show ((l_Mo_confirmFault_30 100000 (nI k) 0 0 s).bind fun q49 => if (q49 : Int32) = 0 then some 8 else some 0) = some (nI (if cfB i p then 0 else 8))
    rw [hl', Option.bind_some]
    cases cfB i p <;> decide
def vNew (z : Z) (c : List Nat) : Nat := if z.fm c = none then (if z.mem.length = 256 then 12 else 0) else 8
def vAst (z : Z) (c : List Nat) : Nat := if z.fa c = none then (if z.ast.length = 64 then 12 else 0) else 8
theorem h_jnew {n : Nat} {S : hS} {z : Z} {g : hG} (hB : HB S z g) (hO : okZ n z) {c : List Nat} (h4 : c.length = 4) (h36 : is36 c) (e : S.2.1 814 2 = nI (b36 c)) : h_De_judgeNew S = some (nI (vNew z c)) := by
  have hm := hO.mem
  unfold h_De_judgeNew vNew
  rw [e, h_findP hB hm.2 hO.cod h4 h36, Option.bind_some, hB.mem]
  cases hf : z.fm c with
  | none =>
    rw [if_pos (show oI none = -1 from rfl), if_pos rfl]
    by_cases c1 : z.mem.length = 256
    · rw [if_pos (show (256 : Int32) ≤ nI z.mem.length from nI_le0 (a := 256) (by omega) (by omega) (by omega)), if_pos c1]; rfl
    · rw [if_neg (show ¬ (256 : Int32) ≤ nI z.mem.length from nI_ngt (a := 256) (by omega) (by omega) (by omega)), if_neg c1]; rfl
  | some v =>
    have := (fm_lt hf).1
    rw [if_neg (show ¬ oI (some v) = -1 from nI_nm1 (by omega)), if_neg (by simp)]; rfl
theorem h_jast {n : Nat} {S : hS} {z : Z} {g : hG} (hB : HB S z g) (hO : okZ n z) {c : List Nat} (h4 : c.length = 3) (h36 : is36 c) (e : S.2.1 814 2 = nI (b36 c)) : h_De_judgeAsset S = some (nI (vAst z c)) := by
  have hm := hO.ast
  unfold h_De_judgeAsset vAst
  rw [e, h_findA hB hO.ast (fun x hx => ⟨(hO.acd x hx).1, (hO.acd x hx).2.1⟩) h4 h36, Option.bind_some, hB.asn]
  cases hf : z.fa c with
  | none =>
    rw [if_pos (show oI none = -1 from rfl), if_pos rfl]
    by_cases c1 : z.ast.length = 64
    · rw [if_pos (show (64 : Int32) ≤ nI z.ast.length from nI_le0 (a := 64) (by omega) (by omega) (by omega)), if_pos c1]; rfl
    · rw [if_neg (show ¬ (64 : Int32) ≤ nI z.ast.length from nI_ngt (a := 64) (by omega) (by omega) (by omega)), if_neg c1]; rfl
  | some v =>
    have := fa_lt hf
    rw [if_neg (show ¬ oI (some v) = -1 from nI_nm1 (by omega)), if_neg (by simp)]; rfl
theorem d_jnew {n : Nat} {s : mS} {z : Z} (hB : MB s z) (hO : okZ n z) {M : List Nat} (hT : TXT (s.2.2.1 24) M.length M) (hN : M.length ≤ 400) (hl : 19 ≤ M.length) : ((d_Mo_memberAt 15 s).bind fun q3 => (if (q3 : Int32) < 0 then (if ¬ ((s.1 10) : Int32) = 256 then (some (0, s)) else (some (12, s))) else (some (8, s)))) = some (nI (vNew z (sl M 15 4)), s) := by
  have hm := hO.mem
  have d1 : d_Mo_memberAt 15 s = some (oI (z.fm (sl M 15 4))) := d_mem hT hN hB hm.2 hO.cod 15 (by omega)
  unfold vNew
  rw [d1, Option.bind_some, hB.mem]
  cases hf : z.fm (sl M 15 4) with
  | none =>
    rw [if_pos (show oI none < 0 by decide), if_pos rfl]
    by_cases c1 : z.mem.length = 256
    · rw [if_neg (fun q => q (by rw [c1]; rfl)), if_pos c1]; rfl
    · rw [if_pos (show ¬ nI z.mem.length = (256 : Int32) from fun q => c1 (nI_inj (b := 256) (by omega) (by omega) q)), if_neg c1]; rfl
  | some v =>
    have := (fm_lt hf).1
    rw [if_neg (fun q => by have := (oI_lt0 (o := some v) (fun v hv => by cases hv; omega)).mp q; cases this), if_neg (by simp)]; rfl
theorem d_jast {n : Nat} {s : mS} {z : Z} (hB : MB s z) (hO : okZ n z) {M : List Nat} (hT : TXT (s.2.2.1 24) M.length M) (hN : M.length ≤ 400) (hl : 18 ≤ M.length) : ((d_Mo_assetAt 15 s).bind fun q19 => (if (q19 : Int32) < 0 then (if ¬ ((s.1 15) : Int32) = 64 then (some (0, s)) else (some (12, s))) else (some (8, s)))) = some (nI (vAst z (sl M 15 3)), s) := by
  have hm := hO.ast
  have d1 : d_Mo_assetAt 15 s = some (oI (z.fa (sl M 15 3))) := d_ast hT hN hB hO.ast (fun x hx => ⟨(hO.acd x hx).1, (hO.acd x hx).2.1⟩) 15 hl
  unfold vAst
  rw [d1, Option.bind_some, hB.asn]
  cases hf : z.fa (sl M 15 3) with
  | none =>
    rw [if_pos (show oI none < 0 by decide), if_pos rfl]
    by_cases c1 : z.ast.length = 64
    · rw [if_neg (fun q => q (by rw [c1]; rfl)), if_pos c1]; rfl
    · rw [if_pos (show ¬ nI z.ast.length = (64 : Int32) from fun q => c1 (nI_inj (b := 64) (by omega) (by omega) q)), if_neg c1]; rfl
  | some v =>
    have := fa_lt hf
    rw [if_neg (fun q => by have := (oI_lt0 (o := some v) (fun v hv => by cases hv; omega)).mp q; cases this), if_neg (by simp)]; rfl
/-! Limits. -/
def vLim (z : Z) (p t : Nat) (a : Nat) : Nat := if p = 0 ∨ t = 0 ∨ t = p then 8 else if (a : Int) < z.paid (256 * p + t) then 9 else if 0 ≤ z.lim (256 * p + t) then 0 else if z.lims = 2000 then 12 else 0
theorem oi_toInt {v : Int} (h1 : -2147483648 ≤ v) (h2 : v < 2147483648) : (Int32.ofInt v).toInt = v := Int32.toInt_ofInt_of_le (by omega) (by omega)
theorem oi_2000 {v : Int} (h1 : -2147483648 ≤ v) (h2 : v ≤ 2000) : ((2000 : Int32) ≤ Int32.ofInt v ↔ v = 2000) ∧ (Int32.ofInt v = 2000 ↔ v = 2000) := by
  have e := oi_toInt h1 (show v < 2147483648 by omega)
  have e2 : (2000 : Int32).toInt = 2000 := by decide
  refine ⟨?_, fun q => ?_, fun q => by rw [q]; rfl⟩
  · rw [Int32.le_iff_toInt_le, e, e2]; omega
  · rw [q, e2] at e; omega
theorem h_jlim {n : Nat} {S : hS} {z : Z} {g : hG} (hB : HB S z g) (hO : okZ n z) (hn : n ≤ 512) {p t a : Nat} (hp : p < z.mem.length) (ht : t < z.mem.length) (ha : a < 1000000000000000) (e813 : S.2.1 813 2 = nI p) (e5 : S.2.2.2.2.1 5 0 = nI t) (e6 : S.2.2.2.2.2.1 6 0 = lI (a : Int)) : h_De_judgeLimit S = some (nI (vLim z p t a)) := by
  have hm := hO.mem
  have hls := hO.lims
  have o2 := (oi_2000 (v := z.lims) (by omega) (by omega)).1
  unfold h_De_judgeLimit vLim
  rw [show am_ix 0 12 = some 0 from by decide, Option.bind_some, e813, e5]
  by_cases c1 : p = 0
  · rw [if_pos ((nI_e0 (by omega)).mpr c1), if_pos (Or.inl c1)]; rfl
  · rw [if_neg (fun w => c1 ((nI_e0 (by omega)).mp w))]
    by_cases c2 : t = 0
    · rw [if_pos ((nI_e0 (by omega)).mpr c2), if_pos (Or.inr (Or.inl c2))]; rfl
    · rw [if_neg (fun w => c2 ((nI_e0 (by omega)).mp w))]
      by_cases c3 : t = p
      · rw [if_neg (fun w => w (by rw [c3])), if_pos (Or.inr (Or.inr c3))]; rfl
      · rw [if_pos (show ¬ nI t = nI p from fun w => c3 (nI_inj (by omega) (by omega) w)), if_neg (show ¬ (p = 0 ∨ t = 0 ∨ t = p) from fun w => by rcases w with w | w | w; exact c1 w; exact c2 w; exact c3 w), h_findRoom hB hO.x hp (by omega), Option.bind_some]
        have last : (if (2000 : Int32) ≤ Int32.ofInt z.lims then (some 12) else (some (0 : Int32))) = some (nI (if z.lims = 2000 then 12 else 0)) := by
          by_cases c : z.lims = 2000
          · rw [if_pos (o2.mpr c), if_pos c]; rfl
          · rw [if_neg (fun w => c (o2.mp w)), if_neg c]; rfl
        cases had : g.ad (16384 + (256 * p + t)) with
        | none =>
          obtain ⟨z1, z2⟩ := hB.tab.rom0 (256 * p + t) (by omega) had
          rw [if_pos rfl, if_pos rfl, Option.bind_some, if_neg (show ¬ ¬ (0 : Int32) = 0 by decide), hB.lims, z1, z2, if_neg (show ¬ (a : Int) < 0 by omega), if_neg (show ¬ (0 : Int) ≤ -1 by omega)]
          exact last
        | some y =>
          have hP := hB.tab.pos _ _ had
          have lv := hP.lev
          have fl := hP.fld
          have hpd := hO.paid (256 * p + t)
          have hbig : big n ≤ 4000000000000000000 := by unfold big; omega
          unfold Z.lev at lv
          rw [if_neg (by omega), show 16384 + (256 * p + t) - 16384 = 256 * p + t by omega] at lv
          unfold Z.fld at fl
          rw [if_neg (by omega), show 16384 + (256 * p + t) - 16384 = 256 * p + t by omega] at fl
          have hc : (0 ≤ lg_cmp (lI (-z.paid (256 * p + t))) (lI (-(a : Int)))) ↔ -(a : Int) ≤ -z.paid (256 * p + t) := cmp_ge0 (by omega) (by omega)
          rw [if_neg (by simp), Option.bind_some, show am_ix 0 4 = some 0 from by decide, Option.bind_some, e6, lI_neg, lv, fl]
          by_cases c4 : (a : Int) < z.paid (256 * p + t)
          · rw [if_neg (fun w => by have := hc.mp w; omega), if_pos c4]; rfl
          · rw [if_pos (hc.mpr (by omega)), if_neg c4, hB.lims]
            by_cases c5 : 0 ≤ z.lim (256 * p + t)
            · rw [decide_eq_true c5, if_neg (by decide), Option.bind_some, if_pos (by decide), if_pos c5]; rfl
            · rw [decide_eq_false c5, if_pos (by decide), Option.bind_some, if_neg (by decide), if_neg c5]
              exact last
