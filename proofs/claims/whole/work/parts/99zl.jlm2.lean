/-! Judging limits (reference), dropping limits, names: both. -/
theorem d_jlim {n : Nat} {s : mS} {z : Z} (hB : MB s z) (hO : okZ n z) (hn : n ≤ 512) {M : List Nat} (hT : TXT (s.2.2.1 24) M.length M) (hN : M.length ≤ 400) (h34 : 34 ≤ M.length) {p t a : Nat} (hp : p < z.mem.length) (hw : z.fm (sl M 15 4) = some t) (hD : isD (sl M 19 15) = true) (hnum : num (sl M 19 15) = a) (ha : a < 1000000000000000) (h5 : s.1 5 = nI p) : d_Mo_limitFault s = some (nI (vLim z p t a)) := by
  have hm := hO.mem
  have ht := (fm_lt hw).1
  have hls := hO.lims
  have o2 := (oi_2000 (v := z.lims) (by omega) (by omega)).2
  have hpd := hO.paid (256 * p + t)
  have hlm := hO.lim (256 * p + t)
  have hbig : big n ≤ 4000000000000000000 := by unfold big; omega
  have d1 : d_Mo_memberAt 15 s = some (oI (z.fm (sl M 15 4))) := d_mem hT hN hB hm.2 hO.cod 15 (by omega)
  rw [hw] at d1
  have d1' : d_Mo_memberAt 15 s = some (nI t) := d1
  have d2 : d_Mo_number 19 15 s = some (lI (num (sl M 19 15) : Nat)) := d_nmb hT hN 19 15 (by omega) hD
  rw [hnum] at d2
  have i1 : 256 * nI p + nI t = nI (256 * p + t) := by rw [show (256 : Int32) = nI 256 from rfl, nI_mul, nI_add']
  unfold d_Mo_limitFault vLim
  rw [d1', Option.bind_some, h5]
  by_cases c1 : p = 0
  · rw [if_pos ((nI_e0 (by omega)).mpr c1), if_pos (Or.inl c1)]; rfl
  · rw [if_neg (fun w => c1 ((nI_e0 (by omega)).mp w))]
    by_cases c2 : t = 0
    · rw [if_pos ((nI_e0 (by omega)).mpr c2), if_pos (Or.inr (Or.inl c2))]; rfl
    · rw [if_neg (fun w => c2 ((nI_e0 (by omega)).mp w))]
      by_cases c3 : t = p
      · rw [if_neg (fun w => w (by rw [c3])), if_pos (Or.inr (Or.inr c3))]; rfl
      · rw [if_pos (show ¬ nI t = nI p from fun w => c3 (nI_inj (by omega) (by omega) w)), if_neg (show ¬ (p = 0 ∨ t = 0 ∨ t = p) from fun w => by rcases w with w | w | w; exact c1 w; exact c2 w; exact c3 w), i1, ix_N (by omega) (by omega), Option.bind_some, d2, Option.bind_some, hB.paid _ (by omega), hB.lim _ (by omega), hB.lims]
        have e1 : lg_cmp (lI (z.paid (256 * p + t))) (lI (a : Int)) ≤ 0 ↔ z.paid (256 * p + t) ≤ (a : Int) := cmp_le0 (by omega) (by omega)
        have e2 : 0 ≤ lg_cmp (lI (z.lim (256 * p + t))) 0 ↔ 0 ≤ z.lim (256 * p + t) := cmp0_ge (by omega)
        by_cases c4 : (a : Int) < z.paid (256 * p + t)
        · rw [if_neg (fun w => by have := e1.mp w; omega), if_pos c4]; rfl
        · rw [if_pos (e1.mpr (by omega)), if_neg c4]
          by_cases c5 : 0 ≤ z.lim (256 * p + t)
          · rw [if_pos (e2.mpr c5), if_pos c5]; rfl
          · rw [if_neg (fun w => c5 (e2.mp w)), if_neg c5]
            by_cases c6 : z.lims = 2000
            · rw [if_neg (fun w => w (o2.mpr c6)), if_pos c6]; rfl
            · rw [if_pos (fun w => c6 (o2.mp w)), if_neg c6]; rfl
def vUnl (z : Z) (p t : Nat) : Nat := if 0 ≤ z.lim (256 * p + t) then 0 else 8
theorem h_junl {n : Nat} {S : hS} {z : Z} {g : hG} (hB : HB S z g) (hO : okZ n z) {p t : Nat} (hp : p < z.mem.length) (ht : t < z.mem.length) (e813 : S.2.1 813 2 = nI p) (e5 : S.2.2.2.2.1 5 0 = nI t) : h_De_judgeUnlimit S = some (nI (vUnl z p t)) := by
  have hm := hO.mem
  unfold h_De_judgeUnlimit vUnl
  rw [show am_ix 0 12 = some 0 from by decide, Option.bind_some, e813, e5, h_findRoom hB hO.x hp (by omega), Option.bind_some]
  cases had : g.ad (16384 + (256 * p + t)) with
  | none =>
    obtain ⟨z1, z2⟩ := hB.tab.rom0 (256 * p + t) (by omega) had
    rw [if_pos rfl, z2, if_neg (by omega)]; rfl
  | some y =>
    have fl := (hB.tab.pos _ _ had).fld
    unfold Z.fld at fl
    rw [if_neg (by omega), show 16384 + (256 * p + t) - 16384 = 256 * p + t by omega] at fl
    rw [if_neg (by simp), Option.bind_some, fl]
    by_cases c5 : 0 ≤ z.lim (256 * p + t)
    · rw [decide_eq_true c5, if_neg (by decide), if_pos c5]; rfl
    · rw [decide_eq_false c5, if_pos (by decide), if_neg c5]; rfl
theorem d_junl {n : Nat} {s : mS} {z : Z} (hB : MB s z) (hO : okZ n z) {M : List Nat} (hT : TXT (s.2.2.1 24) M.length M) (hN : M.length ≤ 400) (h19 : 19 ≤ M.length) {p t : Nat} (hp : p < z.mem.length) (hw : z.fm (sl M 15 4) = some t) (h5 : s.1 5 = nI p) : ((d_Mo_memberAt 15 s).bind fun q129 => ((am_ix ((256 * (s.1 5)) + q129) 65536).bind fun j140 => (if (0 : Int32) ≤ (lg_cmp (s.2.2.2 38 j140) 0) then (some (0, s)) else (some (8, s))))) = some (nI (vUnl z p t), s) := by
  have hm := hO.mem
  have ht := (fm_lt hw).1
  have hlm := hO.lim (256 * p + t)
  have d1 : d_Mo_memberAt 15 s = some (oI (z.fm (sl M 15 4))) := d_mem hT hN hB hm.2 hO.cod 15 (by omega)
  rw [hw] at d1
  have d1' : d_Mo_memberAt 15 s = some (nI t) := d1
  have i1 : 256 * nI p + nI t = nI (256 * p + t) := by rw [show (256 : Int32) = nI 256 from rfl, nI_mul, nI_add']
  have e2 : 0 ≤ lg_cmp (lI (z.lim (256 * p + t))) 0 ↔ 0 ≤ z.lim (256 * p + t) := cmp0_ge (by omega)
  unfold vUnl
  rw [d1', Option.bind_some, h5, i1, ix_N (by omega) (by omega), Option.bind_some, hB.lim _ (by omega)]
  by_cases c5 : 0 ≤ z.lim (256 * p + t)
  · rw [if_pos (e2.mpr c5), if_pos c5]; rfl
  · rw [if_neg (fun w => c5 (e2.mp w)), if_neg c5]; rfl
/-- one's own instruction of that name -/
def vOwn (z : Z) (p : Nat) (nm : List Nat) : Nat := if z.opn p nm = none then 11 else 0
theorem h_jown {n : Nat} {S : hS} {z : Z} {g : hG} {q u : List Ins} (hB : HB S z g) (hQ : HQ S z g q u) (hO : okZ n z) {p : Nat} {nm : List Nat} (hp : p < 256) (hn : nm.length = 8) (h36 : is36 nm) (e813 : S.2.1 813 2 = nI p) (e818 : S.2.2.1 818 2 = lI (b36 nm : Nat)) : ((h_Qu_find (S.2.1 813 2) (S.2.2.1 818 2) S).bind fun q83 => (if q83 = none then (some ((11 : Int32), S)) else (some (0, S)))) = some (nI (vOwn z p nm), S) := by
  unfold vOwn
  rw [e813, e818, h_find hB hQ hO hp hn h36, Option.bind_some]
  cases z.opn p nm with
  | none => rw [Option.map_none, if_pos rfl, if_pos rfl]; rfl
  | some i => rw [Option.map_some, if_neg (by simp), if_neg (by simp)]; rfl
theorem d_jown {n : Nat} {s : mS} {z : Z} (hQ : MQu s z) (hO : okZ n z) {M : List Nat} (hT : TXT (s.2.2.1 24) M.length M) (hN : M.length ≤ 400) (h23 : 23 ≤ M.length) (h36 : is36 M) {p : Nat} (hp : p < 256) (h5 : s.1 5 = nI p) : ((d_Mo_packed 15 8 s).bind fun q89 => ((d_Mo_openOf (s.1 5) q89 s).bind fun q100 => (if (0 : Int32) ≤ q100 then (some ((0 : Int32), s)) else (some (11, s))))) = some (nI (vOwn z p (sl M 15 8)), s) := by
  have hzl := hO.ins
  have d2 : d_Mo_packed 15 8 s = some (lI (b256 (sl M 15 8) : Nat)) := d_pck hT hN 15 8 (by omega) (by omega)
  have d3 := d_open hQ hO (w := p) (nm := sl M 15 8) hp (sl_len (by omega)) (sl_36 h36 _ _)
  unfold vOwn
  rw [d2, Option.bind_some, h5, d3, Option.bind_some]
  cases hk : z.opk p (sl M 15 8) with
  | none => rw [opk_none hk, if_neg (show ¬ (0 : Int32) ≤ oI none by decide), if_pos rfl]; rfl
  | some k =>
    obtain ⟨i, h1, h2⟩ := opk_some hk
    have hkl := get_lt' h1
    rw [h2, if_pos ((oI_ge (o := some k) (fun v hv => by cases hv; omega)).mpr rfl), if_neg (by simp)]; rfl
