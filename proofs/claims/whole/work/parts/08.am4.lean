/-! The machine's rows over the cells. -/
def am_cw (b : Nat) (f : vw_C → Bool) : Bool := match am_cls[b]? with
  | some q => f q
  | none => false
theorem am_cw_eq {b : Nat} {f : vw_C → Bool} (h : am_cw b f = true) : ∃ q, am_cls[b]? = some q ∧ f q = true := by
  unfold am_cw at h; split at h
  · rename_i q w; exact ⟨q, w, h⟩
  · cases h
/-- the word at a place of the tables is this one, and one that lasts -/
def am_wd (a : Nat) (w : Jvm.Cond) : Bool := decide (lw_tbl[a]? = some w) && goodWord w
theorem am_wd_in {a : Nat} {w : Jvm.Cond} (h : am_wd a w = true) : w ∈ am_ws := by
  unfold am_wd at h
  rw [Bool.and_eq_true, decide_eq_true_eq] at h
  exact List.mem_filter.mpr ⟨List.mem_of_getElem? h.1, h.2⟩
/-- the field's link: under its declarer's name, or under an heir's -/
def am_fk (own : String) (x a : Nat) (T : String × String × String × Bool) : Bool := am_wd a (.fieldLink own x T.1 T.2.1 T.2.2.1) || (am_wd a (.fieldLink own x "java/util/ArrayList" "modCount" "I") && (T.1 == "java/util/AbstractList" && (T.2.1 == "modCount" && T.2.2.1 == "I")))
/-- what the tables must say for an instruction over the cells, in a method named nm of the class own -/
def am_ck (own nm : String) (i : Instr) (pc a b c : Nat) : Bool := match i with
  | .getfield x => am_cw b fun q => decide (c < q.2.2) && am_fk own x a (q.2.1 c)
  | .putfield x => am_cw b fun q => decide (c < q.2.2) && (am_fk own x a (q.2.1 c) && ((q.2.1 c).2.2.2 == false || (nm == "<init>" && (q.2.1 c).1 == own)))
  | .new x => am_cw b fun q => am_wd a (.classLink own x q.1)
  | .anewarray x => decide (4 ≤ b ∧ b < 8) && am_cw (am_ec b) fun q => am_wd a (.classLink own x q.1)
  | .ldc x => am_wd a (.constant own x (Int32.ofNat b))
  | .ldc_w x => am_wd a (.constant own x (Int32.ofNat b))
  | .ldc2_w x => am_wd a (.constantLong own x (Int64.ofNat b))
  | .invokespecial x => if b = am_oi then am_wd a (.methodLink own x objectInit) else true
  | .getstatic x => match am_sts[b]? with
    | some q => am_wd a (.fieldLink own x q.1 q.2.1 q.2.2)
    | none => false
  | .if_acmp _ off => decide ((pc : Int) + off = (a : Int))
  | _ => true
theorem am_ec_ok {t : Nat} (h : 4 ≤ t ∧ t < 8) : ∃ q, am_cls[am_ec t]? = some q ∧ am_ty[t]? = some (.object q.1) ∧ q.1 ∈ am_els := by
  obtain ⟨h1, h2⟩ := h
  match t, h1, h2 with
  | 4, _, _ => exact ⟨_, rfl, rfl, by decide +kernel⟩
  | 5, _, _ => exact ⟨_, rfl, rfl, by decide +kernel⟩
  | 6, _, _ => exact ⟨_, rfl, rfl, by decide +kernel⟩
  | 7, _, _ => exact ⟨_, rfl, rfl, by decide +kernel⟩
section AM2
variable {p : Program} {l : Launch} {e : Env} {R : Room} {s : State} {m : MethodId} {args : Array Value} {below : List Frame} {meth : Method} {c : Code} {H : Heap} {locs : List Loc} {cells slots : Nat} {Q : State → Prop}
variable {cc : ByteArray} {pc pc' : Nat} {ls : Array Slot} {g : am_G} {st : List Value} {rest : List Value} {h : am_H} {sc : am_Sc}
theorem am_fk_eq {own : String} {x a : Nat} {T : String × String × String × Bool} (h : am_fk own x a T = true) (hsf : (Jvm.Cond.sameField "java/util/ArrayList" "java/util/AbstractList" "modCount" "I").before args s = true) (hts : ∀ w ∈ am_ws, w.before args s = true) : ∃ ref : String, (Jvm.Cond.fieldLink own x ref T.2.1 T.2.2.1).before args s = true ∧ ∀ z, s.fieldFound? T.1 T.2.1 T.2.2.1 = some z → s.fieldFound? ref T.2.1 T.2.2.1 = some z := by
  unfold am_fk at h
  rw [Bool.or_eq_true] at h
  rcases h with h | h
  · exact ⟨T.1, hts _ (am_wd_in h), fun _ q => q⟩
  · simp only [Bool.and_eq_true, beq_iff_eq] at h
    obtain ⟨h1, h2, h3, h4⟩ := h
    refine ⟨"java/util/ArrayList", by rw [h3, h4]; exact hts _ (am_wd_in h1), fun z q => ?_⟩
    rw [h2, h3, h4] at q
    rw [h3, h4]
    exact u_same hsf z q
theorem am_put (hx : p.tables.exec = Jvm.exec) (hb : c.code = cc) {own : String} {q : vw_C} {b index k a : Nat} (hts : ∀ w ∈ am_ws, w.before args s = true) (hown : s.vm.findClass own = some m.cls) (hK : am_K g sc s) (hW : am_Wd g h H locs) {fs : List Value} (he : h[a]? = some (.inr (b, fs))) (hc : am_cls[b]? = some q) (hk : k < q.2.2)
    {ref : String} (hlink : (Jvm.Cond.fieldLink own index ref (q.2.1 k).2.1 (q.2.1 k).2.2.1).before args s = true) (hsame : ∀ z, s.fieldFound? (q.2.1 k).1 (q.2.1 k).2.1 (q.2.1 k).2.2.1 = some z → s.fieldFound? ref (q.2.1 k).2.1 (q.2.1 k).2.2.1 = some z) (hfin : (q.2.1 k).2.2.2 = false ∨ (meth.name = "<init>" ∧ (q.2.1 k).1 = own)) {v : Value} (hv : am_pk (am_ft b k) v = true) (hl : k < fs.length) (hdg : decode cc pc = .ok (.putfield index, 3))
    (kk : ∀ (H1 : Heap) (locs1 : List Loc), am_Wd g (h.set a (.inr (b, fs.set k v))) H1 locs1 → W p l e R s m args below meth c H1 locs1 cells slots Q (F0 m (pc + 3) ls rest)) : W p l e R s m args below meth c H locs cells slots Q (F0 m pc ls (am_v (am_r g) v :: .ref (am_r g a) :: rest)) := by
  obtain ⟨hin, hty, hnm, -, -, -⟩ := am_cok b q hc
  obtain ⟨hn, hfit⟩ := am_pk_ok (am_r g) hv
  have hap := va_apart (own := own) hts hin (am_ft b) hty hnm hK.1 hc
  obtain ⟨q', h1, cell, q1, q2, q3, q4⟩ := am_at hW he
  obtain rfl : q' = q := Option.some.inj (h1.symm.trans hc)
  obtain ⟨hS, hfc, kC, hkC, hkind⟩ := hK.1.1 b _ hc
  obtain ⟨cf, kf, fi, f, hi, hsl⟩ := hS k hk
  have hlay := hts _ (hin _ (u_in_lay hk))
  unfold u_lay at hlay
  have hst := (u_facts hfc hkC (u_lays hts hin hk) hi).1
  have hset : ∀ (H' : Heap), H'[am_r g a]? = some (cell.setSlot f.slot (am_v (am_r g) v)) → va_at g.2.2.2.1 am_cls (am_r g a, am_c g (.inr (b, fs.set k v))) H' := by
    intro H' e1
    rw [hsl] at e1
    refine ⟨_, hc, t_OB.to (V := updV (vp_V (fs.map (am_v (am_r g)))) k (am_v (am_r g) v)) ⟨_, e1, q2, q3, t_set q4 hap hk _⟩ (fun j _ => ?_)⟩
    rw [show (fs.set k v).map (am_v (am_r g)) = (fs.map (am_v (am_r g))).set k (am_v (am_r g) v) from List.map_set]
    exact vp_updV_set (by rw [List.length_map]; exact hl) _ j
  by_cases hf : (q'.2.1 k).2.2.2 = true
  · rw [if_pos hf] at hlay
    obtain ⟨hname, hdecl⟩ := hfin.resolve_left (by rw [hf]; decide)
    have hcf : m.cls = cf := by
      obtain ⟨_, _, c', _, _, _, -, -, hf', -, -, -, hown2, -⟩ := Cond.laysFinal_spec hlay
      have e1 : c' = cf := by have := hi.symm.trans hf'; simp at this; exact this.1.symm
      rw [hdecl] at hown2
      rw [← e1]; exact Option.some.inj (hown.symm.trans hown2)
    have h6 := u_fits hfc hkC hkind (Or.inr hlay) hi (hty k hk) hn hfit
    exact W.putFinK hx hb hown hlink (hsame _ hi) hst hcf hname (by rw [q2]; exact h6) q1 q3 (by rw [hsl]; exact k2_hasslot (q4 k hk)) rfl rfl hdg fun H' e1 e2 e3 => kk H' _ (am_Wd_set hW he e2 e3 (hset H' e1))
  · rw [if_neg hf] at hlay
    have h6 := u_store hfc hkC hkind hlay hi (hty k hk) hn hfit
    exact W.putK hx hb (f := f) ⟨hown, hlink, ⟨_, _, _, hsame _ hi⟩, hst⟩ (by rw [q2]; exact h6) q1 q3 (by rw [hsl]; exact k2_hasslot (q4 k hk)) rfl rfl hdg fun H' e1 e2 e3 => kk H' _ (am_Wd_set hW he e2 e3 (hset H' e1))
end AM2
