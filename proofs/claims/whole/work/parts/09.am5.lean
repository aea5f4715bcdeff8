/-! Every instruction over the cells, at once. -/
theorem am_updV_i {f : Nat → Int32} {j : Nat} {x : Int32} : updV (fun q => Value.int (f q)) j (.int x) = fun q => Value.int (upd f j x q) := by
  funext q
  by_cases hq : q = j
  · simp [updV, upd, hq]
  · simp [updV, upd, hq]
theorem am_updV_l {f : Nat → Int64} {j : Nat} {x : Int64} : updV (fun q => Value.long (f q)) j (.long x) = fun q => Value.long (vp_updL f j x q) := by
  funext q
  by_cases hq : q = j
  · simp [updV, vp_updL, hq]
  · simp [updV, vp_updL, hq]
theorem am_updV_q {f : Nat → Option Nat} {j : Nat} {x : Option Nat} : updV (fun q => va_rf (f q)) j (va_rf x) = fun q => va_rf (va_up f j x q) := by
  funext q
  by_cases hq : q = j
  · simp [updV, va_up, hq]
  · simp [updV, va_up, hq]
theorem am_up_map (r : Nat → Nat) (f : Nat → Option Nat) (j : Nat) (x : Option Nat) : (fun i => (va_up f j x i).map r) = va_up (fun i => (f i).map r) j (x.map r) := by
  funext i
  by_cases hi : i = j
  · simp [va_up, hi]
  · simp [va_up, hi]
section AM3
variable {p : Program} {l : Launch} {e : Env} {R : Room} {s : State} {m : MethodId} {args : Array Value} {below : List Frame} {meth : Method} {c0 : Code} {H : Heap} {locs : List Loc} {k n : Nat} {Q : State → Prop}
variable {cc : ByteArray} {pc pc' : Nat} {ls : Array Slot} {g : am_G} {st st' : List Value} {h h' : am_H} {sc : am_Sc} {F L mc ms k' n' a b c : Nat} {own : String}
theorem am_arrOf (hK : am_K g sc s) {t : Nat} {ty : FieldType} (ht : am_ty[t]? = some ty) : ArrOfT s (g.2.2.2.2 t) ty := (hK.1.2 t _ (am_tget ht)).1
theorem am_rinj {x y : Option Nat} (hx : am_sm x = true) (hy : am_sm y = true) : x.map (am_r g) = y.map (am_r g) ↔ x = y := by
  constructor
  · intro q
    cases x with
    | none => cases y with
      | none => rfl
      | some b => cases q
    | some a => cases y with
      | none => cases q
      | some b =>
        have ha : a < am_M := Nat.le_of_ble_eq_true hx
        have hb : b < am_M := Nat.le_of_ble_eq_true hy
        have q := Option.some.inj q
        rw [am_r_lt ha, am_r_lt hb] at q
        rw [show a = b by omega]
  · intro q; rw [q]
set_option maxHeartbeats 4000000 in
theorem am_s4 (hx : p.tables.exec = Jvm.exec) (hb : c0.code = cc) (hts : ∀ w ∈ am_ws, w.before args s = true) (hown : s.vm.findClass own = some m.cls) (hK : am_K g sc s) (hsz : ls.size = c0.maxLocals) (hRf : F ≤ R.frames) (hRl : L ≤ R.locals) (hRc : mc ≤ R.cells) (hRs : ms ≤ R.slots) {i : Instr}
    (hsf : (Jvm.Cond.sameField "java/util/ArrayList" "java/util/AbstractList" "modCount" "I").before args s = true) (hk' : k' ≤ mc) (hn' : n' ≤ ms) (hf : am_hp sc F L i a b c pc st h k n = some (pc', st', h', k', n')) (hck : am_ck own meth.name i pc a b c = true) (hdg : decode cc pc = .ok (i, am_len i)) (hW : am_Wd g h H locs)
    (kk : ∀ (H1 : Heap) (locs1 : List Loc), am_Wd g h' H1 locs1 → W p l e R s m args below meth c0 H1 locs1 k' n' Q (F0 m pc' ls (st'.map (am_v (am_r g))))) : W p l e R s m args below meth c0 H locs k n Q (F0 m pc ls (st.map (am_v (am_r g)))) := by
  cases i with
  | getfield x =>
    obtain ⟨⟨ad, t⟩, q1, hf1⟩ := Option.bind_eq_some_iff.mp hf
    obtain ⟨fs, q2, hf2⟩ := Option.bind_eq_some_iff.mp hf1
    obtain ⟨v, q3, hf3⟩ := Option.bind_eq_some_iff.mp hf2
    have e1 := am_popR_eq q1; subst e1
    cases hf3
    obtain ⟨q, hq, hw⟩ := am_cw_eq hck
    rw [Bool.and_eq_true, decide_eq_true_eq] at hw
    have he := am_ob_eq q2
    obtain ⟨ref, hlk, hsm⟩ := am_fk_eq hw.2 hsf hts
    exact va_get (C := q.1) (T := q.2.1) (N := q.2.2) (ref := ref) hx hb hts (am_cok b q hq).1 hown hK.1 hW.2.2.1 ad (fs := fs.map (am_v (am_r g))) (by rw [am_w_get, he]; rfl) hq c hw.1 hlk hsm (v := am_v (am_r g) v) (by rw [List.getElem?_map, q3]; rfl) hdg (kk H locs hW)
  | putfield x =>
    obtain ⟨⟨v, t0⟩, q0, hf0⟩ := Option.bind_eq_some_iff.mp hf
    obtain ⟨⟨ad, t⟩, q1, hf1⟩ := Option.bind_eq_some_iff.mp hf0
    obtain ⟨fs, q2, hf2⟩ := Option.bind_eq_some_iff.mp hf1
    have e0 := am_popV_eq q0
    have e1 := am_popR_eq q1
    dsimp only at e0 e1
    subst e1; subst e0
    split at hf2
    · rename_i hcond
      cases hf2
      obtain ⟨q, hq, hw⟩ := am_cw_eq hck
      rw [Bool.and_eq_true, Bool.and_eq_true, decide_eq_true_eq] at hw
      obtain ⟨ref, hlk, hsm⟩ := am_fk_eq hw.2.1 hsf hts
      refine am_put (q := q) hx hb hts hown hK hW (am_ob_eq q2) hq hw.1 hlk hsm ?_ hcond.2 hcond.1 hdg kk
      have h3 := hw.2.2
      simp only [Bool.or_eq_true, Bool.and_eq_true, beq_iff_eq] at h3
      exact h3
    · cases hf2
  | iaload =>
    obtain ⟨⟨i, t0⟩, q0, hf0⟩ := Option.bind_eq_some_iff.mp hf
    obtain ⟨⟨ad, t⟩, q1, hf1⟩ := Option.bind_eq_some_iff.mp hf0
    have e0 := am_popI_eq q0
    have e1 := am_popR_eq q1
    dsimp only at e0 e1
    subst e1; subst e0
    split at hf1
    · rename_i had
      dsimp only at had
      subst had
      obtain ⟨z, qz, hfz⟩ := Option.bind_eq_some_iff.mp hf1
      obtain ⟨j, q2, hf2⟩ := Option.bind_eq_some_iff.mp hfz
      cases hf2
      obtain ⟨hin, rfl⟩ := am_ix_eq q2
      have hr : am_r g am_M = g.2.1 0 := by unfold am_r; rw [if_neg (Nat.lt_irrefl _), Nat.sub_self]
      show W p l e R s m args below meth c0 H locs k n Q (F0 m pc ls (.int i :: .ref (am_r g am_M) :: t.map (am_v (am_r g))))
      rw [hr]
      exact va_sld hx hb (hK.2.2.1 z qz) hK.2.2.2.1 (A := am_A g) (fun z => by unfold am_A at z; have := hK.2.1; have := hK.2.2.2.1; omega) hW.2.2.2 hin hdg (kk H locs hW)
    · obtain ⟨⟨tn, N, f⟩, q2, hf2⟩ := Option.bind_eq_some_iff.mp hf1
      split at hf2
      · rename_i htn
        dsimp only at htn
        subst htn
        obtain ⟨j, q3, hf3⟩ := Option.bind_eq_some_iff.mp hf2
        cases hf3
        obtain ⟨hin, rfl⟩ := am_ix_eq q3
        exact va_iald hx hb hK.1 hW.2.2.1 ad 0 (by rw [am_w_get, am_ai_eq q2]; rfl) (am_tget rfl) hin hdg (kk H locs hW)
      · cases hf2
  | baload =>
    obtain ⟨⟨i, t0⟩, q0, hf0⟩ := Option.bind_eq_some_iff.mp hf
    obtain ⟨⟨ad, t⟩, q1, hf1⟩ := Option.bind_eq_some_iff.mp hf0
    have e0 := am_popI_eq q0
    have e1 := am_popR_eq q1
    dsimp only at e0 e1
    subst e1; subst e0
    obtain ⟨⟨tn, N, f⟩, q2, hf2⟩ := Option.bind_eq_some_iff.mp hf1
    split at hf2
    · rename_i htn
      dsimp only at htn
      obtain ⟨j, q3, hf3⟩ := Option.bind_eq_some_iff.mp hf2
      cases hf3
      obtain ⟨hin, rfl⟩ := am_ix_eq q3
      rcases htn with rfl | rfl
      · exact va_bald hx hb hK.1 hW.2.2.1 ad 2 (by rw [am_w_get, am_ai_eq q2]; rfl) (am_tget rfl) hin hdg (kk H locs hW)
      · exact va_zald hx hb hK.1 hW.2.2.1 ad 3 (by rw [am_w_get, am_ai_eq q2]; rfl) (am_tget rfl) hin hdg (kk H locs hW)
    · cases hf2
  | laload =>
    obtain ⟨⟨i, t0⟩, q0, hf0⟩ := Option.bind_eq_some_iff.mp hf
    obtain ⟨⟨ad, t⟩, q1, hf1⟩ := Option.bind_eq_some_iff.mp hf0
    have e0 := am_popI_eq q0
    have e1 := am_popR_eq q1
    dsimp only at e0 e1
    subst e1; subst e0
    obtain ⟨⟨tn, N, f⟩, q2, hf2⟩ := Option.bind_eq_some_iff.mp hf1
    split at hf2
    · rename_i htn
      dsimp only at htn
      subst htn
      obtain ⟨j, q3, hf3⟩ := Option.bind_eq_some_iff.mp hf2
      cases hf3
      obtain ⟨hin, rfl⟩ := am_ix_eq q3
      exact va_lald hx hb hK.1 hW.2.2.1 ad 1 (by rw [am_w_get, am_al_eq q2]; rfl) (am_tget rfl) hin hdg (kk H locs hW)
    · cases hf2
  | aaload =>
    obtain ⟨⟨i, t0⟩, q0, hf0⟩ := Option.bind_eq_some_iff.mp hf
    obtain ⟨⟨ad, t⟩, q1, hf1⟩ := Option.bind_eq_some_iff.mp hf0
    have e0 := am_popI_eq q0
    have e1 := am_popR_eq q1
    dsimp only at e0 e1
    subst e1; subst e0
    obtain ⟨⟨tn, N, f⟩, q2, hf2⟩ := Option.bind_eq_some_iff.mp hf1
    split at hf2
    · rename_i htn
      dsimp only at htn
      obtain ⟨j, q3, hf3⟩ := Option.bind_eq_some_iff.mp hf2
      cases hf3
      obtain ⟨hin, rfl⟩ := am_ix_eq q3
      obtain ⟨w, -, hty, -⟩ := am_ec_ok htn
      have kk1 := kk H locs hW
      rw [List.map_cons, am_v_rf] at kk1
      exact va_aldq (C := w.1) hx hb hK.1 hW.2.2.1 ad tn (f := fun j => (f j).map (am_r g)) (by rw [am_w_get, am_aq_eq q2]; rfl) (am_tget hty) hin hdg kk1
    · cases hf2
  | iastore =>
    obtain ⟨⟨x, t00⟩, q00, hf00⟩ := Option.bind_eq_some_iff.mp hf
    obtain ⟨⟨i, t0⟩, q0, hf0⟩ := Option.bind_eq_some_iff.mp hf00
    obtain ⟨⟨ad, t⟩, q1, hf1⟩ := Option.bind_eq_some_iff.mp hf0
    have e00 := am_popI_eq q00
    have e0 := am_popI_eq q0
    have e1 := am_popR_eq q1
    dsimp only at e00 e0 e1
    subst e1; subst e0; subst e00
    obtain ⟨⟨tn, N, f⟩, q2, hf2⟩ := Option.bind_eq_some_iff.mp hf1
    split at hf2
    · rename_i htn
      dsimp only at htn
      subst htn
      obtain ⟨j, q3, hf3⟩ := Option.bind_eq_some_iff.mp hf2
      cases hf3
      obtain ⟨hin, rfl⟩ := am_ix_eq q3
      have he := am_ai_eq q2
      refine W.iast hx hb (am_at hW he) (am_arrOf hK (t := 0) rfl N (fun j => .int (f j))) (fun z => by cases z) (by show ¬ (i < 0 ∨ (arrV _ _ _).slots.size ≤ _); rw [arrV_size]; exact hin) rfl rfl hdg fun H1 e1 e2 e3 => ?_
      refine kk H1 _ (am_Wd_set hW he e2 e3 ?_)
      show H1[am_r g ad]? = some (vp_cell _ _)
      rw [e1]
      show some ((arrV _ N (fun j => .int (f j))).setSlot _ _) = _
      rw [arrV_store, am_updV_i]; rfl
    · cases hf2
  | bastore =>
    obtain ⟨⟨x, t00⟩, q00, hf00⟩ := Option.bind_eq_some_iff.mp hf
    obtain ⟨⟨i, t0⟩, q0, hf0⟩ := Option.bind_eq_some_iff.mp hf00
    obtain ⟨⟨ad, t⟩, q1, hf1⟩ := Option.bind_eq_some_iff.mp hf0
    have e00 := am_popI_eq q00
    have e0 := am_popI_eq q0
    have e1 := am_popR_eq q1
    dsimp only at e00 e0 e1
    subst e1; subst e0; subst e00
    obtain ⟨⟨tn, N, f⟩, q2, hf2⟩ := Option.bind_eq_some_iff.mp hf1
    split at hf2
    · rename_i htn
      dsimp only at htn
      obtain ⟨j, q3, hf3⟩ := Option.bind_eq_some_iff.mp hf2
      cases hf3
      obtain ⟨hin, rfl⟩ := am_ix_eq q3
      have he := am_ai_eq q2
      rcases htn with rfl | rfl
      · refine W.bast hx hb (am_at hW he) (am_arrOf hK (t := 2) rfl N (fun j => .int (f j))) (fun z => by cases z) (by show ¬ (i < 0 ∨ (arrV _ _ _).slots.size ≤ _); rw [arrV_size]; exact hin) rfl rfl hdg fun H1 e1 e2 e3 => ?_
        refine kk H1 _ (am_Wd_set hW he e2 e3 ?_)
        show H1[am_r g ad]? = some (vp_cell _ _)
        rw [e1]
        show some ((arrV _ N (fun j => .int (f j))).setSlot _ (.int _)) = _
        rw [arrV_store, am_updV_i]; rfl
      · refine W.zast hx hb (am_at hW he) (am_arrOf hK (t := 3) rfl N (fun j => .int (f j))) (fun z => by cases z) (by show ¬ (i < 0 ∨ (arrV _ _ _).slots.size ≤ _); rw [arrV_size]; exact hin) rfl rfl hdg fun H1 e1 e2 e3 => ?_
        refine kk H1 _ (am_Wd_set hW he e2 e3 ?_)
        show H1[am_r g ad]? = some (vp_cell _ _)
        rw [e1]
        show some ((arrV _ N (fun j => .int (f j))).setSlot _ (.int _)) = _
        rw [arrV_store, am_updV_i]; rfl
    · cases hf2
  | lastore =>
    obtain ⟨⟨x, t00⟩, q00, hf00⟩ := Option.bind_eq_some_iff.mp hf
    obtain ⟨⟨i, t0⟩, q0, hf0⟩ := Option.bind_eq_some_iff.mp hf00
    obtain ⟨⟨ad, t⟩, q1, hf1⟩ := Option.bind_eq_some_iff.mp hf0
    have e00 := am_popL_eq q00
    have e0 := am_popI_eq q0
    have e1 := am_popR_eq q1
    dsimp only at e00 e0 e1
    subst e1; subst e0; subst e00
    obtain ⟨⟨tn, N, f⟩, q2, hf2⟩ := Option.bind_eq_some_iff.mp hf1
    split at hf2
    · rename_i htn
      dsimp only at htn
      subst htn
      obtain ⟨j, q3, hf3⟩ := Option.bind_eq_some_iff.mp hf2
      cases hf3
      obtain ⟨hin, rfl⟩ := am_ix_eq q3
      have he := am_al_eq q2
      refine W.last hx hb (am_at hW he) (am_arrOf hK (t := 1) rfl N (fun j => .long (f j))) (fun z => by cases z) (by show ¬ (i < 0 ∨ (arrV _ _ _).slots.size ≤ _); rw [arrV_size]; exact hin) rfl rfl hdg fun H1 e1 e2 e3 => ?_
      refine kk H1 _ (am_Wd_set hW he e2 e3 ?_)
      show H1[am_r g ad]? = some (vp_cell _ _)
      rw [e1]
      show some ((arrV _ N (fun j => .long (f j))).setSlot _ _) = _
      rw [arrV_store, am_updV_l]; rfl
    · cases hf2
  | aastore =>
    obtain ⟨⟨x, t00⟩, q00, hf00⟩ := Option.bind_eq_some_iff.mp hf
    obtain ⟨⟨i, t0⟩, q0, hf0⟩ := Option.bind_eq_some_iff.mp hf00
    obtain ⟨⟨ad, t⟩, q1, hf1⟩ := Option.bind_eq_some_iff.mp hf0
    have e00 := am_popQ_eq q00
    have e0 := am_popI_eq q0
    have e1 := am_popR_eq q1
    dsimp only at e00 e0 e1
    subst e1; subst e0; subst e00
    obtain ⟨⟨tn, N, f⟩, q2, hf2⟩ := Option.bind_eq_some_iff.mp hf1
    split at hf2
    · rename_i htn
      dsimp only at htn
      obtain ⟨j, q3, hf3⟩ := Option.bind_eq_some_iff.mp hf2
      cases hf3
      obtain ⟨hin, rfl⟩ := am_ix_eq q3
      have he := am_aq_eq q2
      obtain ⟨w, hw, hty, -⟩ := am_ec_ok ⟨htn.1, htn.2.1⟩
      have fin : ∀ H1 : Heap, H1[am_r g ad]? = some ((vp_cell (g.2.2.2.2 tn) (N, am_x (am_r g) (.inr (.inr (.inr (.inr f)))))).setSlot i.toNatClampNeg (va_rf (x.map (am_r g)))) → va_at g.2.2.2.1 am_cls (am_r g ad, am_c g (.inl (tn, N, .inr (.inr (.inr (.inr (va_up f i.toNatClampNeg x))))))) H1 := by
        intro H1 e1
        show H1[am_r g ad]? = some (vp_cell _ (N, .inr (.inr (.inr (.inr (fun j => (va_up f i.toNatClampNeg x j).map (am_r g)))))))
        rw [e1, am_up_map]
        show some ((arrV _ N (fun j => va_rf ((f j).map (am_r g)))).setSlot _ _) = _
        rw [arrV_store, am_updV_q]; rfl
      cases x with
      | none =>
        refine va_WaastN (C := w.1) hx hb (am_at hW he) (am_arrOf hK hty N (fun j => va_rf ((f j).map (am_r g)))) (fun z => by cases z) (by show ¬ (i < 0 ∨ (arrV _ _ _).slots.size ≤ _); rw [arrV_size]; exact hin) rfl rfl hdg fun H1 e1 e2 e3 => ?_
        exact kk H1 _ (am_Wd_set hW he e2 e3 (fin H1 e1))
      | some v =>
        have hoc : am_oc h v = some (am_ec tn) := by simpa [am_so] using htn.2.2
        obtain ⟨vs, hv⟩ := am_oc_eq hoc
        have hlt : i.toNatClampNeg < N := Nat.not_le.mp fun z => hin (Or.inr z)
        have h0 : ¬ i < 0 := fun z => hin (Or.inl z)
        obtain ⟨r', hr', cellV, g1, g2, g3, -⟩ := am_at hW hv
        have hcls := (hK.1.1 (am_ec tn) w hw).2
        obtain ⟨kA, comp, k1, k2, k3, -⟩ := (hK.1.2 tn _ (am_tget hty)).2
        have hcomp : comp = g.2.2.2.1.1 (am_ec tn) := Option.some.inj (k3.symm.trans hcls.1)
        subst hcomp
        obtain ⟨kC, hkC, -⟩ := hcls.2
        refine W.aast hx hb (am_at hW he) (fun z h => by cases h) (fun h => by cases h) k1 k2 rfl hkC ⟨h0, by show _ < (arrV _ _ _).slots.size; rw [arrV_size]; exact hlt⟩ g1 (fun z h => by rw [g3] at h; cases h) (by rw [g2]; exact hkC) (by rw [g2]; exact va_assign hcls) rfl rfl hdg fun H1 e1 e2 e3 => ?_
        exact kk H1 _ (am_Wd_set hW he e2 e3 (fin H1 e1))
    · cases hf2
  | arraylength =>
    obtain ⟨⟨ad, t⟩, q1, hf1⟩ := Option.bind_eq_some_iff.mp hf
    have e1 := am_popR_eq q1
    subst e1
    split at hf1
    · rename_i had
      dsimp only at had
      subst had
      obtain ⟨z, qz, hfz⟩ := Option.bind_eq_some_iff.mp hf1
      cases hfz
      have hr : am_r g am_M = g.2.1 0 := by unfold am_r; rw [if_neg (Nat.lt_irrefl _), Nat.sub_self]
      show W p l e R s m args below meth c0 H locs k n Q (F0 m pc ls (.ref (am_r g am_M) :: t.map (am_v (am_r g))))
      rw [hr]
      exact va_slen hx hb (hK.2.2.1 z qz) hK.2.2.2.1 (A := am_A g) (fun z => by unfold am_A at z; have := hK.2.1; have := hK.2.2.2.1; omega) hW.2.2.2 hdg (kk H locs hW)
    · obtain ⟨⟨tn, N, f⟩, q2, hf2⟩ := Option.bind_eq_some_iff.mp hf1
      split at hf2
      · rename_i htn
        dsimp only at htn
        cases hf2
        exact va_alen hx hb hK.1 hW.2.2.1 ad tn (x := (N, am_x (am_r g) f)) (by rw [am_w_get, am_an_eq q2]; rfl) (am_tget (List.getElem?_eq_getElem (Nat.lt_trans htn (by decide)))) rfl hdg (kk H locs hW)
      · cases hf2
  | new x =>
    change (if _ then _ else _) = _ at hf
    split at hf
    · rename_i hcond
      cases hf
      obtain ⟨q, hq, hw⟩ := am_cw_eq hck
      obtain ⟨hin, hty, hnm, hins, hini, hN⟩ := am_cok b q hq
      have h3 := hcond
      rw [hN] at hn' kk
      have hKn := hK.1.1 b q hq
      have hr : am_r g h.length = H.size := by rw [am_r_lt h3, hW.2.1]
      refine W.newcK hx hb hown (hts _ (am_wd_in hw)) (hts _ hins) (hts _ hini) rfl hdg (by omega) (by omega) hKn.2.1 rfl fun H1 kC hkC e1 z1 o1 => ?_
      have kk1 := kk H1 locs (am_Wd_push hW h3 z1 o1 ⟨_, hq, (u_born (am_ft b) hts hin hKn hkC e1 hty).to (fun j hj => ?_)⟩)
      · rw [← hr]; exact kk1
      · show _ = vp_V ((am_df b).map (am_v (am_r g))) j
        rw [← hN] at hj
        have hd : ∀ ty : FieldType, am_v (am_r g) (defaultValue ty) = defaultValue ty := fun ty => by cases ty <;> rfl
        simp [vp_V, am_df, hj, hd]
    · cases hf
  | newarray at0 =>
    obtain ⟨⟨tn, cb, d⟩, q0, hf0⟩ := Option.bind_eq_some_iff.mp hf
    obtain ⟨⟨i, t⟩, q1, hf1⟩ := Option.bind_eq_some_iff.mp hf0
    have e1 := am_popI_eq q1
    subst e1
    split at hf1
    · cases hf1
    · rename_i hneg
      split at hf1
      · rename_i hcond
        cases hf1
        obtain ⟨h0, h3⟩ := hcond
        dsimp only at h0 hk' hn'
        have hr : am_r g h.length = H.size := by rw [am_r_lt h3, hW.2.1]
        have key : ∀ ty : FieldType, newarray.typeOf at0 = ty → am_ty[tn]? = some ty → componentBytes ty = cb → Jvm.Cond.arrayClass ty ∈ am_ws → (∀ cA : ClassId, vp_cell cA (i.toNatClampNeg, am_x (am_r g) d) = arrV cA i.toNatClampNeg (fun _ => defaultValue ty)) → va_RA s (g.2.2.2.2 tn) ty → s.vm.findClass ("[" ++ ty.toString) = some (g.2.2.2.2 tn) → W p l e R s m args below meth c0 H locs k n Q (F0 m pc ls ((.int i :: t).map (am_v (am_r g)))) := by
          intro ty hty hty2 hcb har hcell hRA hfc
          subst hty
          refine va_newaK hx hb (hts _ har) rfl hdg rfl hneg rfl (by rw [hcb]; exact h0) (by omega) (by omega) rfl fun H1 cA e1 z1 o1 hAr hNm => ?_
          obtain rfl : g.2.2.2.2 tn = cA := Option.some.inj (hfc.symm.trans hNm)
          have kk1 := kk H1 locs (am_Wd_push hW h3 z1 o1 (by show H1[H.size]? = some (vp_cell _ _); rw [hcell]; exact e1))
          rw [← hr]; exact kk1
        have hra := fun (ty : FieldType) (h : am_ty[tn]? = some ty) => (hK.1.2 tn _ (am_tget (g := g) h)).2
        cases at0 with
        | int => cases q0; exact key .int rfl rfl rfl ka_int (fun _ => rfl) (hra _ rfl) (hra _ rfl)
        | long => cases q0; exact key .long rfl rfl rfl ka_long (fun _ => rfl) (hra _ rfl) (hra _ rfl)
        | byte => cases q0; exact key .byte rfl rfl rfl ka_byte (fun _ => rfl) (hra _ rfl) (hra _ rfl)
        | boolean => cases q0; exact key .boolean rfl rfl rfl ka_boolean (fun _ => rfl) (hra _ rfl) (hra _ rfl)
        | _ => cases q0
      · cases hf1
  | anewarray x =>
    obtain ⟨⟨i, t⟩, q1, hf1⟩ := Option.bind_eq_some_iff.mp hf
    have e1 := am_popI_eq q1
    subst e1
    split at hf1
    · cases hf1
    · rename_i hneg
      split at hf1
      · rename_i hcond
        cases hf1
        obtain ⟨h0, h3⟩ := hcond
        dsimp only at h0 hk' hn'
        have hr : am_r g h.length = H.size := by rw [am_r_lt h3, hW.2.1]
        have hck2 : (decide (4 ≤ b ∧ b < 8) && am_cw (am_ec b) fun q => am_wd a (.classLink own x q.1)) = true := hck
        rw [Bool.and_eq_true, decide_eq_true_eq] at hck2
        obtain ⟨w, hw, hty, hel⟩ := am_ec_ok hck2.1
        obtain ⟨w', hw', hlk⟩ := am_cw_eq hck2.2
        obtain rfl : w = w' := Option.some.inj (hw.symm.trans hw')
        obtain ⟨kA0, comp0, -, -, -, hfc⟩ := (hK.1.2 b _ (am_tget hty)).2
        refine W.anew hx hb hown (hts _ (am_wd_in hlk)) (va_AO.use (hK.2.2.2.2.1 _ hel)) rfl hdg rfl hneg h0 (by omega) (by omega) fun cA kA comp f1 f2 f3 f4 => ?_
        obtain rfl : g.2.2.2.2 b = cA := Option.some.inj (hfc.symm.trans f1)
        have kk1 := kk _ locs (am_Wd_push (H1 := H.push ({ cls := g.2.2.2.2 b, slots := Array.replicate i.toNatClampNeg .null, vm := .none } : Cell)) hW h3 (by rw [Array.size_push]) (fun z hz => by rw [Array.getElem?_push, if_neg (Nat.ne_of_lt hz)]) (by show (H.push _)[H.size]? = some (vp_cell _ _); rw [Array.getElem?_push_size, arrV_new]; rfl))
        rw [← hr]; exact kk1
      · cases hf1
  | getstatic x =>
    cases hf
    have hck2 : (match am_sts[b]? with | some q => am_wd a (.fieldLink own x q.1 q.2.1 q.2.2) | none => false) = true := hck
    split at hck2
    · rename_i q hq
      obtain ⟨cf, kf, fi, f, ad, cell, z1, z2, z3, z4, z5, z6, z7, z8⟩ := hK.2.2.2.2.2.2.1 b q hq
      have hr : am_r g (am_M + (b + 1)) = g.2.1 (b + 1) := by unfold am_r; rw [if_neg (Nat.not_lt.mpr (Nat.le_add_right _ _)), Nat.add_sub_cancel_left]
      refine W.gets hx hb hown (hts _ (am_wd_in hck2)) z1 z2 z3 z4 (by rw [hW.2.2.2.2.1 ad (Array.getElem?_eq_some_iff.mp z5).1 z8]; exact z5) (fun e => by rw [e] at z6; cases z6) z7 rfl hdg ?_
      have kk1 := kk H locs hW
      rw [List.map_cons, show am_v (am_r g) (.ref (am_M + (b + 1))) = .ref (am_r g (am_M + (b + 1))) from rfl, hr] at kk1
      exact kk1
    · cases hck2
  | ldc x => cases hf; exact lv_ldc hx hb hown (hts _ (am_wd_in hck)) hdg (kk H locs hW)
  | ldc_w x => cases hf; exact lv_ldcw hx hb hown (hts _ (am_wd_in hck)) hdg (kk H locs hW)
  | ldc2_w x => cases hf; exact lv_ldc2 hx hb hown (hts _ (am_wd_in hck)) hdg (kk H locs hW)
  | invokespecial x =>
    change (if _ then _ else _) = _ at hf
    split at hf
    · rename_i hoi
      obtain ⟨⟨ad, t⟩, q1, hf1⟩ := Option.bind_eq_some_iff.mp hf
      have e1 := am_popR_eq q1
      subst e1
      split at hf1
      · rename_i hcond
        cases hf1
        obtain ⟨h1, h2, h3⟩ := hcond
        have hck2 : (if b = am_oi then am_wd a (.methodLink own x objectInit) else true) = true := hck
        rw [if_pos hoi] at hck2
        have hcat : ((t.map (am_v (am_r g))).map fun v => v.category).sum ≤ 8 := by
          rw [List.map_map]
          have : ((fun v : Value => v.category) ∘ am_v (am_r g)) = fun v => v.category := funext fun v => am_v_cat _ v
          rw [this]; exact h3
        have hroom := lv_room (m := m) (pc := pc) (ls := ls) (rest := List.map (am_v (am_r g)) (Value.ref ad :: t)) hcat
        exact W.objInit hx hb hown (hts _ (am_wd_in hck2)) (hts _ koi_i) (hts _ koi_c) rfl hsz rfl hdg (by omega) (by omega) (kk H locs hW)
      · cases hf1
    · cases hf
  | if_acmp cnd off =>
    have ht : (pc : Int) + off = (a : Int) := by simpa [am_ck] using hck
    cases cnd with
    | eq =>
      obtain ⟨⟨x, t0⟩, q0, hf0⟩ := Option.bind_eq_some_iff.mp hf
      obtain ⟨⟨y, t⟩, q1, hf1⟩ := Option.bind_eq_some_iff.mp hf0
      have e0 := am_popQ_eq q0
      have e1 := am_popQ_eq q1
      dsimp only at e0 e1
      subst e1; subst e0
      split at hf1
      · rename_i hcond
        cases hf1
        rw [List.map_cons, List.map_cons, am_v_rf, am_v_rf]
        have hi := am_rinj (g := g) hcond.2 hcond.1
        exact lv_acmp_eq hx hb hdg ht (fun z => by have := kk H locs hW; rw [if_pos (hi.mp z)] at this; exact this) (fun z => by have := kk H locs hW; rw [if_neg (fun w => z (hi.mpr w))] at this; exact this)
      · cases hf1
    | ne =>
      obtain ⟨⟨x, t0⟩, q0, hf0⟩ := Option.bind_eq_some_iff.mp hf
      obtain ⟨⟨y, t⟩, q1, hf1⟩ := Option.bind_eq_some_iff.mp hf0
      have e0 := am_popQ_eq q0
      have e1 := am_popQ_eq q1
      dsimp only at e0 e1
      subst e1; subst e0
      split at hf1
      · rename_i hcond
        cases hf1
        rw [List.map_cons, List.map_cons, am_v_rf, am_v_rf]
        have hi := am_rinj (g := g) hcond.2 hcond.1
        exact lv_acmp_ne hx hb hdg ht (fun z => by have := kk H locs hW; rw [if_pos (fun w => z (hi.mpr w))] at this; exact this) (fun z => by have := kk H locs hW; rw [if_neg (fun w => w (hi.mp z))] at this; exact this)
      · cases hf1
  | _ => cases hf
end AM3
