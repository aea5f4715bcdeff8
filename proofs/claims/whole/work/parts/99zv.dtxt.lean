/-! The reference: the text of that sender and reference. -/
def txK (w : Nat) (nm : List Nat) : Nat → List Txt → Option Nat
  | _, [] => none
  | k, i :: l => if i.who = w ∧ i.nm = nm then some k else txK w nm (k + 1) l
/-- its texts' heads -/
def MX (s : mS) (ts : List Txt) : Prop := s.1 30 = nI ts.length ∧ ∀ (j : Nat) (t : Txt), ts[j]? = some t → s.2.2.1 41 j = nI t.who ∧ s.2.2.2 42 j = lI (b256 t.nm : Nat) ∧ s.2.2.1 40 j = nI t.bs.length
theorem d_text_loop {s : mS} {ts : List Txt} (hX : MX s ts) (hL : ts.length ≤ 2000) (hok : ∀ t ∈ ts, t.who < 256 ∧ t.nm.length = 8 ∧ is36 t.nm) {w : Nat} {nm : List Nat} (hw : w < 256) (hn : nm.length = 8) (h36 : is36 nm) : ∀ (d fu j : Nat), ts.length - j = d → d < fu → j ≤ ts.length → l_Mo_textOf_3 fu (nI w) (lI (b256 nm : Nat)) (nI j) s = some (oI (txK w nm j (ts.drop j))) := by
  obtain ⟨h30, hr⟩ := hX
  intro d
  induction d with
  | zero =>
    intro fu j hd hf hj
    obtain ⟨fu, rfl⟩ : ∃ f, fu = f + 1 := ⟨fu - 1, by omega⟩
    unfold l_Mo_textOf_3
    rw [h30, if_pos (nI_le0 (by omega) (by omega) (by omega)), List.drop_of_length_le (by omega)]; rfl
  | succ d ih =>
    intro fu j hd hf hj
    obtain ⟨fu, rfl⟩ : ∃ f, fu = f + 1 := ⟨fu - 1, by omega⟩
    obtain ⟨t, ht⟩ := get_lt (ks := ts) (j := j) (by omega)
    obtain ⟨a1, a2, a3⟩ := hok t (List.mem_of_getElem? ht)
    obtain ⟨r1, r2, r3⟩ := hr j t ht
    have l1 := b256_inL a2 a3
    have l2 := b256_inL hn h36
    have IH := ih fu (j + 1) (by omega) (by omega) (by omega)
    unfold l_Mo_textOf_3
    rw [h30, if_neg (nI_ngt (by omega) (by omega) (by omega)), ix_N (by omega) (by omega), Option.bind_some, r1, r2, nI_add1, drop_cons ht]
    unfold txK
    by_cases c1 : t.who = w
    · rw [if_neg (fun q => q (by rw [c1]))]
      by_cases c2 : t.nm = nm
      · rw [if_neg (fun q => q ((cmp_eq0 l1 l2).mpr (by rw [c2]))), if_pos ⟨c1, c2⟩]; rfl
      · rw [if_pos (fun q => c2 (b256_inj 8 t.nm nm a2 hn a3 h36 (by have := (cmp_eq0 l1 l2).mp q; omega))), if_neg (fun q => c2 q.2)]; exact IH
    · rw [if_pos (fun q => c1 (nI_inj (by omega) (by omega) q)), if_neg (fun q => c1 q.1)]; exact IH
