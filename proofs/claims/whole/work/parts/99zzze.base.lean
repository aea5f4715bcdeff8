/-! A new house, in both pictures. -/
def z00 : Z := mkZ [[12, 11, 23, 20]] [] none (fun _ => 0) (fun _ => 0) (fun _ => 0) (fun _ => 0) (fun _ => 0) (fun _ => 0) (fun _ => 0) (fun _ => -1) 0 [] [] 0 0
def g00 : hG := (fun _ => none, fun _ _ => 0, fun _ => 13, fun _ => 0)
theorem hb00 : HB w0S z00 g00 := by
  refine ⟨hE.rf, ⟨fun P x h => (by cases h), fun P x h => (by cases h), fun P Q x h => (by cases h), fun P _ _ => ⟨rfl, rfl, rfl, rfl, rfl, rfl⟩, fun k _ _ => ⟨rfl, rfl⟩⟩, rfl, fun p c hc => ?_, fun p q hp hq _ => ?_, fun p q e hp hq _ _ _ => ?_, rfl, fun a x hx => (by cases hx), fun a b ha => ?_, rfl, rfl, rfl⟩
  · have hp : p = 0 := by
      have := get_lt' hc
      have h1 : z00.mem.length = 1 := rfl
      omega
    subst hp
    have ec : c = [12, 11, 23, 20] := by
      have hc' : some [12, 11, 23, 20] = some c := hc
      injection hc' with q
      exact q.symm
    subst ec
    refine ⟨rfl, rfl, rfl, rfl, rfl, rfl, rfl, fun a _ => rfl, rfl, rfl, ⟨am_M + 1, [], rfl, Or.inl rfl, by rw [hlq_0]; omega, rfl, Nat.zero_le _, List.nodup_nil, fun j t ht => (by cases ht), fun t _ _ => rfl⟩⟩
  · have h1 : z00.mem.length = 1 := rfl
    omega
  · have h1 : z00.mem.length = 1 := rfl
    omega
  · have h1 : z00.ast.length = 0 := rfl
    omega
theorem hz00 : HZ w0S z00 g00 [] [] 0 [] := by
  refine ⟨hb00, ⟨rfl, fun j i h => (by cases h), rfl, fun j i h => (by cases h), fun i h => (by cases h), fun i h => (by cases h), ⟨List.Pairwise.nil, fun i => ⟨fun h => (by cases h), fun h => (by cases h.1)⟩⟩, rfl⟩, ⟨rfl, fun P x h => (by cases h)⟩, ⟨rfl, fun j e h => (by cases h), fun e h => (by cases h), Nat.zero_le _⟩⟩
theorem mb00 {f : Nat → Int64} (hf : ∀ j, j < 65536 → f j = -1) : MB (w0s f) z00 := by
  refine ⟨rfl, fun k c hc => ?_, rfl, fun k x hx => (by cases hx), rfl, fun _ _ => rfl, fun _ _ => rfl, fun _ _ => rfl, fun _ _ => rfl, fun _ _ => rfl, fun _ _ => rfl, fun _ _ => rfl, fun k hk => ?_, rfl⟩
  · have hp : k = 0 := by
      have := get_lt' hc
      have h1 : z00.mem.length = 1 := rfl
      omega
    subst hp
    have ec : c = [12, 11, 23, 20] := by
      have hc' : some [12, 11, 23, 20] = some c := hc
      injection hc' with q
      exact q.symm
    subst ec
    show w0C 0 = _
    decide
  · show f k = lI (-1)
    rw [hf k hk]; rfl
theorem ok00 : okZ 0 z00 := by
  have q1 : -(big 0) ≤ (0 : Int) - ((0 : Nat) : Int) ∧ (0 : Int) + ((0 : Nat) : Int) ≤ big 0 := by decide
  have q2 : -(big 0) ≤ (0 : Int) ∧ (0 : Int) ≤ big 0 := by decide
  have q3 : (0 : Int) ≤ 0 ∧ (0 : Int) + ((0 : Nat) : Int) ≤ big 0 := by decide
  have q4 : (0 : Int) ≤ 0 ∧ (0 : Int) ≤ big 0 := by decide
  have q5 : (-1 : Int) ≤ -1 ∧ (-1 : Int) < 1000000000000000 := by decide
  refine ⟨⟨by decide, by decide⟩, fun c hc => ?_, by decide, fun x hx => (by cases hx), fun a ha => (by cases ha), by decide, fun P => q1, fun P => q2, fun P => q3, fun P => q3, fun P => q4, fun P => Nat.le_refl _, fun k => q1, fun k => q5, ⟨by decide, by decide⟩, by decide, fun i hi => (by cases hi), List.Pairwise.nil, List.Pairwise.nil, by decide, by decide, fun P _ _ => ⟨rfl, rfl, rfl, rfl, rfl, rfl⟩, fun k _ _ => ⟨rfl, rfl⟩, fun P _ => rfl, fun P _ _ => rfl, by decide⟩
  have hc' : c ∈ [[12, 11, 23, 20]] := hc
  rw [List.mem_singleton] at hc'
  rw [hc']
  refine ⟨rfl, fun x hx => ?_⟩
  simp at hx
  omega
theorem good00 : good z00 := by
  refine ⟨fun P h1 h2 h3 _ => ?_, fun a ha => ?_, fun k _ h => ?_⟩
  · have e : z00.mem.length = 1 := rfl
    rw [e] at h3
    omega
  · have e : z00.ast.length = 0 := rfl
    rw [e] at ha
    omega
  · exact absurd (show (0 : Int) ≤ -1 from h) (by decide)
theorem i_0 (f : Nat → Int64) (hf : ∀ j, j < 65536 → f j = -1) : IN 0 w0S (w0s f) := by
  refine ⟨z00, g00, [], [], 0, ⟨⟨0, by omega, rfl, rfl, fun j hj => by omega⟩, fun j => rfl, ⟨0, 0, by omega, by omega, rfl, rfl, rfl, rfl, fun j hj => by omega⟩, ⟨rfl, rfl, rfl, rfl⟩, rfl, hz00, mb00 hf, ⟨rfl, fun k i h => (by cases h), rfl⟩, ⟨⟨rfl, fun j P h => (by cases h), fun P _ => rfl⟩, fun P _ _ => rfl⟩, rfl, rfl, ⟨am_M + 1, rfl, Or.inl rfl, by rw [hlq_0]; omega, rfl, Nat.zero_le _, fun j t h => (by cases h)⟩, ⟨⟨rfl, fun j t h => (by cases h)⟩, fun t x h => (by cases h)⟩, ok00, ⟨Nat.zero_le _, fun t h => (by cases h)⟩, good00, rfl, fun i h => (by cases h), fun h => ?_, rfl, ⟨false, rfl⟩, Nat.zero_le _, ?_, ⟨0, rfl, by omega⟩, fun h => ?_⟩⟩
  · exact absurd (show 900 ≤ 0 from h) (by decide)
  · show hs_fix.length ≤ 60 + 300 * 0
    decide
  · exact absurd (show (1 : Int32) = 0 from h) (by decide)
/-! One call more. -/
theorem i_step : wStep IN := by
  intro n S s hn ⟨z, g, q, u, L, h⟩
  exact ⟨fun a b c d e => i_feed h hn a b c d e, fun a => i_send h hn a, fun a => i_tick h hn a, i_fetch h hn, fun a => i_charge h hn a, i_start h hn, fun a b => i_position h a b, fun a => i_count h a, i_broken h, ⟨z, g, q, u, L, h.mono⟩⟩
