/-! THE LAW'S LOOP. -/
theorem lgc (x : Int64) : lg_cmp x x = 0 := by
  unfold lg_cmp
  rw [if_neg (by rw [gt_iff_lt, l_lt]; omega), if_pos rfl]
theorem lgc0 {x y : Int64} (h : x = y) : lg_cmp x y = 0 := by rw [h]; exact lgc y
section Law
variable {c m : rS → Option (Int32 × rS)} {mL : rS → Option (Int64 × rS)} {σ : rS} {K : rS → Option (Int32 × rS)}
theorem goA (h : stepA c m σ) : ∃ σ2, Inv σ2 ∧ ((c σ).bind fun q => (m q.2).bind fun q2 => if q.1 = q2.1 then K q2.2 else some (0, q2.2)) = K σ2 := by
  obtain ⟨v, σ1, σ2, h1, h2, h3⟩ := h
  refine ⟨σ2, h3, ?_⟩
  rw [h1, Option.bind_some]
  dsimp only
  rw [h2, Option.bind_some]
  dsimp only
  rw [if_pos rfl]
theorem goB (h : stepB c m σ) : ∃ σ2, Inv σ2 ∧ ((c σ).bind fun q => vI q.1 fun x => (m q.2).bind fun q2 => vI q2.1 fun y => (fX12_thrown q2.2).bind fun q3 => (if q3.1 = x then if x = 0 then if inB 0 1 then (if (lg_cmp (q3.2.2.2.2.1 (0 : Int32).toNatClampNeg) y.toInt64) = 0 then K q3.2 else some (0, q3.2)) else none else K q3.2 else some (0, q3.2))) = K σ2 := by
  obtain ⟨k, σ1, x, σ2, h1, h2, h3, h4, h5⟩ := h
  refine ⟨σ2, h5, ?_⟩
  rw [h1, Option.bind_some, vI_d]
  dsimp only
  rw [h2, Option.bind_some, vI_d]
  unfold fX12_thrown
  rw [Option.bind_some]
  dsimp only
  rw [h3, if_pos rfl]
  by_cases z : k = 0
  · rw [if_pos z, in01, if_pos rfl, cl0, if_pos (lgc0 (h4 z))]
  · rw [if_neg z]
theorem goL (h : stepL c mL σ) : ∃ σ2, Inv σ2 ∧ ((c σ).bind fun q => vI q.1 fun x => (mL q.2).bind fun q2 => vJ q2.1 fun y => (fX12_thrown q2.2).bind fun q3 => (if q3.1 = x then if x = 0 then if inB 0 1 then (if (lg_cmp (q3.2.2.2.2.1 (0 : Int32).toNatClampNeg) y) = 0 then K q3.2 else some (0, q3.2)) else none else K q3.2 else some (0, q3.2))) = K σ2 := by
  obtain ⟨k, σ1, x, σ2, h1, h2, h3, h4, h5⟩ := h
  refine ⟨σ2, h5, ?_⟩
  rw [h1, Option.bind_some, vI_d]
  dsimp only
  rw [h2, Option.bind_some, vJ_d]
  unfold fX12_thrown
  rw [Option.bind_some]
  dsimp only
  rw [h3, if_pos rfl]
  by_cases z : k = 0
  · rw [if_pos z, in01, if_pos rfl, cl0, if_pos (lgc0 (h4 z))]
  · rw [if_neg z]
theorem goC (h : stepB c m σ) (h01 : ∀ k σ1 x σ2, c σ = some (k, σ1) → m σ1 = some (x, σ2) → k = 0 → x = 0) : ∃ σ2, Inv σ2 ∧ ((c σ).bind fun q => vI q.1 fun x => (m q.2).bind fun q2 => vI q2.1 fun y => (fX12_thrown q2.2).bind fun q3 => (if q3.1 = x then if x = 0 then if inB 0 1 then (if y = 0 then if (lg_cmp (q3.2.2.2.2.1 (0 : Int32).toNatClampNeg) 0) = 0 then K q3.2 else some (0, q3.2) else if (lg_cmp (q3.2.2.2.2.1 (0 : Int32).toNatClampNeg) 1) = 0 then K q3.2 else some (0, q3.2)) else none else K q3.2 else some (0, q3.2))) = K σ2 := by
  obtain ⟨k, σ1, x, σ2, h1, h2, h3, h4, h5⟩ := h
  refine ⟨σ2, h5, ?_⟩
  have hx := h01 k σ1 x σ2 h1 h2
  rw [h1, Option.bind_some, vI_d]
  dsimp only
  rw [h2, Option.bind_some, vI_d]
  unfold fX12_thrown
  rw [Option.bind_some]
  dsimp only
  rw [h3, if_pos rfl]
  by_cases z : k = 0
  · have e0 := h4 z
    rw [hx z] at e0
    have e : σ2.2.2.2.1 0 = 0 := e0
    rw [if_pos z, in01, if_pos rfl, cl0, if_pos (hx z), if_pos (lgc0 e)]
  · rw [if_neg z]
end Law
theorem crosses0 {σ : rS} (h : Inv σ) : ∀ k σ1 x σ2, fL_crosses σ = some (k, σ1) → fX12_crosses σ1 = some (x, σ2) → k = 0 → x = 0 := by
  intro k σ1 x σ2 h1 h2 hk
  obtain ⟨k', σ1', x', σ2', g1, g2, g3, g4, g5⟩ := s_crosses h
  rw [g1] at h1
  obtain ⟨rfl, rfl⟩ := Prod.mk.inj (Option.some.inj h1)
  rw [g2] at h2
  obtain ⟨rfl, rfl⟩ := Prod.mk.inj (Option.some.inj h2)
  rcases fresh01 h with ⟨f0, m0⟩ | ⟨f1, m1⟩
  · have : fL_crosses σ = some (1, σ) := by
      unfold fL_crosses fX11_crosses
      rw [c_run0 f0]; rfl
    rw [this] at g1
    have := (Prod.mk.inj (Option.some.inj g1)).1
    rw [← this] at hk
    exact absurd hk (by decide)
  · obtain ⟨τ, bk, E, T, f, L, q1, q2, q3, q4, q5⟩ := h.2.2 f1
    have l42 := q3.E42 q1
    have c : fL_crosses σ = some (0, uO σ 0 (0 : Int32).toInt64) := by
      unfold fL_crosses fX11_crosses
      rw [c_run1 f1, Option.bind_some]
      dsimp only
      rw [c_cross q1 h.1.1 q2 q3.1 l42 q4.1 q4.2.2.1, Option.bind_some]
      rfl
    have N := (q5.out 0 (0 : Int32).toInt64).n0 0
    have mB0 := (h.2.1.1.out 0 (0 : Int32).toInt64).n0 0
    have d : fX12_crosses (uO σ 0 (0 : Int32).toInt64) = some (0, uI (uO σ 0 (0 : Int32).toInt64) 43 0 0) := by
      unfold fX12_crosses
      rw [m_old1 (σ := uO σ 0 _) m1, Option.bind_some]
      dsimp only
      rw [if_pos rfl, m_cross q1 mB0 q2 q3.1 l42 N.1 N.2.2.1]
    rw [c] at g1
    have e := (Prod.mk.inj (Option.some.inj g1)).2
    rw [← e, d] at g2
    exact ((Prod.mk.inj (Option.some.inj g2)).1).symm
theorem inv0 : Inv sg0 := by
  refine ⟨⟨?_, ?_, ?_, ?_, ?_, ?_, ?_⟩, ⟨?_, ?_, ?_, ?_, ?_, ?_, ?_⟩, fun h => absurd h (by decide)⟩
  · exact ⟨rfl, by decide, rfl, fun k hk => absurd hk (by show ¬ k < 0; omega), fun j k _ hk => absurd hk (by show ¬ k < 0; omega)⟩
  · intro k _
    show okR _ _ (0 : Int32)
    exact ⟨by decide, by decide⟩
  · exact ⟨rfl, by decide, fun k hk => absurd hk (by show ¬ k < 0; omega)⟩
  · exact ⟨⟨by decide, by decide⟩, ⟨by decide, by decide⟩, Or.inl rfl⟩
  · exact ⟨rfl, by decide, fun k hk => absurd hk (by show ¬ k < 0; omega), fun j k _ hk => absurd hk (by show ¬ k < 0; omega)⟩
  · exact ⟨rfl, by decide, fun k hk => absurd hk (by show ¬ k < 0; omega)⟩
  · exact ⟨rfl, rfl, by decide, Or.inl rfl, fun k _ => show okR _ _ (0 : Int32) from ⟨by decide, by decide⟩⟩
  · exact ⟨rfl, fun k hk => absurd hk (by show ¬ k < 0; omega)⟩
  · intro k _; rfl
  · exact ⟨rfl, fun k hk => absurd hk (by show ¬ k < 0; omega)⟩
  · exact ⟨rfl, rfl, rfl⟩
  · exact ⟨rfl, fun k hk => absurd hk (by show ¬ k < 0; omega)⟩
  · exact ⟨rfl, fun k hk => absurd hk (by show ¬ k < 0; omega)⟩
  · exact ⟨rfl, fun k hk => absurd hk (by show ¬ k < 0; omega)⟩
theorem law_go (hr : ∀ σ, Inv σ → stepA fX11_read fX12_read σ) (hw : ∀ σ a, Inv σ → stepB (fL_write a) (fX12_write a) σ) (hl : ∀ σ a, Inv σ → stepA (fX11_letter a) (fX12_letter a) σ) (g : Nat × Nat × (Nat → Int32)) (hg : g.2.1 ≤ 3072) : ∀ (r i fuel : Nat) (σ : rS), i + r = g.2.1 / 6 → r < fuel → Inv σ → ∃ τ, lL_law_23 g fuel (nI (6 * i)) σ = some (1, τ) := by
  have lim : ∀ i : Nat, i ≤ 512 → (((Int32.ofNat g.2.1) - 6) < nI (6 * i)) = (g.2.1 < 6 * i + 6) := fun i hi => by
    apply propext
    have e : ((Int32.ofNat g.2.1) - 6).toInt = (g.2.1 : Int) - 6 := by
      have e1 : (Int32.ofNat g.2.1).toInt = (g.2.1 : Int) := ki (by omega)
      have e2 : (6 : Int32).toInt = 6 := rfl
      rw [i_sub (by rw [e1, e2]; omega) (by rw [e1, e2]; omega), e1, e2]
    rw [i_lt, e, ki (by omega)]
    omega
  intro r
  induction r with
  | zero =>
    intro i fuel σ hi hfu h
    obtain ⟨fu, rfl⟩ : ∃ fu, fuel = fu + 1 := ⟨fuel - 1, by omega⟩
    refine ⟨σ, ?_⟩
    rw [lL_law_23]
    simp only [lim i (by omega)]
    rw [if_pos (by omega)]
  | succ r ih =>
    intro i fuel σ hi hfu h
    obtain ⟨fu, rfl⟩ : ∃ fu, fuel = fu + 1 := ⟨fuel - 1, by omega⟩
    have nx : nI (6 * i) + 6 = nI (6 * (i + 1)) := by
      show nI (6 * i) + nI 6 = _
      rw [kadd]
      congr 1
    have b0 : inB (nI (6 * i)) g.2.1 = true := by rw [kinB (by omega)]; exact decide_eq_true (by omega)
    have b1 : inB (nI (6 * i) + 1) g.2.1 = true := by
      have : nI (6 * i) + 1 = nI (6 * i + 1) := kadd _ 1
      rw [this, kinB (by omega)]; exact decide_eq_true (by omega)
    have b2 : inB (nI (6 * i) + 2) g.2.1 = true := by
      have : nI (6 * i) + 2 = nI (6 * i + 2) := kadd _ 2
      rw [this, kinB (by omega)]; exact decide_eq_true (by omega)
    have b3 : inB (nI (6 * i) + 3) g.2.1 = true := by
      have : nI (6 * i) + 3 = nI (6 * i + 3) := kadd _ 3
      rw [this, kinB (by omega)]; exact decide_eq_true (by omega)
    have b4 : inB (nI (6 * i) + 4) g.2.1 = true := by
      have : nI (6 * i) + 4 = nI (6 * i + 4) := kadd _ 4
      rw [this, kinB (by omega)]; exact decide_eq_true (by omega)
    have b5 : inB (nI (6 * i) + 5) g.2.1 = true := by
      have : nI (6 * i) + 5 = nI (6 * i + 5) := kadd _ 5
      rw [this, kinB (by omega)]; exact decide_eq_true (by omega)
    have go : ∀ X : Option (Int32 × rS), (∃ σ2, Inv σ2 ∧ X = lL_law_23 g fu (nI (6 * (i + 1))) σ2) → ∃ τ, X = some (1, τ) := fun X hX => by
      obtain ⟨σ2, h2, e⟩ := hX
      rw [e]
      exact ih (i + 1) fu σ2 (by omega) (by omega) h2
    apply go
    rw [lL_law_23]
    simp only [lim i (by omega)]
    rw [if_neg (by omega), b0, if_pos rfl]
    simp only [b1, b2, b3, b4, b5, if_true, nx]
    by_cases c0 : ((g.2.2 (nI (6 * i)).toNatClampNeg) &&& 31) = 0
    · rw [if_pos c0]
      exact goB (s_boring h _ _ _)
    rw [if_neg c0]
    by_cases c1 : ((g.2.2 (nI (6 * i)).toNatClampNeg) &&& 31) = 1
    · rw [if_pos c1]
      exact goB (s_layer h _ _ _)
    rw [if_neg c1]
    by_cases c2 : ((g.2.2 (nI (6 * i)).toNatClampNeg) &&& 31) = 2
    · rw [if_pos c2]
      exact goA (s_age h _ _)
    rw [if_neg c2]
    by_cases c3 : ((g.2.2 (nI (6 * i)).toNatClampNeg) &&& 31) = 3
    · rw [if_pos c3]
      exact goA (s_fault h _ _ _ _)
    rw [if_neg c3]
    by_cases c4 : ((g.2.2 (nI (6 * i)).toNatClampNeg) &&& 31) = 4
    · rw [if_pos c4]
      exact goA (s_lens h _)
    rw [if_neg c4]
    by_cases c5 : ((g.2.2 (nI (6 * i)).toNatClampNeg) &&& 31) = 5
    · rw [if_pos c5]
      exact goA (s_water h _ _ _)
    rw [if_neg c5]
    by_cases c6 : ((g.2.2 (nI (6 * i)).toNatClampNeg) &&& 31) = 6
    · rw [if_pos c6]
      exact goA (s_within h _)
    rw [if_neg c6]
    by_cases c7 : ((g.2.2 (nI (6 * i)).toNatClampNeg) &&& 31) = 7
    · rw [if_pos c7]
      exact goA (s_run h)
    rw [if_neg c7]
    by_cases c8 : ((g.2.2 (nI (6 * i)).toNatClampNeg) &&& 31) = 8
    · rw [if_pos c8]
      exact goB (s_count h _)
    rw [if_neg c8]
    by_cases c9 : ((g.2.2 (nI (6 * i)).toNatClampNeg) &&& 31) = 9
    · rw [if_pos c9]
      exact goB (s_edge h _ _)
    rw [if_neg c9]
    by_cases c10 : ((g.2.2 (nI (6 * i)).toNatClampNeg) &&& 31) = 10
    · rw [if_pos c10]
      exact goB (s_triangle h _ _)
    rw [if_neg c10]
    by_cases c11 : ((g.2.2 (nI (6 * i)).toNatClampNeg) &&& 31) = 11
    · rw [if_pos c11]
      exact goB (s_match h _ _ _)
    rw [if_neg c11]
    by_cases c12 : ((g.2.2 (nI (6 * i)).toNatClampNeg) &&& 31) = 12
    · rw [if_pos c12]
      exact goB (s_sum h _ _)
    rw [if_neg c12]
    by_cases c13 : ((g.2.2 (nI (6 * i)).toNatClampNeg) &&& 31) = 13
    · rw [if_pos c13]
      exact goB (s_section h _ _ _ _)
    rw [if_neg c13]
    by_cases c14 : ((g.2.2 (nI (6 * i)).toNatClampNeg) &&& 31) = 14
    · rw [if_pos c14]
      exact goC (s_crosses h) (crosses0 h)
    rw [if_neg c14]
    by_cases c15 : ((g.2.2 (nI (6 * i)).toNatClampNeg) &&& 31) = 15
    · rw [if_pos c15]
      exact goB (s_bed h _ _)
    rw [if_neg c15]
    by_cases c16 : ((g.2.2 (nI (6 * i)).toNatClampNeg) &&& 31) = 16
    · rw [if_pos c16]
      exact goB (s_bedOf h _ _)
    rw [if_neg c16]
    by_cases c17 : ((g.2.2 (nI (6 * i)).toNatClampNeg) &&& 31) = 17
    · rw [if_pos c17]
      exact goL (s_at h _ _ _ _)
    rw [if_neg c17]
    by_cases c18 : ((g.2.2 (nI (6 * i)).toNatClampNeg) &&& 31) = 18
    · rw [if_pos c18]
      exact goL (s_wet h _ _ _ _)
    rw [if_neg c18]
    by_cases c19 : ((g.2.2 (nI (6 * i)).toNatClampNeg) &&& 31) = 19
    · rw [if_pos c19]
      exact goL (s_volume h _ _ _ _ _)
    rw [if_neg c19]
    by_cases c20 : ((g.2.2 (nI (6 * i)).toNatClampNeg) &&& 31) = 20
    · rw [if_pos c20]
      exact goB (s_later h _ _ _ _)
    rw [if_neg c20]
    by_cases c21 : ((g.2.2 (nI (6 * i)).toNatClampNeg) &&& 31) = 21
    · rw [if_pos c21]
      exact goA (s_doubt h _ _)
    rw [if_neg c21]
    by_cases c22 : ((g.2.2 (nI (6 * i)).toNatClampNeg) &&& 31) = 22
    · rw [if_pos c22]
      exact goA (s_unit h _)
    rw [if_neg c22]
    by_cases c23 : ((g.2.2 (nI (6 * i)).toNatClampNeg) &&& 31) = 23
    · rw [if_pos c23]
      exact goA (hr σ h)
    rw [if_neg c23]
    by_cases c24 : ((g.2.2 (nI (6 * i)).toNatClampNeg) &&& 31) = 24
    · rw [if_pos c24]
      exact goB (hw σ _ h)
    rw [if_neg c24]
    by_cases c25 : ((g.2.2 (nI (6 * i)).toNatClampNeg) &&& 31) = 25
    · rw [if_pos c25]
      exact goA (hl σ _ h)
    rw [if_neg c25]
    exact ⟨σ, h, rfl⟩
theorem pure_of (hr : ∀ σ, Inv σ → stepA fX11_read fX12_read σ) (hw : ∀ σ a, Inv σ → stepB (fL_write a) (fX12_write a) σ) (hl : ∀ σ a, Inv σ → stepA (fX11_letter a) (fX12_letter a) σ) : ∀ g : Nat × Nat × (Nat → Int32), g.2.1 ≤ 3072 → ∃ τ, lL_law_23 g 600 0 sg0 = some (1, τ) := fun g hg => law_go hr hw hl g hg (g.2.1 / 6) 0 600 sg0 (by omega) (by omega) inv0
