/-! crosses: never. -/
section Crs
variable {σ ρ τ : rS} {bk : Nat × Nat → Bool} {E : List (Nat × Nat)} {T : List (Nat × Nat × Nat)} {f : Nat → Option Nat} {L : List Nat}
theorem pI_lt {d x : Nat} (hd : d ≤ x) (hx : x < 2147483648) : pI d < nI x := by
  cases d with
  | zero =>
    rw [i_lt, ki hx]
    show (-1 : Int) < _
    omega
  | succ d => exact (klt (by omega) hx).mpr (by omega)
theorem pI_m1 (d : Nat) (hd : d < 2147483648) : ¬ pI d < (-1) := by
  cases d with
  | zero => decide
  | succ d =>
    show ¬ nI d < -1
    rw [i_lt, ki (by omega)]
    show ¬ _ < (-1 : Int)
    omega
theorem c_crOn (hv : VB τ) {a b k : Nat} (ha : a < wn τ) (hb : b < wn τ) (hk : k < 42) (hm : ∀ i, i < wl τ a → σ.2.2.1 22 (k * 12 + i) = oI (PN τ a b i)) : fX5_crossesOn (nI k) (nI (wl τ a)) σ = some (0, σ) := by
  have la := (l_ok hv ha).2
  have lb := (l_ok hv hb).2
  have loop : ∀ (r i fuel d : Nat), i + r = wl τ a → r < fuel → d ≤ frN τ a b i → lX5_crossesOn_5 fuel (nI k) (nI (wl τ a)) (pI d) (nI i) σ = some (0, σ) := by
    intro r
    induction r with
    | zero =>
      intro i fuel d hi hfu hd
      obtain ⟨fu, rfl⟩ : ∃ fu, fuel = fu + 1 := ⟨fuel - 1, by omega⟩
      rw [lX5_crossesOn_5, if_pos ((kle (by omega) (by omega)).mpr (by omega))]
    | succ r ih =>
      intro i fuel d hi hfu hd
      obtain ⟨fu, rfl⟩ : ∃ fu, fuel = fu + 1 := ⟨fuel - 1, by omega⟩
      have fl := frN_le τ a b i
      have e1 : nI k * 12 + nI i = nI (k * 12 + i) := by
        show nI k * nI 12 + nI i = _
        rw [kmul, kadd]
      rw [lX5_crossesOn_5, if_neg (by rw [kle (by omega) (by omega)]; omega), e1, kinB (by omega), decide_eq_true (show k * 12 + i < 504 by omega), if_pos rfl, kc (by omega), hm i (by omega), vI_d]
      unfold jX5_crossesOn_39
      simp only [vI_d, k1]
      cases hp : PN τ a b i with
      | none =>
        have o1 : oI none = -1 := rfl
        rw [o1, if_pos rfl, if_neg (pI_m1 d (by omega))]
        exact ih (i + 1) fu d (by omega) (by omega) (by rw [frN_s, hp]; exact hd)
      | some x =>
        have := PN_lt hp
        have o1 : oI (some x) = nI x := rfl
        rw [o1, if_neg (kne1 (by omega)), if_pos (pI_lt (by omega) (by omega)), if_pos (pI_lt (by omega) (by omega))]
        exact ih (i + 1) fu (x + 1) (by omega) (by omega) (by rw [frN_s, hp]; exact Nat.le_refl _)
  have := loop (wl τ a) 0 1000 0 (by omega) (by omega) (Nat.zero_le _)
  exact this
theorem c_cross (hv : VB τ) (hB : VB σ) (ag : agT σ τ) (net : netE (wn τ) (wP τ) E) (hl : E.length ≤ 42) (hE : isE σ bk E) (hm : matC σ τ bk E E.length) : fX5_anyCrosses σ = some (0, σ) := by
  have h16 := hv.2.1
  have loop : ∀ (r k fuel : Nat), k + r = E.length → r < fuel → lX5_anyCrosses_2 fuel (nI k) σ = some (0, σ) := by
    intro r
    induction r with
    | zero =>
      intro k fuel hk hfu
      obtain ⟨fu, rfl⟩ : ∃ fu, fuel = fu + 1 := ⟨fuel - 1, by omega⟩
      rw [lX5_anyCrosses_2, hE.1.1, if_pos ((kle (by omega) (by omega)).mpr (by omega))]
    | succ r ih =>
      intro k fuel hk hfu
      obtain ⟨fu, rfl⟩ : ∃ fu, fuel = fu + 1 := ⟨fuel - 1, by omega⟩
      obtain ⟨⟨a, b⟩, he⟩ : ∃ e, E[k]? = some e := ⟨_, List.getElem?_eq_getElem (by omega)⟩
      obtain ⟨g1, g2, _⟩ := net.2.1 _ (List.mem_of_getElem? he)
      dsimp only at g1 g2
      obtain ⟨x1, x2⟩ := hE.1.2 k _ he
      have x3 := hE.2.2.1 k _ he
      dsimp only at x1
      have ha : a < wn τ := by omega
      obtain ⟨l1, l2⟩ := l_ok hB (show a < wn σ by rw [ag.1]; exact ha)
      rw [(ag.2 a ha).2.2.2.1] at l1
      have it := ih (k + 1) fu (by omega) (by omega)
      rw [lX5_anyCrosses_2, hE.1.1, if_neg (by rw [kle (by omega) (by omega)]; omega), kinB (by omega), decide_eq_true (show k < 42 by omega), if_pos rfl, kc (by omega), x3]
      unfold jX5_anyCrosses_43
      simp only [bI_0, vI_d, k1, it, if_true]
      cases hb : bk (a, b) with
      | true => rw [if_neg (by simp)]
      | false =>
        rw [if_pos rfl, x1, kinB (by omega), decide_eq_true (show a < 16 by omega), if_pos rfl, kc (by omega), if_pos (bo_ok (by omega)), l1, c_crOn hv ha g2 (by omega) (hm k _ (by omega) he hb).2.1, Option.bind_some]
        dsimp only
        rw [if_pos rfl]
        exact it
  exact loop E.length 0 1000 (by omega) (by omega)
theorem m_cross (hv : VB τ) (hM : MB σ ρ) (ag : agT σ τ) (net : netE (wn τ) (wP τ) E) (hl : E.length ≤ 42) (hN : isN ρ bk E) (hm : matM ρ τ bk E E.length) : lX12_crosses_13 1000 0 0 ρ = some (0, ρ) := by
  have h16 := hv.2.1
  have inn : ∀ {k13 : Int32 → Int32 → rS → Option (Int32 × rS)} {k : Nat} {e : Nat × Nat}, E[k]? = some e → ∀ (r i fuel d : Nat), i + r = wl τ e.1 → r < fuel → d ≤ frN τ e.1 e.2 i → lX12_crosses_26 k13 fuel 0 (nI k) (pI d) (nI i) ρ = k13 0 (nI (k + 1)) ρ := by
    intro k13 k e he r
    have kl := (List.getElem?_eq_some_iff.mp he).1
    obtain ⟨g1, g2, _⟩ := net.2.1 _ (List.mem_of_getElem? he)
    have la := (l_ok hv (show e.1 < wn τ by omega)).2
    have lb := (l_ok hv g2).2
    obtain ⟨x1, x2⟩ := hN.1.2 k _ he
    have x3 := hN.2.1 k _ he
    have y1 : ρ.2.2.1 47 e.1 = nI (wl τ e.1) := by
      obtain ⟨_, _, _, z, _⟩ := hM.2 e.1 (by rw [ag.1]; omega)
      rw [z, (ag.2 e.1 (by omega)).2.2.2.1]
    induction r with
    | zero =>
      intro i fuel d hi hfu hd
      obtain ⟨fu, rfl⟩ : ∃ fu, fuel = fu + 1 := ⟨fuel - 1, by omega⟩
      rw [lX12_crosses_26, kinB (by omega), decide_eq_true (show k < 120 by omega), if_pos rfl, kc (by omega), x1, kinB (by omega), decide_eq_true (show e.1 < 16 by omega), if_pos rfl, kc (by omega), y1, if_pos ((kle (by omega) (by omega)).mpr (by omega))]
      unfold jX12_crosses_106
      rw [vI_d, k1]
    | succ r ih =>
      intro i fuel d hi hfu hd
      obtain ⟨fu, rfl⟩ : ∃ fu, fuel = fu + 1 := ⟨fuel - 1, by omega⟩
      have fl := frN_le τ e.1 e.2 i
      rw [lX12_crosses_26, kinB (by omega), decide_eq_true (show k < 120 by omega), if_pos rfl, kc (by omega), x1, kinB (by omega), decide_eq_true (show e.1 < 16 by omega), if_pos rfl, kc (by omega), y1, if_neg (by rw [kle (by omega) (by omega)]; omega), if_pos rfl, x3]
      unfold jX12_crosses_106
      simp only [bI_0, vI_d, k1, if_true]
      cases hb : bk e with
      | true => rw [if_neg (by simp)]
      | false =>
        have e1 : (12 : Int32) * nI k + nI i = nI (12 * k + i) := by
          show nI 12 * nI k + nI i = _
          rw [kmul, kadd]
        rw [if_pos rfl, e1, kinB (by omega), decide_eq_true (show 12 * k + i < 1440 by omega), if_pos rfl, kc (by omega), (hm k e kl he hb).2 i (by omega)]
        unfold jX12_crosses_85 jX12_crosses_86 jX12_crosses_99
        simp only [vI_d, k1]
        cases hp : PN τ e.1 e.2 i with
        | none =>
          have o1 : oI none = -1 := rfl
          rw [o1, if_pos rfl, if_pos rfl]
          exact ih (i + 1) fu d (by omega) (by omega) (by rw [frN_s, hp]; exact hd)
        | some x =>
          have := PN_lt hp
          have o1 : oI (some x) = nI x := rfl
          rw [o1, if_neg (kne1 (by omega)), if_pos (pI_lt (by omega) (by omega)), if_neg (kne1 (by omega))]
          exact ih (i + 1) fu (x + 1) (by omega) (by omega) (by rw [frN_s, hp]; exact Nat.le_refl _)
  have loop : ∀ (r k fuel : Nat), k + r = E.length → r < fuel → lX12_crosses_13 fuel 0 (nI k) ρ = some (0, ρ) := by
    intro r
    induction r with
    | zero =>
      intro k fuel hk hfu
      obtain ⟨fu, rfl⟩ : ∃ fu, fuel = fu + 1 := ⟨fuel - 1, by omega⟩
      rw [lX12_crosses_13, hN.1.1, if_pos ((kle (by omega) (by omega)).mpr (by omega))]
      exact if_pos (Or.inl rfl)
    | succ r ih =>
      intro k fuel hk hfu
      obtain ⟨fu, rfl⟩ : ∃ fu, fuel = fu + 1 := ⟨fuel - 1, by omega⟩
      obtain ⟨e, he⟩ : ∃ e, E[k]? = some e := ⟨_, List.getElem?_eq_getElem (by omega)⟩
      obtain ⟨g1, g2, _⟩ := net.2.1 _ (List.mem_of_getElem? he)
      have la := (l_ok hv (show e.1 < wn τ by omega)).2
      have i0' := inn (k13 := lX12_crosses_13 fu) he (wl τ e.1) 0 1000 0 (by omega) (by omega) (Nat.zero_le _)
      rw [show nI 0 = 0 from rfl, show pI 0 = -1 from rfl] at i0'
      rw [lX12_crosses_13, hN.1.1, if_neg (by rw [kle (by omega) (by omega)]; omega), i0']
      exact ih (k + 1) fu (by omega) (by omega)
  exact loop E.length 0 1000 (by omega) (by omega)
theorem s_crosses (h : Inv σ) : stepB fL_crosses fX12_crosses σ := by
  rcases fresh01 h with ⟨f0, m0⟩ | ⟨f1, m1⟩
  · refine q_no (k := 1) h (by decide) ?_ ?_
    · unfold fL_crosses fX11_crosses
      rw [c_run0 f0]; rfl
    · unfold fX12_crosses
      rw [m_old0 m0, Option.bind_some]
      dsimp only
      rw [if_neg (by decide)]
  · obtain ⟨τ, bk, E, T, f, L, q1, q2, q3, q4, q5⟩ := h.2.2 f1
    have l42 := q3.E42 q1
    refine q_ok (v := 0) h ?_ ?_
    · unfold fL_crosses fX11_crosses
      rw [c_run1 f1, Option.bind_some]
      dsimp only
      rw [c_cross q1 h.1.1 q2 q3.1 l42 q4.1 q4.2.2.1, Option.bind_some]
      rfl
    · have N := (q5.out 0 (0 : Int32).toInt64).n0 0
      have mB0 := (h.2.1.1.out 0 (0 : Int32).toInt64).n0 0
      unfold fX12_crosses
      rw [m_old1 (σ := uO σ 0 _) m1, Option.bind_some]
      dsimp only
      rw [if_pos rfl, m_cross q1 mB0 q2 q3.1 l42 N.1 N.2.2.1]
end Crs
