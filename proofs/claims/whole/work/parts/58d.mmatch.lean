/-! THE MODEL'S MATCHINGS. -/
section MM
variable {τ σ : rS} {a b : Nat}
theorem mh (hv : VB τ) (hM : MB τ σ) (ha : a < wn τ) {i : Nat} (hi : i < wl τ a) : σ.2.2.1 49 (12 * a + i) = nI (hN τ a i) ∧ σ.2.2.1 48 (12 * a + i) = nI (kN τ a i) := by
  obtain ⟨_, _, _, _, h⟩ := hM.2 a ha
  obtain ⟨h1, h2⟩ := h i hi
  exact ⟨h2.trans (h_ok hv ha hi).1, h1.trans (k_ok hv ha hi).1⟩
theorem ma (hA : VA τ) (hM : MA τ σ) {k : Nat} (hk : k < 8) : σ.2.2.1 50 k = nI (aN τ k) := (hM k hk).trans (a_ok hA hk).1
theorem m_cost (hv : VB τ) (hA : VA τ) (hM : MB τ σ) (hMA : MA τ σ) (ha : a < wn τ) (hb : b < wn τ) {i j : Nat} (hi : i < wl τ a) (hj : j < wl τ b) : fX12_pairCost (nI a) (nI i) (nI b) (nI j) σ = some (nI (csN τ a b i j), σ) := by
  have h16 := hv.2.1
  have la := (l_ok hv ha).2
  have lb := (l_ok hv hb).2
  obtain ⟨x1, x2⟩ := mh hv hM ha hi
  obtain ⟨y1, y2⟩ := mh hv hM hb hj
  have x3 := (h_ok hv ha hi).2.2
  have y3 := (h_ok hv hb hj).2.2
  have u2 := (k_ok hv ha hi).2
  have v2 := (k_ok hv hb hj).2
  have p1 := ma hA hMA u2
  have q1 := ma hA hMA v2
  have p2 := (a_ok hA u2).2
  have q2 := (a_ok hA v2).2
  have e1 : (12 : Int32) * nI a + nI i = nI (12 * a + i) := by
    show nI 12 * nI a + nI i = _
    rw [kmul, kadd]
  have e2 : (12 : Int32) * nI b + nI j = nI (12 * b + j) := by
    show nI 12 * nI b + nI j = _
    rw [kmul, kadd]
  have ab1 := abs2 (show hN τ a i ≤ 10000 by omega) (show hN τ b j ≤ 10000 by omega)
  have ab2 := abs2 (show aN τ (kN τ a i) ≤ 10000 by omega) (show aN τ (kN τ b j) ≤ 10000 by omega)
  unfold fX12_pairCost jX12_pairCost_74 jX12_pairCost_112 jX12_pairCost_114
  simp only [vI_d, e1, e2, kinB (show 12 * a + i < 2147483648 by omega), kinB (show 12 * b + j < 2147483648 by omega), decide_eq_true (show 12 * a + i < 192 by omega), decide_eq_true (show 12 * b + j < 192 by omega), if_true, kc (show 12 * a + i < 2147483648 by omega), kc (show 12 * b + j < 2147483648 by omega), x1, x2, y1, y2, kinB (show kN τ a i < 2147483648 by omega), kinB (show kN τ b j < 2147483648 by omega), decide_eq_true u2, decide_eq_true v2, kc (show kN τ a i < 2147483648 by omega), kc (show kN τ b j < 2147483648 by omega), p1, q1]
  have q : (nI (kN τ a i) = nI (kN τ b j)) = (kN τ a i = kN τ b j) := propext (keq (by omega) (by omega))
  simp only [q]
  have e : ∀ x y : Nat, nI x + (100 + 50 * nI y) = nI (x + (100 + 50 * y)) := fun x y => by
    show nI x + (nI 100 + nI 50 * nI y) = _
    rw [kmul, kadd, kadd]
  unfold csN
  generalize (hN τ a i - hN τ b j) + (hN τ b j - hN τ a i) = A at ab1 ⊢
  generalize (aN τ (kN τ a i) - aN τ (kN τ b j)) + (aN τ (kN τ b j) - aN τ (kN τ a i)) = B at ab2 ⊢
  have key : ∀ v, v = nI A → (if kN τ a i = kN τ b j then some (v + 0, σ) else if 0 ≤ nI (aN τ (kN τ a i)) - nI (aN τ (kN τ b j)) then some (v + (100 + 50 * (nI (aN τ (kN τ a i)) - nI (aN τ (kN τ b j)))), σ) else some (v + (100 + 50 * (-(nI (aN τ (kN τ a i)) - nI (aN τ (kN τ b j))))), σ)) = some (nI (A + if kN τ a i = kN τ b j then 0 else 100 + 50 * B), σ) := by
    intro v hvA
    subst hvA
    by_cases c : kN τ a i = kN τ b j
    · rw [if_pos c, if_pos c]
      show some (nI A + nI 0, σ) = _
      rw [kadd]
    · rw [if_neg c, if_neg c]
      by_cases d : 0 ≤ nI (aN τ (kN τ a i)) - nI (aN τ (kN τ b j))
      · rw [if_pos d] at ab2 ⊢
        rw [ab2, e]
      · rw [if_neg d] at ab2 ⊢
        rw [ab2, e]
  by_cases d : 0 ≤ nI (hN τ a i) - nI (hN τ b j)
  · rw [if_pos d] at ab1 ⊢
    exact key _ ab1
  · rw [if_neg d] at ab1 ⊢
    exact key _ ab1
def tabM (σ τ : rS) (a b i j : Nat) : Prop := ∀ i' j', i' ≤ wl τ a → j' ≤ wl τ b → (i < i' ∨ (i' = i ∧ j ≤ j')) → σ.2.2.1 62 (13 * i' + j') = nI (RN τ a b (wl τ a - i') (wl τ b - j'))
theorem m_cell (hv : VB τ) (hA : VA τ) (hM : MB τ σ) (hMA : MA τ σ) (ha : a < wn τ) (hb : b < wn τ) {i j : Nat} (hi : i ≤ wl τ a) (hj : j ≤ wl τ b) (ht : tabM σ τ a b i (j + 1)) (k34 : Int32 → Int32 → Int32 → Int32 → Int32 → Int32 → rS → Option (Unit × rS)) (k43 : Int32 → Int32 → Int32 → Int32 → Int32 → Int32 → Int32 → rS → Option (Unit × rS)) (v1 : Int32) : (if nI i = nI (wl τ a) then if nI j = nI (wl τ b) then jX12_matchEdge_68 k34 k43 v1 (nI a) (nI b) (nI (wl τ a)) (nI (wl τ b)) (nI i) (nI j) 0 σ else jX12_matchEdge_66 k34 k43 v1 (nI a) (nI b) (nI (wl τ a)) (nI (wl τ b)) (nI i) (nI j) σ else jX12_matchEdge_66 k34 k43 v1 (nI a) (nI b) (nI (wl τ a)) (nI (wl τ b)) (nI i) (nI j) σ) = k43 v1 (nI a) (nI b) (nI (wl τ a)) (nI (wl τ b)) (nI i) (pI j) (uA σ 62 (13 * i + j) (nI (RN τ a b (wl τ a - i) (wl τ b - j)))) := by
  have h16 := hv.2.1
  have la := (l_ok hv ha).2
  have lb := (l_ok hv hb).2
  have e3 : ∀ x y : Nat, (13 : Int32) * nI x + nI y = nI (13 * x + y) := fun x y => by
    show nI 13 * nI x + nI y = _
    rw [kmul, kadd]
  have e1 : ∀ x y : Nat, (12 : Int32) * nI x + nI y = nI (12 * x + y) := fun x y => by
    show nI 12 * nI x + nI y = _
    rw [kmul, kadd]
  have st : ∀ v, v = nI (RN τ a b (wl τ a - i) (wl τ b - j)) → jX12_matchEdge_217 k34 k43 v1 (nI a) (nI b) (nI (wl τ a)) (nI (wl τ b)) (nI i) (nI j) v σ = k43 v1 (nI a) (nI b) (nI (wl τ a)) (nI (wl τ b)) (nI i) (pI j) (uA σ 62 (13 * i + j) (nI (RN τ a b (wl τ a - i) (wl τ b - j)))) := fun v hv2 => by
    subst hv2
    unfold jX12_matchEdge_217 fX12_at
    rw [e3, Option.bind_some]
    simp only [kinB (show 13 * i + j < 2147483648 by omega), decide_eq_true (show 13 * i + j < 169 by omega), if_true, vS_d, kc (show 13 * i + j < 2147483648 by omega), pI_d, vI_d]
  have lei : (nI (wl τ a) ≤ nI i) = (wl τ a ≤ i) := propext (kle (by omega) (by omega))
  have lej : (nI (wl τ b) ≤ nI j) = (wl τ b ≤ j) := propext (kle (by omega) (by omega))
  have eqi : (nI i = nI (wl τ a)) = (i = wl τ a) := propext (keq (by omega) (by omega))
  have eqj : (nI j = nI (wl τ b)) = (j = wl τ b) := propext (keq (by omega) (by omega))
  simp only [eqi, eqj]
  unfold jX12_matchEdge_66 jX12_matchEdge_68
  simp only [lei]
  by_cases ci : i < wl τ a
  · have xh := (mh hv hM ha ci).1
    have xb := (h_ok hv ha ci).2
    have t1 := ht (i + 1) j (by omega) hj (Or.inl (by omega))
    obtain ⟨r, hr⟩ : ∃ r, wl τ a - i = r + 1 := ⟨wl τ a - i - 1, by omega⟩
    have hr2 : wl τ a - (i + 1) = r := by omega
    have hr3 : wl τ a - (r + 1) = i := by omega
    rw [hr2] at t1
    have b1 := RN_le hv hA ha hb r (wl τ b - j) (by omega) (by omega)
    rw [if_neg (show ¬ i = wl τ a by omega), if_neg (show ¬ wl τ a ≤ i by omega)]
    unfold fX12_at
    simp only [e1, e3, k1, kinB (show 12 * a + i < 2147483648 by omega), decide_eq_true (show 12 * a + i < 192 by omega), if_true, kc (show 12 * a + i < 2147483648 by omega), Option.bind_some, kinB (show 13 * (i + 1) + j < 2147483648 by omega), decide_eq_true (show 13 * (i + 1) + j < 169 by omega), kc (show 13 * (i + 1) + j < 2147483648 by omega), vI_d, xh, t1, kadd]
    unfold jX12_matchEdge_106 jX12_matchEdge_156 jX12_matchEdge_158 jX12_matchEdge_215
    simp only [lei, lej, if_neg (show ¬ wl τ a ≤ i by omega)]
    by_cases cj : j < wl τ b
    · have yh := (mh hv hM hb cj).1
      have yb := (h_ok hv hb cj).2
      have t2 := ht i (j + 1) hi (by omega) (Or.inr ⟨rfl, Nat.le_refl _⟩)
      have t3 := ht (i + 1) (j + 1) (by omega) (by omega) (Or.inl (by omega))
      have cc := m_cost hv hA hM hMA ha hb ci cj
      have cl := cs_le hv hA ha hb ci cj
      obtain ⟨s, hs⟩ : ∃ s, wl τ b - j = s + 1 := ⟨wl τ b - j - 1, by omega⟩
      have hs2 : wl τ b - (j + 1) = s := by omega
      have hs3 : wl τ b - (s + 1) = j := by omega
      rw [hr, hs2] at t2
      rw [hr2, hs2] at t3
      have b2 := RN_le hv hA ha hb (r + 1) s (by omega) (by omega)
      have b3 := RN_le hv hA ha hb r s (by omega) (by omega)
      unfold fX12_at
      simp only [if_neg (show ¬ wl τ b ≤ j by omega), e1, e3, k1, kinB (show 12 * b + j < 2147483648 by omega), decide_eq_true (show 12 * b + j < 192 by omega), if_true, kc (show 12 * b + j < 2147483648 by omega), Option.bind_some, kinB (show 13 * i + (j + 1) < 2147483648 by omega), decide_eq_true (show 13 * i + (j + 1) < 169 by omega), kc (show 13 * i + (j + 1) < 2147483648 by omega), kinB (show 13 * (i + 1) + (j + 1) < 2147483648 by omega), decide_eq_true (show 13 * (i + 1) + (j + 1) < 169 by omega), kc (show 13 * (i + 1) + (j + 1) < 2147483648 by omega), vI_d, yh, t2, t3, cc, kadd]
      rw [hs] at b1 st ⊢
      rw [hr] at st ⊢
      have RNe : RN τ a b (r + 1) (s + 1) = min (min (hN τ a i + RN τ a b r (s + 1)) (hN τ b j + RN τ a b (r + 1) s)) (csN τ a b i j + RN τ a b r s) := by rw [RN, hr3, hs3]
      have fin : ∀ x : Nat, x < 2147483648 → min x (csN τ a b i j + RN τ a b r s) = RN τ a b (r + 1) (s + 1) → (if nI x ≤ nI (csN τ a b i j + RN τ a b r s) then jX12_matchEdge_217 k34 k43 v1 (nI a) (nI b) (nI (wl τ a)) (nI (wl τ b)) (nI i) (nI j) (nI x) σ else jX12_matchEdge_217 k34 k43 v1 (nI a) (nI b) (nI (wl τ a)) (nI (wl τ b)) (nI i) (nI j) (nI (csN τ a b i j + RN τ a b r s)) σ) = k43 v1 (nI a) (nI b) (nI (wl τ a)) (nI (wl τ b)) (nI i) (pI j) (uA σ 62 (13 * i + j) (nI (RN τ a b (r + 1) (s + 1)))) := fun x hx hmin => by
        by_cases d : x ≤ csN τ a b i j + RN τ a b r s
        · rw [if_pos ((kle hx (by omega)).mpr d)]
          exact st _ (by congr 1; omega)
        · rw [if_neg (fun z => d ((kle hx (by omega)).mp z))]
          exact st _ (by congr 1; omega)
      by_cases d : hN τ a i + RN τ a b r (s + 1) ≤ hN τ b j + RN τ a b (r + 1) s
      · rw [if_pos ((kle (by omega) (by omega)).mpr d)]
        exact fin _ (by omega) (by rw [RNe]; omega)
      · rw [if_neg (fun z => d ((kle (by omega) (by omega)).mp z))]
        exact fin _ (by omega) (by rw [RNe]; omega)
    · have hs : wl τ b - j = 0 := by omega
      rw [if_pos (show wl τ b ≤ j by omega), if_pos (show wl τ b ≤ j by omega)]
      refine st _ ?_
      rw [hr, hs, RN, hr3]
  · have ei : i = wl τ a := by omega
    have hr : wl τ a - i = 0 := by omega
    rw [if_pos ei, if_pos (show wl τ a ≤ i by omega), if_pos (show wl τ a ≤ i by omega)]
    unfold jX12_matchEdge_106 jX12_matchEdge_156 jX12_matchEdge_158 jX12_matchEdge_215
    simp only [lei, lej, if_pos (show wl τ a ≤ i by omega)]
    by_cases cj : j < wl τ b
    · have yh := (mh hv hM hb cj).1
      have yb := (h_ok hv hb cj).2
      have t2 := ht i (j + 1) hi (by omega) (Or.inr ⟨rfl, Nat.le_refl _⟩)
      obtain ⟨s, hs⟩ : ∃ s, wl τ b - j = s + 1 := ⟨wl τ b - j - 1, by omega⟩
      have hs2 : wl τ b - (j + 1) = s := by omega
      have hs3 : wl τ b - (s + 1) = j := by omega
      rw [hr, hs2] at t2
      have b2 := RN_le hv hA ha hb 0 s (by omega) (by omega)
      unfold fX12_at
      rw [if_neg (show ¬ j = wl τ b by omega)]
      simp only [if_neg (show ¬ wl τ b ≤ j by omega), e1, e3, k1, kinB (show 12 * b + j < 2147483648 by omega), decide_eq_true (show 12 * b + j < 192 by omega), if_true, kc (show 12 * b + j < 2147483648 by omega), Option.bind_some, kinB (show 13 * i + (j + 1) < 2147483648 by omega), decide_eq_true (show 13 * i + (j + 1) < 169 by omega), kc (show 13 * i + (j + 1) < 2147483648 by omega), vI_d, yh, t2, kadd]
      have ng : ¬ (1000000000 : Int32) ≤ nI (hN τ b j + RN τ a b 0 s) := fun z => by
        have := (kle (a := 1000000000) (by omega) (by omega)).mp z
        omega
      rw [if_neg ng]
      refine st _ ?_
      rw [hr, hs, RN, hs3]
    · have hs : wl τ b - j = 0 := by omega
      rw [if_pos (show j = wl τ b by omega), if_pos (show wl τ b ≤ j by omega)]
      refine st _ ?_
      rw [hr, hs, RN]
      rfl
end MM
