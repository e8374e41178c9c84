/-! THE MODEL TAKES THE BORINGS OF A TEXT OVER. -/
def BorX (σ : rS) (m : Nat) (b : tB) : Prop := σ.2.2.1 44 m = b.1 ∧ σ.2.2.1 45 m = b.2.1 ∧ σ.2.2.1 46 m = b.2.2.1 ∧ σ.2.2.1 47 m = nI b.2.2.2.length ∧ b.2.2.2.length ≤ 12 ∧ ∀ (i : Nat) (p : Int32 × Int32), b.2.2.2[i]? = some p → σ.2.2.1 48 (12 * m + i) = p.1 ∧ σ.2.2.1 49 (12 * m + i) = p.2
theorem m_cpL {m j len : Nat} (hm : m < 16) (hj : j < 16) (hl : len ≤ 12) (K : Int32 → rS → Option (Int32 × rS)) : ∀ (r i fuel : Nat) (σ : rS), i + r = len → r < fuel → σ.1 43 2 = nI m → σ.2.2.1 71 j = nI len → ∃ σ', lX12_read_100 K fuel (nI j) (nI i) σ = K (nI (j + 1)) (uI (uI σ' 43 2 (nI (m + 1))) 43 1 0) ∧ Kp (fun n => n = 48 ∨ n = 49) σ σ' ∧ (∀ q, σ'.2.2.1 48 q = if 12 * m + i ≤ q ∧ q < 12 * m + len then σ.2.2.1 72 (12 * j + (q - 12 * m)) else σ.2.2.1 48 q) ∧ ∀ q, σ'.2.2.1 49 q = if 12 * m + i ≤ q ∧ q < 12 * m + len then σ.2.2.1 73 (12 * j + (q - 12 * m)) else σ.2.2.1 49 q := by
  intro r
  have en : ∀ i : Nat, nI i + 1 = nI (i + 1) := fun i => kadd _ 1
  have ix : ∀ a b : Nat, (12 : Int32) * nI a + nI b = nI (12 * a + b) := fun a b => by
    show nI 12 * nI a + nI b = _
    rw [kmul, kadd]
  induction r with
  | zero =>
    intro i fuel σ hi hf h2 h71
    obtain ⟨fu, rfl⟩ : ∃ fu, fuel = fu + 1 := ⟨fuel - 1, by omega⟩
    refine ⟨σ, ?_, Kp.rf _ σ, fun q => by rw [if_neg (by omega)], fun q => by rw [if_neg (by omega)]⟩
    rw [lX12_read_100, kinB (by omega), decide_eq_true (by omega), if_pos rfl, kc (by omega), h71, if_pos (by rw [kle (by omega) (by omega)]; omega), h2, en, vS_d, vS_d, vI_d, en]
  | succ r ih =>
    intro i fuel σ hi hf h2 h71
    obtain ⟨fu, rfl⟩ : ∃ fu, fuel = fu + 1 := ⟨fuel - 1, by omega⟩
    obtain ⟨σ', g1, g2, g3, g4⟩ := ih (i + 1) fu (uA (uA σ 48 (12 * m + i) (σ.2.2.1 72 (12 * j + i))) 49 (12 * m + i) (σ.2.2.1 73 (12 * j + i))) (by omega) (by omega) h2 (by rw [uA_ne (by omega), uA_ne (by omega)]; exact h71)
    refine ⟨σ', ?_, ((Kp.uA (by omega)).tr (Kp.uA (by omega))).tr g2, fun q => ?_, fun q => ?_⟩
    · rw [lX12_read_100, kinB (by omega), decide_eq_true (by omega), if_pos rfl, kc (by omega), h71, if_neg (by rw [kle (by omega) (by omega)]; omega), ix, kinB (by omega), decide_eq_true (by omega), if_pos rfl, h2, ix, kinB (by omega), decide_eq_true (by omega), if_pos rfl, vS_d, kc (by omega), kc (by omega), if_pos rfl, uA_1, h2, ix, kinB (by omega), decide_eq_true (by omega), if_pos rfl, vS_d, kc (by omega), uA_ne (by omega), vI_d, en]
      exact g1
    · rw [g3, uA_ne (by omega), uA_ne (by omega), uA_ne (by omega)]
      by_cases z : q = 12 * m + i
      · have e : q - 12 * m = i := by omega
        rw [if_neg (by omega), if_pos (by omega), e, z, uA_eq]
      · rw [uA_nj z]
        by_cases y : 12 * m + i ≤ q ∧ q < 12 * m + len
        · rw [if_pos y, if_pos (by omega)]
        · rw [if_neg y, if_neg (by omega)]
    · rw [g4, uA_ne (by omega), uA_ne (by omega)]
      by_cases z : q = 12 * m + i
      · have e : q - 12 * m = i := by omega
        rw [if_neg (by omega), if_pos (by omega), e, z, uA_eq]
      · rw [uA_nj z, uA_ne (by omega)]
        by_cases y : 12 * m + i ≤ q ∧ q < 12 * m + len
        · rw [if_pos y, if_pos (by omega)]
        · rw [if_neg y, if_neg (by omega)]
abbrev oCp (n : Nat) : Prop := 43 ≤ n ∧ n ≤ 49
def Cp (w : Nat) (B : List tB) (υ σ : rS) (j : Nat) : Prop := Kp oCp υ σ ∧ (∀ k, k ≠ 1 → k ≠ 2 → σ.1 43 k = υ.1 43 k) ∧ σ.1 43 2 = nI (w + j) ∧ (σ.1 43 1 = if j = 0 then υ.1 43 1 else 0) ∧ (∀ k, k < w → σ.2.2.1 44 k = υ.2.2.1 44 k ∧ σ.2.2.1 45 k = υ.2.2.1 45 k ∧ σ.2.2.1 46 k = υ.2.2.1 46 k ∧ σ.2.2.1 47 k = υ.2.2.1 47 k) ∧ (∀ q, q < 12 * w → σ.2.2.1 48 q = υ.2.2.1 48 q ∧ σ.2.2.1 49 q = υ.2.2.1 49 q) ∧ ∀ (i : Nat) (b : tB), i < j → B[i]? = some b → BorX σ (w + i) b
theorem m_cp1 {w : Nat} {B : List tB} (h16 : w + B.length ≤ 16) {υ σ : rS} (M : Msg υ B) {j : Nat} (hj : j < B.length) (h : Cp w B υ σ j) (fu : Nat) : ∃ σ', lX12_read_30 (fu + 1) (nI j) σ = lX12_read_30 fu (nI (j + 1)) σ' ∧ Cp w B υ σ' (j + 1) := by
  obtain ⟨c1, c2, c3, c4, c5, c6, c7⟩ := h
  obtain ⟨b, hb⟩ : ∃ b, B[j]? = some b := ⟨_, List.getElem?_eq_getElem hj⟩
  have N := (M.2 j b hb).kp (σ' := σ) (fun n a b => c1.1 n (by omega))
  obtain ⟨n1, n2, n3, n4, n5, n6⟩ := N
  have e39 : σ.1 43 39 = nI B.length := (c2 39 (by omega) (by omega)).trans M.1
  obtain ⟨σ', g1, g2, g3, g4⟩ := m_cpL (m := w + j) (j := j) (len := b.2.2.2.length) (by omega) (by omega) n5 (lX12_read_30 fu) b.2.2.2.length 0 1000 (uA (uA (uA (uA σ 44 (w + j) b.1) 45 (w + j) b.2.1) 46 (w + j) b.2.2.1) 47 (w + j) (nI b.2.2.2.length)) (by omega) (by omega) c3 (by rw [uA_ne (by omega), uA_ne (by omega), uA_ne (by omega), uA_ne (by omega)]; exact n4)
  have r44 : ∀ q, σ'.2.2.1 44 q = if q = w + j then b.1 else σ.2.2.1 44 q := fun q => by
    rw [(g2.1 44 (by omega)).2.2, uA_ne (by omega), uA_ne (by omega), uA_ne (by omega), uA_3]
    simp only [true_and]
  have r45 : ∀ q, σ'.2.2.1 45 q = if q = w + j then b.2.1 else σ.2.2.1 45 q := fun q => by
    rw [(g2.1 45 (by omega)).2.2, uA_ne (by omega), uA_ne (by omega), uA_3, uA_ne (by omega)]
    simp only [true_and]
  have r46 : ∀ q, σ'.2.2.1 46 q = if q = w + j then b.2.2.1 else σ.2.2.1 46 q := fun q => by
    rw [(g2.1 46 (by omega)).2.2, uA_ne (by omega), uA_3, uA_ne (by omega), uA_ne (by omega)]
    simp only [true_and]
  have r47 : ∀ q, σ'.2.2.1 47 q = if q = w + j then nI b.2.2.2.length else σ.2.2.1 47 q := fun q => by
    rw [(g2.1 47 (by omega)).2.2, uA_3, uA_ne (by omega), uA_ne (by omega), uA_ne (by omega)]
    simp only [true_and]
  have r48 : ∀ q, σ'.2.2.1 48 q = if 12 * (w + j) + 0 ≤ q ∧ q < 12 * (w + j) + b.2.2.2.length then σ.2.2.1 72 (12 * j + (q - 12 * (w + j))) else σ.2.2.1 48 q := fun q => by
    rw [g3, uA_ne (by omega), uA_ne (by omega), uA_ne (by omega), uA_ne (by omega), uA_ne (by omega), uA_ne (by omega), uA_ne (by omega), uA_ne (by omega)]
  have r49 : ∀ q, σ'.2.2.1 49 q = if 12 * (w + j) + 0 ≤ q ∧ q < 12 * (w + j) + b.2.2.2.length then σ.2.2.1 73 (12 * j + (q - 12 * (w + j))) else σ.2.2.1 49 q := fun q => by
    rw [g4, uA_ne (by omega), uA_ne (by omega), uA_ne (by omega), uA_ne (by omega), uA_ne (by omega), uA_ne (by omega), uA_ne (by omega), uA_ne (by omega)]
  have i43 : ∀ k, σ'.1 43 k = σ.1 43 k := fun k => (g2.1 43 (by omega)).1 k
  have kp : Kp oCp σ (uI (uI σ' 43 2 (nI (w + j + 1))) 43 1 0) := ((((((Kp.uA (by omega)).tr (Kp.uA (by omega))).tr (Kp.uA (by omega))).tr (Kp.uA (by omega))).tr (g2.mono (fun n z => by omega))).tr (Kp.uI (by omega))).tr (Kp.uI (by omega))
  refine ⟨_, ?_, ⟨c1.tr kp, fun k k1 k2 => ?_, ?_, ?_, fun k hk => ?_, fun q hq => ?_, fun i b' hi hb' => ?_⟩⟩
  · rw [lX12_read_30, e39, if_neg (by rw [kle (by omega) (by omega)]; omega), kinB (by omega), decide_eq_true (by omega), if_pos rfl, c3, kinB (by omega), decide_eq_true (by omega), if_pos rfl, vS_d, kc (by omega), kc (by omega), n1]
    rw [if_pos rfl, uA_1, c3, kinB (by omega), decide_eq_true (by omega), if_pos rfl, vS_d, kc (by omega), uA_ne (by omega), n2]
    rw [if_pos rfl, uA_1, uA_1, c3, kinB (by omega), decide_eq_true (by omega), if_pos rfl, vS_d, kc (by omega), uA_ne (by omega), uA_ne (by omega), n3]
    rw [if_pos rfl, uA_1, uA_1, uA_1, c3, kinB (by omega), decide_eq_true (by omega), if_pos rfl, vS_d, kc (by omega), uA_ne (by omega), uA_ne (by omega), uA_ne (by omega), n4]
    exact g1
  · rw [uI_nj k1, uI_nj k2, i43]; exact c2 k k1 k2
  · rw [uI_nj (by omega), uI_eq]; rfl
  · rw [uI_eq, if_neg (by omega)]
  · rw [uI_2, uI_2, r44, r45, r46, r47, if_neg (by omega), if_neg (by omega), if_neg (by omega), if_neg (by omega)]
    exact c5 k hk
  · rw [uI_2, uI_2, r48, r49, if_neg (by omega), if_neg (by omega)]
    exact c6 q hq
  · unfold BorX
    rw [uI_2, uI_2]
    by_cases z : i = j
    · subst z
      rw [hb] at hb'
      cases hb'
      refine ⟨by rw [r44, if_pos rfl], by rw [r45, if_pos rfl], by rw [r46, if_pos rfl], by rw [r47, if_pos rfl], n5, fun q p hp => ?_⟩
      have lt := (List.getElem?_eq_some_iff.mp hp).1
      have e : 12 * (w + i) + q - 12 * (w + i) = q := by omega
      rw [r48, r49, if_pos (by omega), if_pos (by omega), e]
      exact n6 q p hp
    · obtain ⟨x1, x2, x3, x4, x5, x6⟩ := c7 i b' (by omega) hb'
      refine ⟨by rw [r44, if_neg (by omega)]; exact x1, by rw [r45, if_neg (by omega)]; exact x2, by rw [r46, if_neg (by omega)]; exact x3, by rw [r47, if_neg (by omega)]; exact x4, x5, fun q p hp => ?_⟩
      have lt := (List.getElem?_eq_some_iff.mp hp).1
      rw [r48, r49, if_neg (by omega), if_neg (by omega)]
      exact x6 q p hp
theorem m_copy {w : Nat} {B : List tB} (h16 : w + B.length ≤ 16) {υ : rS} (M : Msg υ B) : ∀ (r j fuel : Nat) (σ : rS), j + r = B.length → r < fuel → Cp w B υ σ j → ∃ σ', lX12_read_30 fuel (nI j) σ = some (nI B.length, σ') ∧ Cp w B υ σ' B.length := by
  intro r
  induction r with
  | zero =>
    intro j fuel σ hj hf h
    obtain ⟨fu, rfl⟩ : ∃ fu, fuel = fu + 1 := ⟨fuel - 1, by omega⟩
    have e39 : σ.1 43 39 = nI B.length := (h.2.1 39 (by omega) (by omega)).trans M.1
    have ej : j = B.length := by omega
    subst ej
    exact ⟨σ, by rw [lX12_read_30, e39, if_pos (by rw [kle (by omega) (by omega)]; omega)], h⟩
  | succ r ih =>
    intro j fuel σ hj hf h
    obtain ⟨fu, rfl⟩ : ∃ fu, fuel = fu + 1 := ⟨fuel - 1, by omega⟩
    obtain ⟨σ1, e1, h1⟩ := m_cp1 h16 M (by omega) h fu
    obtain ⟨σ2, e2, h2⟩ := ih (j + 1) fu σ1 (by omega) (by omega) h1
    exact ⟨σ2, e1.trans e2, h2⟩
