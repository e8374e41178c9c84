/-! THE SAME TEXT IN THE MODEL. -/
def Tm (σ : rS) (s : List Int32) : Prop := σ.1 43 37 = nI s.length ∧ ∀ k, k < s.length → s[k]? = some (σ.2.2.1 67 k)
def Sm (σ0 σ : rS) : Prop := Kp (fun n => n = 43 ∨ n = 67) σ0 σ ∧ ∀ j, j ≠ 37 → σ.1 43 j = σ0.1 43 j
theorem Sm.rf (σ : rS) : Sm σ σ := ⟨Kp.rf _ σ, fun _ _ => rfl⟩
theorem Sm.tr {σ τ υ : rS} (h1 : Sm σ τ) (h2 : Sm τ υ) : Sm σ υ := ⟨h1.1.tr h2.1, fun j hj => (h2.2 j hj).trans (h1.2 j hj)⟩
theorem m_say {σ : rS} {s : List Int32} (h : Tm σ s) (hs : s.length < 200) {c : Int32} (hc : okR 0 127 c) : ∃ σ', fX12_say c σ = some ((), σ') ∧ Tm σ' (s ++ [c]) ∧ Sm σ σ' := by
  obtain ⟨h1, h2⟩ := h
  obtain ⟨q, hq, rfl⟩ := b127 hc
  have b := (byt q hq).2.2.2.1
  unfold fX12_say
  rw [h1, kinB (by omega), decide_eq_true hs, if_pos rfl, vS_d, vS_d, kc (by omega), b, uA_1, h1]
  have e2 : nI s.length + 1 = nI (s.length + 1) := kadd _ 1
  rw [e2]
  refine ⟨_, rfl, ⟨?_, fun k hk => ?_⟩, ⟨(Kp.uA (by omega)).tr (Kp.uI (by omega)), fun j hj => ?_⟩⟩
  · rw [uI_eq, List.length_append]; rfl
  · rw [List.length_append] at hk
    have hk : k < s.length + 1 := hk
    show (s ++ [nI q])[k]? = some ((uA σ 67 s.length (nI q)).2.2.1 67 k)
    by_cases z : k = s.length
    · rw [z, uA_eq, List.getElem?_append_right (Nat.le_refl _), Nat.sub_self]; rfl
    · rw [uA_nj z, List.getElem?_append_left (by omega)]
      exact h2 k (by omega)
  · rw [uI_nj hj, uA_1]
theorem m_dgs {m : Nat} (hm : m ≤ 100000) : ∀ (e fuel : Nat) (σ : rS) (s : List Int32), e ≤ 5 → e + 1 < fuel → Tm σ s → s.length + (e + 1) < 200 → ∃ σ', lX12_sayNumber_45 fuel (nI m) (nI (10 ^ e)) σ = some ((), σ') ∧ Tm σ' (s ++ dgE (e + 1) m) ∧ Sm σ σ' := by
  have one : ∀ (e fu : Nat) (σ : rS) (s : List Int32), e ≤ 5 → Tm σ s → s.length < 200 → ∃ σ', lX12_sayNumber_45 (fu + 1) (nI m) (nI (10 ^ e)) σ = lX12_sayNumber_45 fu (nI m) (nI (10 ^ e / 10)) σ' ∧ Tm σ' (s ++ [nI (48 + m / 10 ^ e % 10)]) ∧ Sm σ σ' := fun e fu σ s h5 ht hs => by
    have p5 : 10 ^ e ≤ 100000 := Nat.pow_le_pow_right (n := 10) (by omega) h5
    have p0 : 0 < 10 ^ e := Nat.pow_pos (by omega)
    generalize 10 ^ e = P at p5 p0
    have q5 : m / P ≤ 100000 := Nat.le_trans (Nat.div_le_self _ _) hm
    obtain ⟨σ1, e1, t1, s1⟩ := m_say ht hs (c := nI (48 + m / P % 10)) (r127 (by omega))
    refine ⟨σ1, ?_, t1, s1⟩
    have c : (48 : Int32) + ((nI m / nI P) - (nI m / nI P) / 10 * 10) = nI (48 + m / P % 10) := by
      show nI 48 + ((nI m / nI P) - (nI m / nI P) / nI 10 * nI 10) = _
      rw [kdiv (by omega) (by omega), kdiv (by omega) (by omega), kmul, ksub (by omega), kadd]
      congr 1
      omega
    have d : nI P / 10 = nI (P / 10) := kdiv (b := 10) (by omega) (by omega)
    rw [lX12_sayNumber_45, if_neg (by show ¬ nI P ≤ nI 0; rw [kle (by omega) (by omega)]; omega), if_pos (by show ¬ nI P = nI 0; rw [keq (by omega) (by omega)]; omega), c, e1, Option.bind_some]
    dsimp only
    rw [vI_d, d]
  intro e
  induction e with
  | zero =>
    intro fuel σ s h5 hf ht hs
    obtain ⟨fu, rfl⟩ : ∃ fu, fuel = fu + 1 + 1 := ⟨fuel - 2, by omega⟩
    obtain ⟨σ1, e1, t1, s1⟩ := one 0 (fu + 1) σ s h5 ht (by omega)
    refine ⟨σ1, ?_, t1, s1⟩
    rw [e1, lX12_sayNumber_45, if_pos (by show nI 0 ≤ nI 0; rw [kle (by omega) (by omega)]; omega)]
  | succ e ih =>
    intro fuel σ s h5 hf ht hs
    obtain ⟨fu, rfl⟩ : ∃ fu, fuel = fu + 1 := ⟨fuel - 1, by omega⟩
    obtain ⟨σ1, e1, t1, s1⟩ := one (e + 1) fu σ s h5 ht (by omega)
    obtain ⟨σ2, e2, t2, s2⟩ := ih fu σ1 _ (by omega) (by omega) t1 (by rw [List.length_append]; show s.length + 1 + (e + 1) < 200; omega)
    have ed : 10 ^ (e + 1) / 10 = 10 ^ e := by rw [Nat.pow_succ, Nat.mul_div_cancel _ (by omega)]
    rw [ed] at e1
    rw [List.append_assoc] at t2
    exact ⟨σ2, e1.trans e2, t2, s1.tr s2⟩
theorem m_pow {m : Nat} (hm : m ≤ 100000) (σ : rS) : ∀ (r e fuel : Nat), e + r + 1 = nd m → r < fuel → lX12_sayNumber_29 fuel (nI m) (nI (10 ^ e)) σ = lX12_sayNumber_45 1000 (nI m) (nI (10 ^ (nd m - 1))) σ := by
  intro r
  have n6 := nd_6 m
  induction r with
  | zero =>
    intro e fuel he hf
    obtain ⟨fu, rfl⟩ : ∃ fu, fuel = fu + 1 := ⟨fuel - 1, by omega⟩
    have np := nd_pow (i := e + 1) (by omega) (by omega) (m := m) (by omega)
    have p5 : 10 ^ e ≤ 100000 := Nat.pow_le_pow_right (n := 10) (by omega) (show e ≤ 5 by omega)
    have p0 : 0 < 10 ^ e := Nat.pow_pos (by omega)
    have ee : nd m - 1 = e := by omega
    rw [ee]
    rw [Nat.pow_succ] at np
    generalize 10 ^ e = P at p5 p0 np ⊢
    have lt : m / P < 10 := (Nat.div_lt_iff_lt_mul p0).mpr (by omega)
    rw [lX12_sayNumber_29, if_pos (by show ¬ nI P = nI 0; rw [keq (by omega) (by omega)]; omega), kdiv (by omega) (by omega), if_pos (by show nI _ ≤ nI 9; rw [kle (by omega) (by omega)]; omega)]
  | succ r ih =>
    intro e fuel he hf
    obtain ⟨fu, rfl⟩ : ∃ fu, fuel = fu + 1 := ⟨fuel - 1, by omega⟩
    have np := nd_pow (i := e + 1) (by omega) (by omega) (m := m) (by omega)
    have p5 : 10 ^ e ≤ 100000 := Nat.pow_le_pow_right (n := 10) (by omega) (show e ≤ 5 by omega)
    have p0 : 0 < 10 ^ e := Nat.pow_pos (by omega)
    rw [← ih (e + 1) fu (by omega) (by omega)]
    rw [Nat.pow_succ] at np ⊢
    generalize 10 ^ e = P at p5 p0 np ⊢
    have lt : ¬ m / P < 10 := fun z => by
      have := (Nat.div_lt_iff_lt_mul p0).mp z
      omega
    have q5 : m / P ≤ 100000 := Nat.le_trans (Nat.div_le_self _ _) hm
    have d : nI P * 10 = nI (P * 10) := kmul P 10
    rw [lX12_sayNumber_29, if_pos (by show ¬ nI P = nI 0; rw [keq (by omega) (by omega)]; omega), kdiv (by omega) (by omega), if_neg (by show ¬ nI _ ≤ nI 9; rw [kle (by omega) (by omega)]; omega), vI_d, d]
theorem m_abs {v : Int32} (hv : okR (-100000) 100000 v) {σ : rS} {s : List Int32} (h : Tm σ s) (hs : s.length + 7 < 200) : ∃ σ', jX12_sayNumber_16 v σ = some ((), σ') ∧ Tm σ' (s ++ dgE (nd (ab v)) (ab v)) ∧ Sm σ σ' := by
  have hm := ab_le hv
  have n6 := nd_6 (ab v)
  obtain ⟨σ1, e1, t1, s1⟩ := m_dgs hm (nd (ab v) - 1) 1000 σ s (by omega) (by omega) h (by omega)
  have en : nd (ab v) - 1 + 1 = nd (ab v) := by omega
  rw [en] at t1
  refine ⟨σ1, ?_, t1, s1⟩
  have go : jX12_sayNumber_26 (nI (ab v)) σ = some ((), σ1) := by
    unfold jX12_sayNumber_26
    exact (m_pow hm σ (nd (ab v) - 1) 0 1000 (by omega) (by omega)).trans e1
  unfold jX12_sayNumber_16
  by_cases c : v < 0
  · have e0 : ¬ 0 ≤ v := by rw [i_le]; rw [i_lt] at c; omega
    rw [if_neg e0, ngv (ab_n c) hm, go]
  · have e0 : 0 ≤ v := by rw [i_le]; rw [i_lt] at c; omega
    have ev : v = nI (ab v) := by apply i_eq; rw [ab_p c, ki (by omega)]
    rw [if_pos e0]
    rw [← ev] at go
    exact go
theorem m_num {v : Int32} (hv : okR (-100000) 100000 v) {σ : rS} {s : List Int32} (h : Tm σ s) (hs : s.length + 9 < 200) : ∃ σ', fX12_sayNumber v σ = some ((), σ') ∧ Tm σ' (s ++ 32 :: dig v) ∧ Sm σ σ' := by
  obtain ⟨σ1, e1, t1, s1⟩ := m_say h (by omega) (c := 32) ⟨by decide, by decide⟩
  have l1 : (s ++ [(32 : Int32)]).length = s.length + 1 := by rw [List.length_append]; rfl
  unfold fX12_sayNumber
  rw [e1, Option.bind_some]
  dsimp only
  by_cases c : v < 0
  · have e0 : ¬ 0 ≤ v := by rw [i_le]; rw [i_lt] at c; omega
    obtain ⟨σ2, e2, t2, s2⟩ := m_say t1 (by omega) (c := 45) ⟨by decide, by decide⟩
    have l2 : (s ++ [(32 : Int32)] ++ [(45 : Int32)]).length = s.length + 2 := by rw [List.length_append, l1]; rfl
    obtain ⟨σ3, e3, t3, s3⟩ := m_abs hv t2 (by omega)
    rw [if_neg e0, e2, Option.bind_some]
    refine ⟨σ3, e3, ?_, s1.tr (s2.tr s3)⟩
    rw [dig_n c]
    rw [List.append_assoc, List.append_assoc] at t3
    exact t3
  · have e0 : 0 ≤ v := by rw [i_le]; rw [i_lt] at c; omega
    obtain ⟨σ3, e3, t3, s3⟩ := m_abs hv t1 (by omega)
    rw [if_pos e0]
    refine ⟨σ3, e3, ?_, s1.tr s3⟩
    rw [dig_p c]
    rw [List.append_assoc] at t3
    exact t3
