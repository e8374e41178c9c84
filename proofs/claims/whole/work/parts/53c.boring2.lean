section NwB
variable {σ : rS} {x y t : Int32}
theorem nwB_x (k : Nat) : wx (nwB σ x y t) k = if k = wn σ then x else wx σ k := by
  have e : wx (nwB σ x y t) k = wx (addB (uI σ 0 12 0) (wn σ) x y t) k := by
    unfold nwB wx
    rw [uI_1, if_neg (by omega), uI_1, if_neg (by omega), uI_1, if_neg (by omega)]
  rw [e, addB_x]
  unfold wx
  rw [uI_ne (by omega)]
theorem nwB_y (k : Nat) : wy (nwB σ x y t) k = if k = wn σ then y else wy σ k := by
  have e : wy (nwB σ x y t) k = wy (addB (uI σ 0 12 0) (wn σ) x y t) k := by
    unfold nwB wy
    rw [uI_1, if_neg (by omega), uI_1, if_neg (by omega), uI_1, if_neg (by omega)]
  rw [e, addB_y]
  unfold wy
  rw [uI_ne (by omega)]
theorem nwB_t (k : Nat) : wt (nwB σ x y t) k = if k = wn σ then t else wt σ k := by
  have e : wt (nwB σ x y t) k = wt (addB (uI σ 0 12 0) (wn σ) x y t) k := by
    unfold nwB wt
    rw [uI_1, if_neg (by omega), uI_1, if_neg (by omega), uI_1, if_neg (by omega)]
  rw [e, addB_t]
  unfold wt
  rw [uI_ne (by omega)]
theorem nwB_l4 (k : Nat) : (nwB σ x y t).1 (80 + 4 * k) 4 = if k = wn σ then 0 else σ.1 (80 + 4 * k) 4 := by
  have e : (nwB σ x y t).1 (80 + 4 * k) 4 = (addB (uI σ 0 12 0) (wn σ) x y t).1 (80 + 4 * k) 4 := by
    unfold nwB
    rw [uI_1, if_neg (by omega), uI_1, if_neg (by omega), uI_1, if_neg (by omega)]
  rw [e, addB_l4]
  rw [uI_ne (by omega)]
theorem nwB_l (k : Nat) : wl (nwB σ x y t) k = if k = wn σ then 0 else wl σ k := by
  unfold wl
  rw [nwB_l4]
  by_cases h : k = wn σ
  · rw [if_pos h, if_pos h]; rfl
  · rw [if_neg h, if_neg h]
theorem nwB_2 : (nwB σ x y t).2 = σ.2 := rfl
theorem nwB_k (k i : Nat) : wk (nwB σ x y t) k i = wk σ k i := rfl
theorem nwB_h (k i : Nat) : wh (nwB σ x y t) k i = wh σ k i := rfl
theorem nwB_11 : (nwB σ x y t).1 1 1 = nI (wn σ + 1) := by
  unfold nwB
  rw [uI_1, if_neg (by omega), uI_1, if_pos ⟨rfl, rfl⟩]
theorem nwB_12 : (nwB σ x y t).1 1 2 = 0 := by
  unfold nwB
  rw [uI_1, if_pos ⟨rfl, rfl⟩]
theorem nwB_n (h : wn σ ≤ 16) : wn (nwB σ x y t) = wn σ + 1 := by
  show ((nwB σ x y t).1 1 1).toNatClampNeg = wn σ + 1
  rw [nwB_11, kc (by omega)]
/-- objects that a new boring leaves alone -/
theorem nwB_kp (h : wn σ < 16) : Kp (fun n => n = 0 ∨ oB n) σ (nwB σ x y t) := by
  unfold nwB
  refine Kp.tr ?_ (Kp.uI (Or.inr (Or.inl rfl)))
  refine Kp.tr ?_ (Kp.uI (Or.inr (Or.inl rfl)))
  refine Kp.tr ?_ (Kp.uI (Or.inr (Or.inl rfl)))
  refine Kp.tr (τ := uI σ 0 12 0) (Kp.uI (Or.inl rfl)) ?_
  rcases addB_kp (σ := uI σ 0 12 0) (m := wn σ) (x := x) (y := y) (t := t) with z | z
  · exact z.mono (fun n hn => Or.inr (Or.inr hn))
  · omega
theorem nwB_0 (k : Nat) : (nwB σ x y t).1 0 k = if k = 12 then 0 else σ.1 0 k := by
  unfold nwB
  rw [uI_1, if_neg (by omega), uI_1, if_neg (by omega), uI_1, if_neg (by omega), addB_o 0 k (by omega) (by omega), uI_1]
  by_cases h : k = 12
  · rw [if_pos ⟨rfl, h⟩, if_pos h]
  · rw [if_neg (fun z => h z.2), if_neg h]
theorem nwB_V (hv : VB σ) (hp : okP x y = true) (ht : okB (-100000) 100000 t = true) (htk : tkn σ x y = false) (h16 : wn σ ≠ 16) : VB (nwB σ x y t) := by
  obtain ⟨v1, v2, v3, v4, v5⟩ := hv
  unfold okP at hp
  rw [Bool.and_eq_true, okB_t, okB_t] at hp
  rw [okB_t] at ht
  have hn := nwB_n (σ := σ) (x := x) (y := y) (t := t) v2
  have hno : ∀ j, j < wn σ → ¬ (wx σ j = x ∧ wy σ j = y) := by
    unfold tkn at htk
    have h0 : ff (tkB σ x y) (wn σ) 0 = none := by
      cases hf : ff (tkB σ x y) (wn σ) 0 with
      | none => rfl
      | some m => rw [hf] at htk; cases htk
    intro j hj
    have := ff_none.mp h0 j (by omega) (by omega)
    exact of_decide_eq_false this
  refine ⟨by rw [hn, nwB_11], by omega, nwB_12, fun k hk => ?_, fun j k hj hk => ?_⟩
  · rw [hn] at hk
    rw [nwB_x, nwB_y, nwB_t, nwB_l4, nwB_l]
    simp only [nwB_k, nwB_h]
    by_cases h : k = wn σ
    · simp only [if_pos h]
      exact ⟨hp.1, hp.2, ht, rfl, by omega, fun i hi => by omega⟩
    · simp only [if_neg h]
      exact v4 k (by omega)
  · rw [hn] at hk
    simp only [nwB_x, nwB_y, if_neg (show ¬ j = wn σ by omega)]
    by_cases h : k = wn σ
    · simp only [if_pos h]
      exact hno j (by omega)
    · simp only [if_neg h]
      exact v5 j k hj (by omega)
end NwB
def mnB (σ : rS) (m : Nat) (x y t : Int32) : rS := uI (uI (uA (uA (uA (uA (uI σ 43 0 0) 44 m x) 45 m y) 46 m t) 47 m 0) 43 2 (nI (m + 1))) 43 1 0
theorem m_boring {τ σ : rS} (hM : MB τ σ) (hn : wn τ ≤ 16) (x y t : Int32) : fX12_boring x y t σ = if okP x y = true ∧ okB (-100000) 100000 t = true ∧ tkn τ x y = false then (if wn τ = 16 then some (0, uI σ 43 0 2) else some (nI (wn τ), mnB σ (wn τ) x y t)) else some (0, uI σ 43 0 1) := by
  have h59 : ∀ c : Int32, ¬ c ≤ 0 → jX12_boring_59 x y t c σ = some (0, uI σ 43 0 c) := by
    intro c hc
    unfold jX12_boring_59
    rw [vS_d, uI_eq, if_neg hc]
  have d10 : ((1 : Int32) = 0) = False := eq_false (by decide)
  have d00 : ((0 : Int32) = 0) = True := eq_true rfl
  have g1 := h59 1 (by decide)
  have g2 := h59 2 (by decide)
  have e1 : (nI (wn τ) = 16) = (wn τ = 16) := propext (keq (b := 16) (by omega) (by omega))
  have e0 : okB ((-100000 : Int32).toInt) ((100000 : Int32).toInt) t = okB (-100000) 100000 t := rfl
  unfold fX12_boring jX12_boring_32 jX12_boring_33
  rw [m_place, Option.bind_some]
  dsimp only
  rw [m_from, Option.bind_some]
  dsimp only
  rw [m_taken hM hn, Option.bind_some]
  unfold tkn
  simp only [bI_0, d10, d00, if_true, if_false, g1, g2, hM.1, e1, e0]
  cases hp : okP x y with
  | false => simp
  | true =>
    cases hl : okB (-100000) 100000 t with
    | false => simp
    | true =>
      cases hf : (ff (tkB τ x y) (wn τ) 0).isSome with
      | true => simp
      | false =>
        simp only [Bool.true_eq_false, if_false, if_true, and_self]
        by_cases h16 : wn τ = 16
        · rw [if_pos h16, if_pos h16]
        · rw [if_neg h16, if_neg h16]
          unfold jX12_boring_59
          have a1 : nI (wn τ) - 1 + 1 = nI (wn τ) := Int32.sub_add_cancel _ _
          have a2 : nI (wn τ) + 1 = nI (wn τ + 1) := kadd _ 1
          have a3 : nI (wn τ + 1) - 1 = nI (wn τ) := ksub (a := wn τ + 1) (b := 1) (by omega)
          have a4 : inB (nI (wn τ)) 16 = true := by rw [kinB (by omega)]; exact decide_eq_true (by omega)
          have a5 : (nI (wn τ)).toNatClampNeg = wn τ := kc (by omega)
          simp only [vS_d, uI_1, uA_1, hM.1, a4, a5, a2, a3, if_true, and_self, Nat.reduceEqDiff, and_false, and_true, if_false, false_and, true_and, Int32.le_refl]
          rfl
section MnB
variable {τ σ : rS} {x y t : Int32}
theorem mnB_M (hM : MB τ σ) (hn : wn τ ≤ 16) : MB (nwB τ x y t) (mnB σ (wn τ) x y t) := by
  have hw := nwB_n (σ := τ) (x := x) (y := y) (t := t) hn
  refine ⟨?_, fun k hk => ?_⟩
  · rw [hw]
    unfold mnB
    rw [uI_1, if_neg (by omega), uI_1, if_pos ⟨rfl, rfl⟩]
  · rw [hw] at hk
    rw [nwB_x, nwB_y, nwB_t, nwB_l]
    simp only [nwB_k, nwB_h]
    unfold mnB
    simp only [uI_2, uA_3, Nat.reduceEqDiff, false_and, if_false, true_and]
    by_cases h : k = wn τ
    · simp only [if_pos h]
      exact ⟨trivial, trivial, trivial, rfl, fun i hi => by omega⟩
    · simp only [if_neg h]
      exact hM.2 k (by omega)
theorem mnB_kp {m : Nat} : Kp isM σ (mnB σ m x y t) := by
  unfold mnB
  refine Kp.tr ?_ (Kp.uI (by omega))
  refine Kp.tr ?_ (Kp.uI (by omega))
  refine Kp.tr ?_ (Kp.uA (by omega))
  refine Kp.tr ?_ (Kp.uA (by omega))
  refine Kp.tr ?_ (Kp.uA (by omega))
  refine Kp.tr ?_ (Kp.uA (by omega))
  exact Kp.uI (by omega)
end MnB
