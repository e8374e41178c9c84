/-- the store with one more boring -/
def addB (σ : rS) (m : Nat) (x y t : Int32) : rS := uI (uI (uI (uI σ (80 + 4 * m + 1) 0 x) (80 + 4 * m + 1) 1 y) (80 + 4 * m) 3 t) (80 + 4 * m) 4 0
section AddB
variable {σ : rS} {m : Nat} {x y t : Int32}
theorem addB_x (k : Nat) : wx (addB σ m x y t) k = if k = m then x else wx σ k := by
  unfold wx addB
  simp only [uI_1]
  grind
theorem addB_y (k : Nat) : wy (addB σ m x y t) k = if k = m then y else wy σ k := by
  unfold wy addB
  simp only [uI_1]
  grind
theorem addB_t (k : Nat) : wt (addB σ m x y t) k = if k = m then t else wt σ k := by
  unfold wt addB
  simp only [uI_1]
  grind
theorem addB_l4 (k : Nat) : (addB σ m x y t).1 (80 + 4 * k) 4 = if k = m then 0 else σ.1 (80 + 4 * k) 4 := by
  unfold addB
  simp only [uI_1]
  grind
theorem addB_l (k : Nat) : wl (addB σ m x y t) k = if k = m then 0 else wl σ k := by
  unfold wl
  rw [addB_l4]
  by_cases h : k = m
  · rw [if_pos h, if_pos h]; rfl
  · rw [if_neg h, if_neg h]
theorem addB_2 : (addB σ m x y t).2 = σ.2 := rfl
theorem addB_o (n j : Nat) (h : n ≠ 80 + 4 * m) (h2 : n ≠ 80 + 4 * m + 1) : (addB σ m x y t).1 n j = σ.1 n j := by
  unfold addB
  simp only [uI_1]
  grind
theorem addB_kp : Kp (fun n => 80 ≤ n ∧ n < 144) σ (addB σ m x y t) ∨ 16 ≤ m := by
  by_cases h : m < 16
  · refine Or.inl ?_
    unfold addB
    exact ((Kp.uI (by omega)).tr (Kp.uI (by omega))).tr ((Kp.uI (by omega)).tr (Kp.uI (by omega)))
  · exact Or.inr (by omega)
end AddB
theorem c_full {σ : rS} {m : Nat} (hm : σ.1 1 1 + σ.1 1 2 = nI m) (hm16 : m ≤ 16) : fX2_isFull σ = some (bI (decide (m = 16)), σ) := by
  unfold fX2_isFull jX2_isFull_19
  rw [hm]
  have e : (nI m < 16) = (m < 16) := propext (klt (b := 16) (by omega) (by omega))
  simp only [e]
  by_cases h : m < 16
  · rw [if_pos h, decide_eq_false (by omega)]; rfl
  · rw [if_neg h, decide_eq_true (by omega)]; rfl
theorem c_stage {σ : rS} {m s : Nat} (hm : σ.1 1 1 + σ.1 1 2 = nI m) (hs : σ.1 1 2 = nI s) (hm16 : m < 16) (x y t : Int32) : fX2_stage x y t σ = some ((), uI (addB σ m x y t) 1 2 (nI (s + 1))) := by
  unfold fX2_stage
  rw [c_full hm (by omega), Option.bind_some, decide_eq_false (by omega)]
  dsimp only
  rw [hm, kinB (by omega), decide_eq_true hm16, kc (by omega)]
  simp only [bI_f, if_true, if_pos (bo_ok hm16), fX1_begin, fX7_moveTo, if_pos (pl_ok hm16), vS_d, Option.bind_some, jX2_stage_37]
  show some ((), uI (addB σ m x y t) 1 2 ((addB σ m x y t).1 1 2 + 1)) = _
  rw [addB_o 1 2 (by omega) (by omega), hs]
  have : nI s + 1 = nI (s + 1) := kadd s 1
  rw [this]
def nwB (σ : rS) (x y t : Int32) : rS := uI (uI (uI (addB (uI σ 0 12 0) (wn σ) x y t) 1 2 1) 1 1 (nI (wn σ + 1))) 1 2 0
def tkn (σ : rS) (x y : Int32) : Bool := (ff (tkB σ x y) (wn σ) 0).isSome
theorem wn_uI0 (σ : rS) (v : Int32) (k : Nat) : wn (uI σ 0 k v) = wn σ := by unfold wn; rw [uI_1, if_neg (by omega)]
theorem c_boring {σ : rS} (hv : VB σ) (x y t : Int32) : fX11_boring x y t σ = if okP x y = true ∧ okB (-100000) 100000 t = true ∧ tkn σ x y = false then (if wn σ = 16 then some (.error "java/lang/UnsupportedOperationException", σ) else some (.ok (nI (wn σ)), nwB σ x y t)) else some (.error "java/lang/IllegalArgumentException", σ) := by
  obtain ⟨v1, v2, v3, v4, v5⟩ := hv
  have hm : σ.1 1 1 + σ.1 1 2 = nI (wn σ) := by rw [v1, v3]; exact kadd _ 0
  unfold fX11_boring jX11_boring_28
  rw [c_place, Option.bind_some]
  simp only [bI_0]
  cases hp : okP x y with
  | false => simp
  | true =>
    have hp2 := hp
    unfold okP at hp2
    rw [Bool.and_eq_true, okB_t, okB_t] at hp2
    rw [if_neg (by decide), c_level, Option.bind_some]
    simp only [bI_0]
    cases hl : okB (-100000) 100000 t with
    | false => simp
    | true =>
      rw [if_neg (by decide), c_numAt hm v2 (fun k hk => ⟨(v4 k hk).1, (v4 k hk).2.1⟩) hp2.1 hp2.2, Option.bind_some]
      have hlt : ∀ m, ff (tkB σ x y) (wn σ) 0 = some m → m < 2147483648 := fun m hm => by
        have := ff_some hm
        omega
      simp only [oI_1 hlt]
      unfold tkn
      cases hf : ff (tkB σ x y) (wn σ) 0 with
      | some m => simp
      | none =>
        rw [if_pos rfl, c_full hm v2, Option.bind_some]
        simp only [bI_0]
        by_cases h16 : wn σ = 16
        · simp [h16]
        · rw [if_pos (decide_eq_false h16), if_pos ⟨trivial, trivial, rfl⟩, if_neg h16, vS_d]
          have e0 : (uI σ 0 12 0).1 1 1 + (uI σ 0 12 0).1 1 2 = nI (wn σ) := by rw [uI_1, uI_1, if_neg (by omega), if_neg (by omega)]; exact hm
          have e1 : (uI σ 0 12 0).1 1 2 = nI 0 := by rw [uI_1, if_neg (by omega)]; exact v3
          rw [c_stage e0 e1 (by omega), Option.bind_some]
          unfold fX2_keepStaged
          simp only [vS_d, Option.bind_some]
          have e2 : (uI (addB (uI σ 0 12 0) (wn σ) x y t) 1 2 (nI (0 + 1))).1 1 1 = nI (wn σ) := by
            rw [uI_1, if_neg (by omega), addB_o 1 1 (by omega) (by omega), uI_1, if_neg (by omega)]
            exact v1
          have e3 : (uI (addB (uI σ 0 12 0) (wn σ) x y t) 1 2 (nI (0 + 1))).1 1 2 = nI 1 := by
            rw [uI_1, if_pos ⟨rfl, rfl⟩]
          rw [e2, e3, kadd]
          have e4 : (uI (uI (uI (addB (uI σ 0 12 0) (wn σ) x y t) 1 2 (nI (0 + 1))) 1 1 (nI (wn σ + 1))) 1 2 0).1 1 1 = nI (wn σ + 1) := by
            rw [uI_1, if_neg (by omega), uI_1, if_pos ⟨rfl, rfl⟩]
          rw [e4]
          have e5 : nI (wn σ + 1) - 1 = nI (wn σ) := ksub (a := wn σ + 1) (b := 1) (by omega)
          rw [e5]
          rfl
