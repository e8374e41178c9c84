/-! WHAT write SAYS, AND letter. -/
theorem ndg_le {m b : Nat} (h : m < 10 ^ b) (h1 : 1 ≤ b) (hb : b ≤ 6) (hm : m < 1000000) : nd m ≤ b := by
  have := nd_pow h1 hb hm
  omega
theorem dig_l {v : Int32} {b : Nat} (h : ab v < 10 ^ b) (h1 : 1 ≤ b) (hb : b ≤ 6) (hm : ab v < 1000000) : (dig v).length ≤ b + 1 ∧ (¬ v < 0 → (dig v).length ≤ b) := by
  have := ndg_le h h1 hb hm
  by_cases c : v < 0
  · rw [dig_n c, List.length_cons, dgE_len]; exact ⟨by omega, fun z => absurd c z⟩
  · rw [dig_p c, dgE_len]; exact ⟨by omega, fun _ => this⟩
theorem ab_b {v : Int32} {b : Nat} (h : okR (-(b : Int)) b v) : ab v ≤ b := by unfold ab; unfold okR at h; omega
theorem nn_b {v : Int32} {lo : Nat} {hi : Int} (h : okR lo hi v) : ¬ v < 0 := by
  have e0 : (0 : Int32).toInt = 0 := rfl
  rw [i_lt]; unfold okR at h; omega
theorem dig_x {v : Int32} (h : okR (-1000) 1000 v) : (dig v).length ≤ 5 := by
  have := ab_b (b := 1000) h
  exact (dig_l (b := 4) (by show ab v < 10000; omega) (by omega) (by omega) (by omega)).1
theorem dig_k {v : Int32} (h : okR 0 7 v) : (dig v).length ≤ 1 := by
  have := ab_b (b := 7) (v := v) ⟨by have := h.1; omega, h.2⟩
  exact (dig_l (b := 1) (by show ab v < 10; omega) (by omega) (by omega) (by omega)).2 (nn_b (lo := 0) h)
theorem dig_h {v : Int32} (h : okR 1 10000 v) : (dig v).length ≤ 5 := by
  have := ab_b (b := 10000) (v := v) ⟨by have := h.1; omega, h.2⟩
  exact (dig_l (b := 5) (by show ab v < 100000; omega) (by omega) (by omega) (by omega)).2 (nn_b (lo := 1) h)
theorem ok_w {lo hi : Int} {v : Int32} (h : okR lo hi v) (h1 : -100000 ≤ lo) (h2 : hi ≤ 100000) : okR (-100000) 100000 v := ⟨by have := h.1; omega, by have := h.2; omega⟩
def wtl (τ : rS) (k : Nat) : Nat → Nat → List Int32
  | 0, _ => [32, 101]
  | r + 1, i => (32 :: dig (wk τ k i)) ++ ((32 :: dig (wh τ k i)) ++ wtl τ k r (i + 1))
def wtx (τ : rS) (k : Nat) : List Int32 := 98 :: ((32 :: dig (wx τ k)) ++ ((32 :: dig (wy τ k)) ++ ((32 :: dig (wt τ k)) ++ wtl τ k (wl τ k) 0)))
theorem c_wl {τ : rS} (hB : VB τ) {k : Nat} (hk : k < wn τ) : ∀ (r i fuel : Nat) (σ : rS) (s : List Int32), i + r = wl τ k → r < fuel → Sb τ σ → Tx σ s → s.length + 8 * r + 2 ≤ 142 → ∃ σ', lX1_writeTo_39 fuel (80 + 4 * k) (nI i) σ = some ((), σ') ∧ Tx σ' (s ++ wtl τ k r i) ∧ Sb τ σ' := by
  have h16 := hB.2.1
  obtain ⟨b1, b2, b3, b4, b5, b6⟩ := hB.2.2.2.1 k hk
  intro r
  induction r with
  | zero =>
    intro i fuel σ s hi hf hS hT hs
    obtain ⟨fu, rfl⟩ : ∃ fu, fuel = fu + 1 := ⟨fuel - 1, by omega⟩
    obtain ⟨σ1, e1, t1, s1⟩ := c_app hT (by omega) (c := 32) ⟨by decide, by decide⟩
    have l1 : (s ++ [(32 : Int32)]).length = s.length + 1 := by rw [List.length_append]; rfl
    obtain ⟨σ2, e2, t2, s2⟩ := c_app t1 (by omega) (c := 101) ⟨by decide, by decide⟩
    rw [lX1_writeTo_39, if_pos (bo_ok (by omega)), (hS.1 (80 + 4 * k) (by omega)).1 4, b4, if_pos (by rw [kle (by omega) (by omega)]; omega), e1, Option.bind_some]
    dsimp only
    rw [e2, Option.bind_some]
    rw [List.append_assoc] at t2
    exact ⟨σ2, rfl, t2, hS.tr (s1.tr s2)⟩
  | succ r ih =>
    intro i fuel σ s hi hf hS hT hs
    obtain ⟨fu, rfl⟩ : ∃ fu, fuel = fu + 1 := ⟨fuel - 1, by omega⟩
    have c := b6 i (by omega)
    have d1 := dig_k c.1
    have d2 := dig_h c.2
    obtain ⟨σ1, e1, t1, s1⟩ := c_apn hT (ok_w c.1 (by omega) (by omega)) (by omega)
    have l1 : (s ++ 32 :: dig (wk τ k i)).length = s.length + ((dig (wk τ k i)).length + 1) := by rw [List.length_append]; rfl
    obtain ⟨σ2, e2, t2, s2⟩ := c_apn t1 (ok_w c.2 (by omega) (by omega)) (by omega)
    have l2 : (s ++ 32 :: dig (wk τ k i) ++ 32 :: dig (wh τ k i)).length = s.length + ((dig (wk τ k i)).length + 1) + ((dig (wh τ k i)).length + 1) := by rw [List.length_append, l1]; rfl
    have S2 := hS.tr (s1.tr s2)
    obtain ⟨σ3, e3, t3, s3⟩ := ih (i + 1) fu σ2 _ (by omega) (by omega) S2 t2 (by omega)
    have x1 : σ.2.2.1 (80 + 4 * k + 2) i = wk τ k i := (hS.1 (80 + 4 * k + 2) (by omega)).2.2 i
    have x2 : σ1.2.2.1 (80 + 4 * k + 3) i = wh τ k i := ((hS.tr s1).1 (80 + 4 * k + 3) (by omega)).2.2 i
    have en : nI i + 1 = nI (i + 1) := kadd _ 1
    rw [lX1_writeTo_39, if_pos (bo_ok (by omega)), (hS.1 (80 + 4 * k) (by omega)).1 4, b4, if_neg (by rw [kle (by omega) (by omega)]; omega), if_pos (bo_ok (by omega)), if_pos (ki_ok (by omega)), kinB (by omega), decide_eq_true (by omega), if_pos rfl, kc (by omega), x1, e1, Option.bind_some]
    dsimp only
    rw [if_pos (bo_ok (by omega)), if_pos (th_ok (by omega)), if_pos rfl, x2, e2, Option.bind_some]
    dsimp only
    rw [vI_d, en, e3]
    rw [List.append_assoc, List.append_assoc] at t3
    exact ⟨σ3, rfl, t3, s3⟩
theorem c_write {τ : rS} (hB : VB τ) {k : Nat} (hk : k < wn τ) {σ : rS} (hS : Sb τ σ) (hT : Tx σ []) : ∃ σ', fX1_writeTo (80 + 4 * k) σ = some ((), σ') ∧ Tx σ' (wtx τ k) ∧ Sb τ σ' := by
  have h16 := hB.2.1
  obtain ⟨b1, b2, b3, b4, b5, b6⟩ := hB.2.2.2.1 k hk
  have d1 := dig_x b1
  have d2 := dig_x b2
  have d3 := dig_7 (wt τ k)
  obtain ⟨σ1, e1, t1, s1⟩ := c_app hT (by show 0 + 1 ≤ 142; omega) (c := 98) ⟨by decide, by decide⟩
  have l1 : ([] ++ [(98 : Int32)]).length = 1 := rfl
  have S1 := hS.tr s1
  obtain ⟨σ2, e2, t2, s2⟩ := c_apn t1 (ok_w b1 (by omega) (by omega)) (by omega)
  have l2 : ([] ++ [(98 : Int32)] ++ 32 :: dig (wx τ k)).length = 1 + ((dig (wx τ k)).length + 1) := by rw [List.length_append, l1]; rfl
  have S2 := S1.tr s2
  obtain ⟨σ3, e3, t3, s3⟩ := c_apn t2 (ok_w b2 (by omega) (by omega)) (by omega)
  have l3 : ([] ++ [(98 : Int32)] ++ 32 :: dig (wx τ k) ++ 32 :: dig (wy τ k)).length = 1 + ((dig (wx τ k)).length + 1) + ((dig (wy τ k)).length + 1) := by rw [List.length_append, l2]; rfl
  have S3 := S2.tr s3
  obtain ⟨σ4, e4, t4, s4⟩ := c_apn t3 b3 (by omega)
  have l4 : ([] ++ [(98 : Int32)] ++ 32 :: dig (wx τ k) ++ 32 :: dig (wy τ k) ++ 32 :: dig (wt τ k)).length = 1 + ((dig (wx τ k)).length + 1) + ((dig (wy τ k)).length + 1) + ((dig (wt τ k)).length + 1) := by rw [List.length_append, l3]; rfl
  have S4 := S3.tr s4
  obtain ⟨σ5, e5, t5, s5⟩ := c_wl hB hk (wl τ k) 0 13 σ4 _ (by omega) (by omega) S4 t4 (by omega)
  have x1 : σ1.1 (80 + 4 * k + 1) 0 = wx τ k := (S1.1 (80 + 4 * k + 1) (by omega)).1 0
  have x2 : σ2.1 (80 + 4 * k + 1) 1 = wy τ k := (S2.1 (80 + 4 * k + 1) (by omega)).1 1
  have x3 : σ3.1 (80 + 4 * k) 3 = wt τ k := (S3.1 (80 + 4 * k) (by omega)).1 3
  have bo := bo_ok (k := k) (by omega)
  have pl := pl_ok (k := k) (by omega)
  unfold fX1_writeTo
  rw [e1, Option.bind_some]
  dsimp only
  rw [if_pos bo, if_pos pl, x1, e2, Option.bind_some]
  dsimp only
  rw [if_pos bo, if_pos pl, x2, e3, Option.bind_some]
  dsimp only
  rw [if_pos bo, x3, e4, Option.bind_some]
  dsimp only
  refine ⟨σ5, e5, ?_, s5⟩
  rw [List.append_assoc, List.append_assoc, List.append_assoc] at t5
  exact t5
theorem m_wl {τ : rS} (hB : VB τ) {k : Nat} (hk : k < wn τ) {υ : rS} (hM : MB τ υ) : ∀ (r i fuel : Nat) (σ : rS) (s : List Int32), i + r = wl τ k → r < fuel → Sm υ σ → Tm σ s → s.length + 8 * r + 2 ≤ 142 → ∃ σ', lX12_write_69 fuel (nI k) (nI i) σ = some (σ'.1 43 37, σ') ∧ Tm σ' (s ++ wtl τ k r i) ∧ Sm υ σ' := by
  have h16 := hB.2.1
  obtain ⟨b1, b2, b3, b4, b5, b6⟩ := hB.2.2.2.1 k hk
  obtain ⟨m1, m2, m3, m4, m5⟩ := hM.2 k hk
  have e12 : ∀ i, (12 : Int32) * nI k + nI i = nI (12 * k + i) := fun i => by
    show nI 12 * nI k + nI i = _
    rw [kmul, kadd]
  intro r
  induction r with
  | zero =>
    intro i fuel σ s hi hf hS hT hs
    obtain ⟨fu, rfl⟩ : ∃ fu, fuel = fu + 1 := ⟨fuel - 1, by omega⟩
    obtain ⟨σ1, e1, t1, s1⟩ := m_say hT (by omega) (c := 32) ⟨by decide, by decide⟩
    have l1 : (s ++ [(32 : Int32)]).length = s.length + 1 := by rw [List.length_append]; rfl
    obtain ⟨σ2, e2, t2, s2⟩ := m_say t1 (by omega) (c := 101) ⟨by decide, by decide⟩
    have x0 : σ.2.2.1 47 k = nI (wl τ k) := ((hS.1.1 47 (by omega)).2.2 k).trans m4
    rw [lX12_write_69, kinB (by omega), decide_eq_true (by omega), if_pos rfl, kc (by omega), x0, if_pos (by rw [kle (by omega) (by omega)]; omega), e1, Option.bind_some]
    dsimp only
    rw [e2, Option.bind_some]
    rw [List.append_assoc] at t2
    exact ⟨σ2, rfl, t2, hS.tr (s1.tr s2)⟩
  | succ r ih =>
    intro i fuel σ s hi hf hS hT hs
    obtain ⟨fu, rfl⟩ : ∃ fu, fuel = fu + 1 := ⟨fuel - 1, by omega⟩
    have c := b6 i (by omega)
    have d1 := dig_k c.1
    have d2 := dig_h c.2
    obtain ⟨σ1, e1, t1, s1⟩ := m_num (ok_w c.1 (by omega) (by omega)) hT (by omega)
    have l1 : (s ++ 32 :: dig (wk τ k i)).length = s.length + ((dig (wk τ k i)).length + 1) := by rw [List.length_append]; rfl
    obtain ⟨σ2, e2, t2, s2⟩ := m_num (ok_w c.2 (by omega) (by omega)) t1 (by omega)
    have l2 : (s ++ 32 :: dig (wk τ k i) ++ 32 :: dig (wh τ k i)).length = s.length + ((dig (wk τ k i)).length + 1) + ((dig (wh τ k i)).length + 1) := by rw [List.length_append, l1]; rfl
    have S2 := hS.tr (s1.tr s2)
    obtain ⟨σ3, e3, t3, s3⟩ := ih (i + 1) fu σ2 _ (by omega) (by omega) S2 t2 (by omega)
    have x0 : σ.2.2.1 47 k = nI (wl τ k) := ((hS.1.1 47 (by omega)).2.2 k).trans m4
    have x1 : σ.2.2.1 48 (12 * k + i) = wk τ k i := ((hS.1.1 48 (by omega)).2.2 _).trans (m5 i (by omega)).1
    have x2 : σ1.2.2.1 49 (12 * k + i) = wh τ k i := (((hS.tr s1).1.1 49 (by omega)).2.2 _).trans (m5 i (by omega)).2
    have en : nI i + 1 = nI (i + 1) := kadd _ 1
    rw [lX12_write_69, kinB (by omega), decide_eq_true (by omega), if_pos rfl, kc (by omega), x0, if_neg (by rw [kle (by omega) (by omega)]; omega), e12, kinB (by omega), decide_eq_true (by omega), if_pos rfl, kc (by omega), x1, e1, Option.bind_some]
    dsimp only
    rw [if_pos rfl, x2, e2, Option.bind_some]
    dsimp only
    rw [vI_d, en, e3]
    rw [List.append_assoc, List.append_assoc] at t3
    exact ⟨σ3, rfl, t3, s3⟩
theorem m_write {τ : rS} (hB : VB τ) {k : Nat} (hk : k < wn τ) {υ : rS} (hM : MB τ υ) : ∃ σ', jX12_write_14 (nI k) 0 υ = some (σ'.1 43 37, σ') ∧ Tm σ' (wtx τ k) ∧ Sm (uI υ 43 0 0) σ' := by
  have h16 := hB.2.1
  obtain ⟨b1, b2, b3, b4, b5, b6⟩ := hB.2.2.2.1 k hk
  have M1 : MB τ (uI υ 43 0 0) := MB.mo (υ := υ) (uI_nj (by omega)) (fun n _ _ k => rfl) hM
  obtain ⟨m1, m2, m3, m4, m5⟩ := M1.2 k hk
  have d1 := dig_x b1
  have d2 := dig_x b2
  have d3 := dig_7 (wt τ k)
  have T0 : Tm (uI (uI υ 43 0 0) 43 37 0) [] := ⟨by rw [uI_eq]; rfl, fun k hk => absurd hk (by show ¬ k < 0; omega)⟩
  have S0 : Sm (uI υ 43 0 0) (uI (uI υ 43 0 0) 43 37 0) := ⟨Kp.uI (by omega), fun j hj => uI_nj hj⟩
  have z0 : (uI υ 43 0 0).1 43 0 ≤ 0 := by rw [uI_eq]; decide
  unfold jX12_write_14
  rw [vS_d, if_pos z0, vS_d]
  generalize uI (uI υ 43 0 0) 43 37 0 = σ0 at T0 S0
  generalize uI υ 43 0 0 = ρ at M1 m1 m2 m3 m4 m5 S0
  obtain ⟨σ1, e1, t1, s1⟩ := m_say T0 (by show 0 < 200; omega) (c := 98) ⟨by decide, by decide⟩
  have l1 : ([] ++ [(98 : Int32)]).length = 1 := rfl
  have S1 := S0.tr s1
  obtain ⟨σ2, e2, t2, s2⟩ := m_num (ok_w b1 (by omega) (by omega)) t1 (by omega)
  have l2 : ([] ++ [(98 : Int32)] ++ 32 :: dig (wx τ k)).length = 1 + ((dig (wx τ k)).length + 1) := by rw [List.length_append, l1]; rfl
  have S2 := S1.tr s2
  obtain ⟨σ3, e3, t3, s3⟩ := m_num (ok_w b2 (by omega) (by omega)) t2 (by omega)
  have l3 : ([] ++ [(98 : Int32)] ++ 32 :: dig (wx τ k) ++ 32 :: dig (wy τ k)).length = 1 + ((dig (wx τ k)).length + 1) + ((dig (wy τ k)).length + 1) := by rw [List.length_append, l2]; rfl
  have S3 := S2.tr s3
  obtain ⟨σ4, e4, t4, s4⟩ := m_num b3 t3 (by omega)
  have l4 : ([] ++ [(98 : Int32)] ++ 32 :: dig (wx τ k) ++ 32 :: dig (wy τ k) ++ 32 :: dig (wt τ k)).length = 1 + ((dig (wx τ k)).length + 1) + ((dig (wy τ k)).length + 1) + ((dig (wt τ k)).length + 1) := by rw [List.length_append, l3]; rfl
  have S4 := S3.tr s4
  obtain ⟨σ5, e5, t5, s5⟩ := m_wl hB hk M1 (wl τ k) 0 1000 σ4 _ (by omega) (by omega) S4 t4 (by omega)
  have x1 : σ1.2.2.1 44 k = wx τ k := ((S1.1.1 44 (by omega)).2.2 k).trans m1
  have x2 : σ2.2.2.1 45 k = wy τ k := ((S2.1.1 45 (by omega)).2.2 k).trans m2
  have x3 : σ3.2.2.1 46 k = wt τ k := ((S3.1.1 46 (by omega)).2.2 k).trans m3
  rw [e1, Option.bind_some]
  dsimp only
  rw [kinB (by omega), decide_eq_true (by omega), if_pos rfl, kc (by omega), x1, e2, Option.bind_some]
  dsimp only
  rw [if_pos rfl, x2, e3, Option.bind_some]
  dsimp only
  rw [if_pos rfl, x3, e4, Option.bind_some]
  dsimp only
  refine ⟨σ5, e5, ?_, s5⟩
  rw [List.append_assoc, List.append_assoc, List.append_assoc] at t5
  exact t5
