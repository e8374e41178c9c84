/-! layer, both halves -/
def okN (n : Nat) (a : Int32) : Bool := decide (0 ≤ a.toInt ∧ a.toInt < (n : Int))
theorem okN_t {n : Nat} {a : Int32} : okN n a = true ↔ 0 ≤ a.toInt ∧ a.toInt < (n : Int) := decide_eq_true_iff
theorem okN_i {n : Nat} {a : Int32} (h : okN n a = true) : a = nI a.toNatClampNeg ∧ a.toNatClampNeg < n := by
  have h1 := okN_t.mp h
  have h2 := i_cl h1.1
  exact ⟨i_nI h1.1, by omega⟩
theorem c_reqI {n : Nat} (hn : n < 2147483648) (a : Int32) (σ : rS) : fX11_requireIndex a (nI n) σ = some (if okN n a = true then .ok () else .error "java/lang/IndexOutOfBoundsException", σ) := by
  unfold fX11_requireIndex jX11_requireIndex_9 okN
  simp only [i_lt, ki hn, decide_eq_true_eq]
  have h0 : (0 : Int32).toInt = 0 := rfl
  rw [h0]
  by_cases h1 : a.toInt < 0
  · rw [if_pos h1, if_neg (by omega)]
  · rw [if_neg h1]
    by_cases h2 : a.toInt < n
    · rw [if_pos h2, if_pos (by omega)]
    · rw [if_neg h2, if_neg (by omega)]
theorem c_reqB {σ : rS} (hv : VB σ) (a : Int32) : fX11_requireBoring a σ = some (if okN (wn σ) a = true then .ok () else .error "java/lang/IndexOutOfBoundsException", σ) := by
  unfold fX11_requireBoring
  rw [hv.1, c_reqI (by have := hv.2.1; omega), Option.bind_some]
  cases okN (wn σ) a <;> rfl
theorem m_isB {τ σ : rS} {n : Nat} (hM : σ.1 43 2 = nI n) (hn : n ≤ 16) (a : Int32) : fX12_isBoring a σ = some (bI (okN n a), σ) := by
  unfold fX12_isBoring
  rw [hM, m_in, Option.bind_some]
  simp only [bI_01, if_true, i_le]
  have e : (nI n - 1).toInt = (n : Int) - 1 := by
    have h1 : (1 : Int32).toInt = 1 := rfl
    rw [i_sub, ki (by omega), h1] <;> rw [ki (by omega), h1] <;> omega
  rw [e]
  unfold okN
  have h0 : (0 : Int32).toInt = 0 := rfl
  rw [h0]
  have : (0 ≤ a.toInt ∧ a.toInt ≤ (n : Int) - 1) = (0 ≤ a.toInt ∧ a.toInt < (n : Int)) := propext (by omega)
  simp only [this]
def nwL (σ : rS) (b : Nat) (k v : Int32) : rS := uI (uA (uA (uI σ 0 12 0) (80 + 4 * b + 2) (wl σ b) k) (80 + 4 * b + 3) (wl σ b) v) (80 + 4 * b) 4 (nI (wl σ b + 1))
def mnL (σ : rS) (b l : Nat) (k v : Int32) : rS := uI (uA (uA (uA (uI σ 43 0 0) 48 (12 * b + l) k) 49 (12 * b + l) v) 47 b (nI (l + 1))) 43 1 0
theorem c_addL {σ : rS} {b l : Nat} (hb : b < 16) (hl : σ.1 (80 + 4 * b) 4 = nI l) (hl12 : l < 12) (k v : Int32) : fX1_addLayer (80 + 4 * b) k v σ = some ((), uI (uA (uA σ (80 + 4 * b + 2) l k) (80 + 4 * b + 3) l v) (80 + 4 * b) 4 (nI (l + 1))) := by
  unfold fX1_addLayer jX1_addLayer_39
  have q1 : isBo (80 + 4 * b) = True := eq_true (bo_ok hb)
  have q2 : isKi (80 + 4 * b + 2) = True := eq_true (ki_ok hb)
  have q3 : isTh (80 + 4 * b + 3) = True := eq_true (th_ok hb)
  have e1 : ((12 : Int32) ≤ nI l) = False := eq_false (fun z => by have := (kle (a := 12) (b := l) (by omega) (by omega)).mp z; omega)
  have e2 : inB (nI l) 12 = true := by rw [kinB (by omega)]; exact decide_eq_true hl12
  have e3 : (nI l).toNatClampNeg = l := kc (by omega)
  have e4 : nI l + 1 = nI (l + 1) := kadd l 1
  simp only [hl, q1, q2, q3, e1, e2, e3, e4, if_true, if_false, vS_d, uA_1]
theorem c_layer {σ : rS} (hv : VB σ) (a k v : Int32) : fX11_layer a k v σ = if okN (wn σ) a = true then (if okB 0 7 k = true ∧ okB 1 10000 v = true then (if wl σ a.toNatClampNeg < 12 then some (.ok (nI (wl σ a.toNatClampNeg)), nwL σ a.toNatClampNeg k v) else some (.error "java/lang/UnsupportedOperationException", σ)) else some (.error "java/lang/IllegalArgumentException", σ)) else some (.error "java/lang/IndexOutOfBoundsException", σ) := by
  unfold fX11_layer jX11_layer_19
  rw [c_reqB hv, Option.bind_some]
  cases h1 : okN (wn σ) a with
  | false => rfl
  | true =>
    obtain ⟨ea, hb⟩ := okN_i h1
    have h16 := hv.2.1
    obtain ⟨_, _, _, w4, w5, _⟩ := hv.2.2.2.1 _ hb
    generalize a.toNatClampNeg = b at *
    subst ea
    dsimp only
    rw [c_kind, Option.bind_some]
    dsimp only
    rw [c_thick, Option.bind_some]
    have q1 : isBo (80 + 4 * b) = True := eq_true (bo_ok (by omega))
    have e1 : inB (nI b) 16 = true := by rw [kinB (by omega)]; exact decide_eq_true (by omega)
    have e2 : (nI b).toNatClampNeg = b := kc (by omega)
    have e3 : (nI (wl σ b) < 12) = (wl σ b < 12) := propext (klt (b := 12) (by omega) (by omega))
    simp only [bI_0, e1, e2, q1, if_true, w4, e3, vS_d]
    have e4 : nI (wl σ b + 1) - 1 = nI (wl σ b) := ksub (a := wl σ b + 1) (b := 1) (by omega)
    have main : wl σ b < 12 → (fX1_addLayer (80 + 4 * b) k v (uI σ 0 12 0)).bind (fun q12 => some (Except.ok (ε := String) ((q12.2.1 (80 + 4 * b) 4) - 1), q12.2)) = some (.ok (nI (wl σ b)), nwL σ b k v) := by
      intro h12
      rw [c_addL (l := wl σ b) (by omega) (by rw [uI_ne (by omega)]; exact w4) h12, Option.bind_some]
      dsimp only
      rw [uI_eq, e4]
      rfl
    by_cases h12 : wl σ b < 12
    · rw [main h12]
      simp only [h12, if_true]
      cases okB 0 7 k <;> cases okB 1 10000 v <;> simp
    · simp only [h12, if_false]
      cases okB 0 7 k <;> cases okB 1 10000 v <;> simp
theorem m_layer {τ σ : rS} (hv : VB τ) (hM : MB τ σ) (a k v : Int32) : fX12_layer a k v σ = if okN (wn τ) a = true then (if okB 0 7 k = true ∧ okB 1 10000 v = true then (if wl τ a.toNatClampNeg < 12 then some (nI (wl τ a.toNatClampNeg), mnL σ a.toNatClampNeg (wl τ a.toNatClampNeg) k v) else some (0, uI σ 43 0 3)) else some (0, uI σ 43 0 2)) else some (0, uI σ 43 0 1) := by
  have h16 := hv.2.1
  have h54 : ∀ c : Int32, ¬ c ≤ 0 → jX12_layer_54 a k v c σ = some (0, uI σ 43 0 c) := by
    intro c hc
    unfold jX12_layer_54
    rw [vS_d, uI_eq, if_neg hc]
  have g1 := h54 1 (by decide)
  have g2 := h54 2 (by decide)
  have g3 := h54 3 (by decide)
  unfold fX12_layer jX12_layer_34
  rw [m_isB (τ := τ) hM.1 h16, Option.bind_some]
  dsimp only
  rw [m_from, Option.bind_some]
  dsimp only
  rw [m_from, Option.bind_some]
  have e0 : okB ((0 : Int32).toInt) ((7 : Int32).toInt) k = okB 0 7 k := rfl
  have e9 : okB ((1 : Int32).toInt) ((10000 : Int32).toInt) v = okB 1 10000 v := rfl
  simp only [bI_0, g1, g2, g3, e0, e9]
  cases h1 : okN (wn τ) a with
  | false => rfl
  | true =>
    obtain ⟨ea, hb⟩ := okN_i h1
    obtain ⟨_, _, _, w4, w5, _⟩ := hv.2.2.2.1 _ hb
    obtain ⟨_, _, _, u4, _⟩ := hM.2 _ hb
    generalize a.toNatClampNeg = b at *
    subst ea
    have e1 : inB (nI b) 16 = true := by rw [kinB (by omega)]; exact decide_eq_true (by omega)
    have e2 : (nI b).toNatClampNeg = b := kc (by omega)
    have e3 : (nI (wl τ b) = 12) = (¬ wl τ b < 12) := propext ((keq (b := 12) (by omega) (by omega)).trans (by omega))
    simp only [e1, e2, u4, e3, Bool.true_eq_false, if_true, if_false]
    have main : wl τ b < 12 → jX12_layer_54 (nI b) k v 0 σ = some (nI (wl τ b), mnL σ b (wl τ b) k v) := by
      intro h12
      unfold jX12_layer_54
      have f1 : (12 : Int32) * nI b + nI (wl τ b) = nI (12 * b + wl τ b) := by
        have : (12 : Int32) * nI b = nI (12 * b) := kmul 12 b
        rw [this, kadd]
      have f2 : inB (nI (12 * b + wl τ b)) 192 = true := by rw [kinB (by omega)]; exact decide_eq_true (by omega)
      have f3 : (nI (12 * b + wl τ b)).toNatClampNeg = 12 * b + wl τ b := kc (by omega)
      have f4 : nI (wl τ b) + 1 = nI (wl τ b + 1) := kadd _ 1
      have f5 : nI (wl τ b + 1) - 1 = nI (wl τ b) := ksub (a := wl τ b + 1) (b := 1) (by omega)
      simp only [vS_d, uI_eq, Int32.le_refl, if_true, e1, e2, uI_2, uA_3, u4, Nat.reduceEqDiff, false_and, if_false, f1, f2, f3, f4, and_self, f5]
      rfl
    by_cases h12 : wl τ b < 12
    · rw [main h12]
      simp only [h12, if_true, not_true_eq_false, if_false]
      cases okB 0 7 k <;> cases okB 1 10000 v <;> simp
    · simp only [h12, if_false, not_false_eq_true, if_true]
      cases okB 0 7 k <;> cases okB 1 10000 v <;> simp
section LayerFacts
variable {σ τ : rS} {b : Nat} {k v : Int32}
theorem nwL_I (n j : Nat) : (nwL σ b k v).1 n j = if n = 80 + 4 * b ∧ j = 4 then nI (wl σ b + 1) else if n = 0 ∧ j = 12 then 0 else σ.1 n j := by
  unfold nwL
  rw [uI_1, uA_1, uA_1, uI_1]
theorem nwL_n : wn (nwL σ b k v) = wn σ := by unfold wn; rw [nwL_I, if_neg (by omega), if_neg (by omega)]
theorem nwL_x (c : Nat) : wx (nwL σ b k v) c = wx σ c := by unfold wx; rw [nwL_I, if_neg (by omega), if_neg (by omega)]
theorem nwL_y (c : Nat) : wy (nwL σ b k v) c = wy σ c := by unfold wy; rw [nwL_I, if_neg (by omega), if_neg (by omega)]
theorem nwL_t (c : Nat) : wt (nwL σ b k v) c = wt σ c := by unfold wt; rw [nwL_I, if_neg (by omega), if_neg (by omega)]
theorem nwL_l4 (c : Nat) : (nwL σ b k v).1 (80 + 4 * c) 4 = if c = b then nI (wl σ b + 1) else σ.1 (80 + 4 * c) 4 := by
  rw [nwL_I]
  by_cases h : c = b
  · rw [if_pos ⟨by omega, rfl⟩, if_pos h]
  · rw [if_neg (by omega), if_neg (by omega), if_neg h]
theorem nwL_l (h12 : wl σ b < 12) (c : Nat) : wl (nwL σ b k v) c = if c = b then wl σ b + 1 else wl σ c := by
  unfold wl
  rw [nwL_l4]
  by_cases h : c = b
  · rw [if_pos h, if_pos h, kc (by unfold wl at h12 ⊢; omega)]; rfl
  · rw [if_neg h, if_neg h]
theorem nwL_k (c i : Nat) : wk (nwL σ b k v) c i = if c = b ∧ i = wl σ b then k else wk σ c i := by
  unfold wk nwL
  rw [uI_2, uA_ne (by omega), uA_3, uI_2]
  by_cases h : c = b ∧ i = wl σ b
  · rw [if_pos h, if_pos ⟨by omega, h.2⟩]
  · rw [if_neg h, if_neg (fun z => h ⟨by omega, z.2⟩)]
theorem nwL_h (c i : Nat) : wh (nwL σ b k v) c i = if c = b ∧ i = wl σ b then v else wh σ c i := by
  unfold wh nwL
  rw [uI_2, uA_3]
  by_cases h : c = b ∧ i = wl σ b
  · rw [if_pos h, if_pos ⟨by omega, h.2⟩]
  · rw [if_neg h, if_neg (fun z => h ⟨by omega, z.2⟩), uA_ne (by omega), uI_2]
theorem nwL_V (hv : VB σ) (hb : b < wn σ) (h12 : wl σ b < 12) (hk : okB 0 7 k = true) (ht : okB 1 10000 v = true) : VB (nwL σ b k v) := by
  obtain ⟨v1, v2, v3, v4, v5⟩ := hv
  refine ⟨?_, by rw [nwL_n]; exact v2, ?_, fun c hc => ?_, fun j c hj hc => ?_⟩
  · rw [nwL_n, nwL_I, if_neg (by omega), if_neg (by omega)]; exact v1
  · rw [nwL_I, if_neg (by omega), if_neg (by omega)]; exact v3
  · rw [nwL_n] at hc
    obtain ⟨a1, a2, a3, a4, a5, a6⟩ := v4 c hc
    rw [nwL_x, nwL_y, nwL_t, nwL_l4, nwL_l h12]
    refine ⟨a1, a2, a3, ?_, ?_, fun i hi => ?_⟩
    · by_cases h : c = b
      · rw [if_pos h, if_pos h]
      · rw [if_neg h, if_neg h]; exact a4
    · by_cases h : c = b
      · rw [if_pos h]; omega
      · rw [if_neg h]; exact a5
    · rw [nwL_k, nwL_h]
      by_cases h : c = b
      · subst h
        rw [if_pos rfl] at hi
        by_cases h2 : i = wl σ c
        · rw [if_pos ⟨rfl, h2⟩, if_pos ⟨rfl, h2⟩]
          exact ⟨okB_t.mp hk, okB_t.mp ht⟩
        · rw [if_neg (fun z => h2 z.2), if_neg (fun z => h2 z.2)]
          exact a6 i (by omega)
      · rw [if_neg h] at hi
        rw [if_neg (fun z => h z.1), if_neg (fun z => h z.1)]
        exact a6 i hi
  · rw [nwL_n] at hc
    rw [nwL_x, nwL_x, nwL_y, nwL_y]
    exact v5 j c hj hc
theorem mnL_M (hv : VB τ) (hM : MB τ σ) (hb : b < wn τ) (h12 : wl τ b < 12) : MB (nwL τ b k v) (mnL σ b (wl τ b) k v) := by
  refine ⟨?_, fun c hc => ?_⟩
  · rw [nwL_n]
    unfold mnL
    rw [uI_nj (by omega), uA_1, uA_1, uA_1, uI_nj (by omega)]
    exact hM.1
  · rw [nwL_n] at hc
    obtain ⟨a1, a2, a3, a4, a5⟩ := hM.2 c hc
    have hl := (hv.2.2.2.1 c hc).2.2.2.2.1
    rw [nwL_x, nwL_y, nwL_t, nwL_l h12]
    unfold mnL
    simp only [uI_2, uA_3, Nat.reduceEqDiff, false_and, if_false, true_and, nwL_k, nwL_h]
    refine ⟨a1, a2, a3, ?_, fun i hi => ?_⟩
    · by_cases h : c = b
      · rw [if_pos h, if_pos h]
      · rw [if_neg h, if_neg h]; exact a4
    · by_cases h : c = b
      · subst h
        rw [if_pos rfl] at hi
        by_cases h2 : i = wl τ c
        · subst h2
          simp
        · simp only [h2, and_false, if_false, show ¬ 12 * c + i = 12 * c + wl τ c by omega]
          exact a5 i (by omega)
      · rw [if_neg h] at hi
        have := h12
        simp only [h, false_and, if_false, show ¬ 12 * c + i = 12 * b + wl τ b by omega]
        exact a5 i hi
theorem nwL_kp (hb : b < 16) : Kp (fun n => n = 0 ∨ oB n) σ (nwL σ b k v) := by
  unfold nwL
  refine Kp.tr ?_ (Kp.uI (by omega))
  refine Kp.tr ?_ (Kp.uA (by omega))
  refine Kp.tr ?_ (Kp.uA (by omega))
  exact Kp.uI (by omega)
theorem nwL_0 (j : Nat) : (nwL σ b k v).1 0 j = if j = 12 then 0 else σ.1 0 j := by
  rw [nwL_I, if_neg (by omega)]
  by_cases h : j = 12
  · rw [if_pos ⟨rfl, h⟩, if_pos h]
  · rw [if_neg (fun z => h z.2), if_neg h]
theorem mnL_kp {l : Nat} : Kp isM σ (mnL σ b l k v) := by
  unfold mnL
  refine Kp.tr ?_ (Kp.uI (by omega))
  refine Kp.tr ?_ (Kp.uA (by omega))
  refine Kp.tr ?_ (Kp.uA (by omega))
  refine Kp.tr ?_ (Kp.uA (by omega))
  exact Kp.uI (by omega)
end LayerFacts
