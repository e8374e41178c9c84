/-! water, doubt, unit: both halves -/
def wkB (σ : rS) (b w : Int32) (j : Nat) : Bool := decide (σ.2.2.1 7 j = b ∧ σ.2.2.1 8 j = w)
theorem find_loop {σ : rS} {n : Nat} (hn : σ.1 6 3 = nI n) (h60 : n ≤ 60) (b w : Int32) : ∀ (r k fuel : Nat), k + r = n → r < fuel → lX10_find_2 fuel b w (nI k) σ = some (oI (ff (wkB σ b w) r k), σ) := by
  intro r
  induction r with
  | zero =>
    intro k fuel hk hf
    obtain ⟨f, rfl⟩ : ∃ f, fuel = f + 1 := ⟨fuel - 1, by omega⟩
    rw [lX10_find_2, hn, if_pos ((kle (by omega) (by omega)).mpr (by omega))]
    rfl
  | succ r ih =>
    intro k fuel hk hf
    obtain ⟨f, rfl⟩ : ∃ f, fuel = f + 1 := ⟨fuel - 1, by omega⟩
    have e1 : inB (nI k) 60 = true := by rw [kinB (by omega)]; exact decide_eq_true (by omega)
    have e2 : nI k + 1 = nI (k + 1) := kadd k 1
    have e3 := ih (k + 1) f (by omega) (by omega)
    rw [lX10_find_2, hn, if_neg (fun z => by rw [kle (by omega) (by omega)] at z; omega), kc (by omega), ff]
    simp only [e1, if_true, jX10_find_32, vI_d, e2, e3]
    unfold wkB
    by_cases a1 : σ.2.2.1 7 k = b <;> by_cases a2 : σ.2.2.1 8 k = w <;> simp [a1, a2, oI]
theorem c_find {σ : rS} (hv : VW σ) (b w : Int32) : fX10_find b w σ = some (oI (ff (wkB σ b w) (ww σ) 0), σ) := by
  unfold fX10_find
  exact find_loop hv.1 hv.2.1 b w (ww σ) 0 1000 (by omega) (by have := hv.2.1; omega)
def pW (σ : rS) (m : Nat) (b w l : Int32) : rS := uA (uA (uA σ 7 m b) 8 m w) 9 m l
/-- where a level goes: none if all rows are full -/
def wpl (σ : rS) (b w : Int32) : Nat := match ff (wkB σ b w) (ww σ) 0 with | some m => m | none => ww σ
def nwW (σ : rS) (b w l : Int32) : rS := pW (uI σ 6 3 (nI (if wpl σ b w = ww σ then ww σ + 1 else ww σ))) (wpl σ b w) b w l
theorem wpl_le (σ : rS) (b w : Int32) : wpl σ b w ≤ ww σ := by
  unfold wpl
  cases h : ff (wkB σ b w) (ww σ) 0 with
  | none => exact Nat.le_refl _
  | some m => have := ff_some h; dsimp only; omega
theorem uI_id {σ : rS} {n k : Nat} {v : Int32} (h : σ.1 n k = v) : uI σ n k v = σ := by
  unfold uI
  have : va_up σ.1 n (va_up (σ.1 n) k v) = σ.1 := by
    funext m
    by_cases hm : m = n
    · subst hm
      rw [va_up_self]
      funext j
      by_cases hj : j = k
      · subst hj
        rw [va_up_self]; exact h.symm
      · rw [va_up_ne _ _ hj]
    · rw [va_up_ne _ _ hm]
  rw [this]
theorem c_put {σ : rS} (hv : VW σ) (b w l : Int32) : fX10_put b w l σ = if wpl σ b w < 60 then some (1, nwW σ b w l) else some (0, σ) := by
  have h60 := hv.2.1
  unfold fX10_put
  rw [c_find hv, Option.bind_some, vI_d]
  have hlt : ∀ m, ff (wkB σ b w) (ww σ) 0 = some m → m < 2147483648 := fun m hm => by
    have := ff_some hm
    omega
  simp only [oI_1 hlt, hv.1]
  have e1 : (nI (ww σ) < 60) = (ww σ < 60) := propext (klt (b := 60) (by omega) (by omega))
  have e2 : nI (ww σ) + 1 = nI (ww σ + 1) := kadd _ 1
  have h41 : ∀ (υ : rS) (m : Nat), m < 60 → jX10_put_41 b w l (nI m) υ = some (1, pW υ m b w l) := by
    intro υ m hm
    unfold jX10_put_41
    have e1 : inB (nI m) 60 = true := by rw [kinB (by omega)]; exact decide_eq_true (by omega)
    have e2 : (nI m).toNatClampNeg = m := kc (by omega)
    simp only [e1, e2, if_true, vS_d]
    rfl
  unfold nwW wpl
  cases hf : ff (wkB σ b w) (ww σ) 0 with
  | none =>
    dsimp only
    rw [if_pos rfl]
    simp only [e1, vI_d, vS_d, e2]
    by_cases h : ww σ < 60
    · rw [if_pos h, if_pos h, h41 _ _ h, if_pos trivial]
    · rw [if_neg h, if_neg h]
  | some m =>
    have hm := ff_some hf
    dsimp only
    rw [if_neg (by intro z; cases z), if_pos (by omega)]
    show jX10_put_41 b w l (nI m) σ = _
    rw [h41 _ _ (by omega), if_neg (by omega), uI_id hv.1]
theorem c_has {σ : rS} (hv : VB σ) (a : Int32) : fX2_has a σ = some (bI (okN (wn σ) a), σ) := by
  have h16 := hv.2.1
  unfold fX2_has jX2_has_16 jX2_has_17 okN
  rw [hv.1]
  simp only [i_lt, i_le, ki (show wn σ < 2147483648 by omega)]
  have h0 : (0 : Int32).toInt = 0 := rfl
  rw [h0]
  by_cases h1 : a.toInt < 0
  · rw [if_pos h1, if_pos (by decide), decide_eq_false (by omega)]; rfl
  · rw [if_neg h1]
    by_cases h2 : (wn σ : Int) ≤ a.toInt
    · rw [if_pos h2, if_pos (by decide), decide_eq_false (by omega)]; rfl
    · rw [if_neg h2, if_pos (by decide), decide_eq_true (by omega)]; rfl
def okWa (n : Nat) (a w l : Int32) : Bool := okN n a && okB 0 99 w && okB (-100000) 100000 l
theorem c_water {σ : rS} (hb : VB σ) (hv : VW σ) (a w l : Int32) : fX11_water a w l σ = if okWa (wn σ) a w l = true ∧ wpl σ a w < 60 then some (1, nwW σ a w l) else some (0, σ) := by
  unfold fX11_water jX11_water_25
  rw [c_has hb, Option.bind_some]
  dsimp only
  rw [c_week, Option.bind_some]
  dsimp only
  rw [c_level, Option.bind_some]
  dsimp only
  rw [c_put hv]
  simp only [bI_0]
  unfold okWa
  by_cases h : wpl σ a w < 60
  · simp only [h, if_true, Option.bind_some]
    cases okN (wn σ) a <;> cases okB 0 99 w <;> cases okB (-100000) 100000 l <;> simp
  · simp only [h, if_false, Option.bind_some]
    cases okN (wn σ) a <;> cases okB 0 99 w <;> cases okB (-100000) 100000 l <;> simp
def mnW (σ : rS) (n m : Nat) (b w l : Int32) : rS := uI (uA (uA (uA (uI σ 43 0 0) 52 (3 * m) b) 52 (3 * m + 1) w) 52 (3 * m + 2) l) 43 14 (nI (if m = n then n + 1 else n))
theorem mwater_loop {τ σ : rS} (hM : MW τ σ) (h60 : ww τ ≤ 60) (b w l : Int32) : ∀ (r k fuel : Nat), k + r = ww τ → r < fuel → lX12_water_39 fuel b w l (nI k) σ = jX12_water_82 b w l (nI (match ff (wkB τ b w) r k with | some m => m | none => ww τ)) σ := by
  intro r
  induction r with
  | zero =>
    intro k fuel hk hf
    obtain ⟨f, rfl⟩ : ∃ f, fuel = f + 1 := ⟨fuel - 1, by omega⟩
    rw [lX12_water_39, hM.1, if_pos ((kle (by omega) (by omega)).mpr (by omega)), ff]
    dsimp only
    rw [show k = ww τ by omega]
  | succ r ih =>
    intro k fuel hk hf
    obtain ⟨f, rfl⟩ : ∃ f, fuel = f + 1 := ⟨fuel - 1, by omega⟩
    have f0 : (3 : Int32) * nI k = nI (3 * k) := kmul 3 k
    have f1 : nI (3 * k) + 1 = nI (3 * k + 1) := kadd _ 1
    have e1 : inB (nI (3 * k)) 180 = true := by rw [kinB (by omega)]; exact decide_eq_true (by omega)
    have e2 : inB (nI (3 * k + 1)) 180 = true := by rw [kinB (by omega)]; exact decide_eq_true (by omega)
    have c1 : (nI (3 * k)).toNatClampNeg = 3 * k := kc (by omega)
    have c2 : (nI (3 * k + 1)).toNatClampNeg = 3 * k + 1 := kc (by omega)
    have e3 : nI k + 1 = nI (k + 1) := kadd k 1
    have e4 := ih (k + 1) f (by omega) (by omega)
    obtain ⟨m1, m2, _⟩ := hM.2 k (by omega)
    rw [lX12_water_39, hM.1, if_neg (fun z => by rw [kle (by omega) (by omega)] at z; omega), ff]
    simp only [f0, f1, e1, e2, c1, c2, if_true, jX12_water_76, vI_d, e3, e4, m1, m2]
    unfold wkB
    by_cases a1 : τ.2.2.1 7 k = b <;> by_cases a2 : τ.2.2.1 8 k = w <;> simp [a1, a2]
theorem m_water {τ σ : rS} (hb : VB τ) (hB : MB τ σ) (hv : VW τ) (hM : MW τ σ) (a w l : Int32) : fX12_water a w l σ = if okWa (wn τ) a w l = true ∧ wpl τ a w < 60 then some (1, mnW σ (ww τ) (wpl τ a w) a w l) else some (0, uI σ 43 0 0) := by
  have h60 := hv.2.1
  unfold fX12_water jX12_water_34
  rw [vS_d, m_isB (τ := τ) (n := wn τ) (by rw [uI_nj (by omega)]; exact hB.1) hb.2.1, Option.bind_some]
  dsimp only
  rw [m_from, Option.bind_some]
  dsimp only
  rw [m_from, Option.bind_some]
  dsimp only
  have hM2 : MW τ (uI σ 43 0 0) := hM.mo (uI_nj (by omega)) (fun k => rfl)
  have lp := mwater_loop hM2 h60 a w l (ww τ) 0 1000 (by omega) (by omega)
  have lp2 : lX12_water_39 1000 a w l 0 (uI σ 43 0 0) = jX12_water_82 a w l (nI (wpl τ a w)) (uI σ 43 0 0) := lp
  rw [lp2]
  have hle := wpl_le τ a w
  have h82 : jX12_water_82 a w l (nI (wpl τ a w)) (uI σ 43 0 0) = if wpl τ a w < 60 then some (1, mnW σ (ww τ) (wpl τ a w) a w l) else some (0, uI σ 43 0 0) := by
    generalize wpl τ a w = m at *
    unfold jX12_water_82 jX12_water_146
    have e0 : (nI m = 60) = (¬ m < 60) := propext ((keq (b := 60) (by omega) (by omega)).trans (by omega))
    by_cases h : m < 60
    · have f0 : (3 : Int32) * nI m = nI (3 * m) := kmul 3 m
      have f1 : nI (3 * m) + 1 = nI (3 * m + 1) := kadd _ 1
      have f2 : nI (3 * m) + 2 = nI (3 * m + 2) := kadd _ 2
      have e1 : inB (nI (3 * m)) 180 = true := by rw [kinB (by omega)]; exact decide_eq_true (by omega)
      have e2 : inB (nI (3 * m + 1)) 180 = true := by rw [kinB (by omega)]; exact decide_eq_true (by omega)
      have e3 : inB (nI (3 * m + 2)) 180 = true := by rw [kinB (by omega)]; exact decide_eq_true (by omega)
      have c1 : (nI (3 * m)).toNatClampNeg = 3 * m := kc (by omega)
      have c2 : (nI (3 * m + 1)).toNatClampNeg = 3 * m + 1 := kc (by omega)
      have c3 : (nI (3 * m + 2)).toNatClampNeg = 3 * m + 2 := kc (by omega)
      have g1 : nI m + 1 = nI (m + 1) := kadd m 1
      have g2 : (nI m = nI (ww τ)) = (m = ww τ) := propext (keq (by omega) (by omega))
      simp only [e0, h, not_true_eq_false, if_false, if_true, f0, f1, f2, e1, e2, e3, c1, c2, c3, vS_d, uA_1, hM2.1, g1, g2]
      by_cases h2 : m = ww τ
      · rw [if_pos h2]
        unfold mnW
        rw [if_pos h2, h2]
      · rw [if_neg h2]
        unfold mnW
        rw [if_neg h2]
    · simp only [e0, h, not_false_eq_true, if_true, if_false]
  rw [h82]
  simp only [bI_0]
  unfold okWa
  have e8 : okB ((0 : Int32).toInt) ((99 : Int32).toInt) w = okB 0 99 w := rfl
  have e9 : okB ((-100000 : Int32).toInt) ((100000 : Int32).toInt) l = okB (-100000) 100000 l := rfl
  rw [e8, e9]
  by_cases h : wpl τ a w < 60
  · simp only [h, if_true]
    cases okN (wn τ) a <;> cases okB 0 99 w <;> cases okB (-100000) 100000 l <;> simp
  · simp only [h, if_false]
    cases okN (wn τ) a <;> cases okB 0 99 w <;> cases okB (-100000) 100000 l <;> simp
section WaterFacts
variable {σ τ : rS} {b w l : Int32}
theorem pW_7 {υ : rS} {m k : Nat} : (pW υ m b w l).2.2.1 7 k = if k = m then b else υ.2.2.1 7 k := by
  unfold pW
  simp only [uA_3]
  grind
theorem pW_8 {υ : rS} {m k : Nat} : (pW υ m b w l).2.2.1 8 k = if k = m then w else υ.2.2.1 8 k := by
  unfold pW
  simp only [uA_3]
  grind
theorem pW_9 {υ : rS} {m k : Nat} : (pW υ m b w l).2.2.1 9 k = if k = m then l else υ.2.2.1 9 k := by
  unfold pW
  simp only [uA_3]
  grind
theorem nwW_n (h60 : ww σ ≤ 60) : ww (nwW σ b w l) = if wpl σ b w = ww σ then ww σ + 1 else ww σ := by
  show ((nwW σ b w l).1 6 3).toNatClampNeg = _
  unfold nwW pW
  rw [uA_1, uA_1, uA_1, uI_eq, kc]
  split <;> omega
theorem nwW_r (k : Nat) : (nwW σ b w l).2.2.1 7 k = (if k = wpl σ b w then b else σ.2.2.1 7 k) ∧ (nwW σ b w l).2.2.1 8 k = (if k = wpl σ b w then w else σ.2.2.1 8 k) ∧ (nwW σ b w l).2.2.1 9 k = (if k = wpl σ b w then l else σ.2.2.1 9 k) := by
  unfold nwW
  rw [pW_7, pW_8, pW_9, uI_2]
  exact ⟨rfl, rfl, rfl⟩
theorem wpl_eq {m : Nat} (hm : wpl σ b w = m) : (m < ww σ → σ.2.2.1 7 m = b ∧ σ.2.2.1 8 m = w) ∧ ∀ j, j < m → ¬ (σ.2.2.1 7 j = b ∧ σ.2.2.1 8 j = w) := by
  unfold wpl at hm
  cases hf : ff (wkB σ b w) (ww σ) 0 with
  | none =>
    rw [hf] at hm
    dsimp only at hm
    refine ⟨fun z => by omega, fun j hj => ?_⟩
    have := ff_none.mp hf j (by omega) (by omega)
    exact of_decide_eq_false this
  | some k =>
    rw [hf] at hm
    dsimp only at hm
    subst hm
    have := ff_some hf
    exact ⟨fun _ => of_decide_eq_true this.2.2.1, fun j hj => of_decide_eq_false (this.2.2.2 j (by omega) hj)⟩
theorem nwW_V (hv : VW σ) (hn : wn σ ≤ 16) (hw : okWa (wn σ) b w l = true) (h60 : wpl σ b w < 60) : VW (nwW σ b w l) := by
  obtain ⟨v1, v2, v3, v4⟩ := hv
  have hm := nwW_n (σ := σ) (b := b) (w := w) (l := l) v2
  have hle := wpl_le σ b w
  obtain ⟨p1, p2⟩ := wpl_eq (σ := σ) (b := b) (w := w) rfl
  unfold okWa at hw
  simp only [Bool.and_eq_true, okB_t] at hw
  have hb := okN_t.mp hw.1.1
  have hr := nwW_r (σ := σ) (b := b) (w := w) (l := l)
  have hbound : ∀ k, k < ww (nwW σ b w l) → k = wpl σ b w ∨ k < ww σ := by
    intro k hk
    rw [hm] at hk
    by_cases h : wpl σ b w = ww σ
    · rw [if_pos h] at hk; omega
    · rw [if_neg h] at hk; omega
  refine ⟨?_, ?_, fun k hk => ?_, fun j k hj hk => ?_⟩
  · rw [hm]
    unfold nwW pW
    rw [uA_1, uA_1, uA_1, uI_eq]
  · rw [hm]
    split <;> omega
  · rw [(hr k).1, (hr k).2.1, (hr k).2.2]
    by_cases h : k = wpl σ b w
    · simp only [if_pos h]
      refine ⟨?_, hw.1.2, hw.2⟩
      unfold okR
      omega
    · simp only [if_neg h]
      exact v3 k (by have := hbound k hk; omega)
  · rw [(hr k).1, (hr k).2.1, (hr j).1, (hr j).2.1]
    have hk2 := hbound k hk
    by_cases h1 : j = wpl σ b w
    · have h2 : k ≠ wpl σ b w := by omega
      simp only [if_pos h1, if_neg h2]
      have h3 : wpl σ b w < ww σ := by omega
      obtain ⟨q1, q2⟩ := p1 h3
      exact fun z => v4 (wpl σ b w) k (by omega) (by omega) ⟨q1.trans z.1, q2.trans z.2⟩
    · by_cases h2 : k = wpl σ b w
      · simp only [if_neg h1, if_pos h2]
        exact p2 j (by omega)
      · simp only [if_neg h1, if_neg h2]
        exact v4 j k hj (by omega)
theorem mnW_M (hv : VW τ) (hM : MW τ σ) (h60 : wpl τ b w < 60) : MW (nwW τ b w l) (mnW σ (ww τ) (wpl τ b w) b w l) := by
  have hm := nwW_n (σ := τ) (b := b) (w := w) (l := l) hv.2.1
  have hr := nwW_r (σ := τ) (b := b) (w := w) (l := l)
  refine ⟨?_, fun k hk => ?_⟩
  · rw [hm]
    unfold mnW
    rw [uI_eq]
  · rw [(hr k).1, (hr k).2.1, (hr k).2.2]
    have hle := wpl_le τ b w
    unfold mnW
    simp only [uI_2, uA_3]
    by_cases h : k = wpl τ b w
    · subst h
      refine ⟨?_, ?_, ?_⟩ <;> grind
    · have hk2 : k < ww τ := by
        rw [hm] at hk
        by_cases h3 : wpl τ b w = ww τ
        · rw [if_pos h3] at hk; omega
        · rw [if_neg h3] at hk; omega
      have := hM.2 k hk2
      refine ⟨?_, ?_, ?_⟩ <;> grind
theorem nwW_kp : Kp (fun n => 6 ≤ n ∧ n ≤ 9) σ (nwW σ b w l) := by
  unfold nwW pW
  refine Kp.tr ?_ (Kp.uA (by omega))
  refine Kp.tr ?_ (Kp.uA (by omega))
  refine Kp.tr ?_ (Kp.uA (by omega))
  exact Kp.uI (by omega)
theorem mnW_kp {n m : Nat} : Kp isM σ (mnW σ n m b w l) := by
  unfold mnW
  refine Kp.tr ?_ (Kp.uI (by omega))
  refine Kp.tr ?_ (Kp.uA (by omega))
  refine Kp.tr ?_ (Kp.uA (by omega))
  refine Kp.tr ?_ (Kp.uA (by omega))
  exact Kp.uI (by omega)
end WaterFacts
/-- the nearest boring -/
def nrS (sq : Nat → Int32) : Nat → Nat → Option Nat → Option Nat
  | 0, _, b => b
  | r + 1, k, none => nrS sq r (k + 1) (some k)
  | r + 1, k, some b => nrS sq r (k + 1) (if sq b ≤ sq k then some b else some k)
def sqK (τ : rS) (x y : Int32) (k : Nat) : Int32 := sqI x y (wx τ k) (wy τ k)
theorem near_loop {σ : rS} (hv : VB σ) (x y : Int32) : ∀ (r k fuel : Nat) (o : Option Nat), k + r = wn σ → r < fuel → (∀ m, o = some m → m < wn σ) → lX2_nearest_5 fuel x y (oI o) (nI k) σ = some (oI (nrS (sqK σ x y) r k o), σ) := by
  have h16 := hv.2.1
  intro r
  induction r with
  | zero =>
    intro k fuel o hk hf ho
    obtain ⟨f, rfl⟩ : ∃ f, fuel = f + 1 := ⟨fuel - 1, by omega⟩
    rw [lX2_nearest_5, hv.1, if_pos ((kle (by omega) (by omega)).mpr (by omega)), nrS]
  | succ r ih =>
    intro k fuel o hk hf ho
    obtain ⟨f, rfl⟩ : ∃ f, fuel = f + 1 := ⟨fuel - 1, by omega⟩
    have e0 : nI k + 1 = nI (k + 1) := kadd k 1
    have t1 := ih (k + 1) f (some k) (by omega) (by omega) (fun m hm => by cases hm; omega)
    have t1' : lX2_nearest_5 f x y (nI k) (nI (k + 1)) σ = some (oI (nrS (sqK σ x y) r (k + 1) (some k)), σ) := t1
    rw [lX2_nearest_5, hv.1, if_neg (fun z => by rw [kle (by omega) (by omega)] at z; omega)]
    simp only [oI_1 (o := o) (fun m hm => by have := ho m hm; omega)]
    cases o with
    | none =>
      rw [if_pos rfl, nrS]
      unfold jX2_nearest_51 jX2_nearest_54
      rw [vI_d, e0]
      exact t1
    | some b =>
      have hb := ho b rfl
      have t2 := ih (k + 1) f (some b) (by omega) (by omega) (fun m hm => by cases hm; omega)
      have t2' : lX2_nearest_5 f x y (nI b) (nI (k + 1)) σ = some (oI (nrS (sqK σ x y) r (k + 1) (some b)), σ) := t2
      rw [if_neg (by intro z; cases z)]
      have e1 : inB (nI k) 16 = true := by rw [kinB (by omega)]; exact decide_eq_true (by omega)
      have e2 : inB (nI b) 16 = true := by rw [kinB (by omega)]; exact decide_eq_true (by omega)
      have c1 : (nI k).toNatClampNeg = k := kc (by omega)
      have c2 : (nI b).toNatClampNeg = b := kc (by omega)
      have q1 : isBo (80 + 4 * k) = True := eq_true (bo_ok (by omega))
      have q2 : isPl (80 + 4 * k + 1) = True := eq_true (pl_ok (by omega))
      have q3 : isBo (80 + 4 * b) = True := eq_true (bo_ok (by omega))
      have q4 : isPl (80 + 4 * b + 1) = True := eq_true (pl_ok (by omega))
      have s1 := c_square (k := k) (by omega) x y σ
      have s2 := c_square (k := b) (by omega) x y σ
      have eo : oI (some b) = nI b := rfl
      simp only [eo, e1, if_true, c1, q1, q2, s1, Option.bind_some, e2, if_true, c2, q3, q4, s2, Option.bind_some, jX2_nearest_51, jX2_nearest_54, vI_d, e0]
      rw [nrS]
      show (if sqK σ x y b ≤ sqK σ x y k then lX2_nearest_5 f x y (nI b) (nI (k + 1)) σ else lX2_nearest_5 f x y (nI k) (nI (k + 1)) σ) = _
      by_cases h : sqK σ x y b ≤ sqK σ x y k
      · rw [if_pos h, if_pos h, t2']
      · rw [if_neg h, if_neg h, t1']
theorem c_doubt {σ : rS} (hv : VB σ) (x y : Int32) : fX11_doubt x y σ = some (if okP x y = true then oI (nrS (sqK σ x y) (wn σ) 0 none) else (-1), σ) := by
  unfold fX11_doubt jX11_doubt_21
  rw [c_place, Option.bind_some]
  simp only [bI_0]
  have e := near_loop hv x y (wn σ) 0 1000 none (by omega) (by have := hv.2.1; omega) (fun m hm => by cases hm)
  have e2 : fX2_nearest x y σ = some (oI (nrS (sqK σ x y) (wn σ) 0 none), σ) := e
  rw [e2]
  cases okP x y <;> rfl
theorem sq_comm (a b x y : Int32) : (x - a) * (x - a) + (y - b) * (y - b) = sqI a b x y := by unfold sqI; grind
def oS (sq : Nat → Int32) (o : Option Nat) : Int32 := match o with | none => 0 | some b => sq b
theorem mdoubt_loop {τ σ : rS} (hn : wn τ ≤ 16) (hM : MB τ σ) {x y : Int32} (hp : okP x y = true) : ∀ (r k fuel : Nat) (o : Option Nat), k + r = wn τ → r < fuel → (∀ m, o = some m → m < wn τ) → lX12_doubt_13 fuel x y (oI o) (oS (sqK τ x y) o) (nI k) σ = some (oI (nrS (sqK τ x y) r k o), σ) := by
  intro r
  induction r with
  | zero =>
    intro k fuel o hk hf ho
    obtain ⟨f, rfl⟩ : ∃ f, fuel = f + 1 := ⟨fuel - 1, by omega⟩
    rw [lX12_doubt_13, hM.1, if_pos ((kle (by omega) (by omega)).mpr (by omega)), nrS]
    rfl
  | succ r ih =>
    intro k fuel o hk hf ho
    obtain ⟨f, rfl⟩ : ∃ f, fuel = f + 1 := ⟨fuel - 1, by omega⟩
    have e0 : nI k + 1 = nI (k + 1) := kadd k 1
    have e1 : inB (nI k) 16 = true := by rw [kinB (by omega)]; exact decide_eq_true (by omega)
    have c1 : (nI k).toNatClampNeg = k := kc (by omega)
    have t1 := ih (k + 1) f (some k) (by omega) (by omega) (fun m hm => by cases hm; omega)
    have t1' : lX12_doubt_13 f x y (nI k) (sqK τ x y k) (nI (k + 1)) σ = some (oI (nrS (sqK τ x y) r (k + 1) (some k)), σ) := t1
    obtain ⟨m1, m2, _⟩ := hM.2 k (by omega)
    rw [lX12_doubt_13, hM.1, if_neg (fun z => by rw [kle (by omega) (by omega)] at z; omega), m_place, Option.bind_some]
    simp only [bI_0, hp, Bool.true_eq_false, if_false, e1, if_true, c1, m1, m2, vI_d, sq_comm, jX12_doubt_83, jX12_doubt_90, e0, oI_1 (o := o) (fun m hm => by have := ho m hm; omega)]
    cases o with
    | none =>
      rw [if_pos rfl, nrS]
      exact t1'
    | some b =>
      have hb := ho b rfl
      have t2 := ih (k + 1) f (some b) (by omega) (by omega) (fun m hm => by cases hm; omega)
      have t2' : lX12_doubt_13 f x y (nI b) (sqK τ x y b) (nI (k + 1)) σ = some (oI (nrS (sqK τ x y) r (k + 1) (some b)), σ) := t2
      rw [if_neg (by intro z; cases z), nrS]
      show (if sqK τ x y b ≤ sqK τ x y k then lX12_doubt_13 f x y (nI b) (sqK τ x y b) (nI (k + 1)) σ else lX12_doubt_13 f x y (nI k) (sqK τ x y k) (nI (k + 1)) σ) = _
      by_cases h : sqK τ x y b ≤ sqK τ x y k
      · rw [if_pos h, if_pos h, t2']
      · rw [if_neg h, if_neg h, t1']
theorem m_doubt {τ σ : rS} (hn : wn τ ≤ 16) (hM : MB τ σ) (x y : Int32) : fX12_doubt x y σ = some (if okP x y = true then oI (nrS (sqK τ x y) (wn τ) 0 none) else (-1), uI σ 43 0 0) := by
  have hM2 : MB τ (uI σ 43 0 0) := hM.mo (uI_nj (by omega)) (fun n _ _ k => rfl)
  unfold fX12_doubt
  rw [vS_d]
  cases hp : okP x y with
  | true => exact mdoubt_loop hn hM2 hp (wn τ) 0 1000 none (by omega) (by omega) (fun m hm => by cases hm)
  | false =>
    rw [show (1000 : Nat) = 999 + 1 from rfl, lX12_doubt_13, m_place, hp, hM2.1]
    by_cases h : nI (wn τ) ≤ 0
    · rw [if_pos h]; rfl
    · rw [if_neg h]; rfl
/-- text -/
theorem ch_ok : ∀ k : Nat, k < 127 → vp_nar .char (((nI k).toUInt32 % 65536).toInt32) = nI k := by decide
def okC (c : Int32) : Bool := okB 32 126 c || decide (c = 10)
def nwT (σ : rS) (c : Int32) : rS := uI (uA σ 39 (wz σ) c) 38 1 (nI (wz σ + 1))
def mnT (σ : rS) (n : Nat) (c : Int32) : rS := uI (uA (uI σ 43 0 0) 63 n c) 43 31 (nI (n + 1))
theorem c_unit {σ : rS} (hv : VT σ) (c : Int32) : fX11_unit c σ = if okC c = true ∧ wz σ < 600 then some (1, nwT σ c) else some (0, σ) := by
  have h600 := hv.2.1
  unfold fX11_unit fX8_add jX8_add_27
  rw [c_from, Option.bind_some]
  have e9 : okB ((32 : Int32).toInt) ((126 : Int32).toInt) c = okB 32 126 c := rfl
  have e1 : (nI (wz σ) < 600) = (wz σ < 600) := propext (klt (b := 600) (by omega) (by omega))
  have e2 : (nI (wz σ)).toNatClampNeg = wz σ := kc (by omega)
  have e3 : nI (wz σ) + 1 = nI (wz σ + 1) := kadd _ 1
  have main : okC c = true → jX8_add_17 c σ = if wz σ < 600 then some (1, nwT σ c) else some (0, σ) := by
    intro hc
    have hc2 : 0 ≤ c.toInt ∧ c.toInt < 127 := by
      unfold okC at hc
      rw [Bool.or_eq_true, okB_t, decide_eq_true_eq] at hc
      rcases hc with hc | rfl
      · unfold okR at hc; omega
      · decide
    have hch : vp_nar .char ((c.toUInt32 % 65536).toInt32) = c := by
      have h2 := i_cl hc2.1
      have := ch_ok c.toNatClampNeg (by omega)
      rw [← i_nI hc2.1] at this
      exact this
    unfold jX8_add_17 jX8_add_27
    rw [hv.1]
    by_cases h : wz σ < 600
    · have e4 : inB (nI (wz σ)) 600 = true := by rw [kinB (by omega)]; exact decide_eq_true h
      simp only [e1, h, if_true, e4, vS_d, e2, hch, uA_1, hv.1, e3]
      rfl
    · simp only [e1, h, if_false]
  simp only [bI_0, e9]
  cases h1 : okB 32 126 c with
  | true =>
    have hc : okC c = true := by unfold okC; rw [h1]; rfl
    simp only [Bool.true_eq_false, if_false, main hc, hc, true_and]
    by_cases h : wz σ < 600
    · simp only [h, if_true, Option.bind_some]; rfl
    · simp only [h, if_false, Option.bind_some]; rfl
  | false =>
    by_cases h10 : c = 10
    · have hc : okC c = true := by unfold okC; rw [h1, decide_eq_true h10]; rfl
      simp only [if_true, if_pos h10, main hc, hc, true_and]
      by_cases h : wz σ < 600
      · simp only [h, if_true, Option.bind_some]; rfl
      · simp only [h, if_false, Option.bind_some]; rfl
    · have hc : okC c = false := by unfold okC; rw [h1, decide_eq_false h10]; rfl
      simp only [if_true, if_neg h10, hc, Bool.false_eq_true, false_and, if_false, Option.bind_some]
      rfl
theorem m_unit {τ σ : rS} (hM : MT τ σ) (h600 : wz τ ≤ 600) (c : Int32) : fX12_unit c σ = if okC c = true ∧ wz τ < 600 then some (1, mnT σ (wz τ) c) else some (0, uI σ 43 0 0) := by
  have hM1 : (uI σ 43 0 0).1 43 31 = nI (wz τ) := by rw [uI_nj (by omega)]; exact hM.1
  unfold fX12_unit
  rw [vS_d, m_from, Option.bind_some]
  have e9 : okB ((32 : Int32).toInt) ((126 : Int32).toInt) c = okB 32 126 c := rfl
  have e1 : (nI (wz τ) = 600) = (¬ wz τ < 600) := propext ((keq (b := 600) (by omega) (by omega)).trans (by omega))
  have e2 : (nI (wz τ)).toNatClampNeg = wz τ := kc (by omega)
  have e3 : nI (wz τ) + 1 = nI (wz τ + 1) := kadd _ 1
  have main : jX12_unit_22 c (uI σ 43 0 0) = if wz τ < 600 then some (1, mnT σ (wz τ) c) else some (0, uI σ 43 0 0) := by
    unfold jX12_unit_22 jX12_unit_32
    rw [hM1]
    by_cases h : wz τ < 600
    · have e4 : inB (nI (wz τ)) 600 = true := by rw [kinB (by omega)]; exact decide_eq_true h
      simp only [e1, h, not_true_eq_false, if_true, if_false, e4, vS_d, e2, uA_1, hM1, e3]
      rfl
    · simp only [e1, h, not_false_eq_true, if_true, if_false]
  simp only [bI_0, e9, main]
  unfold okC jX12_unit_32
  cases okB 32 126 c <;> by_cases h10 : c = 10 <;> by_cases h : wz τ < 600 <;> simp [h10, h]
section UnitFacts
variable {σ τ : rS} {c : Int32}
theorem nwT_n (h : wz σ < 600) : wz (nwT σ c) = wz σ + 1 := by
  show ((nwT σ c).1 38 1).toNatClampNeg = _
  unfold nwT
  rw [uI_eq, kc (by omega)]
theorem nwT_V (hv : VT σ) (hc : okC c = true) (h : wz σ < 600) : VT (nwT σ c) := by
  have hn := nwT_n (c := c) h
  refine ⟨by rw [hn]; unfold nwT; rw [uI_eq], by omega, fun k hk => ?_⟩
  rw [hn] at hk
  unfold nwT
  rw [uI_2, uA_3]
  by_cases h2 : k = wz σ
  · rw [if_pos ⟨rfl, h2⟩]
    unfold okC at hc
    rw [Bool.or_eq_true, okB_t, decide_eq_true_eq] at hc
    exact hc
  · rw [if_neg (fun z => h2 z.2)]
    exact hv.2.2 k (by omega)
theorem mnT_M (hM : MT τ σ) (h : wz τ < 600) : MT (nwT τ c) (mnT σ (wz τ) c) := by
  have hn := nwT_n (c := c) h
  refine ⟨by rw [hn]; unfold mnT; rw [uI_eq], fun k hk => ?_⟩
  rw [hn] at hk
  unfold nwT mnT
  rw [uI_2, uI_2, uA_3, uA_3]
  by_cases h2 : k = wz τ
  · rw [if_pos ⟨rfl, h2⟩, if_pos ⟨rfl, h2⟩]
  · rw [if_neg (fun z => h2 z.2), if_neg (fun z => h2 z.2)]
    exact hM.2 k (by omega)
theorem nwT_kp : Kp (fun n => n = 38 ∨ n = 39) σ (nwT σ c) := (Kp.uA (Or.inr rfl)).tr (Kp.uI (Or.inl rfl))
theorem mnT_kp {n : Nat} : Kp isM σ (mnT σ n c) := ((Kp.uI (by omega)).tr (Kp.uA (by omega))).tr (Kp.uI (by omega))
end UnitFacts
