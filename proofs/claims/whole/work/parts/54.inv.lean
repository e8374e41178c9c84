/-! THE INVARIANT: the class half is sound (V..), the model half says the same (M..). -/
def wf (τ : rS) : Nat := (τ.1 3 2).toNatClampNeg
def ww (τ : rS) : Nat := (τ.1 6 3).toNatClampNeg
def wz (τ : rS) : Nat := (τ.1 38 1).toNatClampNeg
def wp (τ : rS) : Nat := (τ.1 40 3).toNatClampNeg
def VA (τ : rS) : Prop := ∀ k, k < 8 → okR 0 99 (τ.2.2.1 41 k)
def VF (τ : rS) : Prop := τ.1 3 2 = nI (wf τ) ∧ wf τ ≤ 8 ∧ ∀ k, k < wf τ → okR (-1000) 1000 (τ.1 (144 + 2 * k) 0) ∧ okR (-1000) 1000 (τ.1 (144 + 2 * k) 1) ∧ okR (-1000) 1000 (τ.1 (145 + 2 * k) 0) ∧ okR (-1000) 1000 (τ.1 (145 + 2 * k) 1)
def VG (τ : rS) : Prop := okR 1 100 (τ.1 0 10) ∧ okR 0 10000 (τ.1 0 11) ∧ (τ.1 0 12 = 0 ∨ τ.1 0 12 = 1)
def VW (τ : rS) : Prop := τ.1 6 3 = nI (ww τ) ∧ ww τ ≤ 60 ∧ (∀ k, k < ww τ → okR 0 15 (τ.2.2.1 7 k) ∧ okR 0 99 (τ.2.2.1 8 k) ∧ okR (-100000) 100000 (τ.2.2.1 9 k)) ∧ ∀ j k, j < k → k < ww τ → ¬ (τ.2.2.1 7 j = τ.2.2.1 7 k ∧ τ.2.2.1 8 j = τ.2.2.1 8 k)
def VT (τ : rS) : Prop := τ.1 38 1 = nI (wz τ) ∧ wz τ ≤ 600 ∧ ∀ k, k < wz τ → okR 32 126 (τ.2.2.1 39 k) ∨ τ.2.2.1 39 k = 10
def VP (τ : rS) : Prop := τ.1 40 1 = 0 ∧ τ.1 40 3 = nI (wp τ) ∧ wp τ ≤ τ.2.2.2.2.1 ∧ (τ.2.2.2.2.1 = 16 ∨ τ.2.2.2.2.1 = 34 ∨ τ.2.2.2.2.1 = 70 ∨ τ.2.2.2.2.1 = 142) ∧ ∀ k, k < τ.2.2.2.2.1 → okR 0 127 (τ.2.2.2.2.2 k)
def MA (τ σ : rS) : Prop := ∀ k, k < 8 → σ.2.2.1 50 k = τ.2.2.1 41 k
def MF (τ σ : rS) : Prop := σ.1 43 10 = nI (wf τ) ∧ ∀ k, k < wf τ → σ.2.2.1 51 (4 * k) = τ.1 (144 + 2 * k) 0 ∧ σ.2.2.1 51 (4 * k + 1) = τ.1 (144 + 2 * k) 1 ∧ σ.2.2.1 51 (4 * k + 2) = τ.1 (145 + 2 * k) 0 ∧ σ.2.2.1 51 (4 * k + 3) = τ.1 (145 + 2 * k) 1
def MG (τ σ : rS) : Prop := σ.1 43 12 = τ.1 0 10 ∧ σ.1 43 13 = τ.1 0 11 ∧ σ.1 43 1 = τ.1 0 12
def MW (τ σ : rS) : Prop := σ.1 43 14 = nI (ww τ) ∧ ∀ k, k < ww τ → σ.2.2.1 52 (3 * k) = τ.2.2.1 7 k ∧ σ.2.2.1 52 (3 * k + 1) = τ.2.2.1 8 k ∧ σ.2.2.1 52 (3 * k + 2) = τ.2.2.1 9 k
def MT (τ σ : rS) : Prop := σ.1 43 31 = nI (wz τ) ∧ ∀ k, k < wz τ → σ.2.2.1 63 k = τ.2.2.1 39 k
def MP (τ σ : rS) : Prop := σ.1 43 37 = nI (wp τ) ∧ ∀ k, k < wp τ → σ.2.2.1 67 k = τ.2.2.2.2.2 k
section KpInv
variable {σ τ υ : rS}
theorem VA.kp (h : Eqo τ σ 41) (hv : VA σ) : VA τ := fun k hk => by rw [h.2.2]; exact hv k hk
theorem wf_kp (h : Eqo τ σ 3) : wf τ = wf σ := by unfold wf; rw [h.1]
theorem ww_kp (h : Eqo τ σ 6) : ww τ = ww σ := by unfold ww; rw [h.1]
theorem wz_kp (h : τ.1 38 1 = σ.1 38 1) : wz τ = wz σ := by unfold wz; rw [h]
theorem wp_kp (h : Eqo τ σ 40) : wp τ = wp σ := by unfold wp; rw [h.1]
theorem VF.kp (h : ∀ n, (n = 3 ∨ (144 ≤ n ∧ n < 160)) → Eqo τ σ n) (hv : VF σ) : VF τ := by
  obtain ⟨h1, h2, h3⟩ := hv
  have e := wf_kp (h 3 (Or.inl rfl))
  refine ⟨by rw [(h 3 (Or.inl rfl)).1, e, h1], by rw [e]; exact h2, fun k hk => ?_⟩
  rw [e] at hk
  have a := h (144 + 2 * k) (Or.inr ⟨by omega, by omega⟩)
  have b := h (145 + 2 * k) (Or.inr ⟨by omega, by omega⟩)
  rw [a.1, a.1, b.1, b.1]
  exact h3 k hk
theorem VG.kp (h : Eqo τ σ 0) (hv : VG σ) : VG τ := by
  unfold VG
  rw [h.1, h.1, h.1]
  exact hv
theorem VW.kp (h : ∀ n, 6 ≤ n → n ≤ 9 → Eqo τ σ n) (hv : VW σ) : VW τ := by
  have e := ww_kp (h 6 (by omega) (by omega))
  unfold VW
  rw [e, (h 6 (by omega) (by omega)).1]
  simp only [(h 7 (by omega) (by omega)).2.2, (h 8 (by omega) (by omega)).2.2, (h 9 (by omega) (by omega)).2.2]
  exact hv
theorem VT.kp (h : τ.1 38 1 = σ.1 38 1) (h2 : Eqo τ σ 39) (hv : VT σ) : VT τ := by
  have e := wz_kp h
  unfold VT
  rw [e, h]
  simp only [h2.2.2]
  exact hv
theorem VP.kp (h : Eqo τ σ 40) (h2 : τ.2.2.2.2 = σ.2.2.2.2) (hv : VP σ) : VP τ := by
  have e := wp_kp h
  unfold VP
  rw [e, h.1, h.1, h2]
  exact hv
-- the model half is as it was
theorem MB.mo (h1 : σ.1 43 2 = υ.1 43 2) (h2 : ∀ n, 44 ≤ n → n ≤ 49 → ∀ k, σ.2.2.1 n k = υ.2.2.1 n k) (hm : MB τ υ) : MB τ σ := by
  unfold MB
  rw [h1]
  simp only [h2 44 (by omega) (by omega), h2 45 (by omega) (by omega), h2 46 (by omega) (by omega), h2 47 (by omega) (by omega), h2 48 (by omega) (by omega), h2 49 (by omega) (by omega)]
  exact hm
theorem MA.mo (h2 : ∀ k, σ.2.2.1 50 k = υ.2.2.1 50 k) (hm : MA τ υ) : MA τ σ := fun k hk => by rw [h2]; exact hm k hk
theorem MF.mo (h1 : σ.1 43 10 = υ.1 43 10) (h2 : ∀ k, σ.2.2.1 51 k = υ.2.2.1 51 k) (hm : MF τ υ) : MF τ σ := by
  unfold MF
  rw [h1]
  simp only [h2]
  exact hm
theorem MG.mo (h1 : σ.1 43 12 = υ.1 43 12) (h2 : σ.1 43 13 = υ.1 43 13) (h3 : σ.1 43 1 = υ.1 43 1) (hm : MG τ υ) : MG τ σ := by
  unfold MG
  rw [h1, h2, h3]
  exact hm
theorem MW.mo (h1 : σ.1 43 14 = υ.1 43 14) (h2 : ∀ k, σ.2.2.1 52 k = υ.2.2.1 52 k) (hm : MW τ υ) : MW τ σ := by
  unfold MW
  rw [h1]
  simp only [h2]
  exact hm
theorem MT.mo (h1 : σ.1 43 31 = υ.1 43 31) (h2 : ∀ k, σ.2.2.1 63 k = υ.2.2.1 63 k) (hm : MT τ υ) : MT τ σ := by
  unfold MT
  rw [h1]
  simp only [h2]
  exact hm
theorem MP.mo (h1 : σ.1 43 37 = υ.1 43 37) (h2 : ∀ k, σ.2.2.1 67 k = υ.2.2.1 67 k) (hm : MP τ υ) : MP τ σ := by
  unfold MP
  rw [h1]
  simp only [h2]
  exact hm
-- what is told is as it was
theorem MB.ct (hn : wn υ ≤ 16) (h : ∀ n, oB n → Eqo τ υ n) (hm : MB υ σ) : MB τ σ := by
  have e1 := wn_kp (h 1 (Or.inl rfl))
  refine ⟨by rw [e1]; exact hm.1, fun k hk => ?_⟩
  rw [e1] at hk
  have a := h (80 + 4 * k) (Or.inr ⟨by omega, by omega⟩)
  have b := h (80 + 4 * k + 1) (Or.inr ⟨by omega, by omega⟩)
  have c := h (80 + 4 * k + 2) (Or.inr ⟨by omega, by omega⟩)
  have d := h (80 + 4 * k + 3) (Or.inr ⟨by omega, by omega⟩)
  rw [wx_kp b, wy_kp b, wt_kp a, wl_kp a]
  simp only [wk_kp c, wh_kp d]
  exact hm.2 k hk
theorem MA.ct (h : Eqo τ υ 41) (hm : MA υ σ) : MA τ σ := fun k hk => by rw [h.2.2]; exact hm k hk
theorem MF.ct (hn : wf υ ≤ 8) (h : ∀ n, (n = 3 ∨ (144 ≤ n ∧ n < 160)) → Eqo τ υ n) (hm : MF υ σ) : MF τ σ := by
  have e := wf_kp (h 3 (Or.inl rfl))
  refine ⟨by rw [e]; exact hm.1, fun k hk => ?_⟩
  rw [e] at hk
  have a := h (144 + 2 * k) (Or.inr ⟨by omega, by omega⟩)
  have b := h (145 + 2 * k) (Or.inr ⟨by omega, by omega⟩)
  rw [a.1, a.1, b.1, b.1]
  exact hm.2 k hk
theorem MG.ct (h : Eqo τ υ 0) (hm : MG υ σ) : MG τ σ := by
  unfold MG
  rw [h.1, h.1, h.1]
  exact hm
theorem MW.ct (h : ∀ n, 6 ≤ n → n ≤ 9 → Eqo τ υ n) (hm : MW υ σ) : MW τ σ := by
  have e := ww_kp (h 6 (by omega) (by omega))
  unfold MW
  rw [e]
  simp only [(h 7 (by omega) (by omega)).2.2, (h 8 (by omega) (by omega)).2.2, (h 9 (by omega) (by omega)).2.2]
  exact hm
theorem MT.ct (h : τ.1 38 1 = υ.1 38 1) (h2 : Eqo τ υ 39) (hm : MT υ σ) : MT τ σ := by
  have e := wz_kp h
  unfold MT
  rw [e]
  simp only [h2.2.2]
  exact hm
theorem MP.ct (h : Eqo τ υ 40) (h2 : τ.2.2.2.2 = υ.2.2.2.2) (hm : MP υ σ) : MP τ σ := by
  have e := wp_kp h
  unfold MP
  rw [e, h2]
  exact hm
end KpInv
/-- all but the net -/
def VX (σ : rS) : Prop := VB σ ∧ VA σ ∧ VF σ ∧ VG σ ∧ VW σ ∧ VT σ ∧ VP σ
def MX (τ σ : rS) : Prop := MB τ σ ∧ MA τ σ ∧ MF τ σ ∧ MG τ σ ∧ MW τ σ ∧ MT τ σ ∧ MP τ σ
/-- the model half of two stores is one -/
def mEq (σ υ : rS) : Prop := ∀ n, isM n → Eqo σ υ n
theorem MX.mo {τ σ υ : rS} (h : mEq σ υ) (hm : MX τ υ) : MX τ σ := by
  obtain ⟨a, b, c, d, e, f, g⟩ := hm
  have k := h 43 (by omega)
  exact ⟨a.mo (k.1 _) (fun n h1 h2 j => (h n (by omega)).2.2 j), b.mo (h 50 (by omega)).2.2, c.mo (k.1 _) (h 51 (by omega)).2.2, d.mo (k.1 _) (k.1 _) (k.1 _), e.mo (k.1 _) (h 52 (by omega)).2.2, f.mo (k.1 _) (h 63 (by omega)).2.2, g.mo (k.1 _) (h 67 (by omega)).2.2⟩
/-- what is told is one: objects 0, 1, 3, 6 to 9, 39, 41, from 80 on; the text's length; the page -/
abbrev isT (n : Nat) : Prop := n = 0 ∨ n = 1 ∨ n = 3 ∨ (6 ≤ n ∧ n ≤ 9) ∨ (39 ≤ n ∧ n ≤ 41) ∨ (80 ≤ n ∧ n < 160)
def tEq (τ υ : rS) : Prop := (∀ n, isT n → Eqo τ υ n) ∧ τ.1 38 1 = υ.1 38 1 ∧ τ.2.2.2.2 = υ.2.2.2.2
theorem VX.kp {σ τ : rS} (h : tEq τ σ) (hv : VX σ) : VX τ := by
  obtain ⟨a, b, c, d, e, f, g⟩ := hv
  obtain ⟨h1, h2, h3⟩ := h
  exact ⟨a.kp (fun n hn => h1 n (by omega)), b.kp (h1 41 (by omega)), c.kp (fun n hn => h1 n (by omega)), d.kp (h1 0 (by omega)), e.kp (fun n _ _ => h1 n (by omega)), f.kp h2 (h1 39 (by omega)), g.kp (h1 40 (by omega)) h3⟩
theorem MX.ct {σ τ υ : rS} (hv : VX υ) (h : tEq τ υ) (hm : MX υ σ) : MX τ σ := by
  obtain ⟨a, b, c, d, e, f, g⟩ := hm
  obtain ⟨h1, h2, h3⟩ := h
  exact ⟨a.ct hv.1.2.1 (fun n hn => h1 n (by omega)), b.ct (h1 41 (by omega)), c.ct hv.2.2.1.2.1 (fun n hn => h1 n (by omega)), d.ct (h1 0 (by omega)), e.ct (fun n _ _ => h1 n (by omega)), f.ct h2 (h1 39 (by omega)), g.ct (h1 40 (by omega)) h3⟩
theorem Kp.mEq {O : Nat → Prop} {σ τ : rS} (h : Kp O σ τ) (hO : ∀ n, O n → ¬ isM n) : mEq τ σ := fun n hn => h.1 n (fun z => hO n z hn)
theorem Kp.tEq {O : Nat → Prop} {σ τ : rS} (h : Kp O σ τ) (hO : ∀ n, O n → ¬ isT n ∧ n ≠ 38) : tEq τ σ := ⟨fun n hn => h.1 n (fun z => (hO n z).1 hn), (h.1 38 (fun z => (hO 38 z).2 rfl)).1 1, by rw [h.2]⟩
theorem isM_isT {n : Nat} (h : isM n) : ¬ isT n ∧ n ≠ 38 := by omega
