/-! THE WORDS OF A TEXT; the class's way from word to word. -/
def gpB (u : Nat → Int32) (j : Nat) : Bool := decide (u j = 32 ∨ u j = 10)
def En (T : Nat → Nat) : Nat → Nat
  | 0 => 0
  | i + 1 => T i
def Wd (u : Nat → Int32) (k c : Nat) (S T : Nat → Nat) : Prop := c ≤ k ∧ (∀ i, i < c → En T i ≤ S i ∧ (i = 0 ∨ En T i < S i) ∧ S i < T i ∧ T i ≤ k ∧ (∀ j, En T i ≤ j → j < S i → gpB u j = true) ∧ ∀ j, S i ≤ j → j < T i → gpB u j = false) ∧ En T c ≤ k ∧ ∀ j, En T c ≤ j → j < k → gpB u j = true
def WD (u : Nat → Int32) (L c : Nat) (S T : Nat → Nat) : Prop := L ≤ 600 ∧ Wd u L c S T ∧ ∀ i, c ≤ i → S i = L ∧ T i = L
def Tc (u : Nat → Int32) (L : Nat) (σ : rS) : Prop := σ.1 38 1 = nI L ∧ ∀ k, k < L → σ.2.2.1 39 k = u k
def At (u : Nat → Int32) (L : Nat) (T : Nat → Nat) (σ : rS) (i : Nat) : Prop := Tc u L σ ∧ σ.1 38 3 = nI (En T i) ∧ σ.1 38 4 + 1 = nI i
def On (u : Nat → Int32) (L : Nat) (S T : Nat → Nat) (σ : rS) (i : Nat) : Prop := Tc u L σ ∧ σ.1 38 2 = nI (S i) ∧ σ.1 38 3 = nI (T i) ∧ σ.1 38 4 = nI i
theorem uI_uI (σ : rS) (n k : Nat) (v w : Int32) : uI (uI σ n k v) n k w = uI σ n k w := by
  unfold uI
  refine Prod.ext ?_ rfl
  funext m j
  dsimp only
  by_cases z : m = n
  · subst z
    rw [va_up_self, va_up_self, va_up_self]
    by_cases y : j = k
    · subst y; rw [va_up_self, va_up_self]
    · rw [va_up_ne _ _ y, va_up_ne _ _ y, va_up_ne _ _ y]
  · rw [va_up_ne _ _ z, va_up_ne _ _ z, va_up_ne _ _ z]
theorem Tc.uI {u : Nat → Int32} {L : Nat} {σ : rS} (h : Tc u L σ) {k : Nat} (hk : k ≠ 1) (v : Int32) : Tc u L (uI σ 38 k v) := ⟨by rw [uI_nj (Ne.symm hk)]; exact h.1, h.2⟩
theorem Tc.kp {u : Nat → Int32} {L : Nat} {σ τ : rS} (h : Tc u L σ) (h1 : τ.1 38 1 = σ.1 38 1) (h2 : Eqo τ σ 39) : Tc u L τ := ⟨h1.trans h.1, fun k hk => (h2.2.2 k).trans (h.2 k hk)⟩
theorem c_gap (a : Int32) (σ : rS) : fX8_isGap a σ = some (bI (decide (a = 32 ∨ a = 10)), σ) := by
  unfold fX8_isGap jX8_isGap_12 jX8_isGap_17
  by_cases h1 : a = 32
  · rw [if_pos h1, if_pos (by decide), decide_eq_true (Or.inl h1)]; rfl
  · rw [if_neg h1]
    by_cases h2 : a = 10
    · rw [if_pos h2, if_pos (by decide), decide_eq_true (Or.inr h2)]; rfl
    · rw [if_neg h2, if_pos (by decide), decide_eq_false (by rintro (z | z); exact h1 z; exact h2 z)]; rfl
section Mv
variable {u : Nat → Int32} {L : Nat}
theorem c_mv1 (hL : L ≤ 600) {s : Nat} (hs : s ≤ L) (h0 : s < L → gpB u s = false) : ∀ (r p fuel : Nat) (σ : rS), p + r = s → r < fuel → Tc u L σ → σ.1 38 2 = nI p → (∀ j, p ≤ j → j < s → gpB u j = true) → lX8_moveToNextWord_8 fuel σ = jX8_moveToNextWord_47 (uI σ 38 2 (nI s)) := by
  intro r
  induction r with
  | zero =>
    intro p fuel σ hp hf hT h2 hg
    obtain ⟨fu, rfl⟩ : ∃ fu, fuel = fu + 1 := ⟨fuel - 1, by omega⟩
    have e : p = s := by omega
    subst e
    rw [lX8_moveToNextWord_8, uI_id h2, hT.1, h2]
    by_cases c : p < L
    · rw [if_neg (by rw [kle (by omega) (by omega)]; omega), kinB (by omega), decide_eq_true (by omega), if_pos rfl, kc (by omega), hT.2 p c, c_gap, Option.bind_some]
      dsimp only
      have g := h0 c
      unfold gpB at g
      rw [g, if_pos (show bI false = 0 from rfl)]
    · rw [if_pos (by rw [kle (by omega) (by omega)]; omega)]
  | succ r ih =>
    intro p fuel σ hp hf hT h2 hg
    obtain ⟨fu, rfl⟩ : ∃ fu, fuel = fu + 1 := ⟨fuel - 1, by omega⟩
    have g := hg p (by omega) (by omega)
    unfold gpB at g
    rw [lX8_moveToNextWord_8, hT.1, h2, if_neg (by rw [kle (by omega) (by omega)]; omega), kinB (by omega), decide_eq_true (by omega), if_pos rfl, kc (by omega), hT.2 p (by omega), c_gap, Option.bind_some]
    dsimp only
    have en : nI p + 1 = nI (p + 1) := kadd _ 1
    rw [g, if_neg (show ¬ bI true = 0 by decide), vS_d, h2, en, ih (p + 1) fu _ (by omega) (by omega) (hT.uI (by omega) _) (uI_eq _ _ _ _) (fun j a b => hg j (by omega) b), uI_uI]
theorem c_mv2 (hL : L ≤ 600) {t : Nat} (ht : t ≤ L) (h0 : t < L → gpB u t = true) : ∀ (r p fuel : Nat) (σ : rS), p + r = t → r < fuel → Tc u L σ → σ.1 38 3 = nI p → (∀ j, p ≤ j → j < t → gpB u j = false) → lX8_moveToNextWord_55 fuel σ = jX8_moveToNextWord_94 (uI σ 38 3 (nI t)) := by
  intro r
  induction r with
  | zero =>
    intro p fuel σ hp hf hT h2 hg
    obtain ⟨fu, rfl⟩ : ∃ fu, fuel = fu + 1 := ⟨fuel - 1, by omega⟩
    have e : p = t := by omega
    subst e
    rw [lX8_moveToNextWord_55, uI_id h2, hT.1, h2]
    by_cases c : p < L
    · rw [if_neg (by rw [kle (by omega) (by omega)]; omega), kinB (by omega), decide_eq_true (by omega), if_pos rfl, kc (by omega), hT.2 p c, c_gap, Option.bind_some]
      dsimp only
      have g := h0 c
      unfold gpB at g
      rw [g, if_neg (show ¬ bI true = 0 by decide)]
    · rw [if_pos (by rw [kle (by omega) (by omega)]; omega)]
  | succ r ih =>
    intro p fuel σ hp hf hT h2 hg
    obtain ⟨fu, rfl⟩ : ∃ fu, fuel = fu + 1 := ⟨fuel - 1, by omega⟩
    have g := hg p (by omega) (by omega)
    unfold gpB at g
    rw [lX8_moveToNextWord_55, hT.1, h2, if_neg (by rw [kle (by omega) (by omega)]; omega), kinB (by omega), decide_eq_true (by omega), if_pos rfl, kc (by omega), hT.2 p (by omega), c_gap, Option.bind_some]
    dsimp only
    have en : nI p + 1 = nI (p + 1) := kadd _ 1
    rw [g, if_pos (show bI false = 0 from rfl), vS_d, h2, en, ih (p + 1) fu _ (by omega) (by omega) (hT.uI (by omega) _) (uI_eq _ _ _ _) (fun j a b => hg j (by omega) b), uI_uI]
theorem WD.st {c : Nat} {S T : Nat → Nat} (h : WD u L c S T) {i : Nat} (hi : i ≤ c) : En T i ≤ S i ∧ S i ≤ T i ∧ T i ≤ L ∧ (∀ j, En T i ≤ j → j < S i → gpB u j = true) ∧ (∀ j, S i ≤ j → j < T i → gpB u j = false) ∧ (S i < L → gpB u (S i) = false) ∧ (T i < L → gpB u (T i) = true) := by
  obtain ⟨hL, ⟨w1, w2, w3, w4⟩, w5⟩ := h
  by_cases z : i < c
  · obtain ⟨a1, a2, a3, a4, a5, a6⟩ := w2 i z
    refine ⟨a1, by omega, a4, a5, a6, fun _ => a6 _ (Nat.le_refl _) a3, fun q => ?_⟩
    by_cases y : i + 1 < c
    · obtain ⟨b1, b2, b3, b4, b5, b6⟩ := w2 (i + 1) y
      have b2 : T i < S (i + 1) := by
        rcases b2 with b2 | b2
        · omega
        · exact b2
      exact b5 (T i) (Nat.le_refl _) b2
    · have e : c = i + 1 := by omega
      rw [e] at w4
      exact w4 (T i) (Nat.le_refl _) q
  · have e : i = c := by omega
    subst e
    obtain ⟨e1, e2⟩ := w5 i (Nat.le_refl _)
    rw [e1, e2]
    exact ⟨w3, Nat.le_refl _, Nat.le_refl _, w4, fun j a b => absurd a (by omega), fun q => absurd q (by omega), fun q => absurd q (by omega)⟩
theorem c_move {c : Nat} {S T : Nat → Nat} (h : WD u L c S T) {i : Nat} (hi : i ≤ c) {σ : rS} (hA : At u L T σ i) : ∃ σ', fX8_moveToNextWord σ = some ((), σ') ∧ On u L S T σ' i ∧ Kp (fun n => n = 38) σ σ' := by
  obtain ⟨hT, h3, h4⟩ := hA
  obtain ⟨a1, a2, a3, a4, a5, a6, a7⟩ := h.st hi
  have hL := h.1
  unfold fX8_moveToNextWord
  rw [vS_d, h3, c_mv1 hL (s := S i) (by omega) a6 (S i - En T i) (En T i) 1000 _ (by omega) (by omega) (hT.uI (by omega) _) (uI_eq _ _ _ _) a4, uI_uI]
  unfold jX8_moveToNextWord_47
  rw [vS_d, uI_eq, c_mv2 hL (t := T i) (by omega) a7 (T i - S i) (S i) 1000 _ (by omega) (by omega) ((hT.uI (by omega) _).uI (by omega) _) (uI_eq _ _ _ _) a5, uI_uI]
  unfold jX8_moveToNextWord_94
  rw [vS_d, uI_nj (by omega), uI_nj (by omega), h4]
  refine ⟨_, rfl, ⟨((hT.uI (by omega) _).uI (by omega) _).uI (by omega) _, ?_, ?_, uI_eq _ _ _ _⟩, ((Kp.uI (O := fun n => n = 38) rfl).tr (Kp.uI rfl)).tr (Kp.uI rfl)⟩
  · rw [uI_nj (by omega), uI_nj (by omega), uI_eq]
  · rw [uI_nj (by omega), uI_eq]
theorem On.nx {S T : Nat → Nat} {i : Nat} {σ : rS} (h : On u L S T σ i) : At u L T σ (i + 1) := ⟨h.1, h.2.2.1, by rw [h.2.2.2]; exact kadd _ 1⟩
end Mv
