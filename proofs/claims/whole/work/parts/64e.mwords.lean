/-! THE MODEL FINDS THE SAME WORDS. -/
def upn (f : Nat → Nat) (i v : Nat) : Nat → Nat := fun j => if j = i then v else f j
theorem upn_e (f : Nat → Nat) (i v : Nat) : upn f i v i = v := if_pos rfl
theorem upn_n {f : Nat → Nat} {i v j : Nat} (h : j ≠ i) : upn f i v j = f j := if_neg h
theorem En_u {T : Nat → Nat} {c v i : Nat} (h : i ≤ c) : En (upn T c v) i = En T i := by
  cases i with
  | zero => rfl
  | succ i => exact upn_n (by omega)
theorem En_s {T : Nat → Nat} {c v : Nat} : En (upn T c v) (c + 1) = v := upn_e _ _ _
section Wds
variable {u : Nat → Int32} {k c : Nat} {S T : Nat → Nat}
theorem Wd.blank (h : Wd u k c S T) (g : gpB u k = true) : Wd u (k + 1) c S T := by
  obtain ⟨h1, h2, h3, h4⟩ := h
  refine ⟨by omega, fun i hi => ?_, by omega, fun j a b => ?_⟩
  · obtain ⟨a1, a2, a3, a4, a5, a6⟩ := h2 i hi
    exact ⟨a1, a2, a3, by omega, a5, a6⟩
  · by_cases z : j = k
    · rw [z]; exact g
    · exact h4 j a (by omega)
theorem Wd.new (h : Wd u k c S T) (g : gpB u k = false) (f : k = 0 ∨ gpB u (k - 1) = true) : Wd u (k + 1) (c + 1) (upn S c k) (upn T c (k + 1)) := by
  obtain ⟨h1, h2, h3, h4⟩ := h
  refine ⟨by omega, fun i hi => ?_, by rw [En_s]; omega, fun j a b => by rw [En_s] at a; omega⟩
  rw [En_u (by omega)]
  by_cases z : i = c
  · subst z
    rw [upn_e, upn_e]
    refine ⟨h3, ?_, by omega, Nat.le_refl _, h4, fun j a b => ?_⟩
    · cases i with
      | zero => exact Or.inl rfl
      | succ i =>
        refine Or.inr ?_
        obtain ⟨a1, a2, a3, a4, a5, a6⟩ := h2 i (by omega)
        have h3 : T i ≤ k := h3
        show T i < k
        by_cases q : T i = k
        · rcases f with f | f
          · omega
          · have := a6 (k - 1) (by omega) (by omega)
            rw [f] at this
            cases this
        · omega
    · have : j = k := by omega
      rw [this]; exact g
  · rw [upn_n z, upn_n z]
    obtain ⟨a1, a2, a3, a4, a5, a6⟩ := h2 i (by omega)
    exact ⟨a1, a2, a3, by omega, a5, a6⟩
theorem Wd.ext (h : Wd u k c S T) (g : gpB u k = false) (k0 : k ≠ 0) (f : gpB u (k - 1) = false) : 1 ≤ c ∧ Wd u (k + 1) c S (upn T (c - 1) (k + 1)) := by
  obtain ⟨h1, h2, h3, h4⟩ := h
  have ek : En T c = k := by
    by_cases q : En T c = k
    · exact q
    · have := h4 (k - 1) (by omega) (by omega)
      rw [f] at this
      cases this
  cases c with
  | zero => exact absurd ek (by show ¬ 0 = k; omega)
  | succ c =>
    have ek : T c = k := ek
    refine ⟨by omega, by omega, fun i hi => ?_, ?_, fun j a b => ?_⟩
    · have e1 : c + 1 - 1 = c := rfl
      rw [e1, En_u (by omega)]
      obtain ⟨a1, a2, a3, a4, a5, a6⟩ := h2 i hi
      by_cases z : i = c
      · rw [z, upn_e, ← z]
        refine ⟨a1, a2, by omega, Nat.le_refl _, a5, fun j a b => ?_⟩
        by_cases y : j < T i
        · exact a6 j a y
        · have : j = k := by rw [z] at y; omega
          rw [this]; exact g
      · rw [upn_n z]
        exact ⟨a1, a2, a3, by omega, a5, a6⟩
    · show En (upn T c (k + 1)) (c + 1) ≤ k + 1
      rw [En_s]; omega
    · have a : En (upn T c (k + 1)) (c + 1) ≤ j := a
      rw [En_s] at a; omega
end Wds
def Tq (u : Nat → Int32) (L : Nat) (σ : rS) : Prop := σ.1 43 31 = nI L ∧ ∀ k, k < L → σ.2.2.1 63 k = u k
def Mw (σ : rS) (c : Nat) (S T : Nat → Nat) : Prop := σ.1 43 33 = nI c ∧ ∀ i, i < c → σ.2.2.1 64 i = nI (S i) ∧ σ.2.2.1 65 i = nI (T i)
def Kw (υ σ : rS) : Prop := Kp (fun n => n = 43 ∨ n = 64 ∨ n = 65) υ σ ∧ ∀ j, j ≠ 33 → σ.1 43 j = υ.1 43 j
theorem Kw.rf (σ : rS) : Kw σ σ := ⟨Kp.rf _ σ, fun _ _ => rfl⟩
theorem Kw.tr {σ τ υ : rS} (h1 : Kw σ τ) (h2 : Kw τ υ) : Kw σ υ := ⟨h1.1.tr h2.1, fun j hj => (h2.2 j hj).trans (h1.2 j hj)⟩
theorem Kw.T {u : Nat → Int32} {L : Nat} {υ σ : rS} (h : Kw υ σ) (t : Tq u L υ) : Tq u L σ := ⟨(h.2 31 (by omega)).trans t.1, fun k hk => ((h.1.1 63 (by omega)).2.2 k).trans (t.2 k hk)⟩
theorem m_gap {u : Nat → Int32} {L : Nat} (hL : L ≤ 600) {σ : rS} (t : Tq u L σ) {k : Nat} (hk : k < L) (fu : Nat) : lX12_findWords_7 (fu + 1) (nI k) σ = jX12_findWords_78 (lX12_findWords_7 fu) (nI k) (bI (gpB u k)) (bI (decide (k = 0) || gpB u (k - 1))) σ := by
  have a : lX12_findWords_7 (fu + 1) (nI k) σ = jX12_findWords_42 (lX12_findWords_7 fu) (nI k) (bI (gpB u k)) σ := by
    rw [lX12_findWords_7, t.1, if_neg (by rw [kle (by omega) (by omega)]; omega), kinB (by omega), decide_eq_true (by omega), if_pos rfl, kc (by omega), t.2 k hk]
    unfold jX12_findWords_37 gpB
    by_cases h1 : u k = 32
    · rw [if_pos h1, decide_eq_true (Or.inl h1)]; rfl
    · rw [if_neg h1, if_pos rfl]
      by_cases h2 : u k = 10
      · rw [if_pos h2, decide_eq_true (Or.inr h2)]; rfl
      · rw [if_neg h2, decide_eq_false (by rintro (z | z); exact h1 z; exact h2 z)]; rfl
  rw [a]
  unfold jX12_findWords_42 jX12_findWords_73
  by_cases z : k = 0
  · subst z
    rw [if_pos (show nI 0 = 0 from rfl)]
    rfl
  · have e1 : nI k - 1 = nI (k - 1) := ksub (b := 1) (by omega)
    rw [if_neg (by show ¬ nI k = nI 0; rw [keq (by omega) (by omega)]; exact z), e1, kinB (by omega), decide_eq_true (by omega), if_pos rfl, kc (by omega), t.2 (k - 1) (by omega), decide_eq_false z, Bool.false_or]
    unfold gpB
    by_cases h1 : u (k - 1) = 32
    · rw [if_pos h1, decide_eq_true (Or.inl h1)]; rfl
    · rw [if_neg h1, if_pos rfl]
      by_cases h2 : u (k - 1) = 10
      · rw [if_pos h2, decide_eq_true (Or.inr h2)]; rfl
      · rw [if_neg h2, decide_eq_false (p := u (k - 1) = 32 ∨ u (k - 1) = 10) (by rintro (z | z); exact h1 z; exact h2 z)]; rfl
theorem m_find {u : Nat → Int32} {L : Nat} (hL : L ≤ 600) : ∀ (r k fuel : Nat) (σ : rS) (c : Nat) (S T : Nat → Nat), k + r = L → r < fuel → Tq u L σ → Mw σ c S T → Wd u k c S T → ∃ σ' c' S' T', lX12_findWords_7 fuel (nI k) σ = some ((), σ') ∧ Mw σ' c' S' T' ∧ Wd u L c' S' T' ∧ Kw σ σ' := by
  intro r
  induction r with
  | zero =>
    intro k fuel σ c S T hk hf t m w
    obtain ⟨fu, rfl⟩ : ∃ fu, fuel = fu + 1 := ⟨fuel - 1, by omega⟩
    have e : k = L := by omega
    subst e
    refine ⟨σ, c, S, T, ?_, m, w, Kw.rf σ⟩
    rw [lX12_findWords_7, t.1, if_pos (by rw [kle (by omega) (by omega)]; omega)]
  | succ r ih =>
    intro k fuel σ c S T hk hf t m w
    obtain ⟨fu, rfl⟩ : ∃ fu, fuel = fu + 1 := ⟨fuel - 1, by omega⟩
    have en : nI k + 1 = nI (k + 1) := kadd _ 1
    have ck := w.1
    rw [m_gap hL t (by omega)]
    unfold jX12_findWords_78
    cases g : gpB u k with
    | true =>
      rw [if_neg (show ¬ bI true = 0 by decide)]
      unfold jX12_findWords_107 jX12_findWords_125
      rw [if_neg (show ¬ bI true = 0 by decide), vI_d, en]
      exact ih (k + 1) fu σ c S T (by omega) (by omega) t m (w.blank g)
    | false =>
      rw [if_pos (show bI false = 0 from rfl)]
      cases f : (decide (k = 0) || gpB u (k - 1)) with
      | true =>
        have f' : k = 0 ∨ gpB u (k - 1) = true := by
          rw [Bool.or_eq_true] at f
          rcases f with f | f
          · exact Or.inl (of_decide_eq_true f)
          · exact Or.inr f
        have ec : nI c + 1 = nI (c + 1) := kadd _ 1
        have ed : nI (c + 1) - 1 = nI c := ksub (b := 1) (by omega)
        rw [if_neg (show ¬ bI true = 0 by decide), m.1, kinB (by omega), decide_eq_true (by omega), if_pos rfl, vS_d, vS_d, kc (by omega), uA_1, m.1, ec]
        unfold jX12_findWords_107 jX12_findWords_125
        rw [if_pos (show bI false = 0 from rfl), uI_eq, ed, kinB (by omega), decide_eq_true (by omega), if_pos rfl, vS_d, kc (by omega), vI_d, en]
        have K1 : Kw σ (uA (uI (uA σ 64 c (nI k)) 43 33 (nI (c + 1))) 65 c (nI (k + 1))) := ⟨((Kp.uA (by omega)).tr (Kp.uI (by omega))).tr (Kp.uA (by omega)), fun j hj => by rw [uA_1, uI_nj hj, uA_1]⟩
        have M1 : Mw (uA (uI (uA σ 64 c (nI k)) 43 33 (nI (c + 1))) 65 c (nI (k + 1))) (c + 1) (upn S c k) (upn T c (k + 1)) := by
          refine ⟨by rw [uA_1, uI_eq], fun i hi => ?_⟩
          rw [uA_ne (by omega), uI_2]
          by_cases z : i = c
          · rw [z, uA_eq, uA_eq, upn_e, upn_e]; exact ⟨rfl, rfl⟩
          · rw [uA_nj z, uA_nj z, upn_n z, upn_n z, uI_2, uA_ne (by omega)]
            exact m.2 i (by omega)
        obtain ⟨σ', c', S', T', g1, g2, g3, g4⟩ := ih (k + 1) fu _ (c + 1) _ _ (by omega) (by omega) (K1.T t) M1 (w.new g f')
        exact ⟨σ', c', S', T', g1, g2, g3, K1.tr g4⟩
      | false =>
        rw [Bool.or_eq_false_iff] at f
        obtain ⟨c1, w1⟩ := w.ext g (of_decide_eq_false f.1) f.2
        have ed : nI c - 1 = nI (c - 1) := ksub (b := 1) (by omega)
        rw [if_pos (show bI false = 0 from rfl)]
        unfold jX12_findWords_107 jX12_findWords_125
        rw [if_pos (show bI false = 0 from rfl), m.1, ed, kinB (by omega), decide_eq_true (by omega), if_pos rfl, vS_d, kc (by omega), vI_d, en]
        have K1 : Kw σ (uA σ 65 (c - 1) (nI (k + 1))) := ⟨Kp.uA (by omega), fun j hj => by rw [uA_1]⟩
        have M1 : Mw (uA σ 65 (c - 1) (nI (k + 1))) c S (upn T (c - 1) (k + 1)) := by
          refine ⟨m.1, fun i hi => ?_⟩
          rw [uA_ne (by omega)]
          by_cases z : i = c - 1
          · rw [z, uA_eq, upn_e]; exact ⟨(m.2 (c - 1) (by omega)).1, rfl⟩
          · rw [uA_nj z, upn_n z]
            exact m.2 i hi
        obtain ⟨σ', c', S', T', g1, g2, g3, g4⟩ := ih (k + 1) fu _ c _ _ (by omega) (by omega) (K1.T t) M1 w1
        exact ⟨σ', c', S', T', g1, g2, g3, K1.tr g4⟩
/-- the words of a text are there -/
theorem m_words {u : Nat → Int32} {L : Nat} (hL : L ≤ 600) {σ : rS} (t : Tq u L σ) : ∃ σ' c S T, fX12_findWords σ = some ((), σ') ∧ Mw σ' c S T ∧ WD u L c S T ∧ Kw σ σ' := by
  have K0 : Kw σ (uI σ 43 33 0) := ⟨Kp.uI (by omega), fun j hj => uI_nj hj⟩
  obtain ⟨σ', c, S, T, g1, g2, g3, g4⟩ := m_find hL L 0 1000 (uI σ 43 33 0) 0 (fun _ => 0) (fun _ => 0) (by omega) (by omega) (K0.T t) ⟨uI_eq _ _ _ _, fun i hi => absurd hi (by omega)⟩ ⟨Nat.le_refl _, fun i hi => absurd hi (by omega), Nat.le_refl _, fun j _ b => absurd b (by omega)⟩
  refine ⟨σ', c, fun i => if i < c then S i else L, fun i => if i < c then T i else L, g1, ⟨g2.1, fun i hi => ?_⟩, ⟨hL, ?_, fun i hi => ?_⟩, K0.tr g4⟩
  · dsimp only
    rw [if_pos hi, if_pos hi]; exact g2.2 i hi
  · have en : ∀ i, i ≤ c → En (fun i => if i < c then T i else L) i = En T i := fun i hi => by
      cases i with
      | zero => rfl
      | succ i => exact if_pos (by omega)
    obtain ⟨h1, h2, h3, h4⟩ := g3
    refine ⟨h1, fun i hi => ?_, by rw [en c (Nat.le_refl _)]; exact h3, fun j a b => ?_⟩
    · rw [en i (by omega)]
      dsimp only
      rw [if_pos hi, if_pos hi]
      exact h2 i hi
    · rw [en c (Nat.le_refl _)] at a
      exact h4 j a b
  · dsimp only
    rw [if_neg (by omega), if_neg (by omega)]
    exact ⟨rfl, rfl⟩
