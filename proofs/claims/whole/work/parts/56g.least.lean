/-! THE MODEL SEEKS THE LEAST PAIR BEHIND THE LAST. -/
def bhd (L : Option Nat) (k : Nat) : Bool := match L with | none => true | some l => decide (l < k)
def L1 (L : Option Nat) : Int32 := match L with | none => (-1) | some l => nI (l / 256)
def L2 (L : Option Nat) : Int32 := match L with | none => (-1) | some l => nI (l % 256)
def o4 (o : Option (Nat × Nat)) : Int32 := match o with | none => (-1) | some e => nI (16 * e.1 + e.2)
def o5 (p : Nat → zP) (o : Option (Nat × Nat)) : Int32 := match o with | none => 0 | some e => nI (sqN p e.1 e.2)
def scanQ (n : Nat) (p : Nat → zP) (L : Option Nat) (a b : Nat) (o : Option (Nat × Nat)) : Prop := (∀ e, o = some e → preQ n a b e.1 e.2 ∧ bhd L (keyN p e.1 e.2) = true ∧ ∀ c d, preQ n a b c d → bhd L (keyN p c d) = true → keyN p e.1 e.2 ≤ keyN p c d) ∧ (o = none → ∀ c d, preQ n a b c d → bhd L (keyN p c d) = false)
theorem bh_test {L : Option Nat} (hL : ∀ l, L = some l → l < 2147483648) {s a b : Nat} (hs : s ≤ 8000000) (ha : a < 16) (hb : b < 16) {β : Type} (X Y : β) : (if L1 L < nI s then X else if nI s = L1 L then (if 16 * nI a + nI b ≤ L2 L then Y else X) else Y) = if bhd L ((s * 16 + a) * 16 + b) = true then X else Y := by
  have e : 16 * nI a + nI b = nI (16 * a + b) := by
    show nI 16 * nI a + nI b = _
    rw [kmul, kadd]
  rw [e]
  cases L with
  | none =>
    have : L1 none < nI s := by
      rw [i_lt, ki (by omega)]
      show (-1 : Int) < _
      omega
    rw [if_pos this]
    rfl
  | some l =>
    have hl := hL l rfl
    have eb : bhd (some l) ((s * 16 + a) * 16 + b) = decide (l < (s * 16 + a) * 16 + b) := rfl
    rw [eb]
    unfold L1 L2
    dsimp only
    by_cases c1 : l / 256 < s
    · rw [if_pos ((klt (by omega) (by omega)).mpr c1), decide_eq_true (by omega), if_pos rfl]
    · rw [if_neg (fun z => c1 ((klt (by omega) (by omega)).mp z))]
      by_cases c2 : s = l / 256
      · rw [if_pos ((keq (by omega) (by omega)).mpr c2)]
        by_cases c3 : 16 * a + b ≤ l % 256
        · rw [if_pos ((kle (by omega) (by omega)).mpr c3), decide_eq_false (by omega), if_neg (by simp)]
        · rw [if_neg (fun z => c3 ((kle (by omega) (by omega)).mp z)), decide_eq_true (by omega), if_pos rfl]
      · rw [if_neg (fun z => c2 ((keq (by omega) (by omega)).mp z)), decide_eq_false (by omega), if_neg (by simp)]
theorem m_square {τ σ : rS} (hv : VB τ) (hM : MB τ σ) {a b : Nat} (ha : a < wn τ) (hb : b < wn τ) : fX12_square (nI a) (nI b) σ = some (nI (sqN (wP τ) a b), σ) := by
  have h16 := hv.2.1
  obtain ⟨a1, a2, _⟩ := hM.2 a ha
  obtain ⟨b1, b2, _⟩ := hM.2 b hb
  unfold fX12_square
  simp only [kinB (show a < 2147483648 by omega), kinB (show b < 2147483648 by omega), decide_eq_true (show a < 16 by omega), decide_eq_true (show b < 16 by omega), if_true, kc (show a < 2147483648 by omega), kc (show b < 2147483648 by omega), a1, a2, b1, b2]
  rw [← sqN_I hv ha hb]
  rfl
theorem o4_neg {o : Option (Nat × Nat)} (h : ∀ e, o = some e → e.1 < 16 ∧ e.2 < 16) : (o4 o < 0) = (o = none) := by
  cases o with
  | none => exact propext ⟨fun _ => rfl, fun _ => by decide⟩
  | some e =>
    have := h e rfl
    refine propext ⟨fun z => ?_, fun z => (by cases z)⟩
    exfalso
    unfold o4 at z
    rw [i_lt, ki (by omega)] at z
    have : (0 : Int32).toInt = 0 := rfl
    omega
theorem scan_in {τ σ : rS} (hv : VB τ) (hM : MB τ σ) {L : Option Nat} (hL : ∀ l, L = some l → l < 2147483648) {k33 : Int32 → Int32 → Int32 → rS → Option (Unit × rS)} {k46 : Int32 → Int32 → Int32 → Int32 → Int32 → rS → Option (Unit × rS)} {a : Nat} (ha : a < wn τ) : ∀ (r b fuel : Nat) (o : Option (Nat × Nat)), a < b → b + r = wn τ → r < fuel → scanQ (wn τ) (wP τ) L a b o → ∃ o', lX12_findEdges_61 k33 k46 fuel (L1 L) (L2 L) (o4 o) (o5 (wP τ) o) (nI a) (nI b) σ = k46 (L1 L) (L2 L) (o4 o') (o5 (wP τ) o') (nI (a + 1)) σ ∧ scanQ (wn τ) (wP τ) L a (wn τ) o' := by
  have h16 := hv.2.1
  intro r
  induction r with
  | zero =>
    intro b fuel o hab hb hfu hI
    obtain ⟨fu, rfl⟩ : ∃ fu, fuel = fu + 1 := ⟨fuel - 1, by omega⟩
    obtain rfl : b = wn τ := by omega
    refine ⟨o, ?_, hI⟩
    rw [lX12_findEdges_61, hM.1, if_pos ((kle (by omega) (by omega)).mpr (Nat.le_refl _)), vI_d, k1]
  | succ r ih =>
    intro b fuel o hab hb hfu hI
    obtain ⟨fu, rfl⟩ : ∃ fu, fuel = fu + 1 := ⟨fuel - 1, by omega⟩
    have oka := (wP_ok hv ha).2
    have okb := (wP_ok hv (show b < wn τ by omega)).2
    have hs := sqN_le (p := wP τ) oka okb
    have oe : ∀ e, o = some e → e.1 < 16 ∧ e.2 < 16 ∧ sqN (wP τ) e.1 e.2 ≤ 8000000 := fun e he => by
      obtain ⟨⟨h1, h2, h3⟩, _⟩ := hI.1 e he
      exact ⟨by omega, by omega, sqN_le (wP_ok hv (by omega)).2 (wP_ok hv h2).2⟩
    -- the new best
    have fin : ∀ o', scanQ (wn τ) (wP τ) L a (b + 1) o' → ∃ o2, jX12_findEdges_142 k33 k46 (lX12_findEdges_61 k33 k46 fu) (L1 L) (L2 L) (o4 o') (o5 (wP τ) o') (nI a) (nI b) σ = k46 (L1 L) (L2 L) (o4 o2) (o5 (wP τ) o2) (nI (a + 1)) σ ∧ scanQ (wn τ) (wP τ) L a (wn τ) o2 := fun o' h => by
      obtain ⟨o2, h1, h2⟩ := ih (b + 1) fu o' (by omega) (by omega) (by omega) h
      refine ⟨o2, ?_, h2⟩
      unfold jX12_findEdges_142
      rw [vI_d, k1, h1]
    have pre : ∀ c d, preQ (wn τ) a (b + 1) c d → preQ (wn τ) a b c d ∨ (c = a ∧ d = b) := fun c d h => by
      obtain ⟨h1, h2, h3⟩ := h
      by_cases z : c = a ∧ d = b
      · exact Or.inr z
      · exact Or.inl ⟨h1, h2, by omega⟩
    have pre2 : ∀ c d, preQ (wn τ) a b c d → preQ (wn τ) a (b + 1) c d := fun c d h => ⟨h.1, h.2.1, by have := h.2.2; omega⟩
    have pab : preQ (wn τ) a (b + 1) a b := ⟨hab, by omega, Or.inr ⟨rfl, by omega⟩⟩
    have e128 : jX12_findEdges_128 k33 k46 (lX12_findEdges_61 k33 k46 fu) (L1 L) (L2 L) (nI a) (nI b) (nI (sqN (wP τ) a b)) σ = jX12_findEdges_142 k33 k46 (lX12_findEdges_61 k33 k46 fu) (L1 L) (L2 L) (o4 (some (a, b))) (o5 (wP τ) (some (a, b))) (nI a) (nI b) σ := by
      unfold jX12_findEdges_128
      rw [vI_d]
      have e : 16 * nI a + nI b = nI (16 * a + b) := by
        show nI 16 * nI a + nI b = _
        rw [kmul, kadd]
      rw [e]
      rfl
    rw [lX12_findEdges_61, hM.1, if_neg (by rw [kle (by omega) (by omega)]; omega), m_square hv hM ha (by omega), Option.bind_some, vI_d]
    dsimp only
    rw [bh_test hL hs (by omega) (by omega)]
    have ekey : (sqN (wP τ) a b * 16 + a) * 16 + b = keyN (wP τ) a b := rfl
    rw [ekey]
    cases hbh : bhd L (keyN (wP τ) a b) with
    | false =>
      rw [if_neg (by simp)]
      unfold jX12_findEdges_108 jX12_findEdges_109
      rw [if_pos rfl]
      refine fin o ⟨fun e he => ?_, fun ho c d hcd => ?_⟩
      · obtain ⟨h1, h2, h3⟩ := hI.1 e he
        refine ⟨pre2 _ _ h1, h2, fun c d hcd hb2 => ?_⟩
        rcases pre c d hcd with z | z
        · exact h3 c d z hb2
        · rw [z.1, z.2, hbh] at hb2
          cases hb2
      · rcases pre c d hcd with z | z
        · exact hI.2 ho c d z
        · rw [z.1, z.2, hbh]
    | true =>
      rw [if_pos rfl]
      unfold jX12_findEdges_104 jX12_findEdges_109
      rw [if_neg (by decide)]
      simp only [o4_neg (fun e he => ⟨(oe e he).1, (oe e he).2.1⟩), e128]
      have take : (∀ c d, preQ (wn τ) a b c d → bhd L (keyN (wP τ) c d) = true → keyN (wP τ) a b ≤ keyN (wP τ) c d) → ∃ o2, jX12_findEdges_142 k33 k46 (lX12_findEdges_61 k33 k46 fu) (L1 L) (L2 L) (o4 (some (a, b))) (o5 (wP τ) (some (a, b))) (nI a) (nI b) σ = k46 (L1 L) (L2 L) (o4 o2) (o5 (wP τ) o2) (nI (a + 1)) σ ∧ scanQ (wn τ) (wP τ) L a (wn τ) o2 := fun hle => by
        refine fin (some (a, b)) ⟨fun e he => ?_, fun ho => (by cases ho)⟩
        obtain rfl : (a, b) = e := Option.some.inj he
        refine ⟨pab, hbh, fun c d hcd hb2 => ?_⟩
        rcases pre c d hcd with z | z
        · exact hle c d z hb2
        · rw [z.1, z.2]; exact Nat.le_refl _
      cases o with
      | none =>
        rw [if_pos rfl]
        refine take (fun c d hcd hb2 => ?_)
        rw [hI.2 rfl c d hcd] at hb2
        cases hb2
      | some e =>
        rw [if_neg (by simp)]
        obtain ⟨⟨g1, g2, g3⟩, h2, h3⟩ := hI.1 e rfl
        obtain ⟨q1, q2, q3⟩ := oe e rfl
        have o5e : o5 (wP τ) (some e) = nI (sqN (wP τ) e.1 e.2) := rfl
        by_cases c1 : sqN (wP τ) e.1 e.2 ≤ sqN (wP τ) a b
        · rw [o5e, if_pos ((kle (by omega) (by omega)).mpr c1), ← o5e]
          refine fin (some e) ⟨fun e' he => ?_, fun ho => (by cases ho)⟩
          obtain rfl : e = e' := Option.some.inj he
          refine ⟨pre2 _ _ ⟨g1, g2, g3⟩, h2, fun c d hcd hb2 => ?_⟩
          rcases pre c d hcd with z | z
          · exact h3 c d z hb2
          · rw [z.1, z.2]
            unfold keyN
            omega
        · rw [o5e, if_neg (fun z => c1 ((kle (by omega) (by omega)).mp z))]
          refine take (fun c d hcd hb2 => ?_)
          have := h3 c d hcd hb2
          unfold keyN at this ⊢
          omega
theorem scan_out {τ σ : rS} (hv : VB τ) (hM : MB τ σ) {L : Option Nat} (hL : ∀ l, L = some l → l < 2147483648) {k33 : Int32 → Int32 → Int32 → rS → Option (Unit × rS)} : ∀ (r a fuel : Nat) (o : Option (Nat × Nat)), a + r = wn τ → r < fuel → scanQ (wn τ) (wP τ) L a (a + 1) o → ∃ o', lX12_findEdges_46 k33 fuel (L1 L) (L2 L) (o4 o) (o5 (wP τ) o) (nI a) σ = jX12_findEdges_164 k33 (o4 o') (o5 (wP τ) o') (bI o'.isSome) σ ∧ scanQ (wn τ) (wP τ) L (wn τ) (wn τ + 1) o' := by
  have h16 := hv.2.1
  intro r
  induction r with
  | zero =>
    intro a fuel o ha hfu hI
    obtain ⟨fu, rfl⟩ : ∃ fu, fuel = fu + 1 := ⟨fuel - 1, by omega⟩
    obtain rfl : a = wn τ := by omega
    refine ⟨o, ?_, hI⟩
    have oe : ∀ e, o = some e → e.1 < 16 ∧ e.2 < 16 := fun e he => by
      obtain ⟨⟨h1, h2, h3⟩, _⟩ := hI.1 e he
      omega
    rw [lX12_findEdges_46, hM.1, if_pos ((kle (by omega) (by omega)).mpr (Nat.le_refl _))]
    simp only [o4_neg oe]
    cases o <;> simp [bI]
  | succ r ih =>
    intro a fuel o ha hfu hI
    obtain ⟨fu, rfl⟩ : ∃ fu, fuel = fu + 1 := ⟨fuel - 1, by omega⟩
    obtain ⟨o1, s1, s2⟩ := scan_in hv hM hL (k33 := k33) (k46 := lX12_findEdges_46 k33 fu) (show a < wn τ by omega) (wn τ - (a + 1)) (a + 1) 1000 o (by omega) (by omega) (by omega) hI
    have up : ∀ c d, preQ (wn τ) (a + 1) (a + 1 + 1) c d → preQ (wn τ) a (wn τ) c d := fun c d h => ⟨h.1, h.2.1, by have := h.1; have := h.2.1; have := h.2.2; omega⟩
    have dn : ∀ c d, preQ (wn τ) a (wn τ) c d → preQ (wn τ) (a + 1) (a + 1 + 1) c d := fun c d h => ⟨h.1, h.2.1, by have := h.2.2; omega⟩
    obtain ⟨o2, t1, t2⟩ := ih (a + 1) fu o1 (by omega) (by omega) ⟨fun e he => by
      obtain ⟨h1, h2, h3⟩ := s2.1 e he
      exact ⟨dn _ _ h1, h2, fun c d hcd => h3 c d (up c d hcd)⟩, fun ho c d hcd => s2.2 ho c d (up c d hcd)⟩
    refine ⟨o2, ?_, t2⟩
    rw [← t1, ← s1, lX12_findEdges_46, hM.1, if_neg (by rw [kle (by omega) (by omega)]; omega), vI_d, k1]
theorem kd16 {x : Nat} (hx : x < 2147483648) : nI x / 16 = nI (x / 16) := kdiv (b := 16) hx (by omega)
theorem find_loop2 {τ : rS} (hv : VB τ) (hF : VF τ) {f : Nat → Nat} {m : Nat} (hm : m ≤ 120) (hf : incF f m) (hq : keyQ (allQ (wn τ)) (wP τ) f m) : ∀ (r i fuel : Nat) (σ : rS) (L : Option Nat), i + r = m → r + 1 < fuel → (L = if i = 0 then none else some (f (i - 1))) → MB τ σ → MF τ σ → isN σ (bkW τ) (EL (wn τ) (wP τ) f i) → ∃ υ, lX12_findEdges_33 fuel (L1 L) (L2 L) 1 σ = some ((), υ) ∧ Kp oE σ υ ∧ (∀ j, j ≠ 16 → υ.1 43 j = σ.1 43 j) ∧ isN υ (bkW τ) (EL (wn τ) (wP τ) f m) := by
  have hs := hv.sound
  have h16 := hv.2.1
  have fb : ∀ j, j < m → f j < 2147483648 := fun j hj => by
    obtain ⟨c, d, hcd, he⟩ := hq.1 j hj
    have h1 := hcd.1
    have h2 := hcd.2
    have := sqN_le (p := wP τ) (wP_ok hv (show c < wn τ by omega)).2 (wP_ok hv h2).2
    rw [he]
    unfold keyN
    omega
  intro r
  induction r with
  | zero =>
    intro i fuel σ L hi hfu hL hM hMF hE
    obtain ⟨fu, rfl⟩ : ∃ fu, fuel = fu + 1 + 1 := ⟨fuel - 2, by omega⟩
    obtain rfl : i = m := by omega
    have hLb : ∀ l, L = some l → l < 2147483648 := fun l hl => by
      rw [hL] at hl
      by_cases z : i = 0
      · rw [if_pos z] at hl; cases hl
      · rw [if_neg z] at hl
        rw [← Option.some.inj hl]
        exact fb _ (by omega)
    obtain ⟨o, s1, s2⟩ := scan_out hv hM hLb (k33 := lX12_findEdges_33 (fu + 1)) (wn τ) 0 1000 none (by omega) (by omega) ⟨fun e he => (by cases he), fun _ c d hcd => by have := hcd.1; have := hcd.2.2; omega⟩
    have on : o = none := by
      cases o with
      | none => rfl
      | some e =>
        exfalso
        obtain ⟨h1, h2, h3⟩ := s2.1 e rfl
        obtain ⟨j, hj, he⟩ := hq.2 e.1 e.2 ⟨h1.1, h1.2.1⟩
        rw [← he, hL] at h2
        rw [if_neg (show ¬ i = 0 by omega)] at h2
        have h2 : f (i - 1) < f j := of_decide_eq_true h2
        by_cases z : j = i - 1
        · rw [z] at h2; exact Nat.lt_irrefl _ h2
        · have := hf j (i - 1) (by omega) (by omega)
          omega
    subst on
    refine ⟨σ, ?_, Kp.rf _ _, fun _ _ => rfl, hE⟩
    rw [lX12_findEdges_33, if_neg (by decide)]
    refine s1.trans ?_
    unfold jX12_findEdges_164 jX12_findEdges_206
    have ze : bI (none : Option (Nat × Nat)).isSome = 0 := rfl
    rw [if_pos ze, ze, lX12_findEdges_33]
    exact if_pos rfl
  | succ r ih =>
    intro i fuel σ L hi hfu hL hM hMF hE
    obtain ⟨fu, rfl⟩ : ∃ fu, fuel = fu + 1 := ⟨fuel - 1, by omega⟩
    have hLb : ∀ l, L = some l → l < 2147483648 := fun l hl => by
      rw [hL] at hl
      by_cases z : i = 0
      · rw [if_pos z] at hl; cases hl
      · rw [if_neg z] at hl
        rw [← Option.some.inj hl]
        exact fb _ (by omega)
    obtain ⟨o, s1, s2⟩ := scan_out hv hM hLb (k33 := lX12_findEdges_33 fu) (wn τ) 0 1000 none (by omega) (by omega) ⟨fun e he => (by cases he), fun _ c d hcd => by have := hcd.1; have := hcd.2.2; omega⟩
    have bi : bhd L (f i) = true := by
      rw [hL]
      by_cases z : i = 0
      · rw [if_pos z]; rfl
      · rw [if_neg z]
        exact decide_eq_true (hf (i - 1) i (by omega) (by omega))
    obtain ⟨a, b, ⟨hab, hbn⟩, hkey⟩ := hq.1 i (by omega)
    have oab : o = some (a, b) := by
      cases o with
      | none =>
        exfalso
        have := s2.2 rfl a b ⟨hab, hbn, Or.inl (by omega)⟩
        rw [← hkey, bi] at this
        cases this
      | some e =>
        obtain ⟨h1, h2, h3⟩ := s2.1 e rfl
        have hle := h3 a b ⟨hab, hbn, Or.inl (by omega)⟩ (by rw [← hkey]; exact bi)
        obtain ⟨j, hj, he⟩ := hq.2 e.1 e.2 ⟨h1.1, h1.2.1⟩
        have hji : ¬ j < i := fun z => by
          rw [← he, hL, if_neg (show ¬ i = 0 by omega)] at h2
          have h2 : f (i - 1) < f j := of_decide_eq_true h2
          by_cases w : j = i - 1
          · rw [w] at h2; exact Nat.lt_irrefl _ h2
          · have := hf j (i - 1) (by omega) (by omega)
            omega
        have : j = i := by
          by_cases w : i < j
          · have := hf i j w hj
            rw [← he, ← hkey] at hle
            omega
          · omega
        rw [this, hkey] at he
        have := h1.1
        have := h1.2.1
        have := keyN_i (by omega) (by omega) (by omega) (by omega) he
        rw [this.1, this.2]
    subst oab
    have net := (EL_net h16 hf hq i (by omega)).1
    have len := EL_len hs hf hq (show i ≤ m by omega)
    have mem : ∀ e ∈ EL (wn τ) (wP τ) f i, e.1 < wn τ ∧ e.2 < wn τ := fun e he => by
      obtain ⟨g1, g2, _⟩ := net.2.1 e he
      omega
    have ek : eK (f i) = (a, b) := by
      have := keyN_d (p := wP τ) (a := a) (b := b) (by omega) (by omega)
      unfold eK
      rw [hkey, this.1, this.2]
    have cf := m_free hv hM hE.1 len mem (a := a) (b := b) (by omega) (by omega)
    have EL1 : EL (wn τ) (wP τ) f (i + 1) = nxE (wn τ) (wP τ) (a, b) (EL (wn τ) (wP τ) f i) := by rw [EL, ek]
    have sab := sqN_le (p := wP τ) (wP_ok hv (show a < wn τ by omega)).2 (wP_ok hv hbn).2
    have l1 : o5 (wP τ) (some (a, b)) = L1 (some (f i)) := by
      show nI (sqN (wP τ) a b) = nI (f i / 256)
      congr 1
      rw [hkey]
      unfold keyN
      omega
    have l2 : o4 (some (a, b)) = L2 (some (f i)) := by
      show nI (16 * a + b) = nI (f i % 256)
      congr 1
      rw [hkey]
      unfold keyN
      omega
    have st : ∀ υ, Kp oE σ υ → (∀ j, j ≠ 16 → υ.1 43 j = σ.1 43 j) → isN υ (bkW τ) (EL (wn τ) (wP τ) f (i + 1)) → ∃ υ', lX12_findEdges_33 fu (o5 (wP τ) (some (a, b))) (o4 (some (a, b))) 1 υ = some ((), υ') ∧ Kp oE σ υ' ∧ (∀ j, j ≠ 16 → υ'.1 43 j = σ.1 43 j) ∧ isN υ' (bkW τ) (EL (wn τ) (wP τ) f m) := fun υ h1 h2 h3 => by
      have hM2 : MB τ υ := hM.mo (h2 2 (by omega)) (fun n a b k => (h1.1 n (by omega)).2.2 k)
      have hF2 : MF τ υ := hMF.mo (h2 10 (by omega)) (fun k => (h1.1 51 (by omega)).2.2 k)
      obtain ⟨υ', u1, u2, u3, u4⟩ := ih (i + 1) fu υ (some (f i)) (by omega) (by omega) (by rw [if_neg (by omega), Nat.add_sub_cancel]) hM2 hF2 h3
      refine ⟨υ', ?_, h1.tr u2, fun j hj => (u3 j hj).trans (h2 j hj), u4⟩
      rw [l1, l2]
      exact u1
    rw [lX12_findEdges_33, if_neg (by decide)]
    have s1' := s1
    rw [show nI 0 = 0 from rfl] at s1'
    have o40 : o4 none = -1 := rfl
    have o50 : o5 (wP τ) none = 0 := rfl
    rw [o40, o50] at s1'
    rw [s1']
    have e4 : o4 (some (a, b)) = nI (16 * a + b) := rfl
    have d1 : o4 (some (a, b)) / 16 = nI a := by
      rw [e4, kd16 (by omega)]
      congr 1
      omega
    have d2 : o4 (some (a, b)) - o4 (some (a, b)) / 16 * 16 = nI b := by
      rw [e4, kmod (by omega)]
      congr 1
      omega
    unfold jX12_findEdges_164 jX12_findEdges_206
    rw [d2, d1, cf, Option.isSome_some, bI_t, if_neg (by decide), Option.bind_some]
    simp only [bI_0]
    rw [EL1] at st
    unfold nxE at st
    dsimp only at st
    cases hb : (bareB (wn τ) (wP τ) a b && freeE (wP τ) a b (EL (wn τ) (wP τ) f i)) with
    | false =>
      rw [hb] at st
      rw [if_pos rfl]
      exact st σ (Kp.rf _ _) (fun _ _ => rfl) (by rw [if_neg (by simp)]; exact hE)
    | true =>
      rw [hb] at st
      rw [if_neg (by simp)]
      have len2 := EL_len hs hf hq (show i + 1 ≤ m by omega)
      rw [EL1] at len2
      unfold nxE at len2
      dsimp only at len2
      rw [hb, if_pos rfl, List.length_append] at len2
      have len3 : (EL (wn τ) (wP τ) f i).length < 42 := by
        have : [(a, b)].length = 1 := rfl
        omega
      obtain ⟨υ, t1, t2, t3, t4⟩ := m_takeEdge hv hM hF hMF hE len3 (show a < wn τ by omega) hbn (mt_new h16 hf hq (by omega) hab hkey)
      rw [t1, Option.bind_some]
      exact st υ t3 t4 (by rw [if_pos rfl]; exact t2)
theorem m_edges {τ σ : rS} (hv : VB τ) (hF : VF τ) {f : Nat → Nat} {m : Nat} (hm : m ≤ 120) (hf : incF f m) (hq : keyQ (allQ (wn τ)) (wP τ) f m) (hM : MB τ σ) (hMF : MF τ σ) : ∃ υ, fX12_findEdges σ = some ((), υ) ∧ Kp oE σ υ ∧ (∀ j, j ≠ 16 → υ.1 43 j = σ.1 43 j) ∧ isN υ (bkW τ) (EL (wn τ) (wP τ) f m) := by
  have loop : ∀ (r k fuel : Nat) (σ : rS), k + r = 256 → r < fuel → MB τ σ → MF τ σ → σ.1 43 16 = 0 → (∀ j, j < k → σ.2.2.1 56 j = -1) → ∃ υ, lX12_findEdges_7 fuel (nI k) σ = some ((), υ) ∧ Kp oE σ υ ∧ (∀ j, j ≠ 16 → υ.1 43 j = σ.1 43 j) ∧ isN υ (bkW τ) (EL (wn τ) (wP τ) f m) := by
    intro r
    induction r with
    | zero =>
      intro k fuel σ hk hfu hM hMF h0 h
      obtain ⟨fu, rfl⟩ : ∃ fu, fuel = fu + 1 := ⟨fuel - 1, by omega⟩
      obtain ⟨υ, u1, u2⟩ := find_loop2 hv hF hm hf hq m 0 1000 σ none (by omega) (by omega) rfl hM hMF ⟨⟨h0, fun k e z => (by simp [EL] at z)⟩, fun k e z => (by simp [EL] at z), fun a b ha hb => by rw [h _ (by omega)]; rfl⟩
      refine ⟨υ, ?_, u2⟩
      have c : (256 : Int32) ≤ nI k := (kle (a := 256) (by omega) (by omega)).mpr (by omega)
      rw [lX12_findEdges_7, if_pos c]
      exact u1
    | succ r ih =>
      intro k fuel σ hk hfu hM hMF h0 h
      obtain ⟨fu, rfl⟩ : ∃ fu, fuel = fu + 1 := ⟨fuel - 1, by omega⟩
      obtain ⟨υ, u1, u2, u3, u4⟩ := ih (k + 1) fu (uA σ 56 k (-1)) (by omega) (by omega) (MB.mo (υ := σ) rfl (fun n a b j => uA_ne (show n ≠ 56 by omega)) hM) (MF.mo (υ := σ) rfl (fun j => uA_ne (show (51 : Nat) ≠ 56 by omega)) hMF) h0 (fun j hj => by
        by_cases c : j = k
        · subst c; exact uA_eq _ _ _ _
        · rw [uA_nj c]; exact h j (by omega))
      refine ⟨υ, ?_, (Kp.uA (by omega)).tr u2, u3, u4⟩
      have c : ¬ (256 : Int32) ≤ nI k := fun z => by have := (kle (a := 256) (by omega) (by omega)).mp z; omega
      rw [← u1, lX12_findEdges_7, if_neg c, kinB (by omega), decide_eq_true (show k < 256 by omega)]
      simp only [if_true, vS_d, vI_d, k1, kc (show k < 2147483648 by omega)]
  obtain ⟨υ, u1, u2, u3, u4⟩ := loop 256 0 1000 (uI σ 43 16 0) rfl (by omega) (MB.mo (υ := σ) (uI_nj (by omega)) (fun n a b j => rfl) hM) (MF.mo (υ := σ) (uI_nj (by omega)) (fun j => rfl) hMF) (uI_eq _ _ _ _) (fun j hj => by omega)
  refine ⟨υ, ?_, (Kp.uI (by omega)).tr u2, fun j hj => by rw [u3 j hj, uI_nj hj], u4⟩
  unfold fX12_findEdges
  rw [vS_d]
  exact u1
