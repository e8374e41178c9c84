/-! THE ORDER OF PAIRS: the class sorts keys. -/
def sqN (p : Nat → zP) (a b : Nat) : Nat := (((p a).1 - (p b).1) * ((p a).1 - (p b).1) + ((p a).2 - (p b).2) * ((p a).2 - (p b).2)).toNat
def keyN (p : Nat → zP) (a b : Nat) : Nat := (sqN p a b * 16 + a) * 16 + b
def wP (σ : rS) (k : Nat) : zP := pz σ (80 + 4 * k + 1)
theorem wP_ok {σ : rS} (hv : VB σ) {k : Nat} (hk : k < wn σ) : okQ σ (80 + 4 * k + 1) := by
  obtain ⟨h1, h2, h3, h4, h5⟩ := hv
  obtain ⟨a, b, _⟩ := h4 k hk
  exact ⟨pl_ok (by omega), a, b⟩
theorem sqN_le {p : Nat → zP} {a b : Nat} (ha : okZ (p a)) (hb : okZ (p b)) : sqN p a b ≤ 8000000 := by
  obtain ⟨⟨a1, a2⟩, a3, a4⟩ := ha
  obtain ⟨⟨b1, b2⟩, b3, b4⟩ := hb
  have x := mulB (a := (p a).1 - (p b).1) (b := (p a).1 - (p b).1) (A := 2000) (B := 2000) (by omega) (by omega)
  have y := mulB (a := (p a).2 - (p b).2) (b := (p a).2 - (p b).2) (A := 2000) (B := 2000) (by omega) (by omega)
  unfold sqN
  omega
theorem sqN_I {σ : rS} (hv : VB σ) {a b : Nat} (ha : a < wn σ) (hb : b < wn σ) : sqI (wx σ a) (wy σ a) (wx σ b) (wy σ b) = nI (sqN (wP σ) a b) := by
  obtain ⟨h1, h2, h3, h4, h5⟩ := hv
  obtain ⟨a1, a2, _⟩ := h4 a ha
  obtain ⟨b1, b2, _⟩ := h4 b hb
  obtain ⟨e1, e2, e3⟩ := sqI_i a1 a2 b1 b2
  apply i_eq
  have e4 : (sqN (wP σ) a b : Int) = sqZ (wx σ a) (wy σ a) (wx σ b) (wy σ b) := by
    show ((sqZ (wx σ a) (wy σ a) (wx σ b) (wy σ b)).toNat : Int) = _
    omega
  rw [e1, ki (by omega), e4]
theorem keyN_i {p : Nat → zP} {a b c d : Nat} (hb : b < 16) (hd : d < 16) (ha : a < 16) (hc : c < 16) (h : keyN p a b = keyN p c d) : a = c ∧ b = d := by
  unfold keyN at h
  omega
theorem keyN_d {p : Nat → zP} {a b : Nat} (hb : b < 16) (ha : a < 16) : keyN p a b / 16 % 16 = a ∧ keyN p a b % 16 = b := by
  unfold keyN
  omega
def incF (f : Nat → Nat) (m : Nat) : Prop := ∀ i j, i < j → j < m → f i < f j
def keyQ (Q : Nat → Nat → Prop) (p : Nat → zP) (f : Nat → Nat) (m : Nat) : Prop := (∀ i, i < m → ∃ a b, Q a b ∧ f i = keyN p a b) ∧ ∀ a b, Q a b → ∃ i, i < m ∧ f i = keyN p a b
def hasK (σ : rS) (f : Nat → Nat) (m : Nat) : Prop := σ.1 10 10 = nI m ∧ ∀ i, i < m → σ.2.2.1 15 i = nI (f i)
abbrev oK (n : Nat) : Prop := n = 10 ∨ n = 15
def putF (f : Nat → Nat) (j key : Nat) (i : Nat) : Nat := if i < j then f i else if i = j then key else f (i - 1)
theorem putF_inc {f : Nat → Nat} {m j key : Nat} (hf : incF f m) (hj : j ≤ m) (h1 : ∀ i, i < j → f i < key) (h2 : ∀ i, j ≤ i → i < m → key < f i) : incF (putF f j key) (m + 1) := by
  intro a b hab hb
  unfold putF
  by_cases c1 : b < j
  · rw [if_pos (show a < j by omega), if_pos c1]
    exact hf a b hab (by omega)
  · rw [if_neg c1]
    by_cases c2 : b = j
    · rw [if_pos c2, if_pos (by omega)]
      exact h1 a (by omega)
    · rw [if_neg c2]
      by_cases c3 : a < j
      · rw [if_pos c3]
        have := h1 a c3
        have := h2 (b - 1) (by omega) (by omega)
        omega
      · rw [if_neg c3]
        by_cases c4 : a = j
        · rw [if_pos c4]
          exact h2 (b - 1) (by omega) (by omega)
        · rw [if_neg c4]
          exact hf (a - 1) (b - 1) (by omega) (by omega)
theorem putF_mem {f : Nat → Nat} {m j key : Nat} (hj : j ≤ m) (x : Nat) : (∃ i, i < m + 1 ∧ putF f j key i = x) ↔ x = key ∨ ∃ i, i < m ∧ f i = x := by
  constructor
  · rintro ⟨i, hi, he⟩
    unfold putF at he
    by_cases c1 : i < j
    · rw [if_pos c1] at he
      exact Or.inr ⟨i, by omega, he⟩
    · rw [if_neg c1] at he
      by_cases c2 : i = j
      · rw [if_pos c2] at he
        exact Or.inl he.symm
      · rw [if_neg c2] at he
        exact Or.inr ⟨i - 1, by omega, he⟩
  · rintro (he | ⟨i, hi, he⟩)
    · refine ⟨j, by omega, ?_⟩
      unfold putF
      rw [if_neg (by omega), if_pos rfl, he]
    · by_cases c1 : i < j
      · refine ⟨i, by omega, ?_⟩
        unfold putF
        rw [if_pos c1, he]
      · refine ⟨i + 1, by omega, ?_⟩
        unfold putF
        rw [if_neg (by omega), if_neg (by omega)]
        exact he
theorem ins_loop {f : Nat → Nat} {m key : Nat} (hf : incF f m) (hm : m < 120) (hk : key < 2147483648) (hfb : ∀ i, i < m → f i < 2147483648) (hnew : ∀ i, i < m → f i ≠ key) : ∀ (j fuel : Nat) (σ : rS), j ≤ m → j < fuel → σ.1 10 10 = nI m → (∀ i, i < j → σ.2.2.1 15 i = nI (f i)) → (∀ i, j ≤ i → i < m → σ.2.2.1 15 (i + 1) = nI (f i)) → (∀ i, j ≤ i → i < m → key < f i) → ∃ τ j', lX6_insertKey_15 fuel (nI key) (nI j) σ = some ((), τ) ∧ j' ≤ m ∧ incF (putF f j' key) (m + 1) ∧ hasK τ (putF f j' key) (m + 1) ∧ Kp oK σ τ := by
  have fin : ∀ (j : Nat) (σ : rS), j ≤ m → σ.1 10 10 = nI m → (∀ i, i < j → σ.2.2.1 15 i = nI (f i)) → (∀ i, j ≤ i → i < m → σ.2.2.1 15 (i + 1) = nI (f i)) → (∀ i, j ≤ i → i < m → key < f i) → (∀ i, i < j → f i < key) → ∃ τ j', jX6_insertKey_51 (nI key) (nI j) σ = some ((), τ) ∧ j' ≤ m ∧ incF (putF f j' key) (m + 1) ∧ hasK τ (putF f j' key) (m + 1) ∧ Kp oK σ τ := by
    intro j σ hj h1 h2 h3 h4 h5
    refine ⟨uI (uA σ 15 j (nI key)) 10 10 (nI (m + 1)), j, ?_, hj, putF_inc hf hj h5 h4, ⟨uI_eq _ _ _ _, fun i hi => ?_⟩, (Kp.uA (Or.inr rfl)).tr (Kp.uI (Or.inl rfl))⟩
    · unfold jX6_insertKey_51
      rw [kinB (by omega), decide_eq_true (show j < 120 by omega), if_pos rfl]
      simp only [vS_d, kc (show j < 2147483648 by omega), uA_1, h1]
      show some ((), uI _ 10 10 (nI m + nI 1)) = _
      rw [kadd]
    · rw [uI_2, uA_3]
      unfold putF
      by_cases c1 : i < j
      · rw [if_neg (by omega), if_pos c1]
        exact h2 i c1
      · by_cases c2 : i = j
        · rw [if_pos ⟨rfl, c2⟩, if_neg c1, if_pos c2]
        · rw [if_neg (fun z => c2 z.2), if_neg c1, if_neg c2]
          have := h3 (i - 1) (by omega) (by omega)
          rw [Nat.sub_add_cancel (by omega)] at this
          exact this
  intro j
  induction j with
  | zero =>
    intro fuel σ hj hfu h1 h2 h3 h4
    obtain ⟨fu, rfl⟩ : ∃ fu, fuel = fu + 1 := ⟨fuel - 1, by omega⟩
    rw [lX6_insertKey_15, if_pos (by decide)]
    exact fin 0 σ hj h1 h2 h3 h4 (fun i hi => by omega)
  | succ j ih =>
    intro fuel σ hj hfu h1 h2 h3 h4
    obtain ⟨fu, rfl⟩ : ∃ fu, fuel = fu + 1 := ⟨fuel - 1, by omega⟩
    have e1 : nI (j + 1) - 1 = nI j := by
      show nI (j + 1) - nI 1 = _
      rw [ksub (by omega)]; rfl
    have e2 : nI (j + 1) + (-1) = nI j := by
      rw [← e1]
      rw [Int32.sub_eq_add_neg]
    have c0 : ¬ nI (j + 1) ≤ 0 := by
      show ¬ nI (j + 1) ≤ nI 0
      rw [kle (by omega) (by omega)]; omega
    rw [lX6_insertKey_15, if_neg c0]
    rw [e1, kinB (by omega), decide_eq_true (show j < 120 by omega), if_pos rfl, kc (by omega), h2 j (by omega), kinB (by omega), decide_eq_true (show j + 1 < 120 by omega)]
    simp only [if_true, vS_d, vI_d, e2, kc (show j + 1 < 2147483648 by omega)]
    by_cases c1 : f j ≤ key
    · rw [if_pos ((kle (hfb j (by omega)) hk).mpr c1)]
      refine fin (j + 1) σ hj h1 h2 h3 h4 (fun i hi => ?_)
      have := hnew j (by omega)
      by_cases c2 : i = j
      · subst c2; omega
      · have := hf i j (by omega) (by omega)
        omega
    · rw [if_neg (fun z => c1 ((kle (hfb j (by omega)) hk).mp z))]
      obtain ⟨τ, j', a, b, c, d, e⟩ := ih fu (uA σ 15 (j + 1) (nI (f j))) (by omega) (by omega) h1 (fun i hi => by rw [uA_nj (by omega)]; exact h2 i (by omega)) (fun i hi hi2 => by
        by_cases c2 : i = j
        · subst c2; exact uA_eq _ _ _ _
        · rw [uA_nj (by omega)]; exact h3 i (by omega) hi2) (fun i hi hi2 => by
        by_cases c2 : i = j
        · subst c2; omega
        · exact h4 i (by omega) hi2)
      exact ⟨τ, j', a, b, c, d, (Kp.uA (Or.inr rfl)).tr e⟩
theorem c_insert {f : Nat → Nat} {m key : Nat} {σ : rS} (hf : incF f m) (hm : m < 120) (hk : key < 2147483648) (hfb : ∀ i, i < m → f i < 2147483648) (hnew : ∀ i, i < m → f i ≠ key) (hs : hasK σ f m) : ∃ τ j', fX6_insertKey (nI key) σ = some ((), τ) ∧ j' ≤ m ∧ incF (putF f j' key) (m + 1) ∧ hasK τ (putF f j' key) (m + 1) ∧ Kp oK σ τ := by
  obtain ⟨τ, j', a, b, c, d, e⟩ := ins_loop hf hm hk hfb hnew m 1000 σ (Nat.le_refl _) (by omega) hs.1 hs.2 (fun i hi hi2 => by omega) (fun i hi hi2 => by omega)
  refine ⟨τ, j', ?_, b, c, d, e⟩
  unfold fX6_insertKey
  rw [hs.1]
  have : nI m < 120 := (klt (b := 120) (by omega) (by omega)).mpr hm
  rw [if_pos this]
  exact a
/-- the pairs ahead of (a, b) -/
def preQ (n a b : Nat) (c d : Nat) : Prop := c < d ∧ d < n ∧ (c < a ∨ (c = a ∧ d < b))
theorem cnt_ok : ∀ n, n < 17 → ∀ a, a < n → ∀ b, b < n → a < b → a * (2 * n - a - 1) + 2 * (b - a - 1) < 240 := by decide
theorem cnt_nx : ∀ n, n < 17 → ∀ a, a < n → a * (2 * n - a - 1) + 2 * (n - a - 1) = (a + 1) * (2 * n - (a + 1) - 1) := by decide
def ordI (σ : rS) (n : Nat) (p : Nat → zP) (a b : Nat) : Prop := ∃ f m, incF f m ∧ keyQ (preQ n a b) p f m ∧ hasK σ f m ∧ 2 * m = a * (2 * n - a - 1) + 2 * (b - a - 1)
theorem ord_in {υ : rS} (hv : VB υ) {k7 : Int32 → rS → Option (Unit × rS)} {a : Nat} (ha : a < wn υ) : ∀ (r b fuel : Nat) (σ : rS), a < b → b + r = wn υ → r < fuel → Kp oK υ σ → ordI σ (wn υ) (wP υ) a b → ∃ τ, lX6_orderPairs_30 k7 fuel (nI a) (80 + 4 * a + 1) (nI b) σ = k7 (nI (a + 1)) τ ∧ Kp oK υ τ ∧ ordI τ (wn υ) (wP υ) a (wn υ) := by
  intro r
  have h16 := hv.2.1
  induction r with
  | zero =>
    intro b fuel σ hab hb hfu hkp hI
    obtain ⟨fu, rfl⟩ : ∃ fu, fuel = fu + 1 := ⟨fuel - 1, by omega⟩
    obtain rfl : b = wn υ := by omega
    refine ⟨σ, ?_, hkp, hI⟩
    rw [lX6_orderPairs_30]
    have e : σ.1 1 1 = nI (wn υ) := by rw [(hkp.1 1 (by omega)).1]; exact hv.1
    rw [e, if_pos ((kle (by omega) (by omega)).mpr (Nat.le_refl _))]
    show k7 (nI a + nI 1) σ = _
    rw [kadd]
  | succ r ih =>
    intro b fuel σ hab hb hfu hkp hI
    obtain ⟨fu, rfl⟩ : ∃ fu, fuel = fu + 1 := ⟨fuel - 1, by omega⟩
    have e : σ.1 1 1 = nI (wn υ) := by rw [(hkp.1 1 (by omega)).1]; exact hv.1
    have ea := hkp.1 (80 + 4 * a + 1) (by omega)
    have eb := hkp.1 (80 + 4 * b + 1) (by omega)
    have oka := (wP_ok hv ha).2
    have okb := (wP_ok hv (show b < wn υ by omega)).2
    have hs := sqN_le (p := wP υ) oka okb
    have hkb : keyN (wP υ) a b < 2147483648 := by unfold keyN; omega
    obtain ⟨f, m, hf, hq, hh, hc⟩ := hI
    have hm := cnt_ok (wn υ) (by omega) a ha b (by omega) hab
    have hfb : ∀ i, i < m → f i < 2147483648 := fun i hi => by
      obtain ⟨c, d, hcd, he⟩ := hq.1 i hi
      obtain ⟨h1, h2, _⟩ := hcd
      have := sqN_le (p := wP υ) (wP_ok hv (show c < wn υ by omega)).2 (wP_ok hv (show d < wn υ by omega)).2
      rw [he]; unfold keyN; omega
    have hnew : ∀ i, i < m → f i ≠ keyN (wP υ) a b := fun i hi z => by
      obtain ⟨c, d, hcd, he⟩ := hq.1 i hi
      obtain ⟨h1, h2, h3⟩ := hcd
      rw [he] at z
      have := keyN_i (by omega) (by omega) (by omega) (by omega) z
      omega
    obtain ⟨τ, j', s1, s2, s3, s4, s5⟩ := c_insert hf (by omega) hkb hfb hnew hh
    obtain ⟨τ2, t1, t2, t3⟩ := ih (b + 1) fu τ (by omega) (by omega) (by omega) (hkp.tr s5) ⟨putF f j' (keyN (wP υ) a b), m + 1, s3, by
      refine ⟨fun i hi => ?_, fun c d hcd => ?_⟩
      · rcases (putF_mem s2 _).mp ⟨i, hi, rfl⟩ with z | ⟨i2, z1, z2⟩
        · exact ⟨a, b, ⟨hab, by omega, Or.inr ⟨rfl, by omega⟩⟩, z⟩
        · obtain ⟨c, d, hcd, he⟩ := hq.1 i2 z1
          exact ⟨c, d, ⟨hcd.1, hcd.2.1, by have := hcd.2.2; omega⟩, by rw [← z2]; exact he⟩
      · refine (putF_mem s2 _).mpr ?_
        by_cases z : c = a ∧ d = b
        · left; rw [z.1, z.2]
        · right; exact hq.2 c d ⟨hcd.1, hcd.2.1, by have := hcd.2.2; omega⟩, s4, by omega⟩
    refine ⟨τ2, ?_, t2, t3⟩
    rw [← t1, lX6_orderPairs_30]
    rw [e, if_neg (by rw [kle (by omega) (by omega)]; omega), kinB (by omega), decide_eq_true (show b < 16 by omega), if_pos rfl]
    simp only [kc (show b < 2147483648 by omega), if_pos (bo_ok (show b < 16 by omega)), if_pos (pl_ok (show a < 16 by omega)), if_pos (pl_ok (show b < 16 by omega))]
    rw [c_square (by omega), Option.bind_some]
    have esq : sqI (σ.1 (80 + 4 * a + 1) 0) (σ.1 (80 + 4 * a + 1) 1) (wx σ b) (wy σ b) = nI (sqN (wP υ) a b) := by
      rw [ea.1, ea.1, wx_kp eb, wy_kp eb]
      exact sqN_I hv ha (by omega)
    rw [esq]
    have ekey : (nI (sqN (wP υ) a b) * 16 + nI a) * 16 + nI b = nI (keyN (wP υ) a b) := by
      show (nI (sqN (wP υ) a b) * nI 16 + nI a) * nI 16 + nI b = _
      rw [kmul, kadd, kmul, kadd]
      rfl
    simp only [vI_d]
    rw [ekey, s1, Option.bind_some]
    show lX6_orderPairs_30 k7 fu _ _ (nI b + nI 1) τ = _
    rw [kadd]
theorem ord_out {υ : rS} (hv : VB υ) : ∀ (r a fuel : Nat) (σ : rS), a + r = wn υ → r < fuel → Kp oK υ σ → ordI σ (wn υ) (wP υ) a (a + 1) → ∃ τ, lX6_orderPairs_7 fuel (nI a) σ = some ((), τ) ∧ Kp oK υ τ ∧ ordI τ (wn υ) (wP υ) (wn υ) (wn υ + 1) := by
  intro r
  have h16 := hv.2.1
  induction r with
  | zero =>
    intro a fuel σ ha hfu hkp hI
    obtain ⟨fu, rfl⟩ : ∃ fu, fuel = fu + 1 := ⟨fuel - 1, by omega⟩
    obtain rfl : a = wn υ := by omega
    refine ⟨σ, ?_, hkp, hI⟩
    rw [lX6_orderPairs_7]
    have e : σ.1 1 1 = nI (wn υ) := by rw [(hkp.1 1 (by omega)).1]; exact hv.1
    rw [e, if_pos ((kle (by omega) (by omega)).mpr (Nat.le_refl _))]
  | succ r ih =>
    intro a fuel σ ha hfu hkp hI
    obtain ⟨fu, rfl⟩ : ∃ fu, fuel = fu + 1 := ⟨fuel - 1, by omega⟩
    have e : σ.1 1 1 = nI (wn υ) := by rw [(hkp.1 1 (by omega)).1]; exact hv.1
    obtain ⟨τ, s1, s2, f, m, s3, s4, s5, s6⟩ := ord_in hv (k7 := lX6_orderPairs_7 fu) (show a < wn υ by omega) (wn υ - (a + 1)) (a + 1) 1000 σ (by omega) (by omega) (by omega) hkp hI
    obtain ⟨τ2, t1, t2, t3⟩ := ih (a + 1) fu τ (by omega) (by omega) s2 ⟨f, m, s3, by
      refine ⟨fun i hi => ?_, fun c d hcd => ?_⟩
      · obtain ⟨c, d, hcd, he⟩ := s4.1 i hi
        exact ⟨c, d, ⟨hcd.1, hcd.2.1, by have := hcd.2.2; omega⟩, he⟩
      · exact s4.2 c d ⟨hcd.1, hcd.2.1, by have := hcd.1; have := hcd.2.1; have := hcd.2.2; omega⟩, s5, by
      have := cnt_nx (wn υ) (by omega) a (by omega)
      omega⟩
    refine ⟨τ2, ?_, t2, t3⟩
    rw [← t1, ← s1, lX6_orderPairs_7]
    rw [e, if_neg (by rw [kle (by omega) (by omega)]; omega), kinB (by omega), decide_eq_true (show a < 16 by omega), if_pos rfl]
    simp only [kc (show a < 2147483648 by omega), if_pos (bo_ok (show a < 16 by omega)), vI_d]
    show lX6_orderPairs_30 _ _ _ _ (nI a + nI 1) σ = _
    rw [kadd]
def allQ (n : Nat) (c d : Nat) : Prop := c < d ∧ d < n
theorem c_order {υ : rS} (hv : VB υ) : ∃ τ f m, fX6_orderPairs υ = some ((), τ) ∧ Kp oK υ τ ∧ incF f m ∧ keyQ (allQ (wn υ)) (wP υ) f m ∧ hasK τ f m ∧ m ≤ 120 := by
  have h16 := hv.2.1
  obtain ⟨τ, s1, s2, f, m, s3, s4, s5, s6⟩ := ord_out hv (wn υ) 0 1000 (uI υ 10 10 0) (by omega) (by omega) (Kp.uI (Or.inl rfl)) ⟨fun _ => 0, 0, fun i j _ h => by omega, ⟨fun i hi => by omega, fun c d hcd => by have := hcd.1; have := hcd.2.2; omega⟩, ⟨uI_eq _ _ _ _, fun i hi => by omega⟩, by omega⟩
  refine ⟨τ, f, m, s1, s2, s3, ⟨fun i hi => ?_, fun c d hcd => ?_⟩, s5, ?_⟩
  · obtain ⟨c, d, hcd, he⟩ := s4.1 i hi
    exact ⟨c, d, ⟨hcd.1, hcd.2.1⟩, he⟩
  · exact s4.2 c d ⟨hcd.1, hcd.2, by have := hcd.1; have := hcd.2; omega⟩
  · have : ∀ n, n < 17 → n * (2 * n - n - 1) + 2 * (n + 1 - n - 1) ≤ 240 := by decide
    have := this (wn υ) (by omega)
    omega
