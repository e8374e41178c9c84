/-! volume. -/
theorem jadd (a b : Nat) : jI a + jI b = jI (a + b) := (Int64.ofNat_add a b).symm
theorem jmul (a b : Nat) : jI a * jI b = jI (a * b) := (Int64.ofNat_mul a b).symm
theorem jsub {a b : Nat} (h : b ≤ a) : jI a - jI b = jI (a - b) := by
  have : jI a = jI (a - b) + jI b := by rw [jadd]; congr 1; omega
  rw [this, Int64.add_sub_cancel]
def thN (τ : rS) (f : Nat → Option Nat) (c b : Nat) : Nat → Nat
  | 0 => 0
  | l + 1 => thN τ f c b l + if f (12 * b + l) = some c then hN τ b l else 0
def hsN (f : Nat → Option Nat) (c b : Nat) : Nat := if 0 < hereN f c b 12 then 1 else 0
def cnT (f : Nat → Option Nat) (c : Nat) (t : Nat × Nat × Nat) : Nat := hsN f c t.1 + hsN f c t.2.1 + hsN f c t.2.2
def thT (τ : rS) (f : Nat → Option Nat) (c : Nat) (t : Nat × Nat × Nat) : Nat := thN τ f c t.1 12 + thN τ f c t.2.1 12 + thN τ f c t.2.2 12
def shN (n q : Nat) : Nat := if n = 3 then 20000 else if n = 2 then 300 * q - q * q else if n = 1 then 2 * q * q else 0
def trm (τ : rS) (f : Nat → Option Nat) (kd : Nat → Bool) (q : Nat) (t : Nat × Nat × Nat) (c : Nat) : Int64 := if kd c = true then jI (tz (wP τ t.1) (wP τ t.2.1) (wP τ t.2.2)).natAbs * jI (shN (cnT f c t) q) * jI (thT τ f c t) else 0
def smV (g : Nat → Int64) : Nat → Nat → Int64
  | 0, _ => 0
  | r + 1, k => g k + smV g r (k + 1)
section Vol
variable {σ ρ τ : rS} {bk : Nat × Nat → Bool} {E : List (Nat × Nat)} {T : List (Nat × Nat × Nat)} {f : Nat → Option Nat} {L : List Nat}
theorem thN_up {c b : Nat} : ∀ (d l : Nat), (∀ i, l ≤ i → i < l + d → f (12 * b + i) ≠ some c) → thN τ f c b (l + d) = thN τ f c b l
  | 0, l, _ => rfl
  | d + 1, l, h => by
    rw [← Nat.add_assoc, thN, if_neg (h (l + d) (by omega) (by omega)), thN_up d l (fun i h1 h2 => h i h1 (by omega))]
    omega
theorem thN_wl (hv : VB τ) (hok : ∀ x c, f x = some c → okS τ x ∧ c < 192) {b : Nat} (hb : b < wn τ) (c : Nat) : thN τ f c b 12 = thN τ f c b (wl τ b) := by
  have lb := (l_ok hv hb).2
  obtain ⟨d, hd⟩ : ∃ d, 12 = wl τ b + d := ⟨12 - wl τ b, by omega⟩
  rw [hd, thN_up d (wl τ b) (fun i h1 h2 z => by
    obtain ⟨⟨a, i', x1, x2, x3⟩, _⟩ := hok _ c z
    have := (l_ok hv x1).2
    by_cases e : a = b
    · subst e; omega
    · omega)]
theorem c_thick1 (hv : VB τ) (hok : ∀ x c, f x = some c → okS τ x ∧ c < 192) (hn : numF σ 26 f) (hl : levS σ τ (wn τ)) {c b : Nat} (hc : c < 192) (hb : b < wn τ) {k6 : Int32 → Int32 → Int64 → Int32 → rS → Option (Int64 × rS)} (v2 v6 : Int32) (w : Nat) : ∀ (r l fuel : Nat), l + r = 12 → r < fuel → lX0_thicknessOn_29 k6 fuel v2 (nI c) (jI (w + thN τ f c b l)) v6 (nI b) (nI (12 * b + l)) σ = k6 v2 (nI c) (jI (w + thN τ f c b 12)) (v6 + 1) σ := by
  have h16 := hv.2.1
  have lb := (l_ok hv hb).2
  have nc : ∀ x, x < 192 → (σ.2.2.1 26 x = nI c) = (f x = some c) := fun x hx => by
    rw [hn x hx]
    cases hfx : f x with
    | none =>
      apply propext
      exact ⟨fun z => absurd z.symm (kne1 (by omega)), fun z => (by cases z)⟩
    | some d =>
      have := (hok x d hfx).2
      apply propext
      have q : oI (some d) = nI d := rfl
      rw [q, keq (by omega) (by omega)]
      simp
  have e13 : (nI b + 1) * 12 + 0 = nI (12 * b + 12) := by
    rw [k1]
    show nI (b + 1) * nI 12 + nI 0 = _
    rw [kmul, kadd]
    congr 1
    omega
  intro r
  induction r with
  | zero =>
    intro l fuel hl' hfu
    obtain ⟨fu, rfl⟩ : ∃ fu, fuel = fu + 1 := ⟨fuel - 1, by omega⟩
    obtain rfl : l = 12 := by omega
    rw [lX0_thicknessOn_29]
    unfold fX11_slotOf
    rw [e13, Option.bind_some]
    dsimp only
    rw [if_pos ((kle (by omega) (by omega)).mpr (by omega)), vI_d]
  | succ r ih =>
    intro l fuel hl' hfu
    obtain ⟨fu, rfl⟩ : ∃ fu, fuel = fu + 1 := ⟨fuel - 1, by omega⟩
    have it := ih (l + 1) fu (by omega) (by omega)
    rw [thN] at it
    rw [lX0_thicknessOn_29]
    unfold fX11_slotOf
    rw [e13, Option.bind_some]
    dsimp only
    rw [if_neg (by rw [kle (by omega) (by omega)]; omega), kinB (by omega), decide_eq_true (show 12 * b + l < 192 by omega), if_pos rfl, kc (by omega)]
    simp only [nc (12 * b + l) (by omega)]
    unfold jX0_thicknessOn_66
    simp only [vI_d, k1, vJ_d]
    by_cases z : f (12 * b + l) = some c
    · rw [if_pos z] at it ⊢
      obtain ⟨⟨a, i, x1, x2, x3⟩, _⟩ := hok _ c z
      have la := (l_ok hv x1).2
      have ll : l < wl τ b := by
        by_cases e : a = b
        · subst e; omega
        · omega
      have h2 := (h_ok hv hb ll).2
      rw [if_pos trivial, (hl b l hb ll).2, j_nI (by omega), jadd, Nat.add_assoc]
      exact it
    · rw [if_neg z] at it ⊢
      rw [Nat.add_zero] at it
      exact it
theorem c_thickT (hv : VB τ) (hok : ∀ x c, f x = some c → okS τ x ∧ c < 192) (hn : numF σ 26 f) (hl : levS σ τ (wn τ)) (hT : isTr σ (wP τ) T) (hT27 : T.length ≤ 27) {c k : Nat} (hc : c < 192) {t : Nat × Nat × Nat} (ht : T[k]? = some t) (hm : t.1 < wn τ ∧ t.2.1 < wn τ ∧ t.2.2 < wn τ) : fX0_thicknessOn (nI k) (nI c) σ = some (jI (thT τ f c t), σ) := by
  have h16 := hv.2.1
  obtain ⟨c0, c1, c2⟩ := c_corner (j := 0) (wP τ) hT hT27 ht
  obtain ⟨m1, m2, m3⟩ := hm
  have sl : ∀ b : Nat, nI b * 12 + 0 = nI (12 * b) := fun b => by
    show nI b * nI 12 + nI 0 = _
    rw [kmul, kadd, Nat.mul_comm]
    rfl
  unfold fX0_thicknessOn
  show lX0_thicknessOn_6 (996 + 1 + 1 + 1 + 1) (nI k) (nI c) 0 0 σ = _
  have z0 : (0 : Int64) = jI (0 + thN τ f c t.1 0) := rfl
  rw [z0, lX0_thicknessOn_6, if_neg (by decide), c0, Option.bind_some, vI_d]
  unfold fX11_slotOf
  rw [sl, Option.bind_some, vI_d]
  have s1 := c_thick1 hv hok hn hl hc m1 (k6 := lX0_thicknessOn_6 (996 + 1 + 1 + 1)) (nI k) 0 0 12 0 1000 (by omega) (by omega)
  rw [show 12 * t.1 + 0 = 12 * t.1 from rfl] at s1
  dsimp only at s1 ⊢
  rw [s1]
  show lX0_thicknessOn_6 (996 + 1 + 1 + 1) (nI k) (nI c) _ 1 σ = _
  rw [lX0_thicknessOn_6, if_neg (by decide), c1, Option.bind_some, vI_d]
  unfold fX11_slotOf
  rw [sl, Option.bind_some, vI_d]
  have s2 := c_thick1 hv hok hn hl hc m2 (k6 := lX0_thicknessOn_6 (996 + 1 + 1)) (nI k) 1 (0 + thN τ f c t.1 12) 12 0 1000 (by omega) (by omega)
  rw [show 12 * t.2.1 + 0 = 12 * t.2.1 from rfl] at s2
  have z1 : jI (0 + thN τ f c t.1 12) = jI (0 + thN τ f c t.1 12 + thN τ f c t.2.1 0) := rfl
  dsimp only at s2 ⊢
  rw [z1, s2]
  show lX0_thicknessOn_6 (996 + 1 + 1) (nI k) (nI c) _ 2 σ = _
  rw [lX0_thicknessOn_6, if_neg (by decide), c2, Option.bind_some, vI_d]
  unfold fX11_slotOf
  rw [sl, Option.bind_some, vI_d]
  have s3 := c_thick1 hv hok hn hl hc m3 (k6 := lX0_thicknessOn_6 (996 + 1)) (nI k) 2 (0 + thN τ f c t.1 12 + thN τ f c t.2.1 12) 12 0 1000 (by omega) (by omega)
  rw [show 12 * t.2.2 + 0 = 12 * t.2.2 from rfl] at s3
  have z2 : jI (0 + thN τ f c t.1 12 + thN τ f c t.2.1 12) = jI (0 + thN τ f c t.1 12 + thN τ f c t.2.1 12 + thN τ f c t.2.2 0) := rfl
  dsimp only at s3 ⊢
  rw [z2, s3]
  show lX0_thicknessOn_6 (996 + 1) (nI k) (nI c) _ 3 σ = _
  rw [lX0_thicknessOn_6, if_pos (by decide), Nat.zero_add]
  rfl
theorem m_thick1 (hv : VB τ) (hM : MB σ ρ) (ag : agT σ τ) (hok : ∀ x c, f x = some c → okS τ x ∧ c < 192) (hn : numF ρ 60 f) {c b : Nat} (hc : c < 192) (hb : b < wn τ) : fX12_thickness (nI c) (nI b) ρ = some (jI (thN τ f c b 12), ρ) := by
  have h16 := hv.2.1
  have lb := (l_ok hv hb).2
  have nc : ∀ x, x < 192 → (ρ.2.2.1 60 x = nI c) = (f x = some c) := fun x hx => num_c hn hx hc (fun x d h => (hok x d h).2)
  have mh := hM.2 b (by rw [ag.1]; exact hb)
  have agb := ag.2 b hb
  have w47 : ρ.2.2.1 47 b = nI (wl τ b) := by
    obtain ⟨_, _, _, z, _⟩ := mh
    rw [z, agb.2.2.2.1]
  have w49 : ∀ l, l < wl τ b → ρ.2.2.1 49 (12 * b + l) = nI (hN τ b l) := fun l hl => by
    obtain ⟨_, _, _, _, z⟩ := mh
    rw [(z l (by rw [agb.2.2.2.1]; exact hl)).2, (agb.2.2.2.2 l hl).2]
    exact (h_ok hv hb hl).1
  have sl : ∀ l : Nat, (12 : Int32) * nI b + nI l = nI (12 * b + l) := fun l => by
    show nI 12 * nI b + nI l = _
    rw [kmul, kadd]
  have loop : ∀ (r l fuel : Nat), l + r = wl τ b → r < fuel → lX12_thickness_5 fuel (nI c) (nI b) (jI (thN τ f c b l)) (nI l) ρ = some (jI (thN τ f c b (wl τ b)), ρ) := by
    intro r
    induction r with
    | zero =>
      intro l fuel hl hfu
      obtain ⟨fu, rfl⟩ : ∃ fu, fuel = fu + 1 := ⟨fuel - 1, by omega⟩
      obtain rfl : l = wl τ b := by omega
      rw [lX12_thickness_5, kinB (by omega), decide_eq_true (show b < 16 by omega), if_pos rfl, kc (by omega), w47, if_pos ((kle (by omega) (by omega)).mpr (Nat.le_refl _))]
    | succ r ih =>
      intro l fuel hl hfu
      obtain ⟨fu, rfl⟩ : ∃ fu, fuel = fu + 1 := ⟨fuel - 1, by omega⟩
      have it := ih (l + 1) fu (by omega) (by omega)
      rw [thN] at it
      have h2 := (h_ok hv hb (show l < wl τ b by omega)).2
      rw [lX12_thickness_5, kinB (by omega), decide_eq_true (show b < 16 by omega), if_pos rfl, kc (by omega), w47, if_neg (by rw [kle (by omega) (by omega)]; omega), sl, kinB (by omega), decide_eq_true (show 12 * b + l < 192 by omega), if_pos rfl, kc (by omega)]
      simp only [nc (12 * b + l) (by omega)]
      unfold jX12_thickness_50
      simp only [vI_d, k1, vJ_d]
      by_cases z : f (12 * b + l) = some c
      · rw [if_pos z] at it ⊢
        rw [if_pos trivial, w49 l (by omega), j_nI (by omega), jadd]
        exact it
      · rw [if_neg z] at it ⊢
        have e0 : jI (thN τ f c b l) + 0 = jI (thN τ f c b l + 0) := jadd _ 0
        rw [e0]
        exact it
  rw [thN_wl hv hok hb c]
  exact loop (wl τ b) 0 1000 (by omega) (by omega)
theorem cnt3 (p : Nat → Bool) (a b c : Nat) (hab : a < b) (hbc : b < c) : ∀ N, (List.range N).countP (fun i => p i && decide (i = a ∨ i = b ∨ i = c)) = (if a < N ∧ p a = true then 1 else 0) + (if b < N ∧ p b = true then 1 else 0) + (if c < N ∧ p c = true then 1 else 0)
  | 0 => by simp
  | N + 1 => by
    have gs : ∀ x, (if x < N + 1 ∧ p x = true then 1 else 0) = (if x < N ∧ p x = true then 1 else 0) + (if N = x ∧ p N = true then 1 else 0) := fun x => by
      by_cases z : N = x
      · subst z
        rw [if_neg (show ¬ (N < N ∧ p N = true) by omega), Nat.zero_add]
        have : (N < N + 1 ∧ p N = true) = (N = N ∧ p N = true) := propext ⟨fun z => ⟨rfl, z.2⟩, fun z => ⟨by omega, z.2⟩⟩
        simp only [this]
      · rw [if_neg (show ¬ (N = x ∧ p N = true) from fun y => z y.1)]
        have : (x < N + 1 ∧ p x = true) = (x < N ∧ p x = true) := propext ⟨fun z => ⟨by omega, z.2⟩, fun z => ⟨by omega, z.2⟩⟩
        simp only [this, Nat.add_zero]
    have e : List.countP (fun i => p i && decide (i = a ∨ i = b ∨ i = c)) [N] = (if N = a ∧ p N = true then 1 else 0) + (if N = b ∧ p N = true then 1 else 0) + (if N = c ∧ p N = true then 1 else 0) := by
      rw [List.countP_singleton]
      cases hp : p N with
      | false => simp
      | true =>
        simp only [Bool.true_and, decide_eq_true_eq, and_true]
        by_cases ha : N = a
        · rw [if_pos (Or.inl ha), if_pos ha, if_neg (show ¬ N = b by omega), if_neg (show ¬ N = c by omega)]
        · by_cases hb : N = b
          · rw [if_pos (Or.inr (Or.inl hb)), if_neg ha, if_pos hb, if_neg (show ¬ N = c by omega)]
          · by_cases hc : N = c
            · rw [if_pos (Or.inr (Or.inr hc)), if_neg ha, if_neg hb, if_pos hc]
            · rw [if_neg (by omega), if_neg ha, if_neg hb, if_neg hc]
    rw [List.range_succ, List.countP_append, cnt3 p a b c hab hbc N, e, gs a, gs b, gs c]
    omega
theorem msk3 {v : Int32} {c : Nat} (h : mskP v f c) {t : Nat × Nat × Nat} (h1 : t.1 < t.2.1) (h2 : t.2.1 < t.2.2) (h3 : t.2.2 < 16) : ∃ m, v = nI m ∧ m < 65536 ∧ popc 16 (m &&& (2 ^ t.1 ||| 2 ^ t.2.1 ||| 2 ^ t.2.2)) = cnT f c t := by
  obtain ⟨m, e1, e2, e3⟩ := h
  refine ⟨m, e1, e2, ?_⟩
  unfold popc
  have : (fun i => (m &&& (2 ^ t.1 ||| 2 ^ t.2.1 ||| 2 ^ t.2.2)).testBit i) = fun i => m.testBit i && decide (i = t.1 ∨ i = t.2.1 ∨ i = t.2.2) := funext fun i => by
    rw [Nat.testBit_and, Nat.testBit_or, Nat.testBit_or, Nat.testBit_two_pow, Nat.testBit_two_pow, Nat.testBit_two_pow]
    congr 1
    rw [← Bool.decide_or, ← Bool.decide_or, decide_eq_decide]
    omega
  rw [this, cnt3 _ _ _ _ h1 h2]
  unfold cnT hsN
  have q : ∀ x, x < 16 → (if x < 16 ∧ m.testBit x = true then 1 else 0) = if 0 < hereN f c x 12 then 1 else 0 := fun x hx => by
    have : (x < 16 ∧ m.testBit x = true) = (0 < hereN f c x 12) := propext (by
      rw [here_pos, e3 x hx]
      exact ⟨fun z => z.2, fun z => ⟨hx, z⟩⟩)
    simp only [this]
  rw [q t.1 (by omega), q t.2.1 (by omega), q t.2.2 h3]
theorem cnT_le (f : Nat → Option Nat) (c : Nat) (t : Nat × Nat × Nat) : cnT f c t ≤ 3 := by
  unfold cnT hsN
  split <;> split <;> split <;> omega
theorem c_share {n q : Nat} (hn : n ≤ 3) (hq : q ≤ 100) (σ : rS) : fX0_shareOf (nI n) (nI q) σ = some (jI (shN n q), σ) := by
  have qq : q * q ≤ 100 * q := Nat.mul_le_mul_right q hq
  have e : ∀ k : Nat, k < 4 → (nI n = nI k) = (n = k) := fun k hk => propext (keq (by omega) (by omega))
  have e1 : (nI n = 1) = (n = 1) := e 1 (by omega)
  have e2 : (nI n = 2) = (n = 2) := e 2 (by omega)
  have e3 : (nI n = 3) = (n = 3) := e 3 (by omega)
  have m1 : (2 : Int32) * nI q * nI q = nI (2 * q * q) := by
    show nI 2 * nI q * nI q = _
    rw [kmul, kmul]
  have m2 : (300 : Int32) * nI q - nI q * nI q = nI (300 * q - q * q) := by
    show nI 300 * nI q - nI q * nI q = _
    rw [kmul, kmul, ksub (by omega)]
  have b1 : 2 * q * q ≤ 20000 := by
    have := Nat.mul_le_mul hq hq
    rw [Nat.mul_assoc]
    omega
  unfold fX0_shareOf shN
  simp only [e1, e2, e3, m1, m2]
  rw [j_nI (by omega), j_nI (by omega)]
  rcases (show n = 0 ∨ n = 1 ∨ n = 2 ∨ n = 3 by omega) with z | z | z | z <;> subst z <;> rfl
end Vol
