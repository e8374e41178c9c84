/-! LEVELS IN BORINGS. -/
def fstL (f : Nat → Option Nat) (c b : Nat) : Option Nat := ff (fun l => decide (f (12 * b + l) = some c)) 12 0
def lvB (τ : rS) (f : Nat → Option Nat) (c b : Nat) : Option Int := (fstL f c b).map (lvZ τ b)
def lvW (σ : rS) (w : Int32) (b : Nat) : Option Int := (ff (wkB σ (nI b) w) (ww σ) 0).map (fun k => (σ.2.2.1 9 k).toInt)
def lz (o : Option Int) : Int := match o with | none => -1000000 | some z => z
def okL (Lv : Nat → Option Int) (n : Nat) : Prop := ∀ b z, b < n → Lv b = some z → -220000 ≤ z ∧ z ≤ 220000
/-- only longs differ -/
def sL (σ υ : rS) : Prop := υ.1 = σ.1 ∧ υ.2.2 = σ.2.2
theorem sL.rf (σ : rS) : sL σ σ := ⟨rfl, rfl⟩
theorem sL.tr {σ υ ω : rS} (h1 : sL σ υ) (h2 : sL υ ω) : sL σ ω := ⟨h2.1.trans h1.1, h2.2.trans h1.2⟩
theorem sL.up (σ : rS) (n k : Nat) (v : Int64) : sL σ (uL σ n k v) := ⟨rfl, rfl⟩
/-- what the class says of levels, and what the model says -/
def levC (σ : rS) (n1 : Nat) (a : Int32) (n : Nat) (Lv : Nat → Option Int) : Prop := ∀ υ, sL σ υ → ∀ b, b < n → ∃ v, flev n1 a (nI b) υ = some (v, υ) ∧ v.toInt = lz (Lv b)
def levM (ρ : rS) (A B : Int32) (n : Nat) (Lv : Nat → Option Int) : Prop := ∀ υ, sL ρ υ → ∀ b, b < n → fX12_has A B (nI b) υ = some (bI (Lv b).isSome, υ) ∧ ∀ z, Lv b = some z → ∃ v, fX12_levelAt A B (nI b) υ = some (v, υ) ∧ v.toInt = z
section Lev
variable {σ ρ τ : rS} {f : Nat → Option Nat}
theorem fstL_lt (hv : VB τ) (hok : ∀ x c, f x = some c → okS τ x ∧ c < 192) {c b l : Nat} (hb : b < wn τ) (h : fstL f c b = some l) : l < wl τ b ∧ f (12 * b + l) = some c ∧ ∀ i, i < l → f (12 * b + i) ≠ some c := by
  obtain ⟨_, h2, h3, h4⟩ := ff_some h
  have h3 := of_decide_eq_true h3
  obtain ⟨⟨a, i, x1, x2, x3⟩, _⟩ := hok _ c h3
  have la := (l_ok hv x1).2
  refine ⟨?_, h3, fun i hi => of_decide_eq_false (h4 i (by omega) hi)⟩
  by_cases e : a = b
  · subst e; omega
  · omega
theorem lvB_ok (hv : VB τ) (hok : ∀ x c, f x = some c → okS τ x ∧ c < 192) (c : Nat) : okL (lvB τ f c) (wn τ) := fun b z hb h => by
  unfold lvB at h
  cases hl : fstL f c b with
  | none => rw [hl] at h; cases h
  | some l =>
    rw [hl] at h
    have := (fstL_lt hv hok hb hl).1
    have lb := (l_ok hv hb).2
    have e : lvZ τ b l = z := Option.some.inj h
    have := lvZ_b hv hb l (by omega)
    omega
theorem lvW_ok (hW : VW σ) (w : Int32) (n : Nat) : okL (lvW σ w) n := fun b z hb h => by
  unfold lvW at h
  cases hl : ff (wkB σ (nI b) w) (ww σ) 0 with
  | none => rw [hl] at h; cases h
  | some k =>
    rw [hl] at h
    obtain ⟨_, h2, _, _⟩ := ff_some hl
    obtain ⟨_, _, g1, g2⟩ := hW.2.2.1 k (by omega)
    have e : (σ.2.2.1 9 k).toInt = z := Option.some.inj h
    omega
theorem c_levB (hv : VB τ) (hok : ∀ x c, f x = some c → okS τ x ∧ c < 192) (hn : numF σ 26 f) (hl : levS σ τ (wn τ)) {c : Nat} (hc : c < 192) : levC σ 25 (nI c) (wn τ) (lvB τ f c) := by
  intro υ hs b hb
  have h16 := hv.2.1
  have lb := (l_ok hv hb).2
  have nu : ∀ x, x < 192 → υ.2.2.1 26 x = oI (f x) := fun x hx => by rw [hs.2]; exact hn x hx
  have nc : ∀ x, x < 192 → (υ.2.2.1 26 x = nI c) = (f x = some c) := fun x hx => by
    rw [nu x hx]
    cases hfx : f x with
    | none =>
      apply propext
      exact ⟨fun z => absurd z.symm (kne1 (by omega)), fun z => (by cases z)⟩
    | some d =>
      have := (hok x d hfx).2
      apply propext
      have q : oI (some d) = nI d := rfl
      rw [q, keq (by omega) (by omega)]
      simp
  have e12 : nI b * 12 + 0 = nI (12 * b) := by
    show nI b * nI 12 + nI 0 = _
    rw [kmul, kadd, Nat.mul_comm]
    rfl
  have e13 : (nI b + 1) * 12 + 0 = nI (12 * b + 12) := by
    rw [k1]
    show nI (b + 1) * nI 12 + nI 0 = _
    rw [kmul, kadd]
    congr 1
    omega
  have loop : ∀ (r l fuel : Nat), l + r = 12 → r < fuel → ∃ v, lX0_levelIn_6 fuel (nI c) (nI b) (nI (12 * b + l)) υ = some (v, υ) ∧ v.toInt = lz ((ff (fun l => decide (f (12 * b + l) = some c)) r l).map (lvZ τ b)) := by
    intro r
    induction r with
    | zero =>
      intro l fuel hl' hfu
      obtain ⟨fu, rfl⟩ : ∃ fu, fuel = fu + 1 := ⟨fuel - 1, by omega⟩
      refine ⟨-1000000, ?_, rfl⟩
      rw [lX0_levelIn_6]
      unfold fX11_slotOf
      rw [e13, Option.bind_some]
      dsimp only
      rw [if_pos ((kle (by omega) (by omega)).mpr (by omega))]
    | succ r ih =>
      intro l fuel hl' hfu
      obtain ⟨fu, rfl⟩ : ∃ fu, fuel = fu + 1 := ⟨fuel - 1, by omega⟩
      obtain ⟨v, h1, h2⟩ := ih (l + 1) fu (by omega) (by omega)
      rw [lX0_levelIn_6, ff]
      unfold fX11_slotOf
      rw [e13, Option.bind_some]
      dsimp only
      rw [if_neg (by rw [kle (by omega) (by omega)]; omega), kinB (by omega), decide_eq_true (show 12 * b + l < 192 by omega), if_pos rfl, kc (by omega)]
      simp only [nc (12 * b + l) (by omega), decide_eq_true_eq]
      by_cases z : f (12 * b + l) = some c
      · rw [if_pos z, if_pos z, if_pos trivial]
        obtain ⟨⟨a, i, x1, x2, x3⟩, _⟩ := hok _ c z
        have la := (l_ok hv x1).2
        have ll : l < wl τ b := by
          by_cases e : a = b
          · subst e; omega
          · omega
        exact ⟨_, rfl, by rw [hs.2]; exact (hl b l hb ll).1⟩
      · rw [if_neg z, if_neg z, vI_d, k1]
        exact ⟨v, h1, h2⟩
  obtain ⟨v, h1, h2⟩ := loop 12 0 1000 (by omega) (by omega)
  refine ⟨v, ?_, h2⟩
  unfold flev fX0_levelIn fX11_slotOf
  rw [if_pos rfl, e12, Option.bind_some, vI_d]
  exact h1
theorem c_levW (hv : VB τ) (hW : VW σ) (w : Int32) : levC σ 6 w (wn τ) (lvW σ w) := by
  intro υ hs b hb
  have h16 := hv.2.1
  have hW2 : VW υ := by
    unfold VW ww
    rw [hs.1, hs.2]
    exact hW
  have ew : ww υ = ww σ := by unfold ww; rw [hs.1]
  have ek : wkB υ (nI b) w = wkB σ (nI b) w := funext fun j => by unfold wkB; rw [hs.2]
  have cf := c_find hW2 (nI b) w
  rw [ew, ek] at cf
  unfold flev fX10_levelIn lvW jX10_levelIn_23
  rw [if_neg (by omega), if_pos rfl, cf, Option.bind_some, vI_d]
  cases hl : ff (wkB σ (nI b) w) (ww σ) 0 with
  | none =>
    refine ⟨-1000000, ?_, rfl⟩
    dsimp only
    rw [if_pos (show oI none = -1 from rfl)]
  | some k =>
    obtain ⟨_, h2, _, _⟩ := ff_some hl
    have h60 := hW.2.1
    have ok : oI (some k) = nI k := rfl
    refine ⟨υ.2.2.1 9 k, ?_, by rw [hs.2]; rfl⟩
    dsimp only
    rw [ok, if_neg (kne1 (by omega)), kinB (by omega), decide_eq_true (show k < 60 by omega), if_pos rfl, kc (by omega)]
theorem m_levB (hv : VB τ) (hM : MB σ ρ) (ag : agT σ τ) (hok : ∀ x c, f x = some c → okS τ x ∧ c < 192) (hn : numF ρ 60 f) (hw60 : ∃ q, ρ.1 43 14 = nI q ∧ q ≤ 60) {c : Nat} (hc : c < 192) : levM ρ (nI c) (-1) (wn τ) (lvB τ f c) := by
  intro υ hs b hb
  have h16 := hv.2.1
  have lb := (l_ok hv hb).2
  have hn2 : numF υ 60 f := fun x hx => by rw [hs.2]; exact hn x hx
  have nc : ∀ x, x < 192 → (υ.2.2.1 60 x = nI c) = (f x = some c) := fun x hx => num_c hn2 hx hc (fun x d h => (hok x d h).2)
  have mh := hM.2 b (by rw [ag.1]; exact hb)
  have agb := ag.2 b hb
  have w47 : υ.2.2.1 47 b = nI (wl τ b) := by
    obtain ⟨_, _, _, z, _⟩ := mh
    rw [hs.2, z, agb.2.2.2.1]
  have w46 : υ.2.2.1 46 b = wt τ b := by
    obtain ⟨_, _, z, _, _⟩ := mh
    rw [hs.2, z, agb.2.2.1]
  have w49 : ∀ l, l < wl τ b → υ.2.2.1 49 (12 * b + l) = nI (hN τ b l) := fun l hl => by
    obtain ⟨_, _, _, _, z⟩ := mh
    rw [hs.2, (z l (by rw [agb.2.2.2.1]; exact hl)).2, (agb.2.2.2.2 l hl).2]
    exact (h_ok hv hb hl).1
  have w14 : ∃ q, υ.1 43 14 = nI q ∧ q ≤ 60 := by rw [hs.1]; exact hw60
  have cne : ¬ nI c = -1 := kne1 (by omega)
  have sl : ∀ l : Nat, (12 : Int32) * nI b + nI l = nI (12 * b + l) := fun l => by
    show nI 12 * nI b + nI l = _
    rw [kmul, kadd]
  have any : ∀ r l, anyF (fun l => decide (f (12 * b + l) = some c)) r l = (ff (fun l => decide (f (12 * b + l) = some c)) r l).isSome := fun r l => anyF_ff
  -- has
  have h2nd : ∀ v : Bool, lX12_has_59 1000 (nI c) (-1) (nI b) (bI v) 0 υ = some (bI v, υ) := fun v => by
    obtain ⟨q, e1, e2⟩ := w14
    show lX12_has_59 (999 + 1) _ _ _ _ _ _ = _
    rw [lX12_has_59, e1]
    unfold jX12_has_119
    simp only [bI_01, if_true]
    by_cases z : nI q ≤ 0
    · rw [if_pos z]
    · rw [if_neg z, if_neg cne]
  have hloop : ∀ (r l fuel : Nat) (v : Bool), l + r = wl τ b → r < fuel → lX12_has_6 fuel (nI c) (-1) (nI b) (bI v) (nI l) υ = some (bI (v || anyF (fun l => decide (f (12 * b + l) = some c)) r l), υ) := by
    intro r
    induction r with
    | zero =>
      intro l fuel v hl hfu
      obtain ⟨fu, rfl⟩ : ∃ fu, fuel = fu + 1 := ⟨fuel - 1, by omega⟩
      rw [lX12_has_6, kinB (by omega), decide_eq_true (show b < 16 by omega), if_pos rfl, kc (by omega), w47, if_pos ((kle (by omega) (by omega)).mpr (by omega)), anyF, Bool.or_false]
      unfold jX12_has_56
      exact h2nd v
    | succ r ih =>
      intro l fuel v hl hfu
      obtain ⟨fu, rfl⟩ : ∃ fu, fuel = fu + 1 := ⟨fuel - 1, by omega⟩
      have it := ih (l + 1) fu true (by omega) (by omega)
      have jf := ih (l + 1) fu false (by omega) (by omega)
      rw [bI_t] at it
      rw [bI_f] at jf
      rw [lX12_has_6, kinB (by omega), decide_eq_true (show b < 16 by omega), if_pos rfl, kc (by omega), w47, if_neg (by rw [kle (by omega) (by omega)]; omega), if_neg cne, sl, kinB (by omega), decide_eq_true (show 12 * b + l < 192 by omega), if_pos rfl, kc (by omega), anyF]
      unfold jX12_has_43 jX12_has_48
      simp only [vI_d, k1, nc (12 * b + l) (by omega), bI_0, it, jf]
      by_cases z : f (12 * b + l) = some c
      · rw [if_pos z, decide_eq_true z]
        cases v <;> rfl
      · rw [if_neg z, decide_eq_false z]
        cases v <;> rfl
  have cut : fstL f c b = ff (fun l => decide (f (12 * b + l) = some c)) (wl τ b) 0 := by
    unfold fstL
    cases hl : ff (fun l => decide (f (12 * b + l) = some c)) 12 0 with
    | none =>
      symm
      exact ff_none.mpr (fun j h1 h2 => ff_none.mp hl j h1 (by omega))
    | some l =>
      obtain ⟨p1, p2, p3⟩ := fstL_lt hv hok hb hl
      cases hl2 : ff (fun l => decide (f (12 * b + l) = some c)) (wl τ b) 0 with
      | none =>
        have := ff_none.mp hl2 l (by omega) (by omega)
        rw [decide_eq_true p2] at this
        cases this
      | some l2 =>
        obtain ⟨_, u2, u3, u4⟩ := ff_some hl2
        congr 1
        rcases Nat.lt_trichotomy l l2 with z | z | z
        · have := u4 l (by omega) z
          rw [decide_eq_true p2] at this
          cases this
        · exact z
        · exact absurd (of_decide_eq_true u3) (p3 l2 z)
  refine ⟨?_, fun z hz => ?_⟩
  · have := hloop (wl τ b) 0 1000 false (by omega) (by omega)
    rw [bI_f, show nI 0 = 0 from rfl, Bool.false_or, any, ← cut] at this
    unfold fX12_has lvB
    rw [this]
    cases fstL f c b <;> rfl
  · unfold lvB at hz
    cases hl : fstL f c b with
    | none => rw [hl] at hz; cases hz
    | some l =>
      rw [hl] at hz
      have hz : lvZ τ b l = z := Option.some.inj hz
      obtain ⟨p1, p2, p3⟩ := fstL_lt hv hok hb hl
      have lloop : ∀ (r i fuel : Nat) (v : Int64), i + r = l → r < fuel → v.toInt = lvZ τ b i → ∃ v', lX12_levelAt_85 fuel (nI c) (nI b) v (nI i) υ = some (v', υ) ∧ v'.toInt = lvZ τ b l := by
        intro r
        induction r with
        | zero =>
          intro i fuel v hi hfu hvv
          obtain ⟨fu, rfl⟩ : ∃ fu, fuel = fu + 1 := ⟨fuel - 1, by omega⟩
          obtain rfl : i = l := by omega
          refine ⟨v, ?_, hvv⟩
          rw [lX12_levelAt_85, sl, kinB (by omega), decide_eq_true (show 12 * b + i < 192 by omega), if_pos rfl, kc (by omega)]
          simp only [nc (12 * b + i) (by omega)]
          rw [if_pos p2]
        | succ r ih =>
          intro i fuel v hi hfu hvv
          obtain ⟨fu, rfl⟩ : ∃ fu, fuel = fu + 1 := ⟨fuel - 1, by omega⟩
          have hb2 := (h_ok hv hb (show i < wl τ b by omega)).2
          have bz := lvZ_b hv hb i (by omega)
          have e : ((nI (hN τ b i)).toInt64).toInt = (hN τ b i : Int) := by rw [l_i, ki (by omega)]
          obtain ⟨v', u1, u2⟩ := ih (i + 1) fu (v - (nI (hN τ b i)).toInt64) (by omega) (by omega) (by
            rw [l_sub (by rw [e, hvv]; omega) (by rw [e, hvv]; omega), e, hvv]
            rfl)
          refine ⟨v', ?_, u2⟩
          rw [lX12_levelAt_85, sl, kinB (by omega), decide_eq_true (show 12 * b + i < 192 by omega), if_pos rfl, kc (by omega)]
          simp only [nc (12 * b + i) (by omega)]
          rw [if_neg (p3 i (by omega)), if_pos trivial, w49 i (by omega), vJ_d, vI_d, k1]
          exact u1
      obtain ⟨v', u1, u2⟩ := lloop l 0 1000 (wt τ b).toInt64 (by omega) (by omega) (by rw [l_i]; rfl)
      refine ⟨v', ?_, by rw [u2, hz]⟩
      unfold fX12_levelAt
      rw [kinB (by omega), decide_eq_true (show b < 16 by omega), if_pos rfl, kc (by omega), w46, vJ_d, if_neg cne]
      exact u1
theorem m_levW (hv : VB τ) (hB : VB σ) (hM : MB σ ρ) (ag : agT σ τ) (hW : VW σ) (hMW : MW σ ρ) {w : Int32} : levM ρ (-1) w (wn τ) (lvW σ w) := by
  intro υ hs b hb
  have h16 := hv.2.1
  have h60 := hW.2.1
  have lb := (l_ok hv hb).2
  have mh := hM.2 b (by rw [ag.1]; exact hb)
  have agb := ag.2 b hb
  have w47 : υ.2.2.1 47 b = nI (wl τ b) := by
    obtain ⟨_, _, _, z, _⟩ := mh
    rw [hs.2, z, agb.2.2.2.1]
  have w14 : υ.1 43 14 = nI (ww σ) := by rw [hs.1]; exact hMW.1
  have w52 : ∀ k, k < ww σ → υ.2.2.1 52 (3 * k) = σ.2.2.1 7 k ∧ υ.2.2.1 52 (3 * k + 1) = σ.2.2.1 8 k ∧ υ.2.2.1 52 (3 * k + 2) = σ.2.2.1 9 k := fun k hk => by rw [hs.2]; exact hMW.2 k hk
  have e3 : ∀ k : Nat, (3 : Int32) * nI k = nI (3 * k) := fun k => kmul 3 k
  have e31 : ∀ k : Nat, nI (3 * k) + 1 = nI (3 * k + 1) := fun k => k1 _
  have e32 : ∀ k : Nat, nI (3 * k) + 2 = nI (3 * k + 2) := fun k => kadd _ 2
  have hloop : ∀ (r k fuel : Nat) (v : Bool), k + r = ww σ → r < fuel → lX12_has_59 fuel (-1) w (nI b) (bI v) (nI k) υ = some (bI (v || anyF (wkB σ (nI b) w) r k), υ) := by
    intro r
    induction r with
    | zero =>
      intro k fuel v hk hfu
      obtain ⟨fu, rfl⟩ : ∃ fu, fuel = fu + 1 := ⟨fuel - 1, by omega⟩
      rw [lX12_has_59, w14, if_pos ((kle (by omega) (by omega)).mpr (by omega)), anyF, Bool.or_false]
      unfold jX12_has_119
      simp only [bI_01, if_true]
    | succ r ih =>
      intro k fuel v hk hfu
      obtain ⟨fu, rfl⟩ : ∃ fu, fuel = fu + 1 := ⟨fuel - 1, by omega⟩
      have it := ih (k + 1) fu true (by omega) (by omega)
      have jf := ih (k + 1) fu false (by omega) (by omega)
      rw [bI_t] at it
      rw [bI_f] at jf
      obtain ⟨x1, x2, x3⟩ := w52 k (by omega)
      rw [lX12_has_59, w14, if_neg (by rw [kle (by omega) (by omega)]; omega), if_pos rfl, e3, e31, kinB (by omega), decide_eq_true (show 3 * k < 180 by omega), if_pos rfl, kc (by omega), kinB (by omega), decide_eq_true (show 3 * k + 1 < 180 by omega), if_pos rfl, kc (by omega), x1, x2, anyF]
      unfold jX12_has_106 jX12_has_110 jX12_has_111
      simp only [vI_d, k1, bI_0, it, jf]
      unfold wkB
      by_cases z1 : σ.2.2.1 7 k = nI b
      · by_cases z2 : σ.2.2.1 8 k = w
        · rw [if_pos z1, if_pos z2, decide_eq_true ⟨z1, z2⟩]
          cases v <;> rfl
        · rw [if_pos z1, if_neg z2, decide_eq_false (fun y => z2 y.2)]
          cases v <;> rfl
      · rw [if_neg z1, decide_eq_false (fun y => z1 y.1)]
        cases v <;> rfl
  have has1 : fX12_has (-1) w (nI b) υ = lX12_has_59 1000 (-1) w (nI b) 0 0 υ := by
    unfold fX12_has
    show lX12_has_6 (999 + 1) _ _ _ _ _ _ = _
    rw [lX12_has_6, kinB (by omega), decide_eq_true (show b < 16 by omega), if_pos rfl, kc (by omega), w47]
    unfold jX12_has_56
    by_cases z : nI (wl τ b) ≤ 0
    · rw [if_pos z]
    · rw [if_neg z, if_pos rfl]
  have hl := hloop (ww σ) 0 1000 false (by omega) (by omega)
  rw [bI_f, show nI 0 = 0 from rfl, Bool.false_or, anyF_ff] at hl
  refine ⟨?_, fun z hz => ?_⟩
  · rw [has1, hl]
    unfold lvW
    cases ff (wkB σ (nI b) w) (ww σ) 0 <;> rfl
  · unfold lvW at hz
    cases hf : ff (wkB σ (nI b) w) (ww σ) 0 with
    | none => rw [hf] at hz; cases hz
    | some q =>
      rw [hf] at hz
      have hz : (σ.2.2.1 9 q).toInt = z := Option.some.inj hz
      obtain ⟨_, q2, q3, q4⟩ := ff_some hf
      have q3 := of_decide_eq_true q3
      have uniq : ∀ k, k < ww σ → wkB σ (nI b) w k = true → k = q := fun k hk hkt => by
        have hkt := of_decide_eq_true hkt
        rcases Nat.lt_trichotomy k q with c | c | c
        · exact absurd ⟨hkt.1.trans q3.1.symm, hkt.2.trans q3.2.symm⟩ (hW.2.2.2 k q c (by omega))
        · exact c
        · exact absurd ⟨q3.1.trans hkt.1.symm, q3.2.trans hkt.2.symm⟩ (hW.2.2.2 q k c hk)
      have lloop : ∀ (r k fuel : Nat) (v : Int64), k + r = ww σ → r < fuel → ((q < k ∧ v.toInt = z) ∨ k ≤ q) → ∃ v', lX12_levelAt_17 fuel w (nI b) v (nI k) υ = some (v', υ) ∧ v'.toInt = z := by
        intro r
        induction r with
        | zero =>
          intro k fuel v hk hfu hvv
          obtain ⟨fu, rfl⟩ : ∃ fu, fuel = fu + 1 := ⟨fuel - 1, by omega⟩
          refine ⟨v, ?_, ?_⟩
          · rw [lX12_levelAt_17, w14, if_pos ((kle (by omega) (by omega)).mpr (by omega))]
          · rcases hvv with h | h
            · exact h.2
            · omega
        | succ r ih =>
          intro k fuel v hk hfu hvv
          obtain ⟨fu, rfl⟩ : ∃ fu, fuel = fu + 1 := ⟨fuel - 1, by omega⟩
          obtain ⟨x1, x2, x3⟩ := w52 k (by omega)
          rw [lX12_levelAt_17, w14, if_neg (by rw [kle (by omega) (by omega)]; omega), e3, e31, e32, kinB (by omega), decide_eq_true (show 3 * k < 180 by omega), if_pos rfl, kc (by omega), kinB (by omega), decide_eq_true (show 3 * k + 1 < 180 by omega), if_pos rfl, kc (by omega), kinB (by omega), decide_eq_true (show 3 * k + 2 < 180 by omega), if_pos rfl, kc (by omega), x1, x2, x3]
          unfold jX12_levelAt_69 jX12_levelAt_71
          simp only [vI_d, k1]
          by_cases z0 : σ.2.2.1 7 k = nI b ∧ σ.2.2.1 8 k = w
          · rw [if_pos z0.1, if_pos z0.2]
            have := uniq k (by omega) (decide_eq_true z0)
            subst this
            exact ih (k + 1) fu _ (by omega) (by omega) (Or.inl ⟨by omega, by rw [l_i]; exact hz⟩)
          · have go := ih (k + 1) fu v (by omega) (by omega) (by
              rcases hvv with h | h
              · exact Or.inl ⟨by omega, h.2⟩
              · right
                by_cases e : k = q
                · rw [← e] at q3; exact absurd q3 z0
                · omega)
            by_cases z1 : σ.2.2.1 7 k = nI b
            · rw [if_pos z1, if_neg (fun y => z0 ⟨z1, y⟩)]
              exact go
            · rw [if_neg z1]
              exact go
      obtain ⟨v', u1, u2⟩ := lloop (ww σ) 0 1000 (υ.2.2.1 46 b).toInt64 (by omega) (by omega) (Or.inr (by omega))
      refine ⟨v', ?_, u2⟩
      unfold fX12_levelAt
      rw [kinB (by omega), decide_eq_true (show b < 16 by omega), if_pos rfl, kc (by omega), vJ_d, if_pos rfl]
      exact u1
end Lev
