/-! THE MODEL SPREADS A BED. -/
section MBed
variable {τ : rS} {bk : Nat × Nat → Bool} {E : List (Nat × Nat)}
theorem edge_nb {k : Nat} {e : Nat × Nat} (he : E[k]? = some e) (hb : bk e = false) : nbE bk E e.1 e.2 = true := by
  unfold nbE jnE
  rw [List.findIdx?_isSome, List.any_eq_true]
  refine ⟨e, List.mem_of_getElem? he, ?_⟩
  rw [hb]
  unfold mtB
  rw [decide_eq_true (Or.inl ⟨rfl, rfl⟩)]
  rfl
theorem edge_adj (net : netE (wn τ) (wP τ) E) {k i j : Nat} {e : Nat × Nat} (he : E[k]? = some e) (hb : bk e = false) (hi : i < wl τ e.1) (hp : PN τ e.1 e.2 i = some j) : adjP τ (nbE bk E) (12 * e.1 + i) (12 * e.2 + j) := by
  obtain ⟨h1, h2, _⟩ := net.2.1 e (List.mem_of_getElem? he)
  refine ⟨e.1, e.2, i, j, by omega, h2, hi, ?_, rfl, rfl⟩
  unfold ptN
  rw [if_pos (edge_nb he hb), if_pos h1]
  exact hp
theorem adj_edge (net : netE (wn τ) (wP τ) E) {x y : Nat} (h : adjP τ (nbE bk E) x y) : ∃ (k i j : Nat) (e : Nat × Nat), E[k]? = some e ∧ bk e = false ∧ i < wl τ e.1 ∧ PN τ e.1 e.2 i = some j ∧ ((x = 12 * e.1 + i ∧ y = 12 * e.2 + j) ∨ (y = 12 * e.1 + i ∧ x = 12 * e.2 + j)) := by
  obtain ⟨a, b, i, j, h1, h2, h3, h4, h5, h6⟩ := h
  obtain ⟨h7, h8⟩ := ptN_lt h4
  unfold ptN at h4
  rw [if_pos h8] at h4
  unfold nbE jnE at h8
  rw [List.findIdx?_isSome, List.any_eq_true] at h8
  obtain ⟨e, he, hq⟩ := h8
  rw [Bool.and_eq_true] at hq
  have m := of_decide_eq_true hq.1
  have hb : bk e = false := by simpa using hq.2
  obtain ⟨k, hk⟩ := List.mem_iff_getElem?.mp he
  have lt := (net.2.1 e he).1
  by_cases c : a < b
  · rw [if_pos c] at h4
    have m1 : e.1 = a := by omega
    have m2 : e.2 = b := by omega
    exact ⟨k, i, j, e, hk, hb, by rw [m1]; exact h3, by rw [m1, m2]; exact h4, Or.inl ⟨by rw [m1]; exact h5, by rw [m2]; exact h6⟩⟩
  · rw [if_neg c] at h4
    have m1 : e.1 = b := by omega
    have m2 : e.2 = a := by omega
    obtain ⟨q1, q2⟩ := QN_lt h4
    exact ⟨k, j, i, e, hk, hb, by rw [m1]; exact q1, by rw [m1, m2]; exact q2, Or.inr ⟨by rw [m1]; exact h6, by rw [m2]; exact h5⟩⟩
/-- what spreading keeps -/
def sprM (adj : Nat → Nat → Prop) (f0 f : Nat → Option Nat) (s c : Nat) : Prop := (∀ x d, f0 x = some d → f x = some d) ∧ (∀ x d, f x = some d → f0 x = some d ∨ (d = c ∧ f0 x = none ∧ Rch adj s x)) ∧ f s = some c
def agr (τ : rS) (bk : Nat × Nat → Bool) (E : List (Nat × Nat)) (f : Nat → Option Nat) (c k i : Nat) : Prop := ∀ e j, E[k]? = some e → bk e = false → i < wl τ e.1 → PN τ e.1 e.2 i = some j → (f (12 * e.1 + i) = some c ↔ f (12 * e.2 + j) = some c)
/-- where a pass stands: fs was at its begin, m says whether something changed -/
def pas (τ : rS) (bk : Nat × Nat → Bool) (E : List (Nat × Nat)) (f0 fs f : Nat → Option Nat) (s c : Nat) (m : Bool) (k i : Nat) : Prop := sprM (adjP τ (nbE bk E)) f0 f s c ∧ (m = false → (∀ x, f x = fs x) ∧ ∀ k' i', (k' < k ∨ (k' = k ∧ i' < i)) → agr τ bk E f c k' i') ∧ (m = true → cntF fs c < cntF f c) ∧ cntF fs c ≤ cntF f c
theorem num_c {σ : rS} {f : Nat → Option Nat} {c x : Nat} (h : numF σ 60 f) (hx : x < 192) (hc : c < 192) (hf : ∀ x d, f x = some d → d < 192) : (σ.2.2.1 60 x = nI c) = (f x = some c) := by
  rw [h x hx]
  cases hfx : f x with
  | none =>
    apply propext
    refine ⟨fun z => ?_, fun z => (by cases z)⟩
    exact absurd z.symm (kne1 (by omega))
  | some d =>
    have := hf x d hfx
    apply propext
    have q : oI (some d) = nI d := rfl
    rw [q, keq (by omega) (by omega)]
    simp
/-- what the model needs while beds grow -/
def envM (τ σ : rS) (bk : Nat × Nat → Bool) (E : List (Nat × Nat)) : Prop := MB τ σ ∧ isN σ bk E ∧ matM σ τ bk E E.length
theorem envM.kp {σ ρ : rS} {O : Nat → Prop} (h : envM τ σ bk E) (hk : Kp O σ ρ) (hO : ∀ n, O n → ¬ (44 ≤ n ∧ n ≤ 58)) (h2 : ρ.1 43 2 = σ.1 43 2) (h16 : ρ.1 43 16 = σ.1 43 16) : envM τ ρ bk E := by
  refine ⟨h.1.mo h2 (fun n a b k => (hk.1 n (fun z => hO n z (by omega))).2.2 k), h.2.1.mo h16 (fun n a b k => (hk.1 n (fun z => hO n z (by omega))).2.2 k), fun k e x1 x2 x3 => ?_⟩
  rw [(hk.1 58 (fun z => hO _ z (by omega))).2.2]
  simp only [(hk.1 57 (fun z => hO _ z (by omega))).2.2]
  exact h.2.2 k e x1 x2 x3
theorem msp_in (hv : VB τ) (net : netE (wn τ) (wP τ) E) (hl : E.length ≤ 42) {k2 : Int32 → Int32 → rS → Option (Unit × rS)} {k10 : Int32 → Int32 → Int32 → rS → Option (Unit × rS)} {f0 fs : Nat → Option Nat} {s c k : Nat} {e : Nat × Nat} (hc : c < 192) (he : E[k]? = some e) (hcl : ∀ x y d, adjP τ (nbE bk E) x y → f0 x = some d → f0 y = some d) : ∀ (r i fuel : Nat) (σ : rS) (f : Nat → Option Nat) (m : Bool), i + r = wl τ e.1 → r < fuel → envM τ σ bk E → numF σ 60 f → (∀ x d, f x = some d → okS τ x ∧ d < 192) → pas τ bk E f0 fs f s c m k i → ∃ ρ g m', lX12_spread_21 k2 k10 fuel (nI c) (bI m) (nI k) (nI i) σ = k10 (nI c) (bI m') (nI (k + 1)) ρ ∧ Kp (fun n => n = 60) σ ρ ∧ numF ρ 60 g ∧ (∀ x d, g x = some d → okS τ x ∧ d < 192) ∧ pas τ bk E f0 fs g s c m' (k + 1) 0 := by
  have h16 := hv.2.1
  obtain ⟨e1, e2, _⟩ := net.2.1 e (List.mem_of_getElem? he)
  have kl := (List.getElem?_eq_some_iff.mp he).1
  have la := (l_ok hv (show e.1 < wn τ by omega)).2
  have lb := (l_ok hv e2).2
  have hsy : ∀ a b, nbE bk E a b = nbE bk E b a := nbE_sy bk E
  have hne : ∀ a, nbE bk E a a = false := nbE_ne net
  have done : ∀ (f : Nat → Option Nat) (m : Bool) (i : Nat), (bk e = true ∨ wl τ e.1 ≤ i) → pas τ bk E f0 fs f s c m k i → pas τ bk E f0 fs f s c m (k + 1) 0 := fun f m i hi h => by
    refine ⟨h.1, fun hm => ⟨(h.2.1 hm).1, fun k' i' hk' => ?_⟩, h.2.2⟩
    by_cases z : k' = k ∧ ¬ i' < i
    · intro e' j q1 q2 q3 q4
      rw [z.1, he] at q1
      obtain rfl := Option.some.inj q1
      rcases hi with y | y
      · rw [y] at q2; cases q2
      · omega
    · exact (h.2.1 hm).2 k' i' (by omega)
  intro r
  induction r with
  | zero =>
    intro i fuel σ f m hi hfu hE hnum hok hP
    obtain ⟨fu, rfl⟩ : ∃ fu, fuel = fu + 1 := ⟨fuel - 1, by omega⟩
    obtain ⟨x1, x2⟩ := hE.2.1.1.2 k e he
    obtain ⟨_, _, _, y1, _⟩ := hE.1.2 e.1 (by omega)
    refine ⟨σ, f, m, ?_, Kp.rf _ _, hnum, hok, done f m i (Or.inr (by omega)) hP⟩
    rw [lX12_spread_21, kinB (by omega), decide_eq_true (show k < 120 by omega), if_pos rfl, kc (by omega), x1, kinB (by omega), decide_eq_true (show e.1 < 16 by omega), if_pos rfl, kc (by omega), y1, if_pos ((kle (by omega) (by omega)).mpr (by omega))]
    unfold jX12_spread_153
    rw [vI_d, k1]
  | succ r ih =>
    intro i fuel σ f m hi hfu hE hnum hok hP
    obtain ⟨fu, rfl⟩ : ∃ fu, fuel = fu + 1 := ⟨fuel - 1, by omega⟩
    obtain ⟨x1, x2⟩ := hE.2.1.1.2 k e he
    have x3 := hE.2.1.2.1 k e he
    obtain ⟨_, _, _, y1, _⟩ := hE.1.2 e.1 (by omega)
    rw [lX12_spread_21, kinB (by omega), decide_eq_true (show k < 120 by omega), if_pos rfl, kc (by omega), x1, kinB (by omega), decide_eq_true (show e.1 < 16 by omega), if_pos rfl, kc (by omega), y1, if_neg (by rw [kle (by omega) (by omega)]; omega), if_pos rfl, x3]
    simp only [bI_0]
    cases hb : bk e with
    | true =>
      rw [if_neg (by simp)]
      refine ⟨σ, f, m, ?_, Kp.rf _ _, hnum, hok, done f m i (Or.inl hb) hP⟩
      unfold jX12_spread_153
      rw [vI_d, k1]
    | false =>
      rw [if_pos rfl]
      have z57 := (hE.2.2 k e kl he hb).2 i (by omega)
      have ei : (12 : Int32) * nI k + nI i = nI (12 * k + i) := by
        show nI 12 * nI k + nI i = _
        rw [kmul, kadd]
      have ea : (12 : Int32) * nI e.1 + nI i = nI (12 * e.1 + i) := by
        show nI 12 * nI e.1 + nI i = _
        rw [kmul, kadd]
      simp only [ei, ea, kinB (show 12 * k + i < 2147483648 by omega), decide_eq_true (show 12 * k + i < 1440 by omega), if_true, kc (show 12 * k + i < 2147483648 by omega), z57, vI_d, x2]
      unfold jX12_spread_147
      simp only [vI_d, k1]
      -- the pair is settled: go on
      have go : ∀ (ρ : rS) (g : Nat → Option Nat) (m' : Bool), Kp (fun n => n = 60) σ ρ → numF ρ 60 g → (∀ x d, g x = some d → okS τ x ∧ d < 192) → pas τ bk E f0 fs g s c m' k (i + 1) → ∃ ρ' g' m'', lX12_spread_21 k2 k10 fu (nI c) (bI m') (nI k) (nI (i + 1)) ρ = k10 (nI c) (bI m'') (nI (k + 1)) ρ' ∧ Kp (fun n => n = 60) σ ρ' ∧ numF ρ' 60 g' ∧ (∀ x d, g' x = some d → okS τ x ∧ d < 192) ∧ pas τ bk E f0 fs g' s c m'' (k + 1) 0 := fun ρ g m' q1 q2 q3 q4 => by
        obtain ⟨ρ', g', m'', u1, u2, u3⟩ := ih (i + 1) fu ρ g m' (by omega) (by omega) (hE.kp q1 (fun n h => by have h : n = 60 := h; omega) ((q1.1 43 (by omega)).1 _) ((q1.1 43 (by omega)).1 _)) q2 q3 q4
        exact ⟨ρ', g', m'', u1, q1.tr u2, u3⟩
      have stay : agr τ bk E f c k i → pas τ bk E f0 fs f s c m k (i + 1) := fun ha => ⟨hP.1, fun hm => ⟨(hP.2.1 hm).1, fun k' i' hk' => by
        by_cases z : k' = k ∧ i' = i
        · rw [z.1, z.2]; exact ha
        · exact (hP.2.1 hm).2 k' i' (by omega)⟩, hP.2.2⟩
      cases hp : PN τ e.1 e.2 i with
      | none =>
        rw [if_pos (show oI none = -1 from rfl)]
        refine go σ f m (Kp.rf _ _) hnum hok (stay ?_)
        intro e' j q1 q2 q3 q4
        rw [he] at q1
        rw [← Option.some.inj q1, hp] at q4
        cases q4
      | some j =>
        have jl := (PN_lt hp).2
        have oj : oI (some j) = nI j := rfl
        have eb : (12 : Int32) * nI e.2 + nI j = nI (12 * e.2 + j) := by
          show nI 12 * nI e.2 + nI j = _
          rw [kmul, kadd]
        have X := num_c hnum (show 12 * e.1 + i < 192 by omega) hc (fun x d h => (hok x d h).2)
        have Y := num_c hnum (show 12 * e.2 + j < 192 by omega) hc (fun x d h => (hok x d h).2)
        have ad := edge_adj net he hb (show i < wl τ e.1 by omega) hp
        have only : ∀ j', PN τ e.1 e.2 i = some j' → j' = j := fun j' h => by rw [hp] at h; exact (Option.some.inj h).symm
        rw [oj, if_neg (kne1 (by omega)), eb, kinB (by omega), decide_eq_true (show 12 * e.1 + i < 192 by omega), if_pos rfl, kc (by omega)]
        unfold jX12_spread_110 jX12_spread_126
        simp only [kinB (show 12 * e.2 + j < 2147483648 by omega), decide_eq_true (show 12 * e.2 + j < 192 by omega), if_true, kc (show 12 * e.2 + j < 2147483648 by omega), X, Y, kinB (show 12 * e.1 + i < 2147483648 by omega), decide_eq_true (show 12 * e.1 + i < 192 by omega), kc (show 12 * e.1 + i < 2147483648 by omega), vS_d, (show ¬ (1 : Int32) = 0 by decide), (show ¬ (0 : Int32) = 1 by decide), if_false]
        unfold jX12_spread_147
        simp only [vI_d, k1]
        -- what a change does
        have chg : ∀ (u w : Nat) (ρ : rS), adjP τ (nbE bk E) u w → f u = some c → f w ≠ some c → w < 192 → numF ρ 60 (upF f w c) → Kp (fun n => n = 60) σ ρ → ((12 * e.1 + i = u ∧ 12 * e.2 + j = w) ∨ (12 * e.1 + i = w ∧ 12 * e.2 + j = u)) → ∃ ρ' g' m'', lX12_spread_21 k2 k10 fu (nI c) 1 (nI k) (nI (i + 1)) ρ = k10 (nI c) (bI m'') (nI (k + 1)) ρ' ∧ Kp (fun n => n = 60) σ ρ' ∧ numF ρ' 60 g' ∧ (∀ x d, g' x = some d → okS τ x ∧ d < 192) ∧ pas τ bk E f0 fs g' s c m'' (k + 1) 0 := fun u w ρ q1 q2 q3 q4 q5 q6 q7 => by
          have fw : f w = none := by
            cases hw : f w with
            | none => rfl
            | some d =>
              exfalso
              rcases hP.1.2.1 w d hw with z | z
              · have := hP.1.1 u d (hcl w u d (adjP_sy hsy hne q1) z)
                rw [q2] at this
                rw [hw, Option.some.inj this] at q3
                exact q3 rfl
              · rw [hw, z.1] at q3
                exact q3 rfl
          have f0w : f0 w = none := by
            cases z : f0 w with
            | none => rfl
            | some d => rw [hP.1.1 w d z] at fw; cases fw
          have ru : Rch (adjP τ (nbE bk E)) s u := by
            rcases hP.1.2.1 u c q2 with z | z
            · exfalso
              have := hcl u w c q1 z
              rw [f0w] at this
              cases this
            · exact z.2.2
          have cu := cntF_up (f := f) (s := w) (c := c) q4 q3
          have := go ρ (upF f w c) true q6 q5 (fun x d hx => by
            unfold upF at hx
            by_cases z : x = w
            · rw [if_pos z] at hx
              rw [z, ← Option.some.inj hx]
              exact ⟨adjP_ok q1, hc⟩
            · rw [if_neg z] at hx; exact hok x d hx) ⟨⟨fun x d hx => by
            unfold upF
            by_cases z : x = w
            · rw [z, f0w] at hx; cases hx
            · rw [if_neg z]; exact hP.1.1 x d hx, fun x d hx => by
            unfold upF at hx
            by_cases z : x = w
            · rw [if_pos z] at hx
              right
              rw [z]
              exact ⟨(Option.some.inj hx).symm, f0w, ru.st q1⟩
            · rw [if_neg z] at hx; exact hP.1.2.1 x d hx, by
            unfold upF
            by_cases z : s = w
            · rw [if_pos z]
            · rw [if_neg z]; exact hP.1.2.2⟩, fun hm => (by cases hm), fun _ => by have := hP.2.2.2; omega, by have := hP.2.2.2; omega⟩
          exact this
        have kpu : ∀ a b : Nat, Kp (fun n => n = 60) σ (uA (uA σ 60 a (nI c)) 60 b (nI c)) := fun a b => (Kp.uA (O := fun n => n = 60) rfl).tr (Kp.uA (O := fun n => n = 60) rfl)
        by_cases cx : f (12 * e.1 + i) = some c
        · rw [if_pos cx]
          by_cases cy : f (12 * e.2 + j) = some c
          · rw [if_pos cy]
            refine go σ f m (Kp.rf _ _) hnum hok (stay ?_)
            intro e' j' q1 q2 q3 q4
            rw [he] at q1
            obtain rfl := Option.some.inj q1
            rw [only j' q4]
            exact ⟨fun _ => cy, fun _ => cx⟩
          · rw [if_neg cy]
            refine chg (12 * e.1 + i) (12 * e.2 + j) _ ad cx cy (by omega) (fun x hx => ?_) (kpu _ _) (Or.inl ⟨rfl, rfl⟩)
            rw [uA_3, uA_3]
            unfold upF
            by_cases z : x = 12 * e.2 + j
            · rw [if_pos ⟨rfl, z⟩, if_pos z]; rfl
            · rw [if_neg (fun w => z w.2), if_neg z]
              by_cases z2 : x = 12 * e.1 + i
              · rw [if_pos ⟨rfl, z2⟩, z2, cx]; rfl
              · rw [if_neg (fun w => z2 w.2)]; exact hnum x hx
        · rw [if_neg cx]
          by_cases cy : f (12 * e.2 + j) = some c
          · rw [if_pos cy]
            refine chg (12 * e.2 + j) (12 * e.1 + i) _ (adjP_sy hsy hne ad) cy cx (by omega) (fun x hx => ?_) (kpu _ _) (Or.inr ⟨rfl, rfl⟩)
            rw [uA_3, uA_3]
            unfold upF
            by_cases z : x = 12 * e.2 + j
            · rw [if_pos ⟨rfl, z⟩, z]
              by_cases z2 : 12 * e.2 + j = 12 * e.1 + i
              · rw [if_pos z2]; rfl
              · rw [if_neg z2, cy]; rfl
            · rw [if_neg (fun w => z w.2)]
              by_cases z2 : x = 12 * e.1 + i
              · rw [if_pos ⟨rfl, z2⟩, if_pos z2]; rfl
              · rw [if_neg (fun w => z2 w.2), if_neg z2]; exact hnum x hx
          · rw [if_neg cy]
            refine go σ f m (Kp.rf _ _) hnum hok (stay ?_)
            intro e' j' q1 q2 q3 q4
            rw [he] at q1
            obtain rfl := Option.some.inj q1
            rw [only j' q4]
            exact ⟨fun z => absurd z cx, fun z => absurd z cy⟩
end MBed
