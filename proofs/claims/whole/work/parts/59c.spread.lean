/-! THE CLASS SPREADS A BED, LOOPS. -/
/-- what the spreading of bed c from s keeps: f0 was before -/
def spr (adj : Nat → Nat → Prop) (f0 f : Nat → Option Nat) (s c : Nat) (Q : List Nat) : Prop := (∀ x d, f0 x = some d → f x = some d) ∧ (∀ x d, f x = some d → f0 x = some d ∨ (d = c ∧ f0 x = none ∧ Rch adj s x)) ∧ (∀ x, x ∈ Q ↔ f x = some c) ∧ Q.Nodup
theorem spr.up {adj : Nat → Nat → Prop} {f0 f : Nat → Option Nat} {s c : Nat} {Q : List Nat} (h : spr adj f0 f s c Q) {y : Nat} (hy : f y = none) (hr : Rch adj s y) : spr adj f0 (upF f y c) s c (Q ++ [y]) := by
  obtain ⟨h1, h2, h3, h4⟩ := h
  have n0 : f0 y = none := by
    cases z : f0 y with
    | none => rfl
    | some d => rw [h1 y d z] at hy; cases hy
  refine ⟨fun x d hx => ?_, fun x d hx => ?_, fun x => ?_, ?_⟩
  · unfold upF
    by_cases z : x = y
    · rw [z, n0] at hx; cases hx
    · rw [if_neg z]; exact h1 x d hx
  · unfold upF at hx
    by_cases z : x = y
    · rw [if_pos z] at hx
      right
      rw [z]
      exact ⟨(Option.some.inj hx).symm, n0, hr⟩
    · rw [if_neg z] at hx; exact h2 x d hx
  · rw [List.mem_append, h3 x, List.mem_singleton]
    unfold upF
    by_cases z : x = y
    · rw [if_pos z]; simp [z]
    · rw [if_neg z]; simp [z]
  · rw [List.nodup_append]
    refine ⟨h4, by simp, fun a ha b hb hab => ?_⟩
    rw [List.mem_singleton] at hb
    rw [hab, hb] at ha
    rw [(h3 y).mp ha] at hy
    cases hy
section Spr
variable {υ : rS} {n : Nat} {p : Nat → zP} {bk : Nat × Nat → Bool} {E : List (Nat × Nat)}
/-- what the class needs while beds grow -/
def envC (υ σ : rS) (bk : Nat × Nat → Bool) (E : List (Nat × Nat)) : Prop := (∀ a b, a < 16 → b < 16 → σ.2.2.1 16 (a * 16 + b) = oI (jnE bk E a b)) ∧ matC σ υ bk E E.length
theorem envC.kp {σ τ : rS} (h : envC υ σ bk E) (hk : Kp oD σ τ) : envC υ τ bk E := by
  refine ⟨fun a b ha hb => by rw [(hk.1 16 (by omega)).2.2]; exact h.1 a b ha hb, fun k e h1 h2 h3 => ?_⟩
  rw [(hk.1 19 (by omega)).2.2]
  simp only [(hk.1 22 (by omega)).2.2, (hk.1 23 (by omega)).2.2]
  exact h.2 k e h1 h2 h3
theorem spread_in (hv : VB υ) (net : netE (wn υ) (wP υ) E) (hl : E.length ≤ 42) {k3 : Int32 → Int32 → rS → Option (Unit × rS)} {f0 : Nat → Option Nat} {s c a l kq : Nat} (hc : c < 192) (ha : a < wn υ) (hla : l < wl υ a) : ∀ (r o fuel : Nat) (σ : rS) (f : Nat → Option Nat) (Q : List Nat), o + r = wn υ → r < fuel → envC υ σ bk E → grow σ f c Q → spr (adjP υ (nbE bk E)) f0 f s c Q → (∀ x d, f x = some d → okS υ x ∧ d < 192) → Rch (adjP υ (nbE bk E)) s (12 * a + l) → (∀ b j, b < o → ptN υ (nbE bk E) a b l = some j → f (12 * b + j) ≠ none) → ∃ τ g R, lX0_spread_47 k3 fuel (nI (wn υ)) (nI kq) (nI a) (nI l) (nI o) σ = k3 (nI (wn υ)) (nI (kq + 1)) τ ∧ Kp oD σ τ ∧ sameB σ τ c ∧ τ.2.2.1 27 c = σ.2.2.1 27 c ∧ τ.2.2.1 29 c = σ.2.2.1 29 c ∧ grow τ g c (Q ++ R) ∧ spr (adjP υ (nbE bk E)) f0 g s c (Q ++ R) ∧ (∀ x d, g x = some d → okS υ x ∧ d < 192) ∧ (∀ x, f x ≠ none → g x ≠ none) ∧ ∀ y, adjP υ (nbE bk E) (12 * a + l) y → g y ≠ none := by
  have h16 := hv.2.1
  have l12 := (l_ok hv ha).2
  intro r
  induction r with
  | zero =>
    intro o fuel σ f Q ho hfu hE hG hS hok hR hN
    obtain ⟨fu, rfl⟩ : ∃ fu, fuel = fu + 1 := ⟨fuel - 1, by omega⟩
    obtain rfl : o = wn υ := by omega
    refine ⟨σ, f, [], ?_, Kp.rf _ _, sameB.rf _ _, rfl, rfl, by rw [List.append_nil]; exact hG, by rw [List.append_nil]; exact hS, hok, fun x h => h, fun y hy => ?_⟩
    · rw [lX0_spread_47, if_pos ((kle (by omega) (by omega)).mpr (Nat.le_refl _)), vI_d, k1]
    · obtain ⟨a', b, i, j, h1, h2, h3, h4, h5, h6⟩ := hy
      have la' := (l_ok hv h1).2
      have ea : a' = a := by omega
      have ei : i = l := by omega
      subst ea ei
      rw [h6]
      exact hN b j h2 h4
  | succ r ih =>
    intro o fuel σ f Q ho hfu hE hG hS hok hR hN
    obtain ⟨fu, rfl⟩ : ∃ fu, fuel = fu + 1 := ⟨fuel - 1, by omega⟩
    have cp := c_partner hv hE.1 net hl hE.2 (a := a) (b := o) (l := l) (by omega) (by omega) hla l12
    rw [lX0_spread_47, if_neg (by rw [kle (by omega) (by omega)]; omega), cp, Option.bind_some, vI_d]
    unfold jX0_spread_99
    simp only [vI_d, k1]
    cases hp : ptN υ (nbE bk E) a o l with
    | none =>
      rw [if_pos (show oI none = -1 from rfl)]
      exact ih (o + 1) fu σ f Q (by omega) (by omega) hE hG hS hok hR (fun b j hb hpb => by
        by_cases z : b = o
        · rw [z, hp] at hpb; cases hpb
        · exact hN b j (by omega) hpb)
    | some j =>
      have jl := (ptN_lt hp).1
      have lo := (l_ok hv (show o < wn υ by omega)).2
      have oj : oI (some j) = nI j := rfl
      have sl : nI o * 12 + nI j = nI (12 * o + j) := by
        show nI o * nI 12 + nI j = _
        rw [kmul, kadd, Nat.mul_comm]
      unfold fX11_slotOf
      rw [oj, if_neg (kne1 (by omega))]
      simp only [Option.bind_some, sl, kinB (show 12 * o + j < 2147483648 by omega), decide_eq_true (show 12 * o + j < 192 by omega), if_true, kc (show 12 * o + j < 2147483648 by omega), hG.1 (12 * o + j) (by omega)]
      have adjx : adjP υ (nbE bk E) (12 * a + l) (12 * o + j) := ⟨a, o, l, j, ha, by omega, hla, hp, rfl, rfl⟩
      cases hf : f (12 * o + j) with
      | some d =>
        have ne : ¬ oI (some d) = (-1) := kne1 (by have := (hok _ d hf).2; omega)
        rw [if_neg ne]
        exact ih (o + 1) fu σ f Q (by omega) (by omega) hE hG hS hok hR (fun b j' hb hpb => by
          by_cases z : b = o
          · rw [z, hp] at hpb
            rw [z, ← Option.some.inj hpb, hf]
            simp
          · exact hN b j' (by omega) hpb)
      | none =>
        rw [if_pos (show oI none = -1 from rfl)]
        have hr2 := hR.st adjx
        have sp2 := hS.up hf hr2
        have oky : okS υ (12 * o + j) := adjP_ok adjx
        have hok2 : ∀ x d, upF f (12 * o + j) c x = some d → okS υ x ∧ d < 192 := fun x d hx => by
          unfold upF at hx
          by_cases z : x = 12 * o + j
          · rw [if_pos z] at hx
            rw [z, ← Option.some.inj hx]
            exact ⟨oky, hc⟩
          · rw [if_neg z] at hx; exact hok x d hx
        have len := nd_le 192 (Q ++ [12 * o + j]) sp2.2.2.2 (fun x hx => okS_lt hv (hok2 x c ((sp2.2.2.1 x).mp hx)).1)
        rw [List.length_append] at len
        have l1 : [12 * o + j].length = 1 := rfl
        obtain ⟨τ, t1, t2, t3, t4, t5, t6⟩ := c_reach hG hc (show 12 * o + j < 192 by omega) (by omega) hf
        rw [t1, Option.bind_some]
        obtain ⟨τ2, g, R, u1, u2, u3, u4, u5, u6, u7, u8, u9, u10⟩ := ih (o + 1) fu τ (upF f (12 * o + j) c) (Q ++ [12 * o + j]) (by omega) (by omega) (hE.kp t3) t2 sp2 hok2 hR (fun b j' hb hpb => by
          unfold upF
          by_cases z : 12 * b + j' = 12 * o + j
          · rw [if_pos z]; simp
          · rw [if_neg z]
            by_cases w : b = o
            · rw [w, hp] at hpb
              rw [w, ← Option.some.inj hpb] at z
              exact absurd rfl z
            · exact hN b j' (by omega) hpb)
        rw [List.append_assoc] at u6 u7
        refine ⟨τ2, g, [12 * o + j] ++ R, u1, t3.tr u2, t4.tr u3, u4.trans t5, u5.trans t6, u6, u7, u8, fun x hx => u9 x ?_, u10⟩
        unfold upF
        by_cases z : x = 12 * o + j
        · rw [if_pos z]; simp
        · rw [if_neg z]; exact hx
theorem spread_out (hv : VB υ) (net : netE (wn υ) (wP υ) E) (hl : E.length ≤ 42) {f0 : Nat → Option Nat} {s c : Nat} (hc : c < 192) : ∀ (r k fuel : Nat) (σ : rS) (f : Nat → Option Nat) (Q : List Nat), k + r = 192 → r < fuel → k ≤ Q.length → envC υ σ bk E → grow σ f c Q → spr (adjP υ (nbE bk E)) f0 f s c Q → (∀ x d, f x = some d → okS υ x ∧ d < 192) → (∀ x, x ∈ Q → Rch (adjP υ (nbE bk E)) s x) → (∀ k' x, k' < k → Q[k']? = some x → ∀ y, adjP υ (nbE bk E) x y → f y ≠ none) → ∃ τ g Q', lX0_spread_3 fuel (nI (wn υ)) (nI k) σ = some ((), τ) ∧ Kp oD σ τ ∧ sameB σ τ c ∧ τ.2.2.1 27 c = σ.2.2.1 27 c ∧ τ.2.2.1 29 c = σ.2.2.1 29 c ∧ grow τ g c Q' ∧ spr (adjP υ (nbE bk E)) f0 g s c Q' ∧ (∀ x d, g x = some d → okS υ x ∧ d < 192) ∧ (∀ x, f x ≠ none → g x ≠ none) ∧ ∀ x y, adjP υ (nbE bk E) x y → g x = some c → g y ≠ none := by
  have h16 := hv.2.1
  intro r
  induction r with
  | zero =>
    intro k fuel σ f Q hk hfu hkQ hE hG hS hok hQ hN
    obtain ⟨fu, rfl⟩ : ∃ fu, fuel = fu + 1 := ⟨fuel - 1, by omega⟩
    have len := nd_le 192 Q hS.2.2.2 (fun x hx => okS_lt hv (hok x c ((hS.2.2.1 x).mp hx)).1)
    refine ⟨σ, f, Q, ?_, Kp.rf _ _, sameB.rf _ _, rfl, rfl, hG, hS, hok, fun x h => h, fun x y hxy hx => ?_⟩
    · rw [lX0_spread_3, hG.2.2.1, if_pos ((kle (by omega) (by omega)).mpr (by omega))]
      rfl
    · obtain ⟨k', hk'⟩ := List.mem_iff_getElem?.mp ((hS.2.2.1 x).mpr hx)
      have := (List.getElem?_eq_some_iff.mp hk').1
      exact hN k' x (by omega) hk' y hxy
  | succ r ih =>
    intro k fuel σ f Q hk hfu hkQ hE hG hS hok hQ hN
    obtain ⟨fu, rfl⟩ : ∃ fu, fuel = fu + 1 := ⟨fuel - 1, by omega⟩
    have len := nd_le 192 Q hS.2.2.2 (fun x hx => okS_lt hv (hok x c ((hS.2.2.1 x).mp hx)).1)
    by_cases ck : Q.length ≤ k
    · refine ⟨σ, f, Q, ?_, Kp.rf _ _, sameB.rf _ _, rfl, rfl, hG, hS, hok, fun x h => h, fun x y hxy hx => ?_⟩
      · rw [lX0_spread_3, hG.2.2.1, if_pos ((kle (by omega) (by omega)).mpr ck)]
        rfl
      · obtain ⟨k', hk'⟩ := List.mem_iff_getElem?.mp ((hS.2.2.1 x).mpr hx)
        have := (List.getElem?_eq_some_iff.mp hk').1
        exact hN k' x (by omega) hk' y hxy
    · obtain ⟨x, hx⟩ : ∃ x, Q[k]? = some x := ⟨_, List.getElem?_eq_getElem (by omega)⟩
      have xq := List.mem_of_getElem? hx
      have okx := (hok x c ((hS.2.2.1 x).mp xq)).1
      have x192 := okS_lt hv okx
      obtain ⟨a, l, ha, hla, hxa⟩ := okx
      have l12 := (l_ok hv ha).2
      have e1 : x / 12 = a := by omega
      have e2 : x % 12 = l := by omega
      have q33 := hG.2.2.2.1 k x hx
      obtain ⟨τ, g, R, t1, t2, t3, t4, t5, t6, t7, t8, t9, t10⟩ := spread_in hv net hl (k3 := lX0_spread_3 fu) (f0 := f0) (s := s) (c := c) (a := a) (l := l) (kq := k) hc ha hla (wn υ) 0 1000 σ f Q (by omega) (by omega) hE hG hS hok (by rw [← hxa]; exact hQ x xq) (fun b j hb => by omega)
      have subs : ∀ z, z ∈ Q ++ R → Rch (adjP υ (nbE bk E)) s z := fun z hz => by
        rcases t7.2.1 z c ((t7.2.2.1 z).mp hz) with w | w
        · have := hS.1 z c w
          exact hQ z ((hS.2.2.1 z).mpr this)
        · exact w.2.2
      obtain ⟨τ2, g2, Q2, u1, u2, u3, u4, u5, u6, u7, u8, u9, u10⟩ := ih (k + 1) fu τ g (Q ++ R) (by omega) (by omega) (by rw [List.length_append]; omega) (hE.kp t2) t6 t7 t8 subs (fun k' z hk' hz y hzy => by
        rw [List.getElem?_append_left (by omega)] at hz
        by_cases w : k' = k
        · rw [w, hx] at hz
          rw [← Option.some.inj hz, hxa] at hzy
          exact t10 y hzy
        · exact t9 y (hN k' z (by omega) hz y hzy))
      refine ⟨τ2, g2, Q2, ?_, t2.tr u2, t3.tr u3, u4.trans t4, u5.trans t5, u6, u7, u8, fun x h => u9 x (t9 x h), u10⟩
      have ng : ¬ (192 : Int32) ≤ nI k := fun z => by
        have := (kle (a := 192) (by omega) (by omega)).mp z
        omega
      rw [lX0_spread_3, hG.2.2.1, if_neg (by rw [kle (by omega) (by omega)]; omega), if_neg ng, kinB (by omega), decide_eq_true (show k < 192 by omega)]
      have mm := km12 (show x < 2147483648 by omega)
      rw [k12 (by omega), e1, e2] at mm
      simp only [if_true, kc (show k < 2147483648 by omega), q33, vI_d, k12 (show x < 2147483648 by omega), e1, mm]
      rw [← u1, ← t1]
      rfl
end Spr
