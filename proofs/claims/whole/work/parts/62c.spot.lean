/-! THE LEVEL AT A PLACE, and how the class finds it. -/
def plZ (p : Nat → zP) (P : zP) (t : Nat × Nat × Nat) (la lb lc : Int) : Int × Int :=
  ((((tz (p t.2.1) (p t.2.2) P).natAbs : Int) * la + ((tz (p t.2.2) (p t.1) P).natAbs : Int) * lb + ((tz (p t.1) (p t.2.1) P).natAbs : Int) * lc).tdiv (Nat.gcd (((tz (p t.2.1) (p t.2.2) P).natAbs : Int) * la + ((tz (p t.2.2) (p t.1) P).natAbs : Int) * lb + ((tz (p t.1) (p t.2.1) P).natAbs : Int) * lc).natAbs (tz (p t.1) (p t.2.1) (p t.2.2)).natAbs : Nat),
   (((tz (p t.1) (p t.2.1) (p t.2.2)).natAbs / Nat.gcd (((tz (p t.2.1) (p t.2.2) P).natAbs : Int) * la + ((tz (p t.2.2) (p t.1) P).natAbs : Int) * lb + ((tz (p t.1) (p t.2.1) P).natAbs : Int) * lc).natAbs (tz (p t.1) (p t.2.1) (p t.2.2)).natAbs : Nat) : Int))
def trI (p : Nat → zP) (P : zP) (Lv : Nat → Option Int) : List (Nat × Nat × Nat) → Int × Int
  | [] => (0, 0)
  | t :: R => match Lv t.1, Lv t.2.1, Lv t.2.2 with | some la, some lb, some lc => plZ p P t la lb lc | _, _, _ => trI p P Lv R
def inT (p : Nat → zP) (P : zP) (t : Nat × Nat × Nat) : Bool := inZ (p t.1) (p t.2.1) (p t.2.2) P
def own (n : Nat) (p : Nat → zP) (P : zP) : Option Nat := if n = 1 then some 0 else ff (fun k => decide (p k = P)) n 0
def lvP (n : Nat) (p : Nat → zP) (P : zP) (T : List (Nat × Nat × Nat)) (Lv : Nat → Option Int) : Int × Int := match (own n p P).bind Lv with | some z => (z, 1) | none => trI p P Lv (T.filter (inT p P))
theorem absI {v : Int32} {z : Int} (h : v.toInt = z) (hz : -8000000 ≤ z ∧ z ≤ 8000000) : (if 0 ≤ v then v else 0 - v) = nI z.natAbs := by
  have z0 : (0 : Int32).toInt = 0 := rfl
  apply i_eq
  by_cases c : 0 ≤ v
  · rw [if_pos c, ki (by omega)]
    rw [i_le] at c
    omega
  · rw [if_neg c]
    rw [i_le] at c
    rw [ki (by omega), i_sub (by omega) (by omega)]
    omega
abbrev oS' (n : Nat) : Prop := 34 ≤ n ∧ n ≤ 37
/-- the triangles around -/
def isAr (σ : rS) (p : Nat → zP) (P : zP) (T : List (Nat × Nat × Nat)) (R : List (Nat × (Nat × Nat × Nat))) : Prop := σ.1 34 6 = nI R.length ∧ ∀ k e, R[k]? = some e → T[e.1]? = some e.2 ∧ σ.2.2.1 36 k = nI e.1 ∧ σ.2.2.1 37 (3 * k) = nI (tz (p e.2.2.1) (p e.2.2.2) P).natAbs ∧ σ.2.2.1 37 (3 * k + 1) = nI (tz (p e.2.2.2) (p e.2.1) P).natAbs ∧ σ.2.2.1 37 (3 * k + 2) = nI (tz (p e.2.1) (p e.2.2.1) P).natAbs
section Spot
variable {σ τ υ : rS} {T : List (Nat × Nat × Nat)}
theorem c_corner {k j : Nat} {t : Nat × Nat × Nat} (p : Nat → zP) (hT : isTr σ p T) (hl : T.length ≤ 27) (ht : T[k]? = some t) : fX6_cornerOf (nI k) 0 σ = some (nI t.1, σ) ∧ fX6_cornerOf (nI k) 1 σ = some (nI t.2.1, σ) ∧ fX6_cornerOf (nI k) 2 σ = some (nI t.2.2, σ) := by
  have kl := (List.getElem?_eq_some_iff.mp ht).1
  obtain ⟨x1, x2, x3, _⟩ := hT.2 k t ht
  unfold fX6_cornerOf
  have e : (3 : Int32) * nI k = nI (3 * k) := kmul 3 k
  have e0 : nI (3 * k) + 0 = nI (3 * k) := kadd _ 0
  have e1 : nI (3 * k) + 1 = nI (3 * k + 1) := k1 _
  have e2 : nI (3 * k) + 2 = nI (3 * k + 2) := kadd _ 2
  rw [e, e0, e1, e2, kinB (by omega), decide_eq_true (show 3 * k < 81 by omega), kinB (by omega), decide_eq_true (show 3 * k + 1 < 81 by omega), kinB (by omega), decide_eq_true (show 3 * k + 2 < 81 by omega), if_pos rfl, if_pos rfl, if_pos rfl, kc (by omega), kc (by omega), kc (by omega), x1, x2, x3]
  exact ⟨rfl, rfl, rfl⟩
theorem goTo_loop (hv : VB τ) (ag : agT υ τ) (hB : VB υ) (hT : isTr υ (wP τ) T) (hl : T.length ≤ 27) (hm : ∀ t ∈ T, t.1 < wn τ ∧ t.2.1 < wn τ ∧ t.2.2 < wn τ) {P : zP} (hP : okZ P) : ∀ (r t fuel : Nat) (σ : rS) (R : List (Nat × (Nat × Nat × Nat))), t + r = T.length → r < fuel → Kp oS' υ σ → pz σ 35 = P → isAr σ (wP τ) P T R → R.map (·.2) = (T.take t).filter (inT (wP τ) P) → ∃ ω S, lX9_goTo_39 fuel (nI t) σ = some ((), ω) ∧ Kp oS' υ ω ∧ pz ω 35 = P ∧ isAr ω (wP τ) P T S ∧ S.map (·.2) = T.filter (inT (wP τ) P) ∧ ω.1 34 3 = σ.1 34 3 := by
  have h16 := hv.2.1
  intro r
  induction r with
  | zero =>
    intro t fuel σ R ht hfu hkp hp hR hS
    obtain ⟨fu, rfl⟩ : ∃ fu, fuel = fu + 1 := ⟨fuel - 1, by omega⟩
    refine ⟨σ, R, ?_, hkp, hp, hR, by rw [hS, List.take_of_length_le (by omega)], rfl⟩
    have e6 : σ.1 10 6 = nI T.length := by rw [(hkp.1 10 (by omega)).1]; exact hT.1
    rw [lX9_goTo_39, e6, if_pos ((kle (by omega) (by omega)).mpr (by omega))]
  | succ r ih =>
    intro t fuel σ R ht hfu hkp hp hR hS
    obtain ⟨fu, rfl⟩ : ∃ fu, fuel = fu + 1 := ⟨fuel - 1, by omega⟩
    have e6 : σ.1 10 6 = nI T.length := by rw [(hkp.1 10 (by omega)).1]; exact hT.1
    obtain ⟨⟨a, b, c⟩, he⟩ : ∃ e, T[t]? = some e := ⟨_, List.getElem?_eq_getElem (by omega)⟩
    obtain ⟨ha, hb, hc⟩ := hm _ (List.mem_of_getElem? he)
    dsimp only at ha hb hc
    have hTσ : isTr σ (wP τ) T := isTr.kp (fun n hn => hkp.1 n (by omega)) hT
    obtain ⟨k0, k1', k2⟩ := c_corner (j := 0) (wP τ) hTσ hl he
    have hBσ : VB σ := VB.kp (fun n hn => hkp.1 n (by omega)) hB
    have enσ : wn σ = wn τ := (wn_kp (hkp.1 1 (by omega))).trans ag.1
    have epσ : ∀ k, k < wn τ → wP σ k = wP τ k := fun k hk => by
      rw [← ag.P hk]
      exact pz_kp (hkp.1 _ (by have := hk; omega))
    have qP : ∀ ν : rS, Kp oS' υ ν → pz ν 35 = P → okQ ν 35 := fun ν _ h => ⟨Or.inl rfl, by rw [h]; exact hP⟩
    have qB : ∀ ν : rS, Kp oS' υ ν → ∀ k, k < wn τ → okQ ν (80 + 4 * k + 1) ∧ pz ν (80 + 4 * k + 1) = wP τ k := fun ν hν k hk => by
      have hBν : VB ν := VB.kp (fun n hn => hν.1 n (by omega)) hB
      have en : wn ν = wn τ := (wn_kp (hν.1 1 (by omega))).trans ag.1
      refine ⟨wP_ok hBν (by rw [en]; exact hk), ?_⟩
      rw [← ag.P hk]
      exact pz_kp (hν.1 _ (by omega))
    have inq := c_inTri (qB σ hkp a ha).1 (qB σ hkp b hb).1 (qB σ hkp c hc).1 (qP σ hkp hp)
    rw [(qB σ hkp a ha).2, (qB σ hkp b hb).2, (qB σ hkp c hc).2, hp] at inq
    have itn : inT (wP τ) P (a, b, c) = inZ (wP τ a) (wP τ b) (wP τ c) P := rfl
    have tk : T.take (t + 1) = T.take t ++ [(a, b, c)] := by
      rw [List.take_add_one, he]
      rfl
    have fl : (T.take (t + 1)).filter (inT (wP τ) P) = (T.take t).filter (inT (wP τ) P) ++ (if inZ (wP τ a) (wP τ b) (wP τ c) P = true then [(a, b, c)] else []) := by
      rw [tk, List.filter_append, ← itn]
      congr 1
      cases h : inT (wP τ) P (a, b, c) <;> simp [h]
    have Rl : R.length ≤ t := by
      have e1 : (R.map (·.2)).length = R.length := List.length_map _
      have e2 := List.length_filter_le (inT (wP τ) P) (T.take t)
      rw [← hS, e1, List.length_take] at e2
      omega
    rw [lX9_goTo_39, e6, if_neg (by rw [kle (by omega) (by omega)]; omega), k0, Option.bind_some]
    simp only [kinB (show a < 2147483648 by omega), kinB (show b < 2147483648 by omega), kinB (show c < 2147483648 by omega), decide_eq_true (show a < 16 by omega), decide_eq_true (show b < 16 by omega), decide_eq_true (show c < 16 by omega), if_true, kc (show a < 2147483648 by omega), kc (show b < 2147483648 by omega), kc (show c < 2147483648 by omega), if_pos (bo_ok (show a < 16 by omega)), if_pos (bo_ok (show b < 16 by omega)), if_pos (bo_ok (show c < 16 by omega)), k1', k2, Option.bind_some, inq, bI_0]
    unfold jX9_goTo_219
    simp only [vI_d, k1]
    cases hin : inZ (wP τ a) (wP τ b) (wP τ c) P with
    | false =>
      rw [if_pos rfl]
      refine ih (t + 1) fu σ R (by omega) (by omega) hkp hp hR ?_
      rw [fl, hin, if_neg (by simp), List.append_nil]
      exact hS
    | true =>
      rw [if_neg (by simp)]
      have R27 : R.length < 27 := by omega
      have m0 : (3 : Int32) * nI R.length = nI (3 * R.length) := kmul 3 _
      have m1 : nI (3 * R.length) + 1 = nI (3 * R.length + 1) := k1 _
      have m2 : nI (3 * R.length) + 2 = nI (3 * R.length + 2) := kadd _ 2
      -- turns do not see arrays
      have tu : ∀ ν : rS, ν.1 = σ.1 → ∀ x y, x < wn τ → y < wn τ → fX7_turn (80 + 4 * x + 1) (80 + 4 * y + 1) 35 ν = some (turnI σ (80 + 4 * x + 1) (80 + 4 * y + 1) 35, ν) := fun ν hν x y hx hy => by
        rw [c_turn (pl_ok (by omega)) (pl_ok (by omega)) (Or.inl rfl)]
        unfold turnI
        rw [hν]
      have tv : ∀ x y, x < wn τ → y < wn τ → (if 0 ≤ turnI σ (80 + 4 * x + 1) (80 + 4 * y + 1) 35 then turnI σ (80 + 4 * x + 1) (80 + 4 * y + 1) 35 else 0 - turnI σ (80 + 4 * x + 1) (80 + 4 * y + 1) 35) = nI (tz (wP τ x) (wP τ y) P).natAbs := fun x y hx hy => by
        have e := turnI_i (qB σ hkp x hx).1 (qB σ hkp y hy).1 (qP σ hkp hp)
        rw [(qB σ hkp x hx).2, (qB σ hkp y hy).2, hp] at e
        exact absI e (tzB (wP_ok hv hx).2 (wP_ok hv hy).2 hP)
      have t1 := tu (uA σ 36 R.length (nI t)) rfl b c hb hc
      have t2 := tu (uA (uA σ 36 R.length (nI t)) 37 (3 * R.length) (nI (tz (wP τ b) (wP τ c) P).natAbs)) rfl c a hc ha
      have t3 := tu (uA (uA (uA σ 36 R.length (nI t)) 37 (3 * R.length) (nI (tz (wP τ b) (wP τ c) P).natAbs)) 37 (3 * R.length + 1) (nI (tz (wP τ c) (wP τ a) P).natAbs)) rfl a b ha hb
      rw [hR.1]
      simp only [kinB (show R.length < 2147483648 by omega), decide_eq_true R27, if_true, kc (show R.length < 2147483648 by omega), vS_d, t1, Option.bind_some, uA_1, hR.1, m0, m1, m2, kinB (show 3 * R.length < 2147483648 by omega), decide_eq_true (show 3 * R.length < 81 by omega), kc (show 3 * R.length < 2147483648 by omega), tv b c hb hc, t2, kinB (show 3 * R.length + 1 < 2147483648 by omega), decide_eq_true (show 3 * R.length + 1 < 81 by omega), kc (show 3 * R.length + 1 < 2147483648 by omega), tv c a hc ha, t3, kinB (show 3 * R.length + 2 < 2147483648 by omega), decide_eq_true (show 3 * R.length + 2 < 81 by omega), kc (show 3 * R.length + 2 < 2147483648 by omega), tv a b ha hb, k1]
      obtain ⟨ω, S, u1, u2, u3, u4, u5, u6⟩ := ih (t + 1) fu (uI (uA (uA (uA (uA σ 36 R.length (nI t)) 37 (3 * R.length) (nI (tz (wP τ b) (wP τ c) P).natAbs)) 37 (3 * R.length + 1) (nI (tz (wP τ c) (wP τ a) P).natAbs)) 37 (3 * R.length + 2) (nI (tz (wP τ a) (wP τ b) P).natAbs)) 34 6 (nI (R.length + 1))) (R ++ [(t, (a, b, c))]) (by omega) (by omega) (((((hkp.tr (Kp.uA (by omega))).tr (Kp.uA (by omega))).tr (Kp.uA (by omega))).tr (Kp.uA (by omega))).tr (Kp.uI (by omega))) (by
        rw [← hp]
        unfold pz
        rw [uI_ne (by omega), uI_ne (by omega)]
        rfl) ⟨by rw [uI_eq, List.length_append]; rfl, fun k e hk => by
        rw [uI_2]
        rcases app_get hk with ⟨d1, d2⟩ | ⟨d1, d2⟩
        · obtain ⟨x1, x2, x3, x4, x5⟩ := hR.2 k e d2
          refine ⟨x1, ?_, ?_, ?_, ?_⟩
          · rw [uA_ne (by omega), uA_ne (by omega), uA_ne (by omega), uA_nj (by omega)]; exact x2
          · rw [uA_nj (by omega), uA_nj (by omega), uA_nj (by omega), uA_ne (by omega)]; exact x3
          · rw [uA_nj (by omega), uA_nj (by omega), uA_nj (by omega), uA_ne (by omega)]; exact x4
          · rw [uA_nj (by omega), uA_nj (by omega), uA_nj (by omega), uA_ne (by omega)]; exact x5
        · subst d1 d2
          refine ⟨he, ?_, ?_, ?_, ?_⟩
          · rw [uA_ne (by omega), uA_ne (by omega), uA_ne (by omega), uA_eq]
          · rw [uA_nj (by omega), uA_nj (by omega), uA_eq]
          · rw [uA_nj (by omega), uA_eq]
          · rw [uA_eq]⟩ (by rw [fl, hin, if_pos rfl, List.map_append, hS]; rfl)
      refine ⟨ω, S, u1, u2, u3, u4, u5, ?_⟩
      rw [u6, uI_nj (by omega)]
      rfl
end Spot
