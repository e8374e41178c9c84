/-! THE TRIANGLES OF CLASS AND MODEL. -/
theorem c_turnOf {σ : rS} (hv : VB σ) {a b c : Nat} (ha : a < wn σ) (hb : b < wn σ) (hc : c < wn σ) : fX6_turnOf (nI a) (nI b) (nI c) σ = some (turnI σ (80 + 4 * a + 1) (80 + 4 * b + 1) (80 + 4 * c + 1), σ) := by
  have h16 := hv.2.1
  unfold fX6_turnOf
  simp only [kinB (show a < 2147483648 by omega), kinB (show b < 2147483648 by omega), kinB (show c < 2147483648 by omega), decide_eq_true (show a < 16 by omega), decide_eq_true (show b < 16 by omega), decide_eq_true (show c < 16 by omega), if_true, kc (show a < 2147483648 by omega), kc (show b < 2147483648 by omega), kc (show c < 2147483648 by omega), if_pos (bo_ok (show a < 16 by omega)), if_pos (bo_ok (show b < 16 by omega)), if_pos (bo_ok (show c < 16 by omega)), c_turn (pl_ok (show a < 16 by omega)) (pl_ok (show b < 16 by omega)) (pl_ok (show c < 16 by omega)), Option.bind_some]
theorem c_bareT {σ : rS} (hv : VB σ) {a b c : Nat} (ha : a < wn σ) (hb : b < wn σ) (hc : c < wn σ) : fX6_isBareTriangle (nI a) (nI b) (nI c) σ = some (bI (decide (tz (wP σ a) (wP σ b) (wP σ c) ≠ 0) && bareT (wn σ) (wP σ) a b c), σ) := by
  have h16 := hv.2.1
  have loop : ∀ (r k fuel : Nat), k + r = wn σ → r < fuel → lX6_isBareTriangle_15 fuel (nI a) (nI b) (nI c) (nI k) σ = some (bI (!anyF (fun k => decide (k ≠ a ∧ k ≠ b ∧ k ≠ c) && inZ (wP σ a) (wP σ b) (wP σ c) (wP σ k)) r k), σ) := by
    intro r
    induction r with
    | zero =>
      intro k fuel hk hfu
      obtain ⟨fu, rfl⟩ : ∃ fu, fuel = fu + 1 := ⟨fuel - 1, by omega⟩
      rw [lX6_isBareTriangle_15, hv.1, if_pos ((kle (by omega) (by omega)).mpr (by omega))]
      rfl
    | succ r ih =>
      intro k fuel hk hfu
      obtain ⟨fu, rfl⟩ : ∃ fu, fuel = fu + 1 := ⟨fuel - 1, by omega⟩
      have it := ih (k + 1) fu (by omega) (by omega)
      rw [lX6_isBareTriangle_15, hv.1, if_neg (by rw [kle (by omega) (by omega)]; omega), anyF]
      unfold jX6_isBareTriangle_87
      have q : ∀ x y : Nat, x < wn σ → y < wn σ → (nI x = nI y) = (x = y) := fun x y hx hy => propext (keq (by omega) (by omega))
      simp only [vI_d, k1, it, q k a (by omega) ha, q k b (by omega) hb, q k c (by omega) hc, kinB (show a < 2147483648 by omega), kinB (show b < 2147483648 by omega), kinB (show c < 2147483648 by omega), kinB (show k < 2147483648 by omega), decide_eq_true (show a < 16 by omega), decide_eq_true (show b < 16 by omega), decide_eq_true (show c < 16 by omega), decide_eq_true (show k < 16 by omega), if_true, kc (show a < 2147483648 by omega), kc (show b < 2147483648 by omega), kc (show c < 2147483648 by omega), kc (show k < 2147483648 by omega), if_pos (bo_ok (show a < 16 by omega)), if_pos (bo_ok (show b < 16 by omega)), if_pos (bo_ok (show c < 16 by omega)), if_pos (bo_ok (show k < 16 by omega)), c_inTri (wP_ok hv ha) (wP_ok hv hb) (wP_ok hv hc) (wP_ok hv (show k < wn σ by omega)), Option.bind_some, bI_0]
      by_cases c1 : k = a
      · rw [if_pos c1, decide_eq_false (fun z => z.1 c1)]; rfl
      · rw [if_neg c1]
        by_cases c2 : k = b
        · rw [if_pos c2, decide_eq_false (fun z => z.2.1 c2)]; rfl
        · rw [if_neg c2]
          by_cases c3 : k = c
          · rw [if_pos c3, decide_eq_false (fun z => z.2.2 c3)]; rfl
          · rw [if_neg c3, decide_eq_true ⟨c1, c2, c3⟩]
            show (if inZ (wP σ a) (wP σ b) (wP σ c) (wP σ k) = false then _ else _) = _
            cases inZ (wP σ a) (wP σ b) (wP σ c) (wP σ k) <;> rfl
  have l := loop (wn σ) 0 1000 (by omega) (by omega)
  rw [show nI 0 = 0 from rfl] at l
  unfold fX6_isBareTriangle
  rw [c_turnOf hv ha hb hc, Option.bind_some]
  simp only [i0, turnI_i (wP_ok hv ha) (wP_ok hv hb) (wP_ok hv hc), l]
  show (if tz (wP σ a) (wP σ b) (wP σ c) = 0 then _ else _) = _
  by_cases z : tz (wP σ a) (wP σ b) (wP σ c) = 0
  · rw [if_pos z, decide_eq_false (fun y => y z)]; rfl
  · rw [if_neg z, decide_eq_true z]; rfl
def isTr (σ : rS) (p : Nat → zP) (T : List (Nat × Nat × Nat)) : Prop := σ.1 10 6 = nI T.length ∧ ∀ k t, T[k]? = some t → σ.2.2.1 17 (3 * k) = nI t.1 ∧ σ.2.2.1 17 (3 * k + 1) = nI t.2.1 ∧ σ.2.2.1 17 (3 * k + 2) = nI t.2.2 ∧ σ.2.2.1 14 k = nI (tz (p t.1) (p t.2.1) (p t.2.2)).natAbs
theorem oI_s {o : Option Nat} (h : ∀ m, o = some m → m < 2147483648) : (oI o = (-1)) = (o.isSome = false) := by
  rw [oI_1 h]
  cases o <;> simp
theorem jn_lt {bk : Nat × Nat → Bool} {E : List (Nat × Nat)} {a b m : Nat} (h : jnE bk E a b = some m) : m < E.length := by
  unfold jnE at h
  rw [List.findIdx?_eq_some_iff_getElem] at h
  exact h.1
/-- what the triangle loops of the class leave alone -/
abbrev oT (n : Nat) : Prop := n = 10 ∨ n = 14 ∨ n = 17
def ctx (υ σ : rS) (bk : Nat × Nat → Bool) (E : List (Nat × Nat)) : Prop := Kp oT υ σ ∧ (∀ j, j ≠ 6 → σ.1 10 j = υ.1 10 j) ∧ (∀ a b, a < 16 → b < 16 → υ.2.2.1 16 (a * 16 + b) = oI (jnE bk E a b)) ∧ E.length ≤ 42
theorem c_join {σ : rS} {bk : Nat × Nat → Bool} {E : List (Nat × Nat)} (h : ∀ a b, a < 16 → b < 16 → σ.2.2.1 16 (a * 16 + b) = oI (jnE bk E a b)) {a b : Nat} (ha : a < 16) (hb : b < 16) : fX6_joining (nI a) (nI b) σ = some (oI (jnE bk E a b), σ) := by
  unfold fX6_joining
  have i3 : nI a * 16 + nI b = nI (a * 16 + b) := by
    show nI a * nI 16 + nI b = _
    rw [kmul, kadd]
  rw [i3, kinB (by omega), decide_eq_true (show a * 16 + b < 256 by omega), if_pos rfl, kc (by omega), h a b ha hb]
theorem tri_in {υ : rS} (hv : VB υ) {bk : Nat × Nat → Bool} {E : List (Nat × Nat)} {a b : Nat} (hab : a < b) (hnb : nbE bk E a b = true) : ∀ (r c fuel : Nat) (σ : rS) (T : List (Nat × Nat × Nat)), b < c → c + r = wn υ → r < fuel → ctx υ σ bk E → isTr σ (wP υ) T → T.length + (tcL (triB (wn υ) (wP υ) (nbE bk E)) a b r c).length ≤ 27 → ∃ τ, lX6_takeTrianglesOn_5 fuel (nI a) (nI b) (nI c) σ = some ((), τ) ∧ ctx υ τ bk E ∧ isTr τ (wP υ) (T ++ tcL (triB (wn υ) (wP υ) (nbE bk E)) a b r c) := by
  have h16 := hv.2.1
  intro r
  induction r with
  | zero =>
    intro c fuel σ T hbc hc hfu hctx hT hlen
    obtain ⟨fu, rfl⟩ : ∃ fu, fuel = fu + 1 := ⟨fuel - 1, by omega⟩
    refine ⟨σ, ?_, hctx, by rw [tcL, List.append_nil]; exact hT⟩
    have e : σ.1 1 1 = nI (wn υ) := by rw [(hctx.1.1 1 (by omega)).1]; exact hv.1
    rw [lX6_takeTrianglesOn_5, e, if_pos ((kle (by omega) (by omega)).mpr (by omega))]
  | succ r ih =>
    intro c fuel σ T hbc hc hfu hctx hT hlen
    obtain ⟨fu, rfl⟩ : ∃ fu, fuel = fu + 1 := ⟨fuel - 1, by omega⟩
    have e : σ.1 1 1 = nI (wn υ) := by rw [(hctx.1.1 1 (by omega)).1]; exact hv.1
    have hvσ : VB σ := VB.kp (fun n hn => hctx.1.1 n (by omega)) hv
    have en : wn σ = wn υ := wn_kp (hctx.1.1 1 (by omega))
    have ep : wP σ = wP υ := wP_kp hctx.1 (fun n h => by omega)
    have hj : ∀ a b, a < 16 → b < 16 → σ.2.2.1 16 (a * 16 + b) = oI (jnE bk E a b) := fun a b ha hb => by rw [(hctx.1.1 16 (by omega)).2.2]; exact hctx.2.2.1 a b ha hb
    have j1 := c_join hj (a := a) (b := c) (by omega) (by omega)
    have j2 := c_join hj (a := b) (b := c) (by omega) (by omega)
    have os : ∀ a b, (oI (jnE bk E a b) = (-1)) = (nbE bk E a b = false) := fun a b => oI_s (fun m hm => by have := jn_lt hm; have := hctx.2.2.2; omega)
    rw [tcL] at hlen ⊢
    have st : ∀ τ T2, ctx υ τ bk E → isTr τ (wP υ) T2 → T2.length + (tcL (triB (wn υ) (wP υ) (nbE bk E)) a b r (c + 1)).length ≤ 27 → T2 ++ tcL (triB (wn υ) (wP υ) (nbE bk E)) a b r (c + 1) = T ++ ((if triB (wn υ) (wP υ) (nbE bk E) a b c = true then [(a, b, c)] else []) ++ tcL (triB (wn υ) (wP υ) (nbE bk E)) a b r (c + 1)) → ∃ τ', jX6_takeTrianglesOn_139 (lX6_takeTrianglesOn_5 fu) (nI a) (nI b) (nI c) τ = some ((), τ') ∧ ctx υ τ' bk E ∧ isTr τ' (wP υ) (T ++ ((if triB (wn υ) (wP υ) (nbE bk E) a b c = true then [(a, b, c)] else []) ++ tcL (triB (wn υ) (wP υ) (nbE bk E)) a b r (c + 1))) := fun τ T2 h1 h2 h3 h4 => by
      obtain ⟨τ', t1, t2, t3⟩ := ih (c + 1) fu τ T2 (by omega) (by omega) (by omega) h1 h2 h3
      refine ⟨τ', ?_, t2, by rw [← h4]; exact t3⟩
      unfold jX6_takeTrianglesOn_139
      rw [vI_d, k1, t1]
    have no : triB (wn υ) (wP υ) (nbE bk E) a b c = false → ∃ τ', jX6_takeTrianglesOn_139 (lX6_takeTrianglesOn_5 fu) (nI a) (nI b) (nI c) σ = some ((), τ') ∧ ctx υ τ' bk E ∧ isTr τ' (wP υ) (T ++ ((if triB (wn υ) (wP υ) (nbE bk E) a b c = true then [(a, b, c)] else []) ++ tcL (triB (wn υ) (wP υ) (nbE bk E)) a b r (c + 1))) := fun hq => by
      refine st σ T hctx hT ?_ ?_
      · rw [hq, if_neg (by simp)] at hlen
        simpa using hlen
      · rw [hq, if_neg (by simp)]
        rfl
    rw [lX6_takeTrianglesOn_5, e, if_neg (by rw [kle (by omega) (by omega)]; omega), j1, Option.bind_some]
    simp only [os, j2, Option.bind_some]
    unfold jX6_takeTrianglesOn_40 jX6_takeTrianglesOn_41
    simp only [(show ¬ (1 : Int32) = 0 by decide), if_false, if_true]
    have tb : triB (wn υ) (wP υ) (nbE bk E) a b c = (nbE bk E a c && (nbE bk E b c && (decide (tz (wP υ a) (wP υ b) (wP υ c) ≠ 0) && bareT (wn υ) (wP υ) a b c))) := by
      unfold triB
      rw [hnb, Bool.true_and]
    cases n1 : nbE bk E a c with
    | false =>
      rw [if_pos rfl]
      exact no (by rw [tb, n1]; rfl)
    | true =>
      rw [if_neg (by simp)]
      cases n2 : nbE bk E b c with
      | false =>
        rw [if_pos rfl]
        exact no (by rw [tb, n1, n2]; rfl)
      | true =>
        rw [if_neg (by simp)]
        rw [hT.1]
        by_cases c27 : 27 ≤ T.length
        · have z : (27 : Int32) ≤ nI T.length := (kle (a := 27) (by omega) (by omega)).mpr c27
          rw [if_pos z]
          refine no ?_
          cases hq : triB (wn υ) (wP υ) (nbE bk E) a b c with
          | false => rfl
          | true =>
            rw [hq, if_pos rfl, List.length_append] at hlen
            have : [(a, b, c)].length = 1 := rfl
            omega
        · have z : ¬ (27 : Int32) ≤ nI T.length := fun z => c27 ((kle (a := 27) (by omega) (by omega)).mp z)
          rw [if_neg z]
          have cb := c_bareT hvσ (a := a) (b := b) (c := c) (by omega) (by omega) (by omega)
          rw [en, ep] at cb
          rw [n1, n2, Bool.true_and, Bool.true_and] at tb
          rw [← tb] at cb
          rw [cb, Option.bind_some]
          simp only [bI_0]
          cases hq : triB (wn υ) (wP υ) (nbE bk E) a b c with
          | false =>
            rw [if_pos rfl]
            rw [hq] at no
            exact no rfl
          | true =>
            rw [if_neg (by simp)]
            rw [hq, if_pos rfl] at st
            rw [hq, if_pos rfl, List.length_append] at hlen
            have l1 : [(a, b, c)].length = 1 := rfl
            have m0 : (3 : Int32) * nI T.length = nI (3 * T.length) := kmul 3 _
            have m1 : nI (3 * T.length) + 1 = nI (3 * T.length + 1) := k1 _
            have m2 : nI (3 * T.length) + 2 = nI (3 * T.length + 2) := kadd _ 2
            simp only [hT.1, vS_d, uA_1, m0, m1, m2, kinB (show 3 * T.length < 2147483648 by omega), kinB (show 3 * T.length + 1 < 2147483648 by omega), kinB (show 3 * T.length + 2 < 2147483648 by omega), kinB (show T.length < 2147483648 by omega), decide_eq_true (show 3 * T.length < 81 by omega), decide_eq_true (show 3 * T.length + 1 < 81 by omega), decide_eq_true (show 3 * T.length + 2 < 81 by omega), decide_eq_true (show T.length < 27 by omega), if_true, kc (show 3 * T.length < 2147483648 by omega), kc (show 3 * T.length + 1 < 2147483648 by omega), kc (show 3 * T.length + 2 < 2147483648 by omega), kc (show T.length < 2147483648 by omega)]
            have kp3 : Kp oT υ (uA (uA (uA σ 17 (3 * T.length) (nI a)) 17 (3 * T.length + 1) (nI b)) 17 (3 * T.length + 2) (nI c)) := ((hctx.1.tr (Kp.uA (by omega))).tr (Kp.uA (by omega))).tr (Kp.uA (by omega))
            have hv3 : VB (uA (uA (uA σ 17 (3 * T.length) (nI a)) 17 (3 * T.length + 1) (nI b)) 17 (3 * T.length + 2) (nI c)) := VB.kp (fun n hn => kp3.1 n (by omega)) hv
            have en3 : wn (uA (uA (uA σ 17 (3 * T.length) (nI a)) 17 (3 * T.length + 1) (nI b)) 17 (3 * T.length + 2) (nI c)) = wn υ := wn_kp (kp3.1 1 (by omega))
            have ep3 : wP (uA (uA (uA σ 17 (3 * T.length) (nI a)) 17 (3 * T.length + 1) (nI b)) 17 (3 * T.length + 2) (nI c)) = wP υ := wP_kp kp3 (fun n h => by omega)
            have ct := c_turnOf hv3 (a := a) (b := b) (c := c) (by omega) (by omega) (by omega)
            have ti := turnI_i (wP_ok hv3 (show a < _ by omega)) (wP_ok hv3 (show b < _ by omega)) (wP_ok hv3 (show c < _ by omega))
            have tiB := tzB (wP_ok hv3 (show a < _ by omega)).2 (wP_ok hv3 (show b < _ by omega)).2 (wP_ok hv3 (show c < _ by omega)).2
            rw [ct, Option.bind_some]
            have eqz : ∀ k, pz (uA (uA (uA σ 17 (3 * T.length) (nI a)) 17 (3 * T.length + 1) (nI b)) 17 (3 * T.length + 2) (nI c)) (80 + 4 * k + 1) = wP υ k := fun k => congrFun ep3 k
            rw [eqz, eqz, eqz] at ti tiB
            generalize turnI _ _ _ _ = tv at ti ⊢
            have ab : (if 0 ≤ tv then tv else 0 - tv) = nI (tz (wP υ a) (wP υ b) (wP υ c)).natAbs := by
              apply i_eq
              have z0 : (0 : Int32).toInt = 0 := rfl
              by_cases z : 0 ≤ tv
              · rw [if_pos z]
                rw [i_le] at z
                rw [ki (by omega)]
                omega
              · rw [if_neg z]
                rw [i_le] at z
                rw [ki (by omega), i_sub (by omega) (by omega)]
                omega
            simp only [ab, uA_1]
            rw [hT.1, k1]
            refine st _ (T ++ [(a, b, c)]) ⟨(kp3.tr (Kp.uA (by omega))).tr (Kp.uI (by omega)), fun j hj => by rw [uI_nj hj]; exact hctx.2.1 j hj, hctx.2.2⟩ ⟨by rw [uI_eq, List.length_append]; rfl, fun k t hk => ?_⟩ (by rw [List.length_append]; omega) (by rw [List.append_assoc])
            rw [uI_2]
            rcases app_get hk with ⟨d1, d2⟩ | ⟨d1, d2⟩
            · obtain ⟨x1, x2, x3, x4⟩ := hT.2 k t d2
              refine ⟨?_, ?_, ?_, ?_⟩
              · rw [uA_ne (by omega), uA_nj (by omega), uA_nj (by omega), uA_nj (by omega)]; exact x1
              · rw [uA_ne (by omega), uA_nj (by omega), uA_nj (by omega), uA_nj (by omega)]; exact x2
              · rw [uA_ne (by omega), uA_nj (by omega), uA_nj (by omega), uA_nj (by omega)]; exact x3
              · rw [uA_nj (by omega), uA_ne (by omega), uA_ne (by omega), uA_ne (by omega)]; exact x4
            · subst d1 d2
              refine ⟨?_, ?_, ?_, ?_⟩
              · rw [uA_ne (by omega), uA_nj (by omega), uA_nj (by omega), uA_eq]
              · rw [uA_ne (by omega), uA_nj (by omega), uA_eq]
              · rw [uA_ne (by omega), uA_eq]
              · rw [uA_eq]
theorem tri_mid {υ : rS} (hv : VB υ) {bk : Nat × Nat → Bool} {E : List (Nat × Nat)} {k7 : Int32 → rS → Option (Unit × rS)} {a : Nat} : ∀ (r b fuel : Nat) (σ : rS) (T : List (Nat × Nat × Nat)), a < b → b + r = wn υ → r < fuel → ctx υ σ bk E → isTr σ (wP υ) T → T.length + (tbL (triB (wn υ) (wP υ) (nbE bk E)) (wn υ) a r b).length ≤ 27 → ∃ τ, lX6_takeTriangles_19 k7 fuel (nI a) (nI b) σ = k7 (nI (a + 1)) τ ∧ ctx υ τ bk E ∧ isTr τ (wP υ) (T ++ tbL (triB (wn υ) (wP υ) (nbE bk E)) (wn υ) a r b) := by
  have h16 := hv.2.1
  intro r
  induction r with
  | zero =>
    intro b fuel σ T hab hb hfu hctx hT hlen
    obtain ⟨fu, rfl⟩ : ∃ fu, fuel = fu + 1 := ⟨fuel - 1, by omega⟩
    refine ⟨σ, ?_, hctx, by rw [tbL, List.append_nil]; exact hT⟩
    have e : σ.1 1 1 = nI (wn υ) := by rw [(hctx.1.1 1 (by omega)).1]; exact hv.1
    rw [lX6_takeTriangles_19, e, if_pos ((kle (by omega) (by omega)).mpr (by omega)), vI_d, k1]
  | succ r ih =>
    intro b fuel σ T hab hb hfu hctx hT hlen
    obtain ⟨fu, rfl⟩ : ∃ fu, fuel = fu + 1 := ⟨fuel - 1, by omega⟩
    have e : σ.1 1 1 = nI (wn υ) := by rw [(hctx.1.1 1 (by omega)).1]; exact hv.1
    have hj : ∀ a b, a < 16 → b < 16 → σ.2.2.1 16 (a * 16 + b) = oI (jnE bk E a b) := fun a b ha hb => by rw [(hctx.1.1 16 (by omega)).2.2]; exact hctx.2.2.1 a b ha hb
    have j1 := c_join hj (a := a) (b := b) (by omega) (by omega)
    have os : (oI (jnE bk E a b) = (-1)) = (nbE bk E a b = false) := oI_s (fun m hm => by have := jn_lt hm; have := hctx.2.2.2; omega)
    rw [tbL] at hlen ⊢
    rw [List.length_append] at hlen
    rw [lX6_takeTriangles_19, e, if_neg (by rw [kle (by omega) (by omega)]; omega), j1, Option.bind_some]
    simp only [os]
    unfold jX6_takeTriangles_44
    simp only [vI_d, k1]
    cases n1 : nbE bk E a b with
    | false =>
      rw [if_pos rfl]
      have nil : tcL (triB (wn υ) (wP υ) (nbE bk E)) a b (wn υ - (b + 1)) (b + 1) = [] := List.eq_nil_iff_forall_not_mem.mpr (fun t ht => by
        obtain ⟨z1, z2, _, _, z3⟩ := tcL_m ht
        unfold triB at z3
        rw [z1, z2, n1] at z3
        cases z3)
      obtain ⟨τ, t1, t2, t3⟩ := ih (b + 1) fu σ T (by omega) (by omega) (by omega) hctx hT (by omega)
      refine ⟨τ, t1, t2, ?_⟩
      rw [nil]
      exact t3
    | true =>
      rw [if_neg (by simp)]
      obtain ⟨τ, t1, t2, t3⟩ := tri_in hv hab n1 (wn υ - (b + 1)) (b + 1) 1000 σ T (by omega) (by omega) (by omega) hctx hT (by omega)
      obtain ⟨τ2, u1, u2, u3⟩ := ih (b + 1) fu τ _ (by omega) (by omega) (by omega) t2 t3 (by rw [List.length_append]; omega)
      refine ⟨τ2, ?_, u2, by rw [← List.append_assoc]; exact u3⟩
      unfold fX6_takeTrianglesOn
      rw [vI_d, k1, t1, Option.bind_some, u1]
theorem tri_out {υ : rS} (hv : VB υ) {bk : Nat × Nat → Bool} {E : List (Nat × Nat)} : ∀ (r a fuel : Nat) (σ : rS) (T : List (Nat × Nat × Nat)), a + r = wn υ → r < fuel → ctx υ σ bk E → isTr σ (wP υ) T → T.length + (taL (triB (wn υ) (wP υ) (nbE bk E)) (wn υ) r a).length ≤ 27 → ∃ τ, lX6_takeTriangles_7 fuel (nI a) σ = some ((), τ) ∧ ctx υ τ bk E ∧ isTr τ (wP υ) (T ++ taL (triB (wn υ) (wP υ) (nbE bk E)) (wn υ) r a) := by
  have h16 := hv.2.1
  intro r
  induction r with
  | zero =>
    intro a fuel σ T ha hfu hctx hT hlen
    obtain ⟨fu, rfl⟩ : ∃ fu, fuel = fu + 1 := ⟨fuel - 1, by omega⟩
    refine ⟨σ, ?_, hctx, by rw [taL, List.append_nil]; exact hT⟩
    have e : σ.1 1 1 = nI (wn υ) := by rw [(hctx.1.1 1 (by omega)).1]; exact hv.1
    rw [lX6_takeTriangles_7, e, if_pos ((kle (by omega) (by omega)).mpr (by omega))]
  | succ r ih =>
    intro a fuel σ T ha hfu hctx hT hlen
    obtain ⟨fu, rfl⟩ : ∃ fu, fuel = fu + 1 := ⟨fuel - 1, by omega⟩
    have e : σ.1 1 1 = nI (wn υ) := by rw [(hctx.1.1 1 (by omega)).1]; exact hv.1
    rw [taL] at hlen ⊢
    rw [List.length_append] at hlen
    obtain ⟨τ, t1, t2, t3⟩ := tri_mid hv (k7 := lX6_takeTriangles_7 fu) (a := a) (wn υ - (a + 1)) (a + 1) 1000 σ T (by omega) (by omega) (by omega) hctx hT (by omega)
    obtain ⟨τ2, u1, u2, u3⟩ := ih (a + 1) fu τ _ (by omega) (by omega) t2 t3 (by rw [List.length_append]; omega)
    refine ⟨τ2, ?_, u2, by rw [← List.append_assoc]; exact u3⟩
    rw [lX6_takeTriangles_7, e, if_neg (by rw [kle (by omega) (by omega)]; omega), vI_d, k1, t1, u1]
theorem c_tris {υ : rS} (hv : VB υ) {bk : Nat × Nat → Bool} {E : List (Nat × Nat)} (hE : isE υ bk E) (net : netE (wn υ) (wP υ) E) : ∃ τ, fX6_takeTriangles υ = some ((), τ) ∧ Kp oT υ τ ∧ isE τ bk E ∧ isTr τ (wP υ) (TL (wn υ) (wP υ) (nbE bk E)) := by
  have h16 := hv.2.1
  have len := tri_len (bk := bk) hv.sound net
  have len2 := net_len hv.sound.1 hv.sound.2.1 hv.sound.2.2 net
  obtain ⟨τ, t1, t2, t3⟩ := tri_out hv (wn υ) 0 1000 (uI υ 10 6 0) [] (by omega) (by omega) ⟨Kp.uI (by omega), fun j hj => uI_nj hj, hE.2.2.2, len2⟩ ⟨uI_eq _ _ _ _, fun k t h => (by simp at h)⟩ (by show 0 + _ ≤ 27; rw [Nat.zero_add]; exact len)
  refine ⟨τ, ?_, t2.1, ⟨⟨by rw [t2.2.1 4 (by omega)]; exact hE.1.1, fun k e h => by rw [(t2.1.1 11 (by omega)).2.2, (t2.1.1 12 (by omega)).2.2]; exact hE.1.2 k e h⟩, by rw [t2.2.1 5 (by omega)]; exact hE.2.1, fun k e h => by rw [(t2.1.1 13 (by omega)).2.2]; exact hE.2.2.1 k e h, fun a b ha hb => by rw [(t2.1.1 16 (by omega)).2.2]; exact hE.2.2.2 a b ha hb⟩, t3⟩
  unfold fX6_takeTriangles
  rw [vS_d]
  exact t1
/-- the class lays the net -/
theorem c_lay {υ : rS} (hv : VB υ) (hF : VF υ) : ∃ τ f m, fX6_lay υ = some ((), τ) ∧ Kp oN υ τ ∧ m ≤ 120 ∧ incF f m ∧ keyQ (allQ (wn υ)) (wP υ) f m ∧ isE τ (bkW υ) (EL (wn υ) (wP υ) f m) ∧ isTr τ (wP υ) (TL (wn υ) (wP υ) (nbE (bkW υ) (EL (wn υ) (wP υ) f m))) := by
  obtain ⟨τ1, f, m, a1, a2, a3, a4, a5, a6⟩ := c_order hv
  obtain ⟨τ2, b1, b2, b3⟩ := c_edges hv hF a6 a3 a4 (a2.mono (fun n h => by omega)) a5
  have hv2 : VB τ2 := VB.kp (fun n hn => b2.1 n (by omega)) hv
  have en : wn τ2 = wn υ := wn_kp (b2.1 1 (by omega))
  have ep : wP τ2 = wP υ := wP_kp b2 oN_80
  have net := (EL_net hv.2.1 a3 a4 m (Nat.le_refl _)).1
  obtain ⟨τ3, c1, c2, c3, c4⟩ := c_tris hv2 b3 (by rw [en, ep]; exact net)
  rw [en, ep] at c4
  refine ⟨τ3, f, m, ?_, b2.tr (c2.mono (fun n h => by omega)), a6, a3, a4, c3, c4⟩
  unfold fX6_lay
  rw [a1, Option.bind_some, b1, Option.bind_some, c1, Option.bind_some]
