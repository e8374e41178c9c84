/-! volume, the model, and both. -/
section Vol3
variable {σ ρ τ : rS} {bk : Nat × Nat → Bool} {E : List (Nat × Nat)} {T : List (Nat × Nat × Nat)} {f : Nat → Option Nat} {L : List Nat}
theorem lvB_has (c b : Nat) : (lvB τ f c b).isSome = decide (0 < hereN f c b 12) := by
  unfold lvB
  rw [Option.isSome_map]
  unfold fstL
  have := here_pos f c b
  cases hf : ff (fun l => decide (f (12 * b + l) = some c)) 12 0 with
  | none =>
    symm
    apply decide_eq_false
    rw [this]
    rintro ⟨l, h1, h2⟩
    have := ff_none.mp hf l (by omega) (by omega)
    rw [decide_eq_true h2] at this
    cases this
  | some l =>
    obtain ⟨_, h2, h3, _⟩ := ff_some hf
    symm
    apply decide_eq_true
    rw [this]
    exact ⟨l, by omega, of_decide_eq_true h3⟩
theorem m_vol3 (hv : VB τ) (hM : MB σ ρ) (ag : agT σ τ) (q3 : PU τ bk E T f L) (hN : MN ρ τ bk E T f L) (hLv : ∀ c, c < 192 → levM ρ (nI c) (-1) (wn τ) (lvB τ f c)) {q : Nat} (hq : q ≤ 100) (hl12 : ρ.1 43 12 = nI q) (kd x0 y0 x1 y1 : Int32) {k38 : Int32 → Int32 → Int32 → Int32 → Int32 → Int64 → Int32 → rS → Option (Int64 × rS)} {k : Nat} {t : Nat × Nat × Nat} (hm : t.1 < wn τ ∧ t.2.1 < wn τ ∧ t.2.2 < wn τ) (bx : Bool) : ∀ (r c fuel : Nat) (v : Int64), c + r = L.length → r < fuel → lX12_volume_249 k38 fuel kd x0 y0 x1 y1 v (nI k) (bI bx) (nI t.1) (nI t.2.1) (nI t.2.2) (jI (tz (wP τ t.1) (wP τ t.2.1) (wP τ t.2.2)).natAbs) (nI c) ρ = k38 kd x0 y0 x1 y1 (v + if bx = true then smV (trm τ f (kdB τ L kd) q t) r c else 0) (nI (k + 1)) ρ := by
  have h16 := hv.2.1
  have l192 := q3.L192 hv
  obtain ⟨m1, m2, m3⟩ := hm
  have qq : q * q ≤ 100 * q := Nat.mul_le_mul_right q hq
  have jq : (nI q).toInt64 = jI q := j_nI (by omega)
  intro r
  induction r with
  | zero =>
    intro c fuel v hc hfu
    obtain ⟨fu, rfl⟩ : ∃ fu, fuel = fu + 1 := ⟨fuel - 1, by omega⟩
    rw [lX12_volume_249, hN.2.2.2.2.1, if_pos ((kle (by omega) (by omega)).mpr (by omega)), smV, ite_self, Int64.add_zero]
    unfold jX12_volume_452
    rw [vI_d, k1]
  | succ r ih =>
    intro c fuel v hc hfu
    obtain ⟨fu, rfl⟩ : ∃ fu, fuel = fu + 1 := ⟨fuel - 1, by omega⟩
    rw [lX12_volume_249, hN.2.2.2.2.1, if_neg (by rw [kle (by omega) (by omega)]; omega)]
    simp only [bI_0]
    cases bx with
    | false =>
      rw [if_pos rfl, if_neg (by simp), Int64.add_zero]
      unfold jX12_volume_452
      rw [vI_d, k1]
    | true =>
      rw [if_neg (by simp), if_pos rfl]
      obtain ⟨s, hs⟩ : ∃ s, L[c]? = some s := ⟨_, List.getElem?_eq_getElem (by omega)⟩
      have oks := (q3.ok hv s c (q3.2.2.1.2.2.1 c s hs).1).1
      have s192 := okS_lt hv oks
      obtain ⟨b, l, hb, hlb, hsb⟩ := oks
      have l12 := (l_ok hv hb).2
      have e61 : ρ.2.2.1 61 c = nI s := hN.2.2.2.2.2 c s hs
      have e48 : ρ.2.2.1 48 s = wk τ (L.getD c 0 / 12) (L.getD c 0 % 12) := by
        obtain ⟨_, _, _, _, w5⟩ := hM.2 b (by rw [ag.1]; exact hb)
        have e := (w5 l (by rw [(ag.2 b hb).2.2.2.1]; exact hlb)).1
        rw [← hsb] at e
        rw [e, getD_of hs, show s / 12 = b by omega, show s % 12 = l by omega]
        exact ((ag.2 b hb).2.2.2.2 l hlb).1
      have go := fun w => ih (c + 1) fu w (by omega) (by omega)
      simp only [if_true, bI_t] at go
      have ha := (hLv c (by omega) ρ (sL.rf ρ) t.1 m1).1
      have hb' := (hLv c (by omega) ρ (sL.rf ρ) t.2.1 m2).1
      have hc' := (hLv c (by omega) ρ (sL.rf ρ) t.2.2 m3).1
      rw [lvB_has] at ha hb' hc'
      have ta := m_thick1 hv hM ag (q3.ok hv) hN.2.2.2.1 (show c < 192 by omega) m1
      have tb := m_thick1 hv hM ag (q3.ok hv) hN.2.2.2.1 (show c < 192 by omega) m2
      have tc := m_thick1 hv hM ag (q3.ok hv) hN.2.2.2.1 (show c < 192 by omega) m3
      rw [kinB (by omega), decide_eq_true (show c < 192 by omega), if_pos rfl, kc (by omega), e61, kinB (by omega), decide_eq_true s192, if_pos rfl, kc (by omega), e48, smV]
      unfold trm kdB
      unfold trm kdB at go
      simp only [decide_eq_true_eq] at go ⊢
      unfold jX12_volume_446
      simp only [vI_d, k1]
      by_cases z : wk τ (L.getD c 0 / 12) (L.getD c 0 % 12) = kd
      · rw [if_pos z, if_pos z, ha, Option.bind_some]
        unfold jX12_volume_299 jX12_volume_316 jX12_volume_334 jX12_volume_422 jX12_volume_443 jX12_volume_446
        simp only [bI_0, decide_eq_false_iff_not, hb', hc', ta, tb, tc, Option.bind_some, vI_d, vJ_d, k1, hl12, jq, jadd]
        -- the count and the share
        have key : ∀ n : Nat, n = cnT f c t → ∀ w : Int32, w = nI n → (if w = 3 then (if w = 0 then lX12_volume_249 k38 fu kd x0 y0 x1 y1 (v + 0) (nI k) 1 (nI t.1) (nI t.2.1) (nI t.2.2) (jI (tz (wP τ t.1) (wP τ t.2.1) (wP τ t.2.2)).natAbs) (nI (c + 1)) ρ else lX12_volume_249 k38 fu kd x0 y0 x1 y1 (v + jI (tz (wP τ t.1) (wP τ t.2.1) (wP τ t.2.2)).natAbs * jI (thN τ f c t.1 12 + thN τ f c t.2.1 12 + thN τ f c t.2.2 12) * 20000) (nI k) 1 (nI t.1) (nI t.2.1) (nI t.2.2) (jI (tz (wP τ t.1) (wP τ t.2.1) (wP τ t.2.2)).natAbs) (nI (c + 1)) ρ) else if w = 2 then (if w = 0 then lX12_volume_249 k38 fu kd x0 y0 x1 y1 (v + 0) (nI k) 1 (nI t.1) (nI t.2.1) (nI t.2.2) (jI (tz (wP τ t.1) (wP τ t.2.1) (wP τ t.2.2)).natAbs) (nI (c + 1)) ρ else lX12_volume_249 k38 fu kd x0 y0 x1 y1 (v + jI (tz (wP τ t.1) (wP τ t.2.1) (wP τ t.2.2)).natAbs * jI (thN τ f c t.1 12 + thN τ f c t.2.1 12 + thN τ f c t.2.2 12) * (300 * jI q - jI q * jI q)) (nI k) 1 (nI t.1) (nI t.2.1) (nI t.2.2) (jI (tz (wP τ t.1) (wP τ t.2.1) (wP τ t.2.2)).natAbs) (nI (c + 1)) ρ) else (if w = 0 then lX12_volume_249 k38 fu kd x0 y0 x1 y1 (v + 0) (nI k) 1 (nI t.1) (nI t.2.1) (nI t.2.2) (jI (tz (wP τ t.1) (wP τ t.2.1) (wP τ t.2.2)).natAbs) (nI (c + 1)) ρ else lX12_volume_249 k38 fu kd x0 y0 x1 y1 (v + jI (tz (wP τ t.1) (wP τ t.2.1) (wP τ t.2.2)).natAbs * jI (thN τ f c t.1 12 + thN τ f c t.2.1 12 + thN τ f c t.2.2 12) * (2 * jI q * jI q)) (nI k) 1 (nI t.1) (nI t.2.1) (nI t.2.2) (jI (tz (wP τ t.1) (wP τ t.2.1) (wP τ t.2.2)).natAbs) (nI (c + 1)) ρ)) = k38 kd x0 y0 x1 y1 (v + (jI (tz (wP τ t.1) (wP τ t.2.1) (wP τ t.2.2)).natAbs * jI (shN (cnT f c t) q) * jI (thT τ f c t) + smV (fun c => if wk τ (L.getD c 0 / 12) (L.getD c 0 % 12) = kd then jI (tz (wP τ t.1) (wP τ t.2.1) (wP τ t.2.2)).natAbs * jI (shN (cnT f c t) q) * jI (thT τ f c t) else 0) r (c + 1))) (nI (k + 1)) ρ := by
          intro n hn w hw
          have c3 := cnT_le f c t
          have th : thN τ f c t.1 12 + thN τ f c t.2.1 12 + thN τ f c t.2.2 12 = thT τ f c t := rfl
          have mul : ∀ x y z : Int64, x * y * z = x * z * y := fun x y z => by rw [Int64.mul_assoc, Int64.mul_comm y z, ← Int64.mul_assoc]
          have s20 : (20000 : Int64) = jI 20000 := rfl
          have s300 : (300 : Int64) * jI q - jI q * jI q = jI (300 * q - q * q) := by
            show jI 300 * jI q - jI q * jI q = _
            rw [jmul, jmul, jsub (by omega)]
          have s2 : (2 : Int64) * jI q * jI q = jI (2 * q * q) := by
            show jI 2 * jI q * jI q = _
            rw [jmul, jmul]
          subst hw
          rw [th, s20, s300, s2, ← hn]
          rcases (show n = 0 ∨ n = 1 ∨ n = 2 ∨ n = 3 by omega) with e | e | e | e <;> subst e
          · rw [if_neg (show ¬ nI 0 = 3 by decide), if_neg (show ¬ nI 0 = 2 by decide), if_pos (show nI 0 = 0 from rfl), go, Int64.add_zero]
            have : shN 0 q = 0 := rfl
            rw [this, jmul, jmul, Nat.mul_zero, Nat.zero_mul, ← j0, Int64.zero_add]
          · rw [if_neg (show ¬ nI 1 = 3 by decide), if_neg (show ¬ nI 1 = 2 by decide), if_neg (show ¬ nI 1 = 0 by decide), go, mul, Int64.add_assoc]
            rfl
          · rw [if_neg (show ¬ nI 2 = 3 by decide), if_pos (show nI 2 = 2 by decide), if_neg (show ¬ nI 2 = 0 by decide), go, mul, Int64.add_assoc]
            rfl
          · rw [if_pos (show nI 3 = 3 by decide), if_neg (show ¬ nI 3 = 0 by decide), go, mul, Int64.add_assoc]
            rfl
        by_cases za : 0 < hereN f c t.1 12 <;> by_cases zb : 0 < hereN f c t.2.1 12 <;> by_cases zc : 0 < hereN f c t.2.2 12 <;> simp only [za, zb, zc, not_true_eq_false, not_false_eq_true, if_true, if_false] <;> refine key _ rfl _ ?_ <;> unfold cnT hsN <;> simp only [za, zb, zc, if_true, if_false] <;> rfl
      · rw [if_neg z, if_neg z, Int64.zero_add]
        exact go v
end Vol3
