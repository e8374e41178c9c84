/-! later. -/
def nrB (U V : Int64) (lv w : Int32) : Bool := !decide (0 < lg_cmp (if 0 < U - lv.toInt64 * V then U - lv.toInt64 * V else -(U - lv.toInt64 * V)) (w.toInt64 * V))
def hsB (V : Int64) : Bool := !decide (V.toInt = 0)
def lat (kd : Nat → Bool) (uv : Nat → Int64 × Int64) (lv w : Int32) : Nat → Nat → Int32 → Int32
  | 0, _, ans => ans
  | r + 1, k, ans => if kd k = true then (if (hsB (uv k).2 && nrB (uv k).1 (uv k).2 lv w) = true then 0 else lat kd uv lv w r (k + 1) (if hsB (uv k).2 = true then 1 else ans)) else lat kd uv lv w r (k + 1) ans
theorem abs64 (d : Int64) : (if 0 < d then d else -d) = (if 0 ≤ lg_cmp d 0 then d else -d) := by
  have e1 : ((0 : Int64) < d) = (0 < d.toInt) := propext l_lt
  simp only [e1, sg_le]
  by_cases z : 0 < d.toInt
  · rw [if_pos z, if_pos (by omega)]
  · rw [if_neg z]
    by_cases y : 0 ≤ d.toInt
    · rw [if_pos y]
      have : d = 0 := l_eq (by show d.toInt = 0; omega)
      rw [this]
      rfl
    · rw [if_neg y]
theorem q_okBL {σ ω ω2 : rS} {c m : rS → Option (Int32 × rS)} {v : Int32} (h : Inv σ) (kz : Fr isZ σ ω) (hb : ω.2.2.2.2 = σ.2.2.2.2) (hc : c σ = some (0, uO ω 0 v.toInt64)) (hm : m (uO ω 0 v.toInt64) = some (v, ω2)) (s2 : sL (uI (uO ω 0 v.toInt64) 43 0 0) ω2) (k2 : Kp oL (uI (uO ω 0 v.toInt64) 43 0 0) ω2) : stepB c m σ := by
  refine ⟨0, _, v, ω2, hc, hm, by rw [s2.1, uI_eq], fun _ => by rw [s2.2]; rfl, ?_⟩
  refine asmQ (σ1 := uO ω 0 v.toInt64) (O2 := fun n => n = 43) (J := fun j => j = 0) h (kz.tr Fr.uO) hb ((Kp.uI (O := fun n => n = 43) rfl).tr k2).1 (by rw [k2.2]; rfl) (fun j hj => by rw [s2.1, uI_nj hj]) (fun n z => Or.inl z) (fun j z => z)
section Later
variable {σ ρ τ : rS} {bk : Nat × Nat → Bool} {E : List (Nat × Nat)} {T : List (Nat × Nat × Nat)} {f : Nat → Option Nat} {L : List Nat}
def uvB (τ : rS) (T : List (Nat × Nat × Nat)) (f : Nat → Option Nat) (P : zP) (c : Nat) : Int64 × Int64 := (Int64.ofInt (lvP (wn τ) (wP τ) P T (lvB τ f c)).1, Int64.ofInt (lvP (wn τ) (wP τ) P T (lvB τ f c)).2)
theorem ofI {x : Int64} {z : Int} (h : x.toInt = z) : x = Int64.ofInt z := by rw [← h, Int64.ofInt_toInt]
theorem c_near (σ : rS) (lv w : Int32) : fX9_isNear lv w σ = some (bI (hsB (σ.2.1 34 1) && nrB (σ.2.1 34 0) (σ.2.1 34 1) lv w), σ) := by
  unfold fX9_isNear jX9_isNear_37 jX9_isNear_38
  rw [c_hasL, Option.bind_some]
  simp only [bI_0, true_or, or_true, if_true]
  have e : hsB (σ.2.1 34 1) = !decide ((σ.2.1 34 1).toInt = 0) := rfl
  rw [← e]
  unfold nrB
  cases hsB (σ.2.1 34 1)
  · rfl
  · rw [if_neg (by simp)]
    by_cases z : 0 < lg_cmp (if 0 < (σ.2.1 34 0) - lv.toInt64 * (σ.2.1 34 1) then (σ.2.1 34 0) - lv.toInt64 * (σ.2.1 34 1) else -((σ.2.1 34 0) - lv.toInt64 * (σ.2.1 34 1))) (w.toInt64 * (σ.2.1 34 1))
    · rw [if_pos z, decide_eq_true z]; rfl
    · rw [if_neg z, decide_eq_false z]; rfl
def kdB (τ : rS) (L : List Nat) (kd : Int32) (c : Nat) : Bool := decide (wk τ (L.getD c 0 / 12) (L.getD c 0 % 12) = kd)
theorem later_c {ω : rS} (h : Inv σ) (q1 : VB τ) (q2 : agT σ τ) (q3 : PU τ bk E T f L) (q4 : CN σ τ bk E T f L) {x y : Int32} (hp : okP x y = true) {S : List (Nat × (Nat × Nat × Nat))} (kω : Kp oS' σ ω) (hS : isAr ω (wP τ) (zp x y) T S) (hS2 : S.map (·.2) = T.filter (inT (wP τ) (zp x y))) (hO : ω.1 34 3 = oI (own (wn τ) (wP τ) (zp x y))) (kd lv : Int32) : ∀ (r k fuel : Nat) (υ : rS) (ans : Int32), k + r = L.length → r < fuel → sL ω υ → Kp oS' σ υ → ∃ ω2, lX11_later_50 fuel kd lv ans (nI k) υ = some (.ok (lat (kdB τ L kd) (uvB τ T f (zp x y)) lv (σ.1 0 11) r k ans), ω2) ∧ Kp oS' σ ω2 := by
  have l192 := q3.L192 q1
  have l27 := q3.T27 q1
  obtain ⟨hx, hy⟩ := okP_r hp
  have agω : agT ω τ := by
    have : agT ω σ := agT.of (kω.1 1 (by omega)) (fun n z1 z2 => kω.1 n (by omega)) h.1.1.2.1
    exact this.tr q2
  have hTω : isTr ω (wP τ) T := isTr.kp (fun n hn => kω.1 n (by omega)) q4.2.1
  intro r
  induction r with
  | zero =>
    intro k fuel υ ans hk hfu hs kυ
    obtain ⟨fu, rfl⟩ : ∃ fu, fuel = fu + 1 := ⟨fuel - 1, by omega⟩
    have e5 : υ.1 25 5 = nI L.length := by rw [(kυ.1 25 (by omega)).1]; exact q4.2.2.2.2.2.1
    refine ⟨υ, ?_, kυ⟩
    rw [lX11_later_50, e5, if_pos ((kle (by omega) (by omega)).mpr (by omega))]
    rfl
  | succ r ih =>
    intro k fuel υ ans hk hfu hs kυ
    obtain ⟨fu, rfl⟩ : ∃ fu, fuel = fu + 1 := ⟨fuel - 1, by omega⟩
    have e5 : υ.1 25 5 = nI L.length := by rw [(kυ.1 25 (by omega)).1]; exact q4.2.2.2.2.2.1
    obtain ⟨s, hsL⟩ : ∃ s, L[k]? = some s := ⟨_, List.getElem?_eq_getElem (by omega)⟩
    have e27 : υ.2.2.1 27 k = wk τ (L.getD k 0 / 12) (L.getD k 0 % 12) := by
      rw [(kυ.1 27 (by omega)).2.2, (q4.2.2.2.2.2.2 k s hsL).1, getD_of hsL]
    rw [lX11_later_50, e5, if_neg (by rw [kle (by omega) (by omega)]; omega), kinB (by omega), decide_eq_true (show k < 192 by omega), if_pos rfl, kc (by omega), e27, lat]
    unfold kdB
    unfold jX11_later_127
    simp only [vI_d, k1, decide_eq_true_eq]
    by_cases c : wk τ (L.getD k 0 / 12) (L.getD k 0 % 12) = kd
    · rw [if_pos c, if_pos c]
      obtain ⟨l1, l2, l3⟩ := lev_b h q1 q2 q3 q4 kω (show k < 192 by omega)
      obtain ⟨ω2, u1, u2, u3, u4, u5⟩ := c_findL q1 agω hTω l27 q3.tri (zp_ok hx hy) l1 l2 hS hS2 hO hs
      have kω2 : Kp oS' σ ω2 := kυ.tr u3
      have U : ω2.2.1 34 0 = (uvB τ T f (zp x y) k).1 := ofI u4
      have V : ω2.2.1 34 1 = (uvB τ T f (zp x y) k).2 := ofI u5
      have e11 : ω2.1 0 11 = σ.1 0 11 := (kω2.1 0 (by omega)).1 11
      rw [u1, Option.bind_some]
      dsimp only
      rw [e11, c_near, U, V, Option.bind_some]
      simp only [bI_0]
      cases hn : (hsB (uvB τ T f (zp x y) k).2 && nrB (uvB τ T f (zp x y) k).1 (uvB τ T f (zp x y) k).2 lv (σ.1 0 11)) with
      | true =>
        rw [if_neg (by simp), if_pos rfl]
        exact ⟨ω2, rfl, kω2⟩
      | false =>
        rw [if_pos rfl, if_neg (by simp), c_hasL, Option.bind_some, V]
        have e : (!decide ((uvB τ T f (zp x y) k).2.toInt = 0)) = hsB (uvB τ T f (zp x y) k).2 := rfl
        rw [e]
        simp only [bI_0]
        cases hh : hsB (uvB τ T f (zp x y) k).2 with
        | true =>
          rw [if_neg (by simp), if_pos rfl]
          exact ih (k + 1) fu ω2 1 (by omega) (by omega) u2 kω2
        | false =>
          rw [if_pos rfl, if_neg (by simp)]
          exact ih (k + 1) fu ω2 ans (by omega) (by omega) u2 kω2
    · rw [if_neg c, if_neg c]
      exact ih (k + 1) fu υ ans (by omega) (by omega) hs kυ
theorem later_m (h : Inv σ) (q1 : VB τ) (q2 : agT σ τ) (q3 : PU τ bk E T f L) (q4 : CN σ τ bk E T f L) (hN : MN ρ τ bk E T f L) (hB : MB σ ρ) (hW : MW σ ρ) (hG : ρ.1 43 13 = σ.1 0 11) {x y : Int32} (hp : okP x y = true) (kd lv : Int32) : ∀ (r k fuel : Nat) (ν : rS) (best : Int32), k + r = L.length → r < fuel → sL ρ ν → ∃ ν2, lX12_later_58 fuel x y kd lv best (nI k) ν = some (if best = 0 then 0 else lat (kdB τ L kd) (uvB τ T f (zp x y)) lv (σ.1 0 11) r k best, ν2) ∧ sL ρ ν2 ∧ Kp oL ν ν2 := by
  have l192 := q3.L192 q1
  have l27 := q3.T27 q1
  obtain ⟨hx, hy⟩ := okP_r hp
  intro r
  induction r with
  | zero =>
    intro k fuel ν best hk hfu hs
    obtain ⟨fu, rfl⟩ : ∃ fu, fuel = fu + 1 := ⟨fuel - 1, by omega⟩
    have e5 : ν.1 43 25 = nI L.length := by rw [hs.1]; exact hN.2.2.2.2.1
    refine ⟨ν, ?_, hs, Kp.rf _ _⟩
    rw [lX12_later_58, e5, if_pos ((kle (by omega) (by omega)).mpr (by omega)), lat]
    by_cases z : best = 0
    · rw [if_pos z, z]
    · rw [if_neg z]
  | succ r ih =>
    intro k fuel ν best hk hfu hs
    obtain ⟨fu, rfl⟩ : ∃ fu, fuel = fu + 1 := ⟨fuel - 1, by omega⟩
    have e5 : ν.1 43 25 = nI L.length := by rw [hs.1]; exact hN.2.2.2.2.1
    obtain ⟨s, hsL⟩ : ∃ s, L[k]? = some s := ⟨_, List.getElem?_eq_getElem (by omega)⟩
    have oks := (q3.ok q1 s k (q3.2.2.1.2.2.1 k s hsL).1).1
    have s192 := okS_lt q1 oks
    obtain ⟨b, l, hb, hlb, hsb⟩ := oks
    have l12 := (l_ok q1 hb).2
    have e61 : ν.2.2.1 61 k = nI s := by rw [hs.2]; exact hN.2.2.2.2.2 k s hsL
    have e48 : ν.2.2.1 48 s = wk τ (L.getD k 0 / 12) (L.getD k 0 % 12) := by
      obtain ⟨_, _, _, _, w5⟩ := hB.2 b (by rw [q2.1]; exact hb)
      have e := (w5 l (by rw [(q2.2 b hb).2.2.2.1]; exact hlb)).1
      rw [← hsb] at e
      rw [hs.2, e, getD_of hsL, show s / 12 = b by omega, show s % 12 = l by omega]
      exact ((q2.2 b hb).2.2.2.2 l hlb).1
    rw [lX12_later_58, e5, if_neg (by rw [kle (by omega) (by omega)]; omega), kinB (by omega), decide_eq_true (show k < 192 by omega), if_pos rfl, kc (by omega), e61, kinB (by omega), decide_eq_true s192, if_pos rfl, kc (by omega), e48, lat]
    unfold kdB
    unfold jX12_later_178
    simp only [vI_d, k1, decide_eq_true_eq]
    by_cases c : wk τ (L.getD k 0 / 12) (L.getD k 0 % 12) = kd
    · rw [if_pos c, if_pos c]
      obtain ⟨l1, l2, l3⟩ := lev_b h q1 q2 q3 q4 (Kp.rf oS' σ) (show k < 192 by omega)
      obtain ⟨ν2, v1, v2, v3, v4, v5⟩ := m_findL q1 hB q2 hN.2.1 l27 q3.tri (l3 ρ hN hB hW) l2 (zp_ok hx hy) hs
      have U : ν2.2.1 43 29 = (uvB τ T f (zp x y) k).1 := ofI v4
      have V : ν2.2.1 43 30 = (uvB τ T f (zp x y) k).2 := ofI v5
      have e13 : ν2.1 43 13 = σ.1 0 11 := by rw [v2.1]; exact hG
      rw [v1, Option.bind_some]
      dsimp only
      rw [U, V, vJ_d]
      unfold jX12_later_122 jX12_later_141 jX12_later_176 jX12_later_178
      simp only [e13, V, vI_d, k1, l_cmp (uvB τ T f (zp x y) k).2, sgI_0]
      have ab := abs64 ((uvB τ T f (zp x y) k).1 - lv.toInt64 * (uvB τ T f (zp x y) k).2)
      have mg : ∀ (F : Int64 → Option (Int32 × rS)), (if 0 ≤ lg_cmp ((uvB τ T f (zp x y) k).1 - lv.toInt64 * (uvB τ T f (zp x y) k).2) 0 then F ((uvB τ T f (zp x y) k).1 - lv.toInt64 * (uvB τ T f (zp x y) k).2) else F (-((uvB τ T f (zp x y) k).1 - lv.toInt64 * (uvB τ T f (zp x y) k).2))) = F (if 0 < (uvB τ T f (zp x y) k).1 - lv.toInt64 * (uvB τ T f (zp x y) k).2 then (uvB τ T f (zp x y) k).1 - lv.toInt64 * (uvB τ T f (zp x y) k).2 else -((uvB τ T f (zp x y) k).1 - lv.toInt64 * (uvB τ T f (zp x y) k).2)) := fun F => by
        rw [ab]
        split <;> rfl
      have mg2 := mg (fun s0 => if 0 < lg_cmp s0 ((σ.1 0 11).toInt64 * (uvB τ T f (zp x y) k).2) then (if (uvB τ T f (zp x y) k).2.toInt = 0 then lX12_later_58 fu x y kd lv best (nI (k + 1)) ν2 else if (0 : Int32) = 0 then if best = 0 then lX12_later_58 fu x y kd lv 0 (nI (k + 1)) ν2 else lX12_later_58 fu x y kd lv 1 (nI (k + 1)) ν2 else lX12_later_58 fu x y kd lv 0 (nI (k + 1)) ν2) else (if (uvB τ T f (zp x y) k).2.toInt = 0 then lX12_later_58 fu x y kd lv best (nI (k + 1)) ν2 else if (1 : Int32) = 0 then if best = 0 then lX12_later_58 fu x y kd lv 0 (nI (k + 1)) ν2 else lX12_later_58 fu x y kd lv 1 (nI (k + 1)) ν2 else lX12_later_58 fu x y kd lv 0 (nI (k + 1)) ν2))
      try dsimp only at mg2
      simp only [if_true, (show ¬ (1 : Int32) = 0 by decide), if_false] at mg2 ⊢
      rw [mg2]
      have ne : nrB (uvB τ T f (zp x y) k).1 (uvB τ T f (zp x y) k).2 lv (σ.1 0 11) = !decide (0 < lg_cmp (if 0 < (uvB τ T f (zp x y) k).1 - lv.toInt64 * (uvB τ T f (zp x y) k).2 then (uvB τ T f (zp x y) k).1 - lv.toInt64 * (uvB τ T f (zp x y) k).2 else -((uvB τ T f (zp x y) k).1 - lv.toInt64 * (uvB τ T f (zp x y) k).2)) ((σ.1 0 11).toInt64 * (uvB τ T f (zp x y) k).2)) := rfl
      have he : hsB (uvB τ T f (zp x y) k).2 = !decide ((uvB τ T f (zp x y) k).2.toInt = 0) := rfl
      have go : ∀ b2 : Int32, ∃ ν3, lX12_later_58 fu x y kd lv b2 (nI (k + 1)) ν2 = some (if b2 = 0 then 0 else lat (kdB τ L kd) (uvB τ T f (zp x y)) lv (σ.1 0 11) r (k + 1) b2, ν3) ∧ sL ρ ν3 ∧ Kp oL ν ν3 := fun b2 => by
        obtain ⟨ν3, w1, w2, w3⟩ := ih (k + 1) fu ν2 b2 (by omega) (by omega) v2
        exact ⟨ν3, w1, w2, v3.tr w3⟩
      unfold kdB at go
      by_cases zV : (uvB τ T f (zp x y) k).2.toInt = 0
      · rw [decide_eq_true zV] at he
        have h0 : hsB (uvB τ T f (zp x y) k).2 = false := he
        rw [if_pos zV, if_pos zV, h0, ite_self]
        simp only [Bool.false_and, Bool.false_eq_true, if_false]
        exact go best
      · rw [decide_eq_false zV] at he
        have h0 : hsB (uvB τ T f (zp x y) k).2 = true := he
        rw [if_neg zV, if_neg zV, h0, Bool.true_and, ne]
        by_cases zN : 0 < lg_cmp (if 0 < (uvB τ T f (zp x y) k).1 - lv.toInt64 * (uvB τ T f (zp x y) k).2 then (uvB τ T f (zp x y) k).1 - lv.toInt64 * (uvB τ T f (zp x y) k).2 else -((uvB τ T f (zp x y) k).1 - lv.toInt64 * (uvB τ T f (zp x y) k).2)) ((σ.1 0 11).toInt64 * (uvB τ T f (zp x y) k).2)
        · rw [if_pos zN, decide_eq_true zN]
          have g1 := go 1
          have g0 := go 0
          rw [if_pos rfl] at g0
          rw [if_neg (by decide)] at g1
          by_cases zb : best = 0
          · rw [if_pos zb, if_pos zb]
            exact g0
          · rw [if_neg zb, if_neg zb]
            simp only [Bool.not_true, Bool.false_eq_true, if_false, if_true]
            exact g1
        · rw [if_neg zN, decide_eq_false zN]
          have g0 := go 0
          rw [if_pos rfl] at g0
          by_cases zb : best = 0
          · rw [if_pos zb]
            exact g0
          · rw [if_neg zb]
            simp only [Bool.not_false, if_true]
            exact g0
    · rw [if_neg c, if_neg c]
      have := ih (k + 1) fu ν best (by omega) (by omega) hs
      exact this
theorem s_later (h : Inv σ) (x y kd lv : Int32) : stepB (fL_later x y kd lv) (fX12_later x y kd lv) σ := by
  rcases fresh01 h with ⟨f0, m0⟩ | ⟨f1, m1⟩
  · refine q_no (k := 1) h (by decide) ?_ ?_
    · unfold fL_later fX11_later
      rw [c_run0 f0]; rfl
    · unfold fX12_later jX12_later_50
      rw [m_old0 m0, Option.bind_some]
      dsimp only
      rw [if_neg (by decide)]
  · obtain ⟨τ, bk, E, T, f, L, q1, q2, q3, q4, q5⟩ := h.2.2 f1
    have l192 := q3.L192 q1
    have r := c_run1 f1
    have ok7 : okB (0 : Int32).toInt (7 : Int32).toInt kd = okB 0 7 kd := rfl
    have okh : okB (-100000 : Int32).toInt (100000 : Int32).toInt lv = okB (-100000) 100000 lv := rfl
    have mdl : ∀ ρ : rS, ρ.1 43 1 = 1 → fX12_later x y kd lv ρ = (if okP x y = true ∧ okB 0 7 kd = true ∧ okB (-100000) 100000 lv = true then lX12_later_58 1000 x y kd lv 2 0 (uI ρ 43 0 0) else some (0, uI (uI ρ 43 0 0) 43 0 2)) := fun ρ hρ => by
      unfold fX12_later jX12_later_38 jX12_later_43 jX12_later_50
      rw [m_old1 hρ, Option.bind_some]
      dsimp only
      rw [if_pos rfl, m_place, Option.bind_some]
      simp only [bI_0, m_from, ok7, okh, Option.bind_some, m_fails1 (uI_eq ρ 43 0 0) (show ¬ (2 : Int32) ≤ 0 by decide), m_fails0 (uI_eq ρ 43 0 0), (show ¬ (1 : Int32) = 0 by decide), if_false, if_true]
      cases okP x y <;> cases okB 0 7 kd <;> cases okB (-100000) 100000 lv <;> simp
    by_cases c2 : okP x y = true ∧ okB 0 7 kd = true ∧ okB (-100000) 100000 lv = true
    · obtain ⟨hx, hy⟩ := okP_r c2.1
      obtain ⟨ω, S, g1, g2, g3, g4, g5⟩ := c_goTo q1 q2 h.1.1 q4.2.1 (q3.T27 q1) (fun t ht => ⟨(q3.tri t ht).1, (q3.tri t ht).2.1, (q3.tri t ht).2.2.1⟩) hx hy
      obtain ⟨ω2, u1, u2⟩ := later_c h q1 q2 q3 q4 c2.1 g2 g3 g4 g5 kd lv L.length 0 1000 ω 2 (by omega) (by omega) (sL.rf ω) g2
      obtain ⟨n1, n2, n3⟩ := aft h q5 u2 (lat (kdB τ L kd) (uvB τ T f (zp x y)) lv (σ.1 0 11) L.length 0 2).toInt64
      have hG : (uI (uO ω2 0 (lat (kdB τ L kd) (uvB τ T f (zp x y)) lv (σ.1 0 11) L.length 0 2).toInt64) 43 0 0).1 43 13 = σ.1 0 11 := by
        rw [uI_nj (by omega)]
        show ω2.1 43 13 = _
        rw [(u2.1 43 (by omega)).1]
        exact h.2.1.2.2.2.1.2.1
      obtain ⟨ν2, w1, w2, w3⟩ := later_m h q1 q2 q3 q4 n1 n2 n3 hG c2.1 kd lv L.length 0 1000 _ 2 (by omega) (by omega) (sL.rf _)
      rw [if_neg (by decide)] at w1
      refine q_okBL (ω := ω2) (ω2 := ν2) (v := lat (kdB τ L kd) (uvB τ T f (zp x y)) lv (σ.1 0 11) L.length 0 2) h (oS_Z u2) (by rw [u2.2]) ?_ ?_ w2 w3
      · unfold fL_later fX11_later
        rw [r, Option.bind_some]
        dsimp only
        rw [c_plc σ c2.1, Option.bind_some]
        dsimp only
        rw [c_frm σ (ok7.trans c2.2.1), Option.bind_some]
        dsimp only
        rw [c_frm σ (okh.trans c2.2.2), Option.bind_some]
        dsimp only
        rw [g1, Option.bind_some]
        dsimp only
        rw [show nI 0 = 0 from rfl] at u1
        rw [u1, Option.bind_some]
        dsimp only
        rw [in01, if_pos rfl, vS_d, cl0]
      · have m1ω : (uO ω2 0 (lat (kdB τ L kd) (uvB τ T f (zp x y)) lv (σ.1 0 11) L.length 0 2).toInt64).1 43 1 = 1 := by
          show ω2.1 43 1 = 1
          rw [(u2.1 43 (by omega)).1]
          exact m1
        rw [mdl _ m1ω, if_pos c2]
        exact w1
    · refine q_no (k := 2) h (by decide) ?_ ?_
      · unfold fL_later fX11_later
        rw [r, Option.bind_some]
        dsimp only
        cases p0 : okP x y with
        | false => rw [c_plc0 σ p0]; rfl
        | true =>
          rw [c_plc σ p0, Option.bind_some]
          dsimp only
          cases p1 : okB 0 7 kd with
          | false => rw [c_frm0 σ (ok7.trans p1)]; rfl
          | true =>
            rw [c_frm σ (ok7.trans p1), Option.bind_some]
            dsimp only
            rw [c_frm0 σ (okh.trans (by cases p2 : okB (-100000) 100000 lv with
              | false => rfl
              | true => exact absurd ⟨p0, p1, p2⟩ c2))]
            rfl
      · rw [mdl σ m1, if_neg c2]
end Later
