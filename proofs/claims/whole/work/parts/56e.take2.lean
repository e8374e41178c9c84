/-! THE CLASS LAYS ALL EDGES. -/
theorem k1 (m : Nat) : nI m + 1 = nI (m + 1) := by show nI m + nI 1 = _; rw [kadd]
theorem c_fill16 (v : Int32) (σ : rS) : ∃ τ, fJ7_fill_53178_a16 v σ = some ((), τ) ∧ (∀ k, k < 256 → τ.2.2.1 16 k = v) ∧ Kp (fun n => n = 16) σ τ := by
  have loop : ∀ (r k fuel : Nat) (σ : rS), k + r = 256 → r < fuel → (∀ j, j < k → σ.2.2.1 16 j = v) → ∃ τ, lJ7_fill_53178_a16_5 fuel v (nI k) (nI 256) σ = some ((), τ) ∧ (∀ k, k < 256 → τ.2.2.1 16 k = v) ∧ Kp (fun n => n = 16) σ τ := by
    intro r
    induction r with
    | zero =>
      intro k fuel σ hk hfu h
      obtain ⟨fu, rfl⟩ : ∃ fu, fuel = fu + 1 := ⟨fuel - 1, by omega⟩
      refine ⟨σ, ?_, fun j hj => h j (by omega), Kp.rf _ _⟩
      rw [lJ7_fill_53178_a16_5, if_pos ((kle (by omega) (by omega)).mpr (by omega))]
    | succ r ih =>
      intro k fuel σ hk hfu h
      obtain ⟨fu, rfl⟩ : ∃ fu, fuel = fu + 1 := ⟨fuel - 1, by omega⟩
      obtain ⟨τ, t1, t2, t3⟩ := ih (k + 1) fu (uA σ 16 k v) (by omega) (by omega) (fun j hj => by
        by_cases c : j = k
        · subst c; exact uA_eq _ _ _ _
        · rw [uA_nj c]; exact h j (by omega))
      refine ⟨τ, ?_, t2, (Kp.uA (O := fun n => n = 16) rfl).tr t3⟩
      rw [← t1, lJ7_fill_53178_a16_5, if_neg (by rw [kle (by omega) (by omega)]; omega), kinB (by omega), decide_eq_true (show k < 256 by omega)]
      simp only [if_true, vS_d, vI_d, k1, kc (show k < 2147483648 by omega)]
  have := loop 256 0 1000 σ rfl (by omega) (fun j hj => by omega)
  unfold fJ7_fill_53178_a16
  rw [vI_d]
  exact this
theorem kmod {x : Nat} (hx : x < 2147483648) : nI x - nI x / 16 * 16 = nI (x % 16) := by
  show nI x - nI x / nI 16 * nI 16 = _
  rw [kdiv hx (by omega), kmul, ksub (by omega)]
  congr 1
  omega
theorem kdm {x : Nat} (hx : x < 2147483648) : nI x / 16 - nI x / 16 / 16 * 16 = nI (x / 16 % 16) := by
  have e : nI x / 16 = nI (x / 16) := kdiv (b := 16) hx (by omega)
  rw [e, kmod (by omega)]
theorem mt_new {n : Nat} {p : Nat → zP} {f : Nat → Nat} {m i : Nat} (hn : n ≤ 16) (hf : incF f m) (hq : keyQ (allQ n) p f m) (hi : i < m) {a b : Nat} (hab : a < b) (hk : f i = keyN p a b) : ∀ e ∈ EL n p f i, mtB a b e = false := fun e he => by
  obtain ⟨⟨_, h2, _⟩, h4⟩ := EL_net hn hf hq i (by omega)
  obtain ⟨j, hj, hj2⟩ := h4 e he
  obtain ⟨g1, g2, _⟩ := h2 e he
  apply decide_eq_false
  rintro (z | z)
  · have := hf j i hj hi
    rw [hj2, hk, z.1, z.2] at this
    exact Nat.lt_irrefl _ this
  · omega
def sound (n : Nat) (p : Nat → zP) : Prop := n ≤ 16 ∧ (∀ k, k < n → okZ (p k)) ∧ ∀ j k, j < n → k < n → p j = p k → j = k
theorem VB.sound {σ : rS} (hv : VB σ) : sound (wn σ) (wP σ) := by
  refine ⟨hv.2.1, fun k hk => (wP_ok hv hk).2, fun j k hj hk h => ?_⟩
  have h5 := hv.2.2.2.2
  have e : ∀ j k, wP σ j = wP σ k → wx σ j = wx σ k ∧ wy σ j = wy σ k := fun j k h => by
    have := Prod.mk.inj h
    exact ⟨i_eq this.1, i_eq this.2⟩
  rcases Nat.lt_trichotomy j k with c | c | c
  · exact absurd (e j k h) (h5 j k c hk)
  · exact c
  · exact absurd (e k j h.symm) (h5 k j c hj)
theorem EL_len {n : Nat} {p : Nat → zP} {f : Nat → Nat} {m : Nat} (hs : sound n p) (hf : incF f m) (hq : keyQ (allQ n) p f m) {i : Nat} (hi : i ≤ m) : (EL n p f i).length ≤ 42 := net_len hs.1 hs.2.1 hs.2.2 (EL_net hs.1 hf hq i hi).1
theorem take_loop {υ : rS} (hv : VB υ) (hF : VF υ) {f : Nat → Nat} {m : Nat} (hm : m ≤ 120) (hf : incF f m) (hq : keyQ (allQ (wn υ)) (wP υ) f m) : ∀ (r i fuel : Nat) (σ : rS), i + r = m → r < fuel → Kp oN υ σ → hasK σ f m → isE σ (bkW υ) (EL (wn υ) (wP υ) f i) → ∃ τ, lX6_takeEdges_20 fuel (nI i) σ = some ((), τ) ∧ Kp oN υ τ ∧ isE τ (bkW υ) (EL (wn υ) (wP υ) f m) := by
  intro r
  have hs := hv.sound
  have h16 := hv.2.1
  induction r with
  | zero =>
    intro i fuel σ hi hfu hkp hk hE
    obtain ⟨fu, rfl⟩ : ∃ fu, fuel = fu + 1 := ⟨fuel - 1, by omega⟩
    obtain rfl : i = m := by omega
    refine ⟨σ, ?_, hkp, hE⟩
    rw [lX6_takeEdges_20, hk.1, if_pos ((kle (by omega) (by omega)).mpr (Nat.le_refl _))]
  | succ r ih =>
    intro i fuel σ hi hfu hkp hk hE
    obtain ⟨fu, rfl⟩ : ∃ fu, fuel = fu + 1 := ⟨fuel - 1, by omega⟩
    obtain ⟨a, b, ⟨hab, hbn⟩, hkey⟩ := hq.1 i (by omega)
    have en : wn σ = wn υ := wn_kp (hkp.1 1 (by omega))
    have ep : wP σ = wP υ := wP_kp hkp oN_80
    have eb : bkW σ = bkW υ := bkW_kp hkp oN_80 (by omega)
    have hvσ : VB σ := VB.kp (fun n hn => hkp.1 n (by omega)) hv
    have hFσ : VF σ := VF.kp (fun n hn => hkp.1 n (by omega)) hF
    have hsq := sqN_le (p := wP υ) (wP_ok hv (show a < wn υ by omega)).2 (wP_ok hv hbn).2
    have hkb : f i < 2147483648 := by rw [hkey]; unfold keyN; omega
    have ek : eK (f i) = (a, b) := by
      have := keyN_d (p := wP υ) (a := a) (b := b) (by omega) (by omega)
      unfold eK
      rw [hkey, this.1, this.2]
    have ea : f i / 16 % 16 = a := (Prod.mk.inj ek).1
    have eb2 : f i % 16 = b := (Prod.mk.inj ek).2
    have net := (EL_net h16 hf hq i (by omega)).1
    have len := EL_len hs hf hq (show i ≤ m by omega)
    have mem : ∀ e ∈ EL (wn υ) (wP υ) f i, e.1 < wn σ ∧ e.2 < wn σ := fun e he => by
      obtain ⟨g1, g2, _⟩ := net.2.1 e he
      rw [en]
      omega
    have st : ∀ τ, Kp oN υ τ → hasK τ f m → isE τ (bkW υ) (EL (wn υ) (wP υ) f (i + 1)) → ∃ τ', lX6_takeEdges_20 fu (nI (i + 1)) τ = some ((), τ') ∧ Kp oN υ τ' ∧ isE τ' (bkW υ) (EL (wn υ) (wP υ) f m) := fun τ h1 h2 h3 => ih (i + 1) fu τ (by omega) (by omega) h1 h2 h3
    have cb := c_bare hvσ (a := a) (b := b) (by omega) (by omega)
    have cn := c_nomeet hvσ hE.1 len mem (a := a) (b := b) (by omega) (by omega)
    have ck := c_break hvσ hFσ (a := a) (b := b) (by omega) (by omega)
    rw [en, ep] at cb
    rw [ep] at cn
    rw [eb] at ck
    have EL1 : EL (wn υ) (wP υ) f (i + 1) = nxE (wn υ) (wP υ) (a, b) (EL (wn υ) (wP υ) f i) := by rw [EL, ek]
    rw [EL1] at st
    unfold nxE at st
    rw [lX6_takeEdges_20, hk.1, if_neg (by rw [kle (by omega) (by omega)]; omega), kinB (by omega), decide_eq_true (show i < 120 by omega)]
    simp only [if_true, vI_d, kc (show i < 2147483648 by omega), hk.2 i (by omega), kmod hkb, kdm hkb, ea, eb2, cb, Option.bind_some, bI_0, cn]
    unfold jX6_takeEdges_108
    simp only [vI_d, k1]
    cases hb1 : bareB (wn υ) (wP υ) a b with
    | false =>
      rw [if_pos rfl]
      dsimp only at st
      rw [hb1] at st
      exact st σ hkp hk (by rw [if_neg (by simp)]; exact hE)
    | true =>
      rw [if_neg (by simp)]
      cases hb2 : freeE (wP υ) a b (EL (wn υ) (wP υ) f i) with
      | false =>
        rw [if_pos rfl]
        dsimp only at st
        rw [hb1, hb2] at st
        exact st σ hkp hk (by rw [if_neg (by simp)]; exact hE)
      | true =>
        dsimp only at st
        rw [hb1, hb2] at st
        have len2 := EL_len hs hf hq (show i + 1 ≤ m by omega)
        rw [EL1] at len2
        unfold nxE at len2
        rw [hb1, hb2, if_pos (show (true && true) = true from rfl), List.length_append] at len2
        have len3 : (EL (wn υ) (wP υ) f i).length < 42 := by
          have : [(a, b)].length = 1 := rfl
          omega
        obtain ⟨τ, t1, t2, t3, t4, t5⟩ := c_takeEdge hE len3 (show a < 16 by omega) (show b < 16 by omega) (mt_new h16 hf hq (by omega) hab hkey)
        rw [if_neg (by simp)]
        simp only [kinB (show a < 2147483648 by omega), kinB (show b < 2147483648 by omega), decide_eq_true (show a < 16 by omega), decide_eq_true (show b < 16 by omega), if_true, kc (show a < 2147483648 by omega), kc (show b < 2147483648 by omega), if_pos (bo_ok (show a < 16 by omega)), if_pos (bo_ok (show b < 16 by omega)), ck, Option.bind_some, t1]
        exact st τ (hkp.tr t3) ⟨by rw [t4]; exact hk.1, fun j hj => by rw [t5]; exact hk.2 j hj⟩ (by rw [if_pos (show (true && true) = true from rfl)]; exact t2)
theorem c_edges {υ σ : rS} (hv : VB υ) (hF : VF υ) {f : Nat → Nat} {m : Nat} (hm : m ≤ 120) (hf : incF f m) (hq : keyQ (allQ (wn υ)) (wP υ) f m) (hkp : Kp oN υ σ) (hk : hasK σ f m) : ∃ τ, fX6_takeEdges σ = some ((), τ) ∧ Kp oN υ τ ∧ isE τ (bkW υ) (EL (wn υ) (wP υ) f m) := by
  obtain ⟨τ, t1, t2, t3⟩ := c_fill16 (-1) (uI (uI σ 10 4 0) 10 5 0)
  have kk : Kp oN υ τ := (hkp.tr ((Kp.uI (by omega)).tr (Kp.uI (by omega)))).tr (t3.mono (fun n h => by omega))
  have h10 := t3.1 10 (by omega)
  have h15 := t3.1 15 (by omega)
  obtain ⟨τ2, s1, s2, s3⟩ := take_loop hv hF hm hf hq m 0 1000 τ (by omega) (by omega) kk ⟨by rw [h10.1, uI_nj (by omega), uI_nj (by omega)]; exact hk.1, fun j hj => by rw [h15.2.2]; exact hk.2 j hj⟩ ⟨⟨by rw [h10.1, uI_nj (by omega), uI_eq]; rfl, fun k e h => (by simp [EL] at h)⟩, by rw [h10.1, uI_eq]; rfl, fun k e h => (by simp [EL] at h), fun a b ha hb => by rw [t2 _ (by omega)]; rfl⟩
  refine ⟨τ2, ?_, s2, s3⟩
  unfold fX6_takeEdges
  simp only [vS_d]
  rw [t1, Option.bind_some]
  exact s1
