/-! write AND letter, BOTH HALVES. -/
theorem Tx.VP {σ : rS} {s : List Int32} (h : Tx σ s) : VP σ ∧ wp σ = s.length := by
  obtain ⟨⟨h1, h2, h3⟩, h4, h5, h6⟩ := h
  have := h2.le
  have e : wp σ = s.length := by unfold wp; rw [h4, kc (by omega)]
  exact ⟨⟨h1, by rw [h4, e], by rw [e]; exact h5, h2, h3⟩, e⟩
theorem Tm.MP {τ σ : rS} {s : List Int32} (h : Tm σ s) (ht : Tx τ s) : MP τ σ := by
  have e := ht.VP.2
  refine ⟨by rw [e]; exact h.1, fun k hk => ?_⟩
  rw [e] at hk
  have a := h.2 k hk
  rw [ht.2.2.2 k hk] at a
  exact (Option.some.inj a).symm
theorem s_write {σ : rS} (h : Inv σ) (a : Int32) : stepB (fL_write a) (fX12_write a) σ := by
  have hB := h.1.1
  have mB := h.2.1.1
  have h16 := hB.2.1
  unfold stepB fL_write fX11_write
  cases ha : okN (wn σ) a with
  | false =>
    rw [c_bor0 hB ha, Option.bind_some]
    refine ⟨1, σ, 0, uI σ 43 0 1, rfl, ?_, uI_eq _ _ _ _, fun z => absurd z (by decide), inv_no h 1⟩
    unfold fX12_write
    rw [m_isB (τ := σ) mB.1 h16, ha, Option.bind_some]
    dsimp only
    rw [if_pos (show bI false = 0 from rfl)]
    unfold jX12_write_14
    rw [vS_d, if_neg (by rw [uI_eq]; decide)]
  | true =>
    obtain ⟨ea, hk⟩ := okN_i ha
    generalize a.toNatClampNeg = k at ea hk
    rw [c_bor hB ha, Option.bind_some]
    dsimp only
    subst ea
    obtain ⟨σ1, e1, t1, s1⟩ := c_setl h.1.2.2.2.2.2.2
    obtain ⟨σ2, e2, t2, s2⟩ := c_write hB hk s1 t1
    have l2 := t2.2.1
    rw [e1, Option.bind_some]
    dsimp only
    rw [kinB (by omega), decide_eq_true (by omega), if_pos rfl, if_pos (bo_ok (by omega)), e2, Option.bind_some]
    unfold fJ4_length_8abf5 fJ5_length_8abf5
    rw [Option.bind_some, Option.bind_some]
    dsimp only
    rw [Option.bind_some]
    dsimp only
    rw [in01, if_pos rfl, vS_d, cl0, l2]
    have TX : Tx (uO σ2 0 (nI (wtx σ k).length).toInt64) (wtx σ k) := t2
    have SX : ∀ n, n ≠ 40 → Eqo (uO σ2 0 (nI (wtx σ k).length).toInt64) σ n := s2.1
    have OX : (uO σ2 0 (nI (wtx σ k).length).toInt64).2.2.2.1 0 = (nI (wtx σ k).length).toInt64 := rfl
    generalize uO σ2 0 (nI (wtx σ k).length).toInt64 = υ at TX SX OX ⊢
    have M1 : MB σ υ := MB.mo (υ := σ) ((SX 43 (by omega)).1 2) (fun n _ _ k => (SX n (by omega)).2.2 k) mB
    obtain ⟨σ3, e3, t3, s3⟩ := m_write hB hk M1
    have mw : fX12_write (nI k) υ = some (nI (wtx σ k).length, σ3) := by
      unfold fX12_write
      rw [m_isB (τ := σ) M1.1 h16, ha, Option.bind_some]
      dsimp only
      rw [if_neg (show ¬ bI true = 0 by decide), e3, t3.1]
    have b3 : σ3.2.2.2 = υ.2.2.2 := s3.1.2
    have j3 : ∀ j, ¬ (j = 0 ∨ j = 37) → σ3.1 43 j = υ.1 43 j := fun j hj => by rw [s3.2 j (by omega), uI_nj (by omega)]
    have f3 : Fr (fun n => n = 43 ∨ n = 67) υ σ3 := fun n hn => (s3.1.1 n hn).tr ((Kp.uI (O := fun n => n = 43 ∨ n = 67) (Or.inl rfl)).1 n hn)
    refine ⟨0, υ, nI (wtx σ k).length, σ3, rfl, mw, ?_, fun _ => ?_, ?_⟩
    · rw [s3.2 0 (by omega), uI_eq]
    · rw [b3]; exact OX
    · exact asm (O1 := fun n => n = 40) (O2 := fun n => n = 43 ∨ n = 67) (J := fun j => j = 0 ∨ j = 37) h (fun n hn => SX n hn) f3 (by rw [b3]) j3 (fun n z => by omega) (fun n z => by omega)
        (Or.inr ⟨fun n z => by omega, fun n z => by omega, by omega⟩)
        (Or.inr ⟨by omega, by omega⟩)
        (Or.inr ⟨fun n z => by omega, by omega, by omega⟩)
        (Or.inr ⟨by omega, by omega, by omega, by omega⟩)
        (Or.inr ⟨fun n z => by omega, by omega, by omega⟩)
        (Or.inr ⟨(SX 38 (by omega)).1 1, by omega, by omega, by omega⟩)
        (Or.inl ⟨TX.VP.1, t3.MP TX⟩)
        (Or.inr ⟨(SX 0 (by omega)).1 12, fun n z => by omega, fun n z => by omega, by omega, by omega, by omega, agT.of (SX 1 (by omega)) (fun n a b => SX n (by omega)) h16⟩)
theorem s_letter {σ : rS} (h : Inv σ) (a : Int32) : stepA (fX11_letter a) (fX12_letter a) σ := by
  obtain ⟨p1, p2, p3, p4, p5⟩ := h.1.2.2.2.2.2.2
  obtain ⟨m1, m2⟩ := h.2.1.2.2.2.2.2.2
  have c142 : σ.2.2.2.2.1 ≤ 142 := by omega
  have e0 : (0 : Int32).toInt = 0 := rfl
  have n0 : narrow .char (.int 0) = .int 0 := (byt 0 (by omega)).2.2.2.2.2.1
  have z1 : (uI σ 43 0 0).1 43 37 = nI (wp σ) := by rw [uI_nj (by omega)]; exact m1
  have fin : ∀ v, fX11_letter a σ = some (v, σ) → fX12_letter a σ = some (v, uI σ 43 0 0) → stepA (fX11_letter a) (fX12_letter a) σ := fun v x y => ⟨v, σ, _, x, y, inv_no h 0⟩
  by_cases c : a < 0
  · refine fin 0 ?_ ?_
    · unfold fX11_letter jX11_letter_26 jX11_letter_27
      rw [if_pos c, if_pos n0]
    · unfold fX12_letter jX12_letter_26 jX12_letter_27
      rw [vS_d, if_pos c, if_pos n0]
  have a0 : 0 ≤ a.toInt := by rw [i_lt] at c; omega
  have cl := i_cl a0
  have hi := i_hi a
  obtain ⟨k, hk, ek⟩ : ∃ k : Nat, k < 2147483648 ∧ a = nI k := ⟨a.toNatClampNeg, by omega, i_nI a0⟩
  subst ek
  by_cases d : wp σ ≤ k
  · refine fin 0 ?_ ?_
    · unfold fX11_letter jX11_letter_26 jX11_letter_27 fJ4_length_8abf5 fJ5_length_8abf5
      rw [if_neg c, Option.bind_some, Option.bind_some]
      dsimp only
      rw [p2, if_pos (by rw [kle (by omega) hk]; exact d), if_pos n0]
    · unfold fX12_letter jX12_letter_26 jX12_letter_27
      rw [vS_d, if_neg c, z1, if_pos (by rw [kle (by omega) hk]; exact d), if_pos n0]
  · obtain ⟨q, hq, eq⟩ := b127 (p5 k (by omega))
    have b := byt q hq
    refine fin (nI q) ?_ ?_
    · unfold fX11_letter jX11_letter_26 jX11_letter_27 fJ4_length_8abf5 fJ5_length_8abf5 fJ4_charAt_5068e fJ5_charAt_5068e fJ0_checkIndex_df160
      rw [if_neg c, Option.bind_some, Option.bind_some]
      dsimp only
      rw [p2, if_neg (by rw [kle (by omega) hk]; exact d), p1, vI_d, vI_d, shr0]
      have e : (Int32.ofNat σ.2.2.2.2.1) = nI σ.2.2.2.2.1 := rfl
      have e3 : (if nI σ.2.2.2.2.1 < nI (wp σ) then nI σ.2.2.2.2.1 else nI (wp σ)) = nI (wp σ) := if_neg (by rw [klt (by omega) (by omega)]; omega)
      rw [e, e3, if_pos (show ¬ nI k < 0 ∧ nI k < nI (wp σ) from ⟨c, by rw [klt hk (by omega)]; omega⟩), Option.bind_some]
      dsimp only
      rw [if_pos rfl, kinB hk, decide_eq_true (by omega), if_pos rfl, kc hk, eq, b.2.2.2.2.1, if_pos b.2.2.2.2.2.1, Option.bind_some]
      dsimp only
      rw [if_pos b.2.2.2.2.2.1, Option.bind_some]
      dsimp only
      rw [if_pos b.2.2.2.2.2.1]
    · unfold fX12_letter jX12_letter_26 jX12_letter_27
      rw [vS_d, if_neg c, z1, if_neg (by rw [kle (by omega) hk]; exact d), kinB hk, decide_eq_true (by omega), if_pos rfl, kc hk]
      have x : (uI σ 43 0 0).2.2.1 67 k = nI q := (m2 k (by omega)).trans eq
      rw [x, if_pos b.2.2.2.2.2.1]
