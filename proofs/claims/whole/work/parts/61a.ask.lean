/-! THE CALLS THAT ASK: count, edge, triangle, bedOf. -/
theorem q_ok {σ : rS} {c m : rS → Option (Int32 × rS)} {v : Int32} (h : Inv σ) (hc : c σ = some (0, uO σ 0 v.toInt64)) (hm : m (uO σ 0 v.toInt64) = some (v, uI (uO σ 0 v.toInt64) 43 0 0)) : stepB c m σ := ⟨0, _, v, _, hc, hm, uI_eq _ _ _ _, fun _ => rfl, inv_no (h.out 0 _) 0⟩
theorem q_no {σ : rS} {c m : rS → Option (Int32 × rS)} {k : Int32} (h : Inv σ) (hk : k ≠ 0) (hc : c σ = some (k, σ)) (hm : m σ = some (0, uI (uI σ 43 0 0) 43 0 k)) : stepB c m σ := ⟨k, _, 0, _, hc, hm, uI_eq _ _ _ _, fun z => absurd z hk, inv_no (inv_no h 0) k⟩
theorem c_run0 {σ : rS} (h : σ.1 0 12 = 0) : fX11_requireRun σ = some (.error "java/lang/IllegalStateException", σ) := by unfold fX11_requireRun; rw [h, if_pos rfl]
theorem c_run1 {σ : rS} (h : σ.1 0 12 = 1) : fX11_requireRun σ = some (.ok (), σ) := by unfold fX11_requireRun; rw [h, if_neg (by decide)]
theorem m_fails0 {ρ : rS} (h : ρ.1 43 0 = 0) (k : Int32) : fX12_fails 0 k ρ = some (0, ρ) := by
  unfold fX12_fails jX12_fails_16 jX12_fails_28
  rw [h, if_pos rfl, if_pos rfl, if_pos (by decide), if_pos (Or.inl rfl)]
theorem m_fails1 {ρ : rS} (h : ρ.1 43 0 = 0) {k : Int32} (hk : ¬ k ≤ 0) : fX12_fails 1 k ρ = some (1, uI ρ 43 0 k) := by
  unfold fX12_fails jX12_fails_16 jX12_fails_28
  rw [h, if_pos rfl, if_neg (by decide), vS_d, uI_eq, if_neg hk, if_pos (Or.inr rfl)]
theorem m_failsB {ρ : rS} (h : ρ.1 43 0 = 0) {k : Int32} (hk : ¬ k ≤ 0) (b : Bool) : fX12_fails (bI b) k ρ = some (bI b, if b = true then uI ρ 43 0 k else ρ) := by
  cases b
  · exact m_fails0 h k
  · exact m_fails1 h hk
theorem m_old0 {σ : rS} (h : σ.1 43 1 = 0) : fX12_isOld σ = some (1, uI (uI σ 43 0 0) 43 0 1) := by
  unfold fX12_isOld jX12_isOld_18
  rw [vS_d, uI_nj (by omega), h, if_pos rfl, m_fails1 (uI_eq _ _ _ _) (by decide), Option.bind_some, if_pos (Or.inr rfl)]
theorem m_old1 {σ : rS} (h : σ.1 43 1 = 1) : fX12_isOld σ = some (0, uI σ 43 0 0) := by
  unfold fX12_isOld jX12_isOld_18
  rw [vS_d, uI_nj (by omega), h, if_neg (by decide), m_fails0 (uI_eq _ _ _ _), Option.bind_some, if_pos (Or.inl rfl)]
/-- the model's test of an index -/
theorem m_idx {n : Nat} (hn : n < 2147483648) (a : Int32) (σ : rS) : fX12_in a 0 (nI n - 1) σ = some (bI (okN n a), σ) := by
  rw [m_from]
  unfold okB okN
  congr 2
  congr 1
  rw [decide_eq_decide]
  have z0 : (0 : Int32).toInt = 0 := rfl
  have z1 : (1 : Int32).toInt = 1 := rfl
  rw [i_sub (by rw [ki hn, z1]; omega) (by rw [ki hn, z1]; omega), ki hn, z0, z1]
  omega
theorem fresh01 {σ : rS} (h : Inv σ) : (σ.1 0 12 = 0 ∧ σ.1 43 1 = 0) ∨ (σ.1 0 12 = 1 ∧ σ.1 43 1 = 1) := by
  have g := h.1.2.2.2.1.2.2
  have m := h.2.1.2.2.2.1.2.2
  rcases g with g | g
  · left; exact ⟨g, by rw [m, g]⟩
  · right; exact ⟨g, by rw [m, g]⟩
theorem MN.out {σ τ : rS} {bk : Nat × Nat → Bool} {E : List (Nat × Nat)} {T : List (Nat × Nat × Nat)} {f : Nat → Option Nat} {L : List Nat} (h : MN σ τ bk E T f L) (i : Nat) (w : Int64) : MN (uO σ i w) τ bk E T f L := MN.kp (υ := σ) rfl rfl rfl (fun _ _ _ _ => rfl) h
theorem MN.n0 {σ τ : rS} {bk : Nat × Nat → Bool} {E : List (Nat × Nat)} {T : List (Nat × Nat × Nat)} {f : Nat → Option Nat} {L : List Nat} (h : MN σ τ bk E T f L) (v : Int32) : MN (uI σ 43 0 v) τ bk E T f L := MN.kp (υ := σ) (uI_nj (by omega)) (uI_nj (by omega)) (uI_nj (by omega)) (fun _ _ _ _ => rfl) h
theorem MB.out {σ τ : rS} (h : MB τ σ) (i : Nat) (w : Int64) : MB τ (uO σ i w) := MB.mo (υ := σ) rfl (fun _ _ _ _ => rfl) h
theorem MB.n0 {σ τ : rS} (h : MB τ σ) (v : Int32) : MB τ (uI σ 43 0 v) := MB.mo (υ := σ) (uI_nj (by omega)) (fun _ _ _ _ => rfl) h
section Ask
variable {σ ρ τ : rS} {bk : Nat × Nat → Bool} {E : List (Nat × Nat)} {T : List (Nat × Nat × Nat)} {f : Nat → Option Nat} {L : List Nat}
theorem PU.E42 (hv : VB τ) (h : PU τ bk E T f L) : E.length ≤ 42 := net_len hv.sound.1 hv.sound.2.1 hv.sound.2.2 h.1
theorem PU.T27 (hv : VB τ) (h : PU τ bk E T f L) : T.length ≤ 27 := by rw [h.2.1]; exact tri_len hv.sound h.1
theorem PU.L192 (hv : VB τ) (h : PU τ bk E T f L) : L.length ≤ 192 := nd_le 192 L (Lnd_of h.2.2.1.2.2.2) (fun x hx => by
  obtain ⟨c, hc⟩ := List.mem_iff_getElem?.mp hx
  have := (h.2.2.1.2.2.1 c x hc).1
  exact okS_lt hv (h.2.2.1.1 x c this).1)
/-- broken edges, counted -/
theorem m_cnt (hE : isN ρ bk E) (hl : E.length ≤ 42) (a : Int32) : ∀ (r k fuel : Nat) (v : Nat), k + r = E.length → r < fuel → ∃ fu, lX12_count_63 fuel a (nI v) (nI k) ρ = lX12_count_63 (fu + 1) a (nI (v + (E.drop k).countP bk)) (nI E.length) ρ := by
  intro r
  induction r with
  | zero =>
    intro k fuel v hk hfu
    obtain ⟨fu, rfl⟩ : ∃ fu, fuel = fu + 1 := ⟨fuel - 1, by omega⟩
    obtain rfl : k = E.length := by omega
    refine ⟨fu, ?_⟩
    rw [List.drop_eq_nil_of_le (Nat.le_refl _)]
    rfl
  | succ r ih =>
    intro k fuel v hk hfu
    obtain ⟨fu, rfl⟩ : ∃ fu, fuel = fu + 1 := ⟨fuel - 1, by omega⟩
    obtain ⟨e, he⟩ : ∃ e, E[k]? = some e := ⟨_, List.getElem?_eq_getElem (by omega)⟩
    have x3 := hE.2.1 k e he
    obtain ⟨fu1, h1⟩ := ih (k + 1) fu (v + 1) (by omega) (by omega)
    obtain ⟨fu0, h0⟩ := ih (k + 1) fu v (by omega) (by omega)
    rw [lX12_count_63, hE.1.1, if_neg (by rw [kle (by omega) (by omega)]; omega), kinB (by omega), decide_eq_true (show k < 120 by omega), if_pos rfl, kc (by omega), x3, drop_c he, List.countP_cons]
    unfold jX12_count_86
    simp only [vI_d, k1, bI_0]
    have z0 : nI v + 0 = nI v := kadd v 0
    rw [z0]
    cases bk e with
    | false => exact ⟨fu0, by rw [if_pos rfl, h0]; simp⟩
    | true =>
      refine ⟨fu1, ?_⟩
      rw [if_neg (by simp), h1, if_pos rfl]
      congr 2
      omega
theorem s_count (h : Inv σ) (a : Int32) : stepB (fL_count a) (fX12_count a) σ := by
  have hB := h.1.1
  have mB := h.2.1.1
  have hF := h.1.2.2.1
  have mF := h.2.1.2.2.1
  have hW := h.1.2.2.2.2.1
  have mW := h.2.1.2.2.2.2.1
  -- a class answer that is ok
  have ok : ∀ v : Int32, fX11_count a σ = some (.ok v, σ) → fL_count a σ = some (0, uO σ 0 v.toInt64) := fun v hv => by
    unfold fL_count
    rw [hv, Option.bind_some]
    dsimp only
    rw [in01, if_pos rfl, vS_d, cl0]
  by_cases a0 : a = 0
  · subst a0
    refine q_ok (v := nI (wn σ)) h (ok _ ?_) ?_
    · unfold fX11_count
      rw [if_pos rfl, hB.1]
    · unfold fX12_count jX12_count_49
      rw [vS_d, m_from, Option.bind_some]
      have e : okB (0 : Int32).toInt (6 : Int32).toInt 0 = true := by decide
      rw [e, bI_t]
      dsimp only
      rw [if_neg (by decide), if_neg (by decide), if_pos rfl, uI_nj (by omega)]
      show some (σ.1 43 2, _) = _
      rw [mB.1]
  by_cases a1 : a = 1
  · subst a1
    refine q_ok (v := nI (wf σ)) h (ok _ ?_) ?_
    · unfold fX11_count
      rw [if_neg (by decide), if_pos rfl, hF.1]
    · unfold fX12_count jX12_count_49
      rw [vS_d, m_from, Option.bind_some]
      have e : okB (0 : Int32).toInt (6 : Int32).toInt 1 = true := by decide
      rw [e, bI_t]
      dsimp only
      rw [if_neg (by decide), if_neg (by decide), if_neg (by decide), if_pos rfl, uI_nj (by omega)]
      show some (σ.1 43 10, _) = _
      rw [mF.1]
  by_cases a2 : a = 2
  · subst a2
    refine q_ok (v := nI (ww σ)) h (ok _ ?_) ?_
    · unfold fX11_count
      rw [if_neg (by decide), if_neg (by decide), if_pos rfl, hW.1]
    · unfold fX12_count jX12_count_49
      rw [vS_d, m_from, Option.bind_some]
      have e : okB (0 : Int32).toInt (6 : Int32).toInt 2 = true := by decide
      rw [e, bI_t]
      dsimp only
      rw [if_neg (by decide), if_neg (by decide), if_neg (by decide), if_neg (by decide), uI_nj (by omega)]
      show some (σ.1 43 14, _) = _
      rw [mW.1]
  by_cases a3 : a = 3 ∨ a = 4 ∨ a = 5 ∨ a = 6
  · have e6 : okB (0 : Int32).toInt (6 : Int32).toInt a = true := by rcases a3 with z | z | z | z <;> subst z <;> decide
    have e3 : (3 : Int32) ≤ a := by rcases a3 with z | z | z | z <;> subst z <;> decide
    rcases fresh01 h with ⟨f0, m0⟩ | ⟨f1, m1⟩
    · refine q_no (k := 1) h (by decide) ?_ ?_
      · unfold fL_count fX11_count
        rw [if_neg a0, if_neg a1, if_neg a2]
        have r := c_run0 f0
        rcases a3 with z | z | z | z
        · rw [if_pos z, r]; rfl
        · rw [if_neg (by rw [z]; decide), if_pos z, r]; rfl
        · rw [if_neg (by rw [z]; decide), if_neg (by rw [z]; decide), if_pos z, r]; rfl
        · rw [if_neg (by rw [z]; decide), if_neg (by rw [z]; decide), if_neg (by rw [z]; decide), if_pos z, r]; rfl
      · unfold fX12_count
        rw [vS_d, m_from, Option.bind_some, e6, bI_t]
        dsimp only
        rw [if_neg (by decide), if_pos e3, m_old0 (by rw [uI_nj (by omega)]; exact m0), Option.bind_some]
        dsimp only
        rw [if_neg (by decide), uI_id (σ := uI σ 43 0 0) (n := 43) (k := 0) (v := 0) (uI_eq _ _ _ _)]
    · obtain ⟨τ, bk, E, T, f, L, q1, q2, q3, q4, q5⟩ := h.2.2 f1
      have l42 := q3.E42 q1
      have old : ∀ w, fX12_isOld (uI (uO σ 0 w) 43 0 0) = some (0, uI (uI (uO σ 0 w) 43 0 0) 43 0 0) := fun w => m_old1 (by rw [uI_nj (by omega)]; exact m1)
      have id : ∀ w, uI (uI (uO σ 0 w) 43 0 0) 43 0 0 = uI (uO σ 0 w) 43 0 0 := fun w => uI_id (uI_eq _ _ _ _)
      have mod : ∀ w v, (if a = 3 then some (nI E.length, uI (uO σ 0 w) 43 0 0) else if a = 4 then some (nI (E.countP bk), uI (uO σ 0 w) 43 0 0) else if a = 5 then some (nI T.length, uI (uO σ 0 w) 43 0 0) else some (nI L.length, uI (uO σ 0 w) 43 0 0)) = some (v, uI (uO σ 0 w) 43 0 0) → fX12_count a (uO σ 0 w) = some (v, uI (uO σ 0 w) 43 0 0) := fun w v hv => by
        have N := ((q5.out 0 w).n0 0)
        obtain ⟨fu, hfu⟩ := m_cnt N.1 l42 a E.length 0 1000 0 (by omega) (by omega)
        rw [show nI 0 = 0 from rfl, List.drop_zero, Nat.zero_add] at hfu
        unfold fX12_count
        rw [vS_d, m_from, Option.bind_some, e6, bI_t]
        dsimp only
        rw [if_neg (by decide), if_pos e3, old w, id w, Option.bind_some, if_pos rfl]
        dsimp only
        rw [hfu, lX12_count_63, N.1.1.1, if_pos ((kle (by omega) (by omega)).mpr (Nat.le_refl _))]
        unfold jX12_count_131
        rw [N.2.1.1, N.2.2.2.2.1]
        exact hv
      have r := c_run1 f1
      rcases a3 with z | z | z | z
      · refine q_ok (v := nI E.length) h (ok _ ?_) (mod _ _ (by rw [if_pos z]))
        unfold fX11_count
        rw [if_neg a0, if_neg a1, if_neg a2, if_pos z, r, Option.bind_some]
        dsimp only
        rw [q4.1.1.1]
      · refine q_ok (v := nI (E.countP bk)) h (ok _ ?_) (mod _ _ (by rw [if_neg (by rw [z]; decide), if_pos z]))
        unfold fX11_count
        rw [if_neg a0, if_neg a1, if_neg a2, if_neg (by rw [z]; decide), if_pos z, r, Option.bind_some]
        dsimp only
        rw [q4.1.2.1]
      · refine q_ok (v := nI T.length) h (ok _ ?_) (mod _ _ (by rw [if_neg (by rw [z]; decide), if_neg (by rw [z]; decide), if_pos z]))
        unfold fX11_count
        rw [if_neg a0, if_neg a1, if_neg a2, if_neg (by rw [z]; decide), if_neg (by rw [z]; decide), if_pos z, r, Option.bind_some]
        dsimp only
        rw [q4.2.1.1]
      · refine q_ok (v := nI L.length) h (ok _ ?_) (mod _ _ (by rw [if_neg (by rw [z]; decide), if_neg (by rw [z]; decide), if_neg (by rw [z]; decide)]))
        unfold fX11_count
        rw [if_neg a0, if_neg a1, if_neg a2, if_neg (by rw [z]; decide), if_neg (by rw [z]; decide), if_neg (by rw [z]; decide), if_pos z, r, Option.bind_some]
        dsimp only
        rw [q4.2.2.2.2.2.1]
  · have out : a.toInt < 0 ∨ 6 < a.toInt := by
      have e : ∀ n : Nat, n < 100 → ¬ a = nI n → a.toInt ≠ (n : Int) := fun n hn hne z => hne (i_eq (by rw [ki (by omega)]; exact z))
      have e0 := e 0 (by omega) a0
      have e1 := e 1 (by omega) a1
      have e2 := e 2 (by omega) a2
      have e3 := e 3 (by omega) (fun z => a3 (Or.inl z))
      have e4 := e 4 (by omega) (fun z => a3 (Or.inr (Or.inl z)))
      have e5 := e 5 (by omega) (fun z => a3 (Or.inr (Or.inr (Or.inl z))))
      have e6 := e 6 (by omega) (fun z => a3 (Or.inr (Or.inr (Or.inr z))))
      omega
    refine q_ok (v := (-1)) h (ok _ ?_) ?_
    · unfold fX11_count
      rw [if_neg a0, if_neg a1, if_neg a2, if_neg (fun z => a3 (Or.inl z)), if_neg (fun z => a3 (Or.inr (Or.inl z))), if_neg (fun z => a3 (Or.inr (Or.inr (Or.inl z)))), if_neg (fun z => a3 (Or.inr (Or.inr (Or.inr z))))]
    · unfold fX12_count
      rw [vS_d, m_from, Option.bind_some]
      have e : okB (0 : Int32).toInt (6 : Int32).toInt a = false := by
        unfold okB
        apply decide_eq_false
        have z0 : (0 : Int32).toInt = 0 := rfl
        have z1 : (6 : Int32).toInt = 6 := rfl
        omega
      rw [e, bI_f]
      dsimp only
      rw [if_pos rfl]
end Ask
