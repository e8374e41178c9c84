theorem k16 : ∀ k : Nat, k < 16 → ¬ (16 : Int32) ≤ Int32.ofNat k ∧ (Int32.ofNat k).toNatClampNeg = k ∧ Int32.ofNat k + 1 = Int32.ofNat (k + 1) ∧ ¬ (Int32.ofNat k < 0 ∨ 16 ≤ (Int32.ofNat k).toNatClampNeg) := by decide
theorem k8 : ∀ k : Nat, k < 8 → ¬ (8 : Int32) ≤ Int32.ofNat k ∧ (Int32.ofNat k).toNatClampNeg = k ∧ Int32.ofNat k + 1 = Int32.ofNat (k + 1) ∧ ¬ (Int32.ofNat k < 0 ∨ 8 ≤ (Int32.ofNat k).toNatClampNeg) := by decide
set_option maxHeartbeats 4000000 in
theorem inX2_loop {G : rG} {b q1 : Nat} {L : List (Nat × va_E)} : ∀ (n k : Nat), n + k = 16 → ∀ (a : Nat → Nat) (h : rH), Has ((b, .inr (3, [.ref q1, .int 0, .int 0])) :: (q1, .inl (G.2.1 5, 16, .inr (.inr (.inr (.inr (fB a 80 4 k)))))) :: (bcells G a k ++ L)) h → RW G mX2_init (rm 3 65 512) (fun v h2 => v = none ∧ ∃ q1 : Nat, ∃ a : Nat → Nat, Has ((b, .inr (3, [.ref q1, .int 0, .int 0])) :: (q1, .inl (G.2.1 5, 16, .inr (.inr (.inr (.inr (fB a 80 4 16)))))) :: (bcells G a 16 ++ L)) h2) xN (1 + 4 * k) (16 + 31 * k) 15 [(1, .int (Int32.ofNat k)), (0, .ref b)] [] h := by
  intro n
  induction n with
  | zero =>
    intro k hk a h hh
    obtain rfl : k = 16 := by omega
    refine rw_iload_n dX2_init_15 0 rfl rfl ?_
    refine rw_bipush (v := 16) dX2_init_16 (by decide) ?_
    refine rw_icmp_ge (tgt := 40) dX2_init_18 (by decide) (fun _ => ?_) (fun z => absurd (by decide) z)
    exact rw_return dX2_init_40 rfl ⟨rfl, q1, a, hh⟩ (by decide) (by decide)
  | succ n ih =>
    intro k hk a h hh
    obtain ⟨z1, z2, z3, z4⟩ := k16 k (by omega)
    refine rw_iload_n dX2_init_15 0 rfl rfl ?_
    refine rw_bipush (v := 16) dX2_init_16 (by decide) ?_
    refine rw_icmp_ge (tgt := 40) dX2_init_18 (by decide) (fun z => absurd z z1) (fun _ => ?_)
    refine rw_aload_n dX2_init_21 1 rfl rfl ?_
    refine rw_get dX2_init_22 fl163 hh.hd rfl ?_
    refine rw_iload_n dX2_init_25 0 rfl rfl ?_
    refine hx_new (ci := 2) (fs := [.null, .null, .null, .int 0, .int 0]) hh dX2_init_26 clsX1 wm108 wm110 wm64 (fun j hj => match j, hj with | 0, _ => rfl | 1, _ => rfl | 2, _ => rfl | 3, _ => rfl | 4, _ => rfl | j + 5, hj => absurd hj (by omega)) (by show 1 + 4 * k + 1 ≤ 65; omega) (by show 16 + 31 * k + 5 ≤ 512; omega) (fun q h hh => ?_)
    refine rw_dup dX2_init_29 rfl ?_
    refine hx_callIN (As := []) (st := [.ref q, .int (Int32.ofNat k), .ref q1]) dX2_init_30 calX1_init rfl rfl wm111 wm112 rfl rfl (Nat.le_of_ble_eq_true rfl) ⟨⟨by decide, by decide⟩, (by show 1 + 4 * k + 1 + 3 ≤ 65; omega), (by show 16 + 31 * k + 5 + 26 ≤ 512; omega)⟩ (inX1 hh) (fun h hh => ?_)
    obtain ⟨p1, p2, p3, hh⟩ := hh
    replace hh := Has.mid (N := [(q, .inr (2, [.ref p1, .ref p2, .ref p3, .int 0, .int 0])), (p3, .inl (G.2.1 0, 12, .inl (fun _ => 0))), (p2, .inl (G.2.1 0, 12, .inl (fun _ => 0))), (p1, .inr (7, [.int 0, .int 0])), (b, .inr (3, [.ref q1, .int 0, .int 0]))]) hh
    refine rw_aastoreBoring dX2_init_33 hh.hd (hh.2 _ (List.mem_cons_of_mem _ List.mem_cons_self)).1 (by decide) rfl rfl z4 ?_
    rw [z2]
    replace hh := hh.put (e2 := .inl (G.2.1 5, 16, .inr (.inr (.inr (.inr (va_up (fB a 80 4 k) k (some q))))))) inl_live
    replace hh := Has.mid (N := [(q1, .inl (G.2.1 5, 16, .inr (.inr (.inr (.inr (va_up (fB a 80 4 k) k (some q))))))), (q, .inr (2, [.ref p1, .ref p2, .ref p3, .int 0, .int 0])), (p3, .inl (G.2.1 0, 12, .inl (fun _ => 0))), (p2, .inl (G.2.1 0, 12, .inl (fun _ => 0))), (p1, .inr (7, [.int 0, .int 0]))]) hh
    generalize hput h q1 _ = h at hh ⊢
    let a2 : Nat → Nat := fun n => if n = 80 + 4 * k then q else if n = 81 + 4 * k then p1 else if n = 82 + 4 * k then p2 else if n = 83 + 4 * k then p3 else a n
    have e0 : a2 (80 + 4 * k) = q := if_pos rfl
    have e1 : a2 (81 + 4 * k) = p1 := (if_neg (by omega)).trans (if_pos rfl)
    have e2 : a2 (82 + 4 * k) = p2 := (if_neg (by omega)).trans ((if_neg (by omega)).trans (if_pos rfl))
    have e3 : a2 (83 + 4 * k) = p3 := (if_neg (by omega)).trans ((if_neg (by omega)).trans ((if_neg (by omega)).trans (if_pos rfl)))
    have e4 : ∀ n, n < 80 + 4 * k → a2 n = a n := fun n z => (if_neg (by omega)).trans ((if_neg (by omega)).trans ((if_neg (by omega)).trans (if_neg (by omega))))
    have hh2 : Has ((b, .inr (3, [.ref q1, .int 0, .int 0])) :: (q1, .inl (G.2.1 5, 16, .inr (.inr (.inr (.inr (fB a2 80 4 (k + 1))))))) :: (bcells G a2 (k + 1) ++ L)) h := by
      rw [← fB_up e0 (fun j hj => e4 _ (by omega)), bcells, bcells_congr k e4, e0, e1, e2, e3]
      exact hh
    refine rw_iinc (v := Int32.ofNat k + 1) (lv2 := [(1, .int (Int32.ofNat k + 1)), (0, .ref b)]) dX2_init_34 0 rfl rfl (by decide) rfl ?_
    refine rw_goto (tgt := 15) dX2_init_37 (by decide) ?_
    rw [z3]
    exact ih (k + 1) (by omega) a2 h hh2
set_option maxHeartbeats 4000000 in
theorem inX2 {G : rG} {b : Nat} {L : List (Nat × va_E)} {h : rH} (hh : Has ((b, .inr (3, [.null, .int 0, .int 0])) :: L) h) : rMT G mX2_init (rm 3 65 512) [.ref b] h (fun v h2 => v = none ∧ ∃ q1 : Nat, ∃ a : Nat → Nat, Has ((b, .inr (3, [.ref q1, .int 0, .int 0])) :: (q1, .inl (G.2.1 5, 16, .inr (.inr (.inr (.inr (fB a 80 4 16)))))) :: (bcells G a 16 ++ (L))) h2) xN := by
  refine rw_met (by decide +kernel) rfl (Nat.le_of_ble_eq_true rfl) ?_
  show RW G _ _ _ _ 0 0 0 [(0, .ref b)] [] h
  refine rw_aload_n dX2_init_0 0 rfl rfl ?_
  refine rw_objInit dX2_init_1 wm107 wm100 wm101 (by decide) (Nat.le_of_ble_eq_true rfl) ?_
  refine rw_aload_n dX2_init_4 0 rfl rfl ?_
  refine rw_bipush (v := 16) dX2_init_5 (by decide) ?_
  refine hx_anew (ti := 5) (N := 16) hh dX2_init_7 rfl wm108 (by decide) (by decide) (by decide) (by decide) (by decide) (by decide) (fun q1 h hh => ?_)
  replace hh := hh.swap
  refine hx_putF (v := .ref q1) (fs2 := [.ref q1, .int 0, .int 0]) hh dX2_init_10 fl163 rfl ⟨_, ⟨_, rfl, rfl⟩, rfl⟩ rfl rfl (Nat.le_of_ble_eq_true rfl) rfl (by decide) (fun h hh => ?_)
  refine rw_iconst (v := 0) dX2_init_13 (by decide) ?_
  refine rw_istore_n (lv2 := [(1, .int 0), (0, .ref b)]) dX2_init_14 rfl (by decide) rfl ?_
  exact inX2_loop 16 0 rfl (fun _ => 0) h hh
set_option maxHeartbeats 4000000 in
theorem inX3_loop {G : rG} {b q1 q2 : Nat} {L : List (Nat × va_E)} : ∀ (n k : Nat), n + k = 8 → ∀ (a : Nat → Nat) (h : rH), Has ((b, .inr (4, [.ref q1, .ref q2, .int 0])) :: (q2, .inl (G.2.1 6, 8, .inr (.inr (.inr (.inr (fB a 145 2 k)))))) :: (q1, .inl (G.2.1 6, 8, .inr (.inr (.inr (.inr (fB a 144 2 k)))))) :: (fcells a k ++ L)) h → RW G mX3_init (rm 2 18 48) (fun v h2 => v = none ∧ ∃ q1 : Nat, ∃ q2 : Nat, ∃ a : Nat → Nat, Has ((b, .inr (4, [.ref q1, .ref q2, .int 0])) :: (q2, .inl (G.2.1 6, 8, .inr (.inr (.inr (.inr (fB a 145 2 8)))))) :: (q1, .inl (G.2.1 6, 8, .inr (.inr (.inr (.inr (fB a 144 2 8)))))) :: (fcells a 8 ++ L)) h2) xN (2 + 2 * k) (16 + 4 * k) 24 [(1, .int (Int32.ofNat k)), (0, .ref b)] [] h := by
  intro n
  induction n with
  | zero =>
    intro k hk a h hh
    obtain rfl : k = 8 := by omega
    refine rw_iload_n dX3_init_24 0 rfl rfl ?_
    refine rw_bipush (v := 8) dX3_init_25 (by decide) ?_
    refine rw_icmp_ge (tgt := 62) dX3_init_27 (by decide) (fun _ => ?_) (fun z => absurd (by decide) z)
    exact rw_return dX3_init_62 rfl ⟨rfl, q1, q2, a, hh⟩ (by decide) (by decide)
  | succ n ih =>
    intro k hk a h hh
    obtain ⟨z1, z2, z3, z4⟩ := k8 k (by omega)
    refine rw_iload_n dX3_init_24 0 rfl rfl ?_
    refine rw_bipush (v := 8) dX3_init_25 (by decide) ?_
    refine rw_icmp_ge (tgt := 62) dX3_init_27 (by decide) (fun z => absurd z z1) (fun _ => ?_)
    refine rw_aload_n dX3_init_30 1 rfl rfl ?_
    refine rw_get dX3_init_31 fl191 hh.hd rfl ?_
    refine rw_iload_n dX3_init_34 0 rfl rfl ?_
    refine hx_new (ci := 7) (fs := [.int 0, .int 0]) hh dX3_init_35 clsX7 wm188 wm116 wm65 (fun j hj => match j, hj with | 0, _ => rfl | 1, _ => rfl | j + 2, hj => absurd hj (by omega)) (by show 2 + 2 * k + 1 ≤ 18; omega) (by show 16 + 4 * k + 2 ≤ 48; omega) (fun p h hh => ?_)
    refine rw_dup dX3_init_38 rfl ?_
    refine hx_callIN (As := []) (st := [.ref p, .int (Int32.ofNat k), .ref q1]) dX3_init_39 calX7_init rfl rfl wm190 wm118 rfl rfl (Nat.le_of_ble_eq_true rfl) ⟨⟨by decide, by decide⟩, (by show 2 + 2 * k + 1 + 0 ≤ 18; omega), (by show 16 + 4 * k + 2 + 0 ≤ 48; omega)⟩ (inX7 hh) (fun h hh => ?_)
    replace hh := Has.mid (N := [(p, .inr (7, [.int 0, .int 0])), (b, .inr (4, [.ref q1, .ref q2, .int 0])), (q2, .inl (G.2.1 6, 8, .inr (.inr (.inr (.inr (fB a 145 2 k))))))]) hh
    refine rw_aastorePlace dX3_init_42 hh.hd (hh.2 _ (List.mem_cons_of_mem _ List.mem_cons_self)).1 (by decide) rfl rfl z4 ?_
    rw [z2]
    replace hh := hh.put (e2 := .inl (G.2.1 6, 8, .inr (.inr (.inr (.inr (va_up (fB a 144 2 k) k (some p))))))) inl_live
    replace hh := Has.mid (N := [(q1, .inl (G.2.1 6, 8, .inr (.inr (.inr (.inr (va_up (fB a 144 2 k) k (some p))))))), (p, .inr (7, [.int 0, .int 0]))]) hh
    generalize hput h q1 _ = h at hh ⊢
    refine rw_aload_n dX3_init_43 1 rfl rfl ?_
    refine rw_get dX3_init_44 fl192 hh.hd rfl ?_
    refine rw_iload_n dX3_init_47 0 rfl rfl ?_
    refine hx_new (ci := 7) (fs := [.int 0, .int 0]) hh dX3_init_48 clsX7 wm188 wm116 wm65 (fun j hj => match j, hj with | 0, _ => rfl | 1, _ => rfl | j + 2, hj => absurd hj (by omega)) (by show 2 + 2 * k + 1 + 1 ≤ 18; omega) (by show 16 + 4 * k + 2 + 2 ≤ 48; omega) (fun r h hh => ?_)
    refine rw_dup dX3_init_51 rfl ?_
    refine hx_callIN (As := []) (st := [.ref r, .int (Int32.ofNat k), .ref q2]) dX3_init_52 calX7_init rfl rfl wm190 wm118 rfl rfl (Nat.le_of_ble_eq_true rfl) ⟨⟨by decide, by decide⟩, (by show 2 + 2 * k + 1 + 1 + 0 ≤ 18; omega), (by show 16 + 4 * k + 2 + 2 + 0 ≤ 48; omega)⟩ (inX7 hh) (fun h hh => ?_)
    replace hh := Has.mid (N := [(r, .inr (7, [.int 0, .int 0])), (b, .inr (4, [.ref q1, .ref q2, .int 0])), (q1, .inl (G.2.1 6, 8, .inr (.inr (.inr (.inr (va_up (fB a 144 2 k) k (some p))))))), (p, .inr (7, [.int 0, .int 0]))]) hh
    refine rw_aastorePlace dX3_init_55 hh.hd (hh.2 _ (List.mem_cons_of_mem _ List.mem_cons_self)).1 (by decide) rfl rfl z4 ?_
    rw [z2]
    replace hh := hh.put (e2 := .inl (G.2.1 6, 8, .inr (.inr (.inr (.inr (va_up (fB a 145 2 k) k (some r))))))) inl_live
    replace hh := Has.mid (N := [(q2, .inl (G.2.1 6, 8, .inr (.inr (.inr (.inr (va_up (fB a 145 2 k) k (some r))))))), (r, .inr (7, [.int 0, .int 0])), (b, .inr (4, [.ref q1, .ref q2, .int 0]))]) hh
    replace hh := Has.mid (N := [(q1, .inl (G.2.1 6, 8, .inr (.inr (.inr (.inr (va_up (fB a 144 2 k) k (some p))))))), (q2, .inl (G.2.1 6, 8, .inr (.inr (.inr (.inr (va_up (fB a 145 2 k) k (some r))))))), (r, .inr (7, [.int 0, .int 0]))]) hh
    replace hh := Has.mid (N := [(b, .inr (4, [.ref q1, .ref q2, .int 0])), (q1, .inl (G.2.1 6, 8, .inr (.inr (.inr (.inr (va_up (fB a 144 2 k) k (some p)))))))]) hh
    replace hh := Has.mid (N := [(q2, .inl (G.2.1 6, 8, .inr (.inr (.inr (.inr (va_up (fB a 145 2 k) k (some r)))))))]) hh
    generalize hput h q2 _ = h at hh ⊢
    let a2 : Nat → Nat := fun n => if n = 144 + 2 * k then p else if n = 145 + 2 * k then r else a n
    have e0 : a2 (144 + 2 * k) = p := if_pos rfl
    have e1 : a2 (145 + 2 * k) = r := (if_neg (by omega)).trans (if_pos rfl)
    have e4 : ∀ n, n < 144 + 2 * k → a2 n = a n := fun n z => (if_neg (by omega)).trans (if_neg (by omega))
    have hh2 : Has ((b, .inr (4, [.ref q1, .ref q2, .int 0])) :: (q2, .inl (G.2.1 6, 8, .inr (.inr (.inr (.inr (fB a2 145 2 (k + 1))))))) :: (q1, .inl (G.2.1 6, 8, .inr (.inr (.inr (.inr (fB a2 144 2 (k + 1))))))) :: (fcells a2 (k + 1) ++ L)) h := by
      rw [← fB_up e0 (fun j hj => e4 _ (by omega)), ← fB_up e1 (fun j hj => e4 _ (by omega)), fcells, fcells_congr k e4, e0, e1]
      exact hh
    refine rw_iinc (v := Int32.ofNat k + 1) (lv2 := [(1, .int (Int32.ofNat k + 1)), (0, .ref b)]) dX3_init_56 0 rfl rfl (by decide) rfl ?_
    refine rw_goto (tgt := 24) dX3_init_59 (by decide) ?_
    rw [z3]
    exact ih (k + 1) (by omega) a2 h hh2
set_option maxHeartbeats 4000000 in
theorem inX3 {G : rG} {b : Nat} {L : List (Nat × va_E)} {h : rH} (hh : Has ((b, .inr (4, [.null, .null, .int 0])) :: L) h) : rMT G mX3_init (rm 2 18 48) [.ref b] h (fun v h2 => v = none ∧ ∃ q1 : Nat, ∃ q2 : Nat, ∃ a : Nat → Nat, Has ((b, .inr (4, [.ref q1, .ref q2, .int 0])) :: (q2, .inl (G.2.1 6, 8, .inr (.inr (.inr (.inr (fB a 145 2 8)))))) :: (q1, .inl (G.2.1 6, 8, .inr (.inr (.inr (.inr (fB a 144 2 8)))))) :: (fcells a 8 ++ (L))) h2) xN := by
  refine rw_met (by decide +kernel) rfl (Nat.le_of_ble_eq_true rfl) ?_
  show RW G _ _ _ _ 0 0 0 [(0, .ref b)] [] h
  refine rw_aload_n dX3_init_0 0 rfl rfl ?_
  refine rw_objInit dX3_init_1 wm187 wm100 wm101 (by decide) (Nat.le_of_ble_eq_true rfl) ?_
  refine rw_aload_n dX3_init_4 0 rfl rfl ?_
  refine rw_bipush (v := 8) dX3_init_5 (by decide) ?_
  refine hx_anew (ti := 6) (N := 8) hh dX3_init_7 rfl wm188 (by decide) (by decide) (by decide) (by decide) (by decide) (by decide) (fun q1 h hh => ?_)
  replace hh := hh.swap
  refine hx_putF (v := .ref q1) (fs2 := [.ref q1, .null, .int 0]) hh dX3_init_10 fl191 rfl ⟨_, ⟨_, rfl, rfl⟩, rfl⟩ rfl rfl (Nat.le_of_ble_eq_true rfl) rfl (by decide) (fun h hh => ?_)
  refine rw_aload_n dX3_init_13 0 rfl rfl ?_
  refine rw_bipush (v := 8) dX3_init_14 (by decide) ?_
  refine hx_anew (ti := 6) (N := 8) hh dX3_init_16 rfl wm188 (by decide) (by decide) (by decide) (by decide) (by decide) (by decide) (fun q2 h hh => ?_)
  replace hh := hh.swap
  refine hx_putF (v := .ref q2) (fs2 := [.ref q1, .ref q2, .int 0]) hh dX3_init_19 fl192 rfl ⟨_, ⟨_, rfl, rfl⟩, rfl⟩ rfl rfl (Nat.le_of_ble_eq_true rfl) rfl (by decide) (fun h hh => ?_)
  refine rw_iconst (v := 0) dX3_init_22 (by decide) ?_
  refine rw_istore_n (lv2 := [(1, .int 0), (0, .ref b)]) dX3_init_23 rfl (by decide) rfl ?_
  exact inX3_loop 8 0 rfl (fun _ => 0) h hh
