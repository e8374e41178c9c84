set_option maxHeartbeats 4000000 in
theorem inX10 {G : rG} {b : Nat} {L : List (Nat × va_E)} {h : rH} (hh : Has ((b, .inr (10, [.null, .null, .null, .int 0])) :: L) h) : rMT G mX10_init (rm 1 3 180) [.ref b] h (fun v h2 => v = none ∧ ∃ q1 : Nat, ∃ q2 : Nat, ∃ q3 : Nat, Has ((b, .inr (10, [.ref q1, .ref q2, .ref q3, .int 0])) :: (q3, .inl (G.2.1 0, 60, .inl (fun _ => 0))) :: (q2, .inl (G.2.1 0, 60, .inl (fun _ => 0))) :: (q1, .inl (G.2.1 0, 60, .inl (fun _ => 0))) :: L) h2) xN := by
  refine rw_met (by decide +kernel) rfl (Nat.le_of_ble_eq_true rfl) ?_
  show RW G _ _ _ _ 0 0 0 [(0, .ref b)] [] h
  refine rw_aload_n dX10_init_0 0 rfl rfl ?_
  refine rw_objInit dX10_init_1 wm207 wm100 wm101 (by decide) (Nat.le_of_ble_eq_true rfl) ?_
  refine rw_aload_n dX10_init_4 0 rfl rfl ?_
  refine rw_bipush (v := 60) dX10_init_5 (by decide) ?_
  refine hx_newarr (ti := 0) (ty := .int) (N := 60) (a0 := (60, .inl (fun _ => 0))) hh dX10_init_7 rfl rfl wm162 (fun _ => rfl) (by decide) (by decide) (by decide) (by decide) (by decide) (fun q1 h hh => ?_)
  replace hh := hh.swap
  refine hx_putF (v := .ref q1) (fs2 := [.ref q1, .null, .null, .int 0]) hh dX10_init_9 fl208 rfl ⟨_, ⟨_, rfl, rfl⟩, rfl⟩ rfl rfl (Nat.le_of_ble_eq_true rfl) rfl (by decide) (fun h hh => ?_)
  refine rw_aload_n dX10_init_12 0 rfl rfl ?_
  refine rw_bipush (v := 60) dX10_init_13 (by decide) ?_
  refine hx_newarr (ti := 0) (ty := .int) (N := 60) (a0 := (60, .inl (fun _ => 0))) hh dX10_init_15 rfl rfl wm162 (fun _ => rfl) (by decide) (by decide) (by decide) (by decide) (by decide) (fun q2 h hh => ?_)
  replace hh := hh.swap
  refine hx_putF (v := .ref q2) (fs2 := [.ref q1, .ref q2, .null, .int 0]) hh dX10_init_17 fl209 rfl ⟨_, ⟨_, rfl, rfl⟩, rfl⟩ rfl rfl (Nat.le_of_ble_eq_true rfl) rfl (by decide) (fun h hh => ?_)
  refine rw_aload_n dX10_init_20 0 rfl rfl ?_
  refine rw_bipush (v := 60) dX10_init_21 (by decide) ?_
  refine hx_newarr (ti := 0) (ty := .int) (N := 60) (a0 := (60, .inl (fun _ => 0))) hh dX10_init_23 rfl rfl wm162 (fun _ => rfl) (by decide) (by decide) (by decide) (by decide) (by decide) (fun q3 h hh => ?_)
  replace hh := hh.swap
  refine hx_putF (v := .ref q3) (fs2 := [.ref q1, .ref q2, .ref q3, .int 0]) hh dX10_init_25 fl210 rfl ⟨_, ⟨_, rfl, rfl⟩, rfl⟩ rfl rfl (Nat.le_of_ble_eq_true rfl) rfl (by decide) (fun h hh => ?_)
  exact rw_return dX10_init_28 rfl ⟨rfl, q1, q2, q3, hh⟩ (by decide) (by decide)
set_option maxHeartbeats 4000000 in
theorem inX6 {G : rG} {b : Nat} {L : List (Nat × va_E)} {h : rH} (hh : Has ((b, .inr (6, [.null, .null, .null, .null, .int 0, .int 0, .int 0, .null, .null, .null, .int 0])) :: L) h) : rMT G mX6_init (rm 1 7 610) [.ref b] h (fun v h2 => v = none ∧ ∃ q1 : Nat, ∃ q2 : Nat, ∃ q3 : Nat, ∃ q4 : Nat, ∃ q5 : Nat, ∃ q6 : Nat, ∃ q7 : Nat, Has ((b, .inr (6, [.ref q1, .ref q2, .ref q3, .ref q4, .int 0, .int 0, .int 0, .ref q5, .ref q6, .ref q7, .int 0])) :: (q7, .inl (G.2.1 0, 81, .inl (fun _ => 0))) :: (q6, .inl (G.2.1 0, 256, .inl (fun _ => 0))) :: (q5, .inl (G.2.1 0, 120, .inl (fun _ => 0))) :: (q4, .inl (G.2.1 0, 27, .inl (fun _ => 0))) :: (q3, .inl (G.2.1 3, 42, .inl (fun _ => 0))) :: (q2, .inl (G.2.1 0, 42, .inl (fun _ => 0))) :: (q1, .inl (G.2.1 0, 42, .inl (fun _ => 0))) :: L) h2) xN := by
  refine rw_met (by decide +kernel) rfl (Nat.le_of_ble_eq_true rfl) ?_
  show RW G _ _ _ _ 0 0 0 [(0, .ref b)] [] h
  refine rw_aload_n dX6_init_0 0 rfl rfl ?_
  refine rw_objInit dX6_init_1 wm227 wm100 wm101 (by decide) (Nat.le_of_ble_eq_true rfl) ?_
  refine rw_aload_n dX6_init_4 0 rfl rfl ?_
  refine rw_bipush (v := 42) dX6_init_5 (by decide) ?_
  refine hx_newarr (ti := 0) (ty := .int) (N := 42) (a0 := (42, .inl (fun _ => 0))) hh dX6_init_7 rfl rfl wm162 (fun _ => rfl) (by decide) (by decide) (by decide) (by decide) (by decide) (fun q1 h hh => ?_)
  replace hh := hh.swap
  refine hx_putF (v := .ref q1) (fs2 := [.ref q1, .null, .null, .null, .int 0, .int 0, .int 0, .null, .null, .null, .int 0]) hh dX6_init_9 fl228 rfl ⟨_, ⟨_, rfl, rfl⟩, rfl⟩ rfl rfl (Nat.le_of_ble_eq_true rfl) rfl (by decide) (fun h hh => ?_)
  refine rw_aload_n dX6_init_12 0 rfl rfl ?_
  refine rw_bipush (v := 42) dX6_init_13 (by decide) ?_
  refine hx_newarr (ti := 0) (ty := .int) (N := 42) (a0 := (42, .inl (fun _ => 0))) hh dX6_init_15 rfl rfl wm162 (fun _ => rfl) (by decide) (by decide) (by decide) (by decide) (by decide) (fun q2 h hh => ?_)
  replace hh := hh.swap
  refine hx_putF (v := .ref q2) (fs2 := [.ref q1, .ref q2, .null, .null, .int 0, .int 0, .int 0, .null, .null, .null, .int 0]) hh dX6_init_17 fl231 rfl ⟨_, ⟨_, rfl, rfl⟩, rfl⟩ rfl rfl (Nat.le_of_ble_eq_true rfl) rfl (by decide) (fun h hh => ?_)
  refine rw_aload_n dX6_init_20 0 rfl rfl ?_
  refine rw_bipush (v := 42) dX6_init_21 (by decide) ?_
  refine hx_newarr (ti := 3) (ty := .boolean) (N := 42) (a0 := (42, .inl (fun _ => 0))) hh dX6_init_23 rfl rfl wm275 (fun _ => rfl) (by decide) (by decide) (by decide) (by decide) (by decide) (fun q3 h hh => ?_)
  replace hh := hh.swap
  refine hx_putF (v := .ref q3) (fs2 := [.ref q1, .ref q2, .ref q3, .null, .int 0, .int 0, .int 0, .null, .null, .null, .int 0]) hh dX6_init_25 fl234 rfl ⟨_, ⟨_, rfl, rfl⟩, rfl⟩ rfl rfl (Nat.le_of_ble_eq_true rfl) rfl (by decide) (fun h hh => ?_)
  refine rw_aload_n dX6_init_28 0 rfl rfl ?_
  refine rw_bipush (v := 27) dX6_init_29 (by decide) ?_
  refine hx_newarr (ti := 0) (ty := .int) (N := 27) (a0 := (27, .inl (fun _ => 0))) hh dX6_init_31 rfl rfl wm162 (fun _ => rfl) (by decide) (by decide) (by decide) (by decide) (by decide) (fun q4 h hh => ?_)
  replace hh := hh.swap
  refine hx_putF (v := .ref q4) (fs2 := [.ref q1, .ref q2, .ref q3, .ref q4, .int 0, .int 0, .int 0, .null, .null, .null, .int 0]) hh dX6_init_33 fl237 rfl ⟨_, ⟨_, rfl, rfl⟩, rfl⟩ rfl rfl (Nat.le_of_ble_eq_true rfl) rfl (by decide) (fun h hh => ?_)
  refine rw_aload_n dX6_init_36 0 rfl rfl ?_
  refine rw_bipush (v := 120) dX6_init_37 (by decide) ?_
  refine hx_newarr (ti := 0) (ty := .int) (N := 120) (a0 := (120, .inl (fun _ => 0))) hh dX6_init_39 rfl rfl wm162 (fun _ => rfl) (by decide) (by decide) (by decide) (by decide) (by decide) (fun q5 h hh => ?_)
  replace hh := hh.swap
  refine hx_putF (v := .ref q5) (fs2 := [.ref q1, .ref q2, .ref q3, .ref q4, .int 0, .int 0, .int 0, .ref q5, .null, .null, .int 0]) hh dX6_init_41 fl248 rfl ⟨_, ⟨_, rfl, rfl⟩, rfl⟩ rfl rfl (Nat.le_of_ble_eq_true rfl) rfl (by decide) (fun h hh => ?_)
  refine rw_aload_n dX6_init_44 0 rfl rfl ?_
  refine rw_sipush (v := 256) dX6_init_45 (by decide) ?_
  refine hx_newarr (ti := 0) (ty := .int) (N := 256) (a0 := (256, .inl (fun _ => 0))) hh dX6_init_48 rfl rfl wm162 (fun _ => rfl) (by decide) (by decide) (by decide) (by decide) (by decide) (fun q6 h hh => ?_)
  replace hh := hh.swap
  refine hx_putF (v := .ref q6) (fs2 := [.ref q1, .ref q2, .ref q3, .ref q4, .int 0, .int 0, .int 0, .ref q5, .ref q6, .null, .int 0]) hh dX6_init_50 fl249 rfl ⟨_, ⟨_, rfl, rfl⟩, rfl⟩ rfl rfl (Nat.le_of_ble_eq_true rfl) rfl (by decide) (fun h hh => ?_)
  refine rw_aload_n dX6_init_53 0 rfl rfl ?_
  refine rw_bipush (v := 81) dX6_init_54 (by decide) ?_
  refine hx_newarr (ti := 0) (ty := .int) (N := 81) (a0 := (81, .inl (fun _ => 0))) hh dX6_init_56 rfl rfl wm162 (fun _ => rfl) (by decide) (by decide) (by decide) (by decide) (by decide) (fun q7 h hh => ?_)
  replace hh := hh.swap
  refine hx_putF (v := .ref q7) (fs2 := [.ref q1, .ref q2, .ref q3, .ref q4, .int 0, .int 0, .int 0, .ref q5, .ref q6, .ref q7, .int 0]) hh dX6_init_58 fl250 rfl ⟨_, ⟨_, rfl, rfl⟩, rfl⟩ rfl rfl (Nat.le_of_ble_eq_true rfl) rfl (by decide) (fun h hh => ?_)
  exact rw_return dX6_init_61 rfl ⟨rfl, q1, q2, q3, q4, q5, q6, q7, hh⟩ (by decide) (by decide)
set_option maxHeartbeats 4000000 in
theorem inX5 {G : rG} {b : Nat} {L : List (Nat × va_E)} {h : rH} (hh : Has ((b, .inr (5, [.null, .null, .null, .int 0, .null, .null, .null])) :: L) h) : rMT G mX5_init (rm 1 6 1267) [.ref b] h (fun v h2 => v = none ∧ ∃ q1 : Nat, ∃ q2 : Nat, ∃ q3 : Nat, ∃ q4 : Nat, ∃ q5 : Nat, ∃ q6 : Nat, Has ((b, .inr (5, [.ref q1, .ref q2, .ref q3, .int 0, .ref q4, .ref q5, .ref q6])) :: (q6, .inl (G.2.1 0, 169, .inl (fun _ => 0))) :: (q5, .inl (G.2.1 0, 504, .inl (fun _ => 0))) :: (q4, .inl (G.2.1 0, 504, .inl (fun _ => 0))) :: (q3, .inl (G.2.1 0, 24, .inl (fun _ => 0))) :: (q2, .inl (G.2.1 0, 24, .inl (fun _ => 0))) :: (q1, .inl (G.2.1 0, 42, .inl (fun _ => 0))) :: L) h2) xN := by
  refine rw_met (by decide +kernel) rfl (Nat.le_of_ble_eq_true rfl) ?_
  show RW G _ _ _ _ 0 0 0 [(0, .ref b)] [] h
  refine rw_aload_n dX5_init_0 0 rfl rfl ?_
  refine rw_objInit dX5_init_1 wm281 wm100 wm101 (by decide) (Nat.le_of_ble_eq_true rfl) ?_
  refine rw_aload_n dX5_init_4 0 rfl rfl ?_
  refine rw_bipush (v := 42) dX5_init_5 (by decide) ?_
  refine hx_newarr (ti := 0) (ty := .int) (N := 42) (a0 := (42, .inl (fun _ => 0))) hh dX5_init_7 rfl rfl wm162 (fun _ => rfl) (by decide) (by decide) (by decide) (by decide) (by decide) (fun q1 h hh => ?_)
  replace hh := hh.swap
  refine hx_putF (v := .ref q1) (fs2 := [.ref q1, .null, .null, .int 0, .null, .null, .null]) hh dX5_init_9 fl282 rfl ⟨_, ⟨_, rfl, rfl⟩, rfl⟩ rfl rfl (Nat.le_of_ble_eq_true rfl) rfl (by decide) (fun h hh => ?_)
  refine rw_aload_n dX5_init_12 0 rfl rfl ?_
  refine rw_bipush (v := 24) dX5_init_13 (by decide) ?_
  refine hx_newarr (ti := 0) (ty := .int) (N := 24) (a0 := (24, .inl (fun _ => 0))) hh dX5_init_15 rfl rfl wm162 (fun _ => rfl) (by decide) (by decide) (by decide) (by decide) (by decide) (fun q2 h hh => ?_)
  replace hh := hh.swap
  refine hx_putF (v := .ref q2) (fs2 := [.ref q1, .ref q2, .null, .int 0, .null, .null, .null]) hh dX5_init_17 fl284 rfl ⟨_, ⟨_, rfl, rfl⟩, rfl⟩ rfl rfl (Nat.le_of_ble_eq_true rfl) rfl (by decide) (fun h hh => ?_)
  refine rw_aload_n dX5_init_20 0 rfl rfl ?_
  refine rw_bipush (v := 24) dX5_init_21 (by decide) ?_
  refine hx_newarr (ti := 0) (ty := .int) (N := 24) (a0 := (24, .inl (fun _ => 0))) hh dX5_init_23 rfl rfl wm162 (fun _ => rfl) (by decide) (by decide) (by decide) (by decide) (by decide) (fun q3 h hh => ?_)
  replace hh := hh.swap
  refine hx_putF (v := .ref q3) (fs2 := [.ref q1, .ref q2, .ref q3, .int 0, .null, .null, .null]) hh dX5_init_25 fl286 rfl ⟨_, ⟨_, rfl, rfl⟩, rfl⟩ rfl rfl (Nat.le_of_ble_eq_true rfl) rfl (by decide) (fun h hh => ?_)
  refine rw_aload_n dX5_init_28 0 rfl rfl ?_
  refine rw_sipush (v := 504) dX5_init_29 (by decide) ?_
  refine hx_newarr (ti := 0) (ty := .int) (N := 504) (a0 := (504, .inl (fun _ => 0))) hh dX5_init_32 rfl rfl wm162 (fun _ => rfl) (by decide) (by decide) (by decide) (by decide) (by decide) (fun q4 h hh => ?_)
  replace hh := hh.swap
  refine hx_putF (v := .ref q4) (fs2 := [.ref q1, .ref q2, .ref q3, .int 0, .ref q4, .null, .null]) hh dX5_init_34 fl290 rfl ⟨_, ⟨_, rfl, rfl⟩, rfl⟩ rfl rfl (Nat.le_of_ble_eq_true rfl) rfl (by decide) (fun h hh => ?_)
  refine rw_aload_n dX5_init_37 0 rfl rfl ?_
  refine rw_sipush (v := 504) dX5_init_38 (by decide) ?_
  refine hx_newarr (ti := 0) (ty := .int) (N := 504) (a0 := (504, .inl (fun _ => 0))) hh dX5_init_41 rfl rfl wm162 (fun _ => rfl) (by decide) (by decide) (by decide) (by decide) (by decide) (fun q5 h hh => ?_)
  replace hh := hh.swap
  refine hx_putF (v := .ref q5) (fs2 := [.ref q1, .ref q2, .ref q3, .int 0, .ref q4, .ref q5, .null]) hh dX5_init_43 fl291 rfl ⟨_, ⟨_, rfl, rfl⟩, rfl⟩ rfl rfl (Nat.le_of_ble_eq_true rfl) rfl (by decide) (fun h hh => ?_)
  refine rw_aload_n dX5_init_46 0 rfl rfl ?_
  refine rw_sipush (v := 169) dX5_init_47 (by decide) ?_
  refine hx_newarr (ti := 0) (ty := .int) (N := 169) (a0 := (169, .inl (fun _ => 0))) hh dX5_init_50 rfl rfl wm162 (fun _ => rfl) (by decide) (by decide) (by decide) (by decide) (by decide) (fun q6 h hh => ?_)
  replace hh := hh.swap
  refine hx_putF (v := .ref q6) (fs2 := [.ref q1, .ref q2, .ref q3, .int 0, .ref q4, .ref q5, .ref q6]) hh dX5_init_52 fl292 rfl ⟨_, ⟨_, rfl, rfl⟩, rfl⟩ rfl rfl (Nat.le_of_ble_eq_true rfl) rfl (by decide) (fun h hh => ?_)
  exact rw_return dX5_init_55 rfl ⟨rfl, q1, q2, q3, q4, q5, q6, hh⟩ (by decide) (by decide)
set_option maxHeartbeats 4000000 in
theorem inX0 {G : rG} {b : Nat} {L : List (Nat × va_E)} {h : rH} (hh : Has ((b, .inr (1, [.null, .null, .null, .null, .null, .int 0, .null, .null, .null, .int 0])) :: L) h) : rMT G mX0_init (rm 1 8 1536) [.ref b] h (fun v h2 => v = none ∧ ∃ q1 : Nat, ∃ q2 : Nat, ∃ q3 : Nat, ∃ q4 : Nat, ∃ q5 : Nat, ∃ q6 : Nat, ∃ q7 : Nat, ∃ q8 : Nat, Has ((b, .inr (1, [.ref q1, .ref q2, .ref q3, .ref q4, .ref q5, .int 0, .ref q6, .ref q7, .ref q8, .int 0])) :: (q8, .inl (G.2.1 0, 192, .inl (fun _ => 0))) :: (q7, .inl (G.2.1 0, 192, .inl (fun _ => 0))) :: (q6, .inl (G.2.1 0, 192, .inl (fun _ => 0))) :: (q5, .inl (G.2.1 0, 192, .inl (fun _ => 0))) :: (q4, .inl (G.2.1 0, 192, .inl (fun _ => 0))) :: (q3, .inl (G.2.1 0, 192, .inl (fun _ => 0))) :: (q2, .inl (G.2.1 0, 192, .inl (fun _ => 0))) :: (q1, .inl (G.2.1 0, 192, .inl (fun _ => 0))) :: L) h2) xN := by
  refine rw_met (by decide +kernel) rfl (Nat.le_of_ble_eq_true rfl) ?_
  show RW G _ _ _ _ 0 0 0 [(0, .ref b)] [] h
  refine rw_aload_n dX0_init_0 0 rfl rfl ?_
  refine rw_objInit dX0_init_1 wm313 wm100 wm101 (by decide) (Nat.le_of_ble_eq_true rfl) ?_
  refine rw_aload_n dX0_init_4 0 rfl rfl ?_
  refine rw_sipush (v := 192) dX0_init_5 (by decide) ?_
  refine hx_newarr (ti := 0) (ty := .int) (N := 192) (a0 := (192, .inl (fun _ => 0))) hh dX0_init_8 rfl rfl wm162 (fun _ => rfl) (by decide) (by decide) (by decide) (by decide) (by decide) (fun q1 h hh => ?_)
  replace hh := hh.swap
  refine hx_putF (v := .ref q1) (fs2 := [.ref q1, .null, .null, .null, .null, .int 0, .null, .null, .null, .int 0]) hh dX0_init_10 fl314 rfl ⟨_, ⟨_, rfl, rfl⟩, rfl⟩ rfl rfl (Nat.le_of_ble_eq_true rfl) rfl (by decide) (fun h hh => ?_)
  refine rw_aload_n dX0_init_13 0 rfl rfl ?_
  refine rw_sipush (v := 192) dX0_init_14 (by decide) ?_
  refine hx_newarr (ti := 0) (ty := .int) (N := 192) (a0 := (192, .inl (fun _ => 0))) hh dX0_init_17 rfl rfl wm162 (fun _ => rfl) (by decide) (by decide) (by decide) (by decide) (by decide) (fun q2 h hh => ?_)
  replace hh := hh.swap
  refine hx_putF (v := .ref q2) (fs2 := [.ref q1, .ref q2, .null, .null, .null, .int 0, .null, .null, .null, .int 0]) hh dX0_init_19 fl316 rfl ⟨_, ⟨_, rfl, rfl⟩, rfl⟩ rfl rfl (Nat.le_of_ble_eq_true rfl) rfl (by decide) (fun h hh => ?_)
  refine rw_aload_n dX0_init_22 0 rfl rfl ?_
  refine rw_sipush (v := 192) dX0_init_23 (by decide) ?_
  refine hx_newarr (ti := 0) (ty := .int) (N := 192) (a0 := (192, .inl (fun _ => 0))) hh dX0_init_26 rfl rfl wm162 (fun _ => rfl) (by decide) (by decide) (by decide) (by decide) (by decide) (fun q3 h hh => ?_)
  replace hh := hh.swap
  refine hx_putF (v := .ref q3) (fs2 := [.ref q1, .ref q2, .ref q3, .null, .null, .int 0, .null, .null, .null, .int 0]) hh dX0_init_28 fl318 rfl ⟨_, ⟨_, rfl, rfl⟩, rfl⟩ rfl rfl (Nat.le_of_ble_eq_true rfl) rfl (by decide) (fun h hh => ?_)
  refine rw_aload_n dX0_init_31 0 rfl rfl ?_
  refine rw_sipush (v := 192) dX0_init_32 (by decide) ?_
  refine hx_newarr (ti := 0) (ty := .int) (N := 192) (a0 := (192, .inl (fun _ => 0))) hh dX0_init_35 rfl rfl wm162 (fun _ => rfl) (by decide) (by decide) (by decide) (by decide) (by decide) (fun q4 h hh => ?_)
  replace hh := hh.swap
  refine hx_putF (v := .ref q4) (fs2 := [.ref q1, .ref q2, .ref q3, .ref q4, .null, .int 0, .null, .null, .null, .int 0]) hh dX0_init_37 fl320 rfl ⟨_, ⟨_, rfl, rfl⟩, rfl⟩ rfl rfl (Nat.le_of_ble_eq_true rfl) rfl (by decide) (fun h hh => ?_)
  refine rw_aload_n dX0_init_40 0 rfl rfl ?_
  refine rw_sipush (v := 192) dX0_init_41 (by decide) ?_
  refine hx_newarr (ti := 0) (ty := .int) (N := 192) (a0 := (192, .inl (fun _ => 0))) hh dX0_init_44 rfl rfl wm162 (fun _ => rfl) (by decide) (by decide) (by decide) (by decide) (by decide) (fun q5 h hh => ?_)
  replace hh := hh.swap
  refine hx_putF (v := .ref q5) (fs2 := [.ref q1, .ref q2, .ref q3, .ref q4, .ref q5, .int 0, .null, .null, .null, .int 0]) hh dX0_init_46 fl322 rfl ⟨_, ⟨_, rfl, rfl⟩, rfl⟩ rfl rfl (Nat.le_of_ble_eq_true rfl) rfl (by decide) (fun h hh => ?_)
  refine rw_aload_n dX0_init_49 0 rfl rfl ?_
  refine rw_sipush (v := 192) dX0_init_50 (by decide) ?_
  refine hx_newarr (ti := 0) (ty := .int) (N := 192) (a0 := (192, .inl (fun _ => 0))) hh dX0_init_53 rfl rfl wm162 (fun _ => rfl) (by decide) (by decide) (by decide) (by decide) (by decide) (fun q6 h hh => ?_)
  replace hh := hh.swap
  refine hx_putF (v := .ref q6) (fs2 := [.ref q1, .ref q2, .ref q3, .ref q4, .ref q5, .int 0, .ref q6, .null, .null, .int 0]) hh dX0_init_55 fl326 rfl ⟨_, ⟨_, rfl, rfl⟩, rfl⟩ rfl rfl (Nat.le_of_ble_eq_true rfl) rfl (by decide) (fun h hh => ?_)
  refine rw_aload_n dX0_init_58 0 rfl rfl ?_
  refine rw_sipush (v := 192) dX0_init_59 (by decide) ?_
  refine hx_newarr (ti := 0) (ty := .int) (N := 192) (a0 := (192, .inl (fun _ => 0))) hh dX0_init_62 rfl rfl wm162 (fun _ => rfl) (by decide) (by decide) (by decide) (by decide) (by decide) (fun q7 h hh => ?_)
  replace hh := hh.swap
  refine hx_putF (v := .ref q7) (fs2 := [.ref q1, .ref q2, .ref q3, .ref q4, .ref q5, .int 0, .ref q6, .ref q7, .null, .int 0]) hh dX0_init_64 fl327 rfl ⟨_, ⟨_, rfl, rfl⟩, rfl⟩ rfl rfl (Nat.le_of_ble_eq_true rfl) rfl (by decide) (fun h hh => ?_)
  refine rw_aload_n dX0_init_67 0 rfl rfl ?_
  refine rw_sipush (v := 192) dX0_init_68 (by decide) ?_
  refine hx_newarr (ti := 0) (ty := .int) (N := 192) (a0 := (192, .inl (fun _ => 0))) hh dX0_init_71 rfl rfl wm162 (fun _ => rfl) (by decide) (by decide) (by decide) (by decide) (by decide) (fun q8 h hh => ?_)
  replace hh := hh.swap
  refine hx_putF (v := .ref q8) (fs2 := [.ref q1, .ref q2, .ref q3, .ref q4, .ref q5, .int 0, .ref q6, .ref q7, .ref q8, .int 0]) hh dX0_init_73 fl328 rfl ⟨_, ⟨_, rfl, rfl⟩, rfl⟩ rfl rfl (Nat.le_of_ble_eq_true rfl) rfl (by decide) (fun h hh => ?_)
  exact rw_return dX0_init_76 rfl ⟨rfl, q1, q2, q3, q4, q5, q6, q7, q8, hh⟩ (by decide) (by decide)
set_option maxHeartbeats 4000000 in
theorem inX9 {G : rG} {b : Nat} {L : List (Nat × va_E)} {h : rH} (hh : Has ((b, .inr (9, [.long 0, .long 0, .null, .int 0, .null, .null, .int 0])) :: L) h) : rMT G mX9_init (rm 2 3 110) [.ref b] h (fun v h2 => v = none ∧ ∃ q1 : Nat, ∃ q2 : Nat, ∃ q3 : Nat, Has ((b, .inr (9, [.long 0, .long 0, .ref q1, .int 0, .ref q2, .ref q3, .int 0])) :: (q3, .inl (G.2.1 0, 81, .inl (fun _ => 0))) :: (q2, .inl (G.2.1 0, 27, .inl (fun _ => 0))) :: (q1, .inr (7, [.int 0, .int 0])) :: L) h2) xN := by
  refine rw_met (by decide +kernel) rfl (Nat.le_of_ble_eq_true rfl) ?_
  show RW G _ _ _ _ 0 0 0 [(0, .ref b)] [] h
  refine rw_aload_n dX9_init_0 0 rfl rfl ?_
  refine rw_objInit dX9_init_1 wm356 wm100 wm101 (by decide) (Nat.le_of_ble_eq_true rfl) ?_
  refine rw_aload_n dX9_init_4 0 rfl rfl ?_
  refine hx_new (ci := 7) (fs := [.int 0, .int 0]) hh dX9_init_5 clsX7 wm357 wm116 wm65 (fun j hj => match j, hj with | 0, _ => rfl | 1, _ => rfl | j + 2, hj => absurd hj (by omega)) (by decide) (by decide) (fun q1 h hh => ?_)
  refine rw_dup dX9_init_8 rfl ?_
  refine hx_callIN (As := []) (st := [.ref q1, .ref b]) dX9_init_9 calX7_init rfl rfl wm358 wm118 rfl rfl (Nat.le_of_ble_eq_true rfl) ⟨⟨by decide, by decide⟩, by decide, by decide⟩ (inX7 hh) (fun h hh => ?_)
  replace hh := Has.mid (N := (q1, .inr (7, [.int 0, .int 0])) :: []) hh
  refine hx_putF (v := .ref q1) (fs2 := [.long 0, .long 0, .ref q1, .int 0, .null, .null, .int 0]) hh dX9_init_12 fl363 rfl ⟨_, ⟨_, rfl, rfl⟩, rfl⟩ rfl rfl (Nat.le_of_ble_eq_true rfl) rfl (by decide) (fun h hh => ?_)
  refine rw_aload_n dX9_init_15 0 rfl rfl ?_
  refine rw_bipush (v := 27) dX9_init_16 (by decide) ?_
  refine hx_newarr (ti := 0) (ty := .int) (N := 27) (a0 := (27, .inl (fun _ => 0))) hh dX9_init_18 rfl rfl wm162 (fun _ => rfl) (by decide) (by decide) (by decide) (by decide) (by decide) (fun q2 h hh => ?_)
  replace hh := hh.swap
  refine hx_putF (v := .ref q2) (fs2 := [.long 0, .long 0, .ref q1, .int 0, .ref q2, .null, .int 0]) hh dX9_init_20 fl365 rfl ⟨_, ⟨_, rfl, rfl⟩, rfl⟩ rfl rfl (Nat.le_of_ble_eq_true rfl) rfl (by decide) (fun h hh => ?_)
  refine rw_aload_n dX9_init_23 0 rfl rfl ?_
  refine rw_bipush (v := 81) dX9_init_24 (by decide) ?_
  refine hx_newarr (ti := 0) (ty := .int) (N := 81) (a0 := (81, .inl (fun _ => 0))) hh dX9_init_26 rfl rfl wm162 (fun _ => rfl) (by decide) (by decide) (by decide) (by decide) (by decide) (fun q3 h hh => ?_)
  replace hh := hh.swap
  refine hx_putF (v := .ref q3) (fs2 := [.long 0, .long 0, .ref q1, .int 0, .ref q2, .ref q3, .int 0]) hh dX9_init_28 fl366 rfl ⟨_, ⟨_, rfl, rfl⟩, rfl⟩ rfl rfl (Nat.le_of_ble_eq_true rfl) rfl (by decide) (fun h hh => ?_)
  exact rw_return dX9_init_31 rfl ⟨rfl, q1, q2, q3, hh⟩ (by decide) (by decide)
set_option maxHeartbeats 4000000 in
theorem inX8 {G : rG} {b : Nat} {L : List (Nat × va_E)} {h : rH} (hh : Has ((b, .inr (8, [.null, .int 0, .int 0, .int 0, .int 0, .int 0])) :: L) h) : rMT G mX8_init (rm 1 1 600) [.ref b] h (fun v h2 => v = none ∧ ∃ q1 : Nat, Has ((b, .inr (8, [.ref q1, .int 0, .int 0, .int 0, .int 0, .int 0])) :: (q1, .inl (G.2.1 2, 600, .inl (fun _ => 0))) :: L) h2) xN := by
  refine rw_met (by decide +kernel) rfl (Nat.le_of_ble_eq_true rfl) ?_
  show RW G _ _ _ _ 0 0 0 [(0, .ref b)] [] h
  refine rw_aload_n dX8_init_0 0 rfl rfl ?_
  refine rw_objInit dX8_init_1 wm388 wm100 wm101 (by decide) (Nat.le_of_ble_eq_true rfl) ?_
  refine rw_aload_n dX8_init_4 0 rfl rfl ?_
  refine rw_sipush (v := 600) dX8_init_5 (by decide) ?_
  refine hx_newarr (ti := 2) (ty := .char) (N := 600) (a0 := (600, .inl (fun _ => 0))) hh dX8_init_8 rfl rfl wm408 (fun _ => rfl) (by decide) (by decide) (by decide) (by decide) (by decide) (fun q1 h hh => ?_)
  replace hh := hh.swap
  refine hx_putF (v := .ref q1) (fs2 := [.ref q1, .int 0, .int 0, .int 0, .int 0, .int 0]) hh dX8_init_10 fl389 rfl ⟨_, ⟨_, rfl, rfl⟩, rfl⟩ rfl rfl (Nat.le_of_ble_eq_true rfl) rfl (by decide) (fun h hh => ?_)
  exact rw_return dX8_init_13 rfl ⟨rfl, q1, hh⟩ (by decide) (by decide)
