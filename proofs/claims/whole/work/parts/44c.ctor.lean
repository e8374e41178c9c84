set_option maxHeartbeats 4000000 in
theorem inX12 {G : rG} {b : Nat} {L : List (Nat × va_E)} {h : rH} (hh : Has ((b, .inr (12, [.int 0, .int 0, .int 0, .null, .null, .null, .null, .null, .null, .null, .int 0, .null, .int 0, .int 0, .int 0, .null, .int 0, .null, .null, .null, .null, .null, .null, .int 0, .null, .int 0, .null, .null, .null, .long 0, .long 0, .int 0, .null, .int 0, .null, .null, .null, .int 0, .null, .int 0, .null, .null, .null, .null, .null, .null])) :: L) h) : rMT G mX12_init (rm 1 30 8125) [.ref b] h (fun v h2 => v = none ∧ ∃ q1 : Nat, ∃ q2 : Nat, ∃ q3 : Nat, ∃ q4 : Nat, ∃ q5 : Nat, ∃ q6 : Nat, ∃ q7 : Nat, ∃ q8 : Nat, ∃ q9 : Nat, ∃ q10 : Nat, ∃ q11 : Nat, ∃ q12 : Nat, ∃ q13 : Nat, ∃ q14 : Nat, ∃ q15 : Nat, ∃ q16 : Nat, ∃ q17 : Nat, ∃ q18 : Nat, ∃ q19 : Nat, ∃ q20 : Nat, ∃ q21 : Nat, ∃ q22 : Nat, ∃ q23 : Nat, ∃ q24 : Nat, ∃ q25 : Nat, ∃ q26 : Nat, ∃ q27 : Nat, ∃ q28 : Nat, ∃ q29 : Nat, ∃ q30 : Nat, Has ((b, .inr (12, [.int 0, .int 0, .int 0, .ref q1, .ref q2, .ref q3, .ref q4, .ref q5, .ref q6, .ref q7, .int 0, .ref q8, .int 50, .int 0, .int 0, .ref q9, .int 0, .ref q10, .ref q11, .ref q12, .ref q13, .ref q14, .ref q15, .int 0, .ref q16, .int 0, .ref q17, .ref q18, .ref q19, .long 0, .long 0, .int 0, .ref q20, .int 0, .ref q21, .ref q22, .ref q23, .int 0, .ref q24, .int 0, .ref q25, .ref q26, .ref q27, .ref q28, .ref q29, .ref q30])) :: (q30, .inl (G.2.1 0, 192, .inl (fun _ => 0))) :: (q29, .inl (G.2.1 0, 192, .inl (fun _ => 0))) :: (q28, .inl (G.2.1 0, 16, .inl (fun _ => 0))) :: (q27, .inl (G.2.1 0, 16, .inl (fun _ => 0))) :: (q26, .inl (G.2.1 0, 16, .inl (fun _ => 0))) :: (q25, .inl (G.2.1 0, 16, .inl (fun _ => 0))) :: (q24, .inl (G.2.1 2, 200, .inl (fun _ => 0))) :: (q23, .inl (G.2.1 0, 600, .inl (fun _ => 0))) :: (q22, .inl (G.2.1 0, 600, .inl (fun _ => 0))) :: (q21, .inl (G.2.1 0, 600, .inl (fun _ => 0))) :: (q20, .inl (G.2.1 0, 600, .inl (fun _ => 0))) :: (q19, .inl (G.2.1 0, 169, .inl (fun _ => 0))) :: (q18, .inl (G.2.1 0, 192, .inl (fun _ => 0))) :: (q17, .inl (G.2.1 0, 192, .inl (fun _ => 0))) :: (q16, .inl (G.2.1 0, 1680, .inl (fun _ => 0))) :: (q15, .inl (G.2.1 0, 120, .inl (fun _ => 0))) :: (q14, .inl (G.2.1 0, 1440, .inl (fun _ => 0))) :: (q13, .inl (G.2.1 0, 256, .inl (fun _ => 0))) :: (q12, .inl (G.2.1 3, 120, .inl (fun _ => 0))) :: (q11, .inl (G.2.1 0, 120, .inl (fun _ => 0))) :: (q10, .inl (G.2.1 0, 120, .inl (fun _ => 0))) :: (q9, .inl (G.2.1 0, 180, .inl (fun _ => 0))) :: (q8, .inl (G.2.1 0, 32, .inl (fun _ => 0))) :: (q7, .inl (G.2.1 0, 8, .inl (fun _ => 0))) :: (q6, .inl (G.2.1 0, 192, .inl (fun _ => 0))) :: (q5, .inl (G.2.1 0, 192, .inl (fun _ => 0))) :: (q4, .inl (G.2.1 0, 16, .inl (fun _ => 0))) :: (q3, .inl (G.2.1 0, 16, .inl (fun _ => 0))) :: (q2, .inl (G.2.1 0, 16, .inl (fun _ => 0))) :: (q1, .inl (G.2.1 0, 16, .inl (fun _ => 0))) :: L) h2) xN := by
  refine rw_met (by decide +kernel) rfl (Nat.le_of_ble_eq_true rfl) ?_
  show RW G _ _ _ _ 0 0 0 [(0, .ref b)] [] h
  refine rw_aload_n dX12_init_0 0 rfl rfl ?_
  refine rw_objInit dX12_init_1 wm1461 wm100 wm101 (by decide) (Nat.le_of_ble_eq_true rfl) ?_
  refine rw_aload_n dX12_init_4 0 rfl rfl ?_
  refine rw_bipush (v := 16) dX12_init_5 (by decide) ?_
  refine hx_newarr (ti := 0) (ty := .int) (N := 16) (a0 := (16, .inl (fun _ => 0))) hh dX12_init_7 rfl rfl wm162 (fun _ => rfl) (by decide) (by decide) (by decide) (by decide) (by decide) (fun q1 h hh => ?_)
  replace hh := hh.swap
  refine hx_putF (v := .ref q1) (fs2 := [.int 0, .int 0, .int 0, .ref q1, .null, .null, .null, .null, .null, .null, .int 0, .null, .int 0, .int 0, .int 0, .null, .int 0, .null, .null, .null, .null, .null, .null, .int 0, .null, .int 0, .null, .null, .null, .long 0, .long 0, .int 0, .null, .int 0, .null, .null, .null, .int 0, .null, .int 0, .null, .null, .null, .null, .null, .null]) hh dX12_init_9 fl1465 rfl ⟨_, ⟨_, rfl, rfl⟩, rfl⟩ rfl rfl (Nat.le_of_ble_eq_true rfl) rfl (by decide) (fun h hh => ?_)
  refine rw_aload_n dX12_init_12 0 rfl rfl ?_
  refine rw_bipush (v := 16) dX12_init_13 (by decide) ?_
  refine hx_newarr (ti := 0) (ty := .int) (N := 16) (a0 := (16, .inl (fun _ => 0))) hh dX12_init_15 rfl rfl wm162 (fun _ => rfl) (by decide) (by decide) (by decide) (by decide) (by decide) (fun q2 h hh => ?_)
  replace hh := hh.swap
  refine hx_putF (v := .ref q2) (fs2 := [.int 0, .int 0, .int 0, .ref q1, .ref q2, .null, .null, .null, .null, .null, .int 0, .null, .int 0, .int 0, .int 0, .null, .int 0, .null, .null, .null, .null, .null, .null, .int 0, .null, .int 0, .null, .null, .null, .long 0, .long 0, .int 0, .null, .int 0, .null, .null, .null, .int 0, .null, .int 0, .null, .null, .null, .null, .null, .null]) hh dX12_init_17 fl1466 rfl ⟨_, ⟨_, rfl, rfl⟩, rfl⟩ rfl rfl (Nat.le_of_ble_eq_true rfl) rfl (by decide) (fun h hh => ?_)
  refine rw_aload_n dX12_init_20 0 rfl rfl ?_
  refine rw_bipush (v := 16) dX12_init_21 (by decide) ?_
  refine hx_newarr (ti := 0) (ty := .int) (N := 16) (a0 := (16, .inl (fun _ => 0))) hh dX12_init_23 rfl rfl wm162 (fun _ => rfl) (by decide) (by decide) (by decide) (by decide) (by decide) (fun q3 h hh => ?_)
  replace hh := hh.swap
  refine hx_putF (v := .ref q3) (fs2 := [.int 0, .int 0, .int 0, .ref q1, .ref q2, .ref q3, .null, .null, .null, .null, .int 0, .null, .int 0, .int 0, .int 0, .null, .int 0, .null, .null, .null, .null, .null, .null, .int 0, .null, .int 0, .null, .null, .null, .long 0, .long 0, .int 0, .null, .int 0, .null, .null, .null, .int 0, .null, .int 0, .null, .null, .null, .null, .null, .null]) hh dX12_init_25 fl1467 rfl ⟨_, ⟨_, rfl, rfl⟩, rfl⟩ rfl rfl (Nat.le_of_ble_eq_true rfl) rfl (by decide) (fun h hh => ?_)
  refine rw_aload_n dX12_init_28 0 rfl rfl ?_
  refine rw_bipush (v := 16) dX12_init_29 (by decide) ?_
  refine hx_newarr (ti := 0) (ty := .int) (N := 16) (a0 := (16, .inl (fun _ => 0))) hh dX12_init_31 rfl rfl wm162 (fun _ => rfl) (by decide) (by decide) (by decide) (by decide) (by decide) (fun q4 h hh => ?_)
  replace hh := hh.swap
  refine hx_putF (v := .ref q4) (fs2 := [.int 0, .int 0, .int 0, .ref q1, .ref q2, .ref q3, .ref q4, .null, .null, .null, .int 0, .null, .int 0, .int 0, .int 0, .null, .int 0, .null, .null, .null, .null, .null, .null, .int 0, .null, .int 0, .null, .null, .null, .long 0, .long 0, .int 0, .null, .int 0, .null, .null, .null, .int 0, .null, .int 0, .null, .null, .null, .null, .null, .null]) hh dX12_init_33 fl1468 rfl ⟨_, ⟨_, rfl, rfl⟩, rfl⟩ rfl rfl (Nat.le_of_ble_eq_true rfl) rfl (by decide) (fun h hh => ?_)
  refine rw_aload_n dX12_init_36 0 rfl rfl ?_
  refine rw_sipush (v := 192) dX12_init_37 (by decide) ?_
  refine hx_newarr (ti := 0) (ty := .int) (N := 192) (a0 := (192, .inl (fun _ => 0))) hh dX12_init_40 rfl rfl wm162 (fun _ => rfl) (by decide) (by decide) (by decide) (by decide) (by decide) (fun q5 h hh => ?_)
  replace hh := hh.swap
  refine hx_putF (v := .ref q5) (fs2 := [.int 0, .int 0, .int 0, .ref q1, .ref q2, .ref q3, .ref q4, .ref q5, .null, .null, .int 0, .null, .int 0, .int 0, .int 0, .null, .int 0, .null, .null, .null, .null, .null, .null, .int 0, .null, .int 0, .null, .null, .null, .long 0, .long 0, .int 0, .null, .int 0, .null, .null, .null, .int 0, .null, .int 0, .null, .null, .null, .null, .null, .null]) hh dX12_init_42 fl1469 rfl ⟨_, ⟨_, rfl, rfl⟩, rfl⟩ rfl rfl (Nat.le_of_ble_eq_true rfl) rfl (by decide) (fun h hh => ?_)
  refine rw_aload_n dX12_init_45 0 rfl rfl ?_
  refine rw_sipush (v := 192) dX12_init_46 (by decide) ?_
  refine hx_newarr (ti := 0) (ty := .int) (N := 192) (a0 := (192, .inl (fun _ => 0))) hh dX12_init_49 rfl rfl wm162 (fun _ => rfl) (by decide) (by decide) (by decide) (by decide) (by decide) (fun q6 h hh => ?_)
  replace hh := hh.swap
  refine hx_putF (v := .ref q6) (fs2 := [.int 0, .int 0, .int 0, .ref q1, .ref q2, .ref q3, .ref q4, .ref q5, .ref q6, .null, .int 0, .null, .int 0, .int 0, .int 0, .null, .int 0, .null, .null, .null, .null, .null, .null, .int 0, .null, .int 0, .null, .null, .null, .long 0, .long 0, .int 0, .null, .int 0, .null, .null, .null, .int 0, .null, .int 0, .null, .null, .null, .null, .null, .null]) hh dX12_init_51 fl1470 rfl ⟨_, ⟨_, rfl, rfl⟩, rfl⟩ rfl rfl (Nat.le_of_ble_eq_true rfl) rfl (by decide) (fun h hh => ?_)
  refine rw_aload_n dX12_init_54 0 rfl rfl ?_
  refine rw_bipush (v := 8) dX12_init_55 (by decide) ?_
  refine hx_newarr (ti := 0) (ty := .int) (N := 8) (a0 := (8, .inl (fun _ => 0))) hh dX12_init_57 rfl rfl wm162 (fun _ => rfl) (by decide) (by decide) (by decide) (by decide) (by decide) (fun q7 h hh => ?_)
  replace hh := hh.swap
  refine hx_putF (v := .ref q7) (fs2 := [.int 0, .int 0, .int 0, .ref q1, .ref q2, .ref q3, .ref q4, .ref q5, .ref q6, .ref q7, .int 0, .null, .int 0, .int 0, .int 0, .null, .int 0, .null, .null, .null, .null, .null, .null, .int 0, .null, .int 0, .null, .null, .null, .long 0, .long 0, .int 0, .null, .int 0, .null, .null, .null, .int 0, .null, .int 0, .null, .null, .null, .null, .null, .null]) hh dX12_init_59 fl1471 rfl ⟨_, ⟨_, rfl, rfl⟩, rfl⟩ rfl rfl (Nat.le_of_ble_eq_true rfl) rfl (by decide) (fun h hh => ?_)
  refine rw_aload_n dX12_init_62 0 rfl rfl ?_
  refine rw_bipush (v := 32) dX12_init_63 (by decide) ?_
  refine hx_newarr (ti := 0) (ty := .int) (N := 32) (a0 := (32, .inl (fun _ => 0))) hh dX12_init_65 rfl rfl wm162 (fun _ => rfl) (by decide) (by decide) (by decide) (by decide) (by decide) (fun q8 h hh => ?_)
  replace hh := hh.swap
  refine hx_putF (v := .ref q8) (fs2 := [.int 0, .int 0, .int 0, .ref q1, .ref q2, .ref q3, .ref q4, .ref q5, .ref q6, .ref q7, .int 0, .ref q8, .int 0, .int 0, .int 0, .null, .int 0, .null, .null, .null, .null, .null, .null, .int 0, .null, .int 0, .null, .null, .null, .long 0, .long 0, .int 0, .null, .int 0, .null, .null, .null, .int 0, .null, .int 0, .null, .null, .null, .null, .null, .null]) hh dX12_init_67 fl1473 rfl ⟨_, ⟨_, rfl, rfl⟩, rfl⟩ rfl rfl (Nat.le_of_ble_eq_true rfl) rfl (by decide) (fun h hh => ?_)
  refine rw_aload_n dX12_init_70 0 rfl rfl ?_
  refine rw_bipush (v := 50) dX12_init_71 (by decide) ?_
  refine hx_put (v := .int 50) (fs2 := [.int 0, .int 0, .int 0, .ref q1, .ref q2, .ref q3, .ref q4, .ref q5, .ref q6, .ref q7, .int 0, .ref q8, .int 50, .int 0, .int 0, .null, .int 0, .null, .null, .null, .null, .null, .null, .int 0, .null, .int 0, .null, .null, .null, .long 0, .long 0, .int 0, .null, .int 0, .null, .null, .null, .int 0, .null, .int 0, .null, .null, .null, .null, .null, .null]) hh dX12_init_73 fl1474 (by decide) (by decide) (Nat.le_of_ble_eq_true rfl) rfl (by decide) (fun h hh => ?_)
  refine rw_aload_n dX12_init_76 0 rfl rfl ?_
  refine rw_sipush (v := 180) dX12_init_77 (by decide) ?_
  refine hx_newarr (ti := 0) (ty := .int) (N := 180) (a0 := (180, .inl (fun _ => 0))) hh dX12_init_80 rfl rfl wm162 (fun _ => rfl) (by decide) (by decide) (by decide) (by decide) (by decide) (fun q9 h hh => ?_)
  replace hh := hh.swap
  refine hx_putF (v := .ref q9) (fs2 := [.int 0, .int 0, .int 0, .ref q1, .ref q2, .ref q3, .ref q4, .ref q5, .ref q6, .ref q7, .int 0, .ref q8, .int 50, .int 0, .int 0, .ref q9, .int 0, .null, .null, .null, .null, .null, .null, .int 0, .null, .int 0, .null, .null, .null, .long 0, .long 0, .int 0, .null, .int 0, .null, .null, .null, .int 0, .null, .int 0, .null, .null, .null, .null, .null, .null]) hh dX12_init_82 fl1477 rfl ⟨_, ⟨_, rfl, rfl⟩, rfl⟩ rfl rfl (Nat.le_of_ble_eq_true rfl) rfl (by decide) (fun h hh => ?_)
  refine rw_aload_n dX12_init_85 0 rfl rfl ?_
  refine rw_bipush (v := 120) dX12_init_86 (by decide) ?_
  refine hx_newarr (ti := 0) (ty := .int) (N := 120) (a0 := (120, .inl (fun _ => 0))) hh dX12_init_88 rfl rfl wm162 (fun _ => rfl) (by decide) (by decide) (by decide) (by decide) (by decide) (fun q10 h hh => ?_)
  replace hh := hh.swap
  refine hx_putF (v := .ref q10) (fs2 := [.int 0, .int 0, .int 0, .ref q1, .ref q2, .ref q3, .ref q4, .ref q5, .ref q6, .ref q7, .int 0, .ref q8, .int 50, .int 0, .int 0, .ref q9, .int 0, .ref q10, .null, .null, .null, .null, .null, .int 0, .null, .int 0, .null, .null, .null, .long 0, .long 0, .int 0, .null, .int 0, .null, .null, .null, .int 0, .null, .int 0, .null, .null, .null, .null, .null, .null]) hh dX12_init_90 fl1479 rfl ⟨_, ⟨_, rfl, rfl⟩, rfl⟩ rfl rfl (Nat.le_of_ble_eq_true rfl) rfl (by decide) (fun h hh => ?_)
  refine rw_aload_n dX12_init_93 0 rfl rfl ?_
  refine rw_bipush (v := 120) dX12_init_94 (by decide) ?_
  refine hx_newarr (ti := 0) (ty := .int) (N := 120) (a0 := (120, .inl (fun _ => 0))) hh dX12_init_96 rfl rfl wm162 (fun _ => rfl) (by decide) (by decide) (by decide) (by decide) (by decide) (fun q11 h hh => ?_)
  replace hh := hh.swap
  refine hx_putF (v := .ref q11) (fs2 := [.int 0, .int 0, .int 0, .ref q1, .ref q2, .ref q3, .ref q4, .ref q5, .ref q6, .ref q7, .int 0, .ref q8, .int 50, .int 0, .int 0, .ref q9, .int 0, .ref q10, .ref q11, .null, .null, .null, .null, .int 0, .null, .int 0, .null, .null, .null, .long 0, .long 0, .int 0, .null, .int 0, .null, .null, .null, .int 0, .null, .int 0, .null, .null, .null, .null, .null, .null]) hh dX12_init_98 fl1480 rfl ⟨_, ⟨_, rfl, rfl⟩, rfl⟩ rfl rfl (Nat.le_of_ble_eq_true rfl) rfl (by decide) (fun h hh => ?_)
  refine rw_aload_n dX12_init_101 0 rfl rfl ?_
  refine rw_bipush (v := 120) dX12_init_102 (by decide) ?_
  refine hx_newarr (ti := 3) (ty := .boolean) (N := 120) (a0 := (120, .inl (fun _ => 0))) hh dX12_init_104 rfl rfl wm275 (fun _ => rfl) (by decide) (by decide) (by decide) (by decide) (by decide) (fun q12 h hh => ?_)
  replace hh := hh.swap
  refine hx_putF (v := .ref q12) (fs2 := [.int 0, .int 0, .int 0, .ref q1, .ref q2, .ref q3, .ref q4, .ref q5, .ref q6, .ref q7, .int 0, .ref q8, .int 50, .int 0, .int 0, .ref q9, .int 0, .ref q10, .ref q11, .ref q12, .null, .null, .null, .int 0, .null, .int 0, .null, .null, .null, .long 0, .long 0, .int 0, .null, .int 0, .null, .null, .null, .int 0, .null, .int 0, .null, .null, .null, .null, .null, .null]) hh dX12_init_106 fl1481 rfl ⟨_, ⟨_, rfl, rfl⟩, rfl⟩ rfl rfl (Nat.le_of_ble_eq_true rfl) rfl (by decide) (fun h hh => ?_)
  refine rw_aload_n dX12_init_109 0 rfl rfl ?_
  refine rw_sipush (v := 256) dX12_init_110 (by decide) ?_
  refine hx_newarr (ti := 0) (ty := .int) (N := 256) (a0 := (256, .inl (fun _ => 0))) hh dX12_init_113 rfl rfl wm162 (fun _ => rfl) (by decide) (by decide) (by decide) (by decide) (by decide) (fun q13 h hh => ?_)
  replace hh := hh.swap
  refine hx_putF (v := .ref q13) (fs2 := [.int 0, .int 0, .int 0, .ref q1, .ref q2, .ref q3, .ref q4, .ref q5, .ref q6, .ref q7, .int 0, .ref q8, .int 50, .int 0, .int 0, .ref q9, .int 0, .ref q10, .ref q11, .ref q12, .ref q13, .null, .null, .int 0, .null, .int 0, .null, .null, .null, .long 0, .long 0, .int 0, .null, .int 0, .null, .null, .null, .int 0, .null, .int 0, .null, .null, .null, .null, .null, .null]) hh dX12_init_115 fl1482 rfl ⟨_, ⟨_, rfl, rfl⟩, rfl⟩ rfl rfl (Nat.le_of_ble_eq_true rfl) rfl (by decide) (fun h hh => ?_)
  refine rw_aload_n dX12_init_118 0 rfl rfl ?_
  refine rw_sipush (v := 1440) dX12_init_119 (by decide) ?_
  refine hx_newarr (ti := 0) (ty := .int) (N := 1440) (a0 := (1440, .inl (fun _ => 0))) hh dX12_init_122 rfl rfl wm162 (fun _ => rfl) (by decide) (by decide) (by decide) (by decide) (by decide) (fun q14 h hh => ?_)
  replace hh := hh.swap
  refine hx_putF (v := .ref q14) (fs2 := [.int 0, .int 0, .int 0, .ref q1, .ref q2, .ref q3, .ref q4, .ref q5, .ref q6, .ref q7, .int 0, .ref q8, .int 50, .int 0, .int 0, .ref q9, .int 0, .ref q10, .ref q11, .ref q12, .ref q13, .ref q14, .null, .int 0, .null, .int 0, .null, .null, .null, .long 0, .long 0, .int 0, .null, .int 0, .null, .null, .null, .int 0, .null, .int 0, .null, .null, .null, .null, .null, .null]) hh dX12_init_124 fl1483 rfl ⟨_, ⟨_, rfl, rfl⟩, rfl⟩ rfl rfl (Nat.le_of_ble_eq_true rfl) rfl (by decide) (fun h hh => ?_)
  refine rw_aload_n dX12_init_127 0 rfl rfl ?_
  refine rw_bipush (v := 120) dX12_init_128 (by decide) ?_
  refine hx_newarr (ti := 0) (ty := .int) (N := 120) (a0 := (120, .inl (fun _ => 0))) hh dX12_init_130 rfl rfl wm162 (fun _ => rfl) (by decide) (by decide) (by decide) (by decide) (by decide) (fun q15 h hh => ?_)
  replace hh := hh.swap
  refine hx_putF (v := .ref q15) (fs2 := [.int 0, .int 0, .int 0, .ref q1, .ref q2, .ref q3, .ref q4, .ref q5, .ref q6, .ref q7, .int 0, .ref q8, .int 50, .int 0, .int 0, .ref q9, .int 0, .ref q10, .ref q11, .ref q12, .ref q13, .ref q14, .ref q15, .int 0, .null, .int 0, .null, .null, .null, .long 0, .long 0, .int 0, .null, .int 0, .null, .null, .null, .int 0, .null, .int 0, .null, .null, .null, .null, .null, .null]) hh dX12_init_132 fl1484 rfl ⟨_, ⟨_, rfl, rfl⟩, rfl⟩ rfl rfl (Nat.le_of_ble_eq_true rfl) rfl (by decide) (fun h hh => ?_)
  refine rw_aload_n dX12_init_135 0 rfl rfl ?_
  refine rw_sipush (v := 1680) dX12_init_136 (by decide) ?_
  refine hx_newarr (ti := 0) (ty := .int) (N := 1680) (a0 := (1680, .inl (fun _ => 0))) hh dX12_init_139 rfl rfl wm162 (fun _ => rfl) (by decide) (by decide) (by decide) (by decide) (by decide) (fun q16 h hh => ?_)
  replace hh := hh.swap
  refine hx_putF (v := .ref q16) (fs2 := [.int 0, .int 0, .int 0, .ref q1, .ref q2, .ref q3, .ref q4, .ref q5, .ref q6, .ref q7, .int 0, .ref q8, .int 50, .int 0, .int 0, .ref q9, .int 0, .ref q10, .ref q11, .ref q12, .ref q13, .ref q14, .ref q15, .int 0, .ref q16, .int 0, .null, .null, .null, .long 0, .long 0, .int 0, .null, .int 0, .null, .null, .null, .int 0, .null, .int 0, .null, .null, .null, .null, .null, .null]) hh dX12_init_141 fl1486 rfl ⟨_, ⟨_, rfl, rfl⟩, rfl⟩ rfl rfl (Nat.le_of_ble_eq_true rfl) rfl (by decide) (fun h hh => ?_)
  refine rw_aload_n dX12_init_144 0 rfl rfl ?_
  refine rw_sipush (v := 192) dX12_init_145 (by decide) ?_
  refine hx_newarr (ti := 0) (ty := .int) (N := 192) (a0 := (192, .inl (fun _ => 0))) hh dX12_init_148 rfl rfl wm162 (fun _ => rfl) (by decide) (by decide) (by decide) (by decide) (by decide) (fun q17 h hh => ?_)
  replace hh := hh.swap
  refine hx_putF (v := .ref q17) (fs2 := [.int 0, .int 0, .int 0, .ref q1, .ref q2, .ref q3, .ref q4, .ref q5, .ref q6, .ref q7, .int 0, .ref q8, .int 50, .int 0, .int 0, .ref q9, .int 0, .ref q10, .ref q11, .ref q12, .ref q13, .ref q14, .ref q15, .int 0, .ref q16, .int 0, .ref q17, .null, .null, .long 0, .long 0, .int 0, .null, .int 0, .null, .null, .null, .int 0, .null, .int 0, .null, .null, .null, .null, .null, .null]) hh dX12_init_150 fl1488 rfl ⟨_, ⟨_, rfl, rfl⟩, rfl⟩ rfl rfl (Nat.le_of_ble_eq_true rfl) rfl (by decide) (fun h hh => ?_)
  refine rw_aload_n dX12_init_153 0 rfl rfl ?_
  refine rw_sipush (v := 192) dX12_init_154 (by decide) ?_
  refine hx_newarr (ti := 0) (ty := .int) (N := 192) (a0 := (192, .inl (fun _ => 0))) hh dX12_init_157 rfl rfl wm162 (fun _ => rfl) (by decide) (by decide) (by decide) (by decide) (by decide) (fun q18 h hh => ?_)
  replace hh := hh.swap
  refine hx_putF (v := .ref q18) (fs2 := [.int 0, .int 0, .int 0, .ref q1, .ref q2, .ref q3, .ref q4, .ref q5, .ref q6, .ref q7, .int 0, .ref q8, .int 50, .int 0, .int 0, .ref q9, .int 0, .ref q10, .ref q11, .ref q12, .ref q13, .ref q14, .ref q15, .int 0, .ref q16, .int 0, .ref q17, .ref q18, .null, .long 0, .long 0, .int 0, .null, .int 0, .null, .null, .null, .int 0, .null, .int 0, .null, .null, .null, .null, .null, .null]) hh dX12_init_159 fl1489 rfl ⟨_, ⟨_, rfl, rfl⟩, rfl⟩ rfl rfl (Nat.le_of_ble_eq_true rfl) rfl (by decide) (fun h hh => ?_)
  refine rw_aload_n dX12_init_162 0 rfl rfl ?_
  refine rw_sipush (v := 169) dX12_init_163 (by decide) ?_
  refine hx_newarr (ti := 0) (ty := .int) (N := 169) (a0 := (169, .inl (fun _ => 0))) hh dX12_init_166 rfl rfl wm162 (fun _ => rfl) (by decide) (by decide) (by decide) (by decide) (by decide) (fun q19 h hh => ?_)
  replace hh := hh.swap
  refine hx_putF (v := .ref q19) (fs2 := [.int 0, .int 0, .int 0, .ref q1, .ref q2, .ref q3, .ref q4, .ref q5, .ref q6, .ref q7, .int 0, .ref q8, .int 50, .int 0, .int 0, .ref q9, .int 0, .ref q10, .ref q11, .ref q12, .ref q13, .ref q14, .ref q15, .int 0, .ref q16, .int 0, .ref q17, .ref q18, .ref q19, .long 0, .long 0, .int 0, .null, .int 0, .null, .null, .null, .int 0, .null, .int 0, .null, .null, .null, .null, .null, .null]) hh dX12_init_168 fl1490 rfl ⟨_, ⟨_, rfl, rfl⟩, rfl⟩ rfl rfl (Nat.le_of_ble_eq_true rfl) rfl (by decide) (fun h hh => ?_)
  refine rw_aload_n dX12_init_171 0 rfl rfl ?_
  refine rw_sipush (v := 600) dX12_init_172 (by decide) ?_
  refine hx_newarr (ti := 0) (ty := .int) (N := 600) (a0 := (600, .inl (fun _ => 0))) hh dX12_init_175 rfl rfl wm162 (fun _ => rfl) (by decide) (by decide) (by decide) (by decide) (by decide) (fun q20 h hh => ?_)
  replace hh := hh.swap
  refine hx_putF (v := .ref q20) (fs2 := [.int 0, .int 0, .int 0, .ref q1, .ref q2, .ref q3, .ref q4, .ref q5, .ref q6, .ref q7, .int 0, .ref q8, .int 50, .int 0, .int 0, .ref q9, .int 0, .ref q10, .ref q11, .ref q12, .ref q13, .ref q14, .ref q15, .int 0, .ref q16, .int 0, .ref q17, .ref q18, .ref q19, .long 0, .long 0, .int 0, .ref q20, .int 0, .null, .null, .null, .int 0, .null, .int 0, .null, .null, .null, .null, .null, .null]) hh dX12_init_177 fl1494 rfl ⟨_, ⟨_, rfl, rfl⟩, rfl⟩ rfl rfl (Nat.le_of_ble_eq_true rfl) rfl (by decide) (fun h hh => ?_)
  refine rw_aload_n dX12_init_180 0 rfl rfl ?_
  refine rw_sipush (v := 600) dX12_init_181 (by decide) ?_
  refine hx_newarr (ti := 0) (ty := .int) (N := 600) (a0 := (600, .inl (fun _ => 0))) hh dX12_init_184 rfl rfl wm162 (fun _ => rfl) (by decide) (by decide) (by decide) (by decide) (by decide) (fun q21 h hh => ?_)
  replace hh := hh.swap
  refine hx_putF (v := .ref q21) (fs2 := [.int 0, .int 0, .int 0, .ref q1, .ref q2, .ref q3, .ref q4, .ref q5, .ref q6, .ref q7, .int 0, .ref q8, .int 50, .int 0, .int 0, .ref q9, .int 0, .ref q10, .ref q11, .ref q12, .ref q13, .ref q14, .ref q15, .int 0, .ref q16, .int 0, .ref q17, .ref q18, .ref q19, .long 0, .long 0, .int 0, .ref q20, .int 0, .ref q21, .null, .null, .int 0, .null, .int 0, .null, .null, .null, .null, .null, .null]) hh dX12_init_186 fl1496 rfl ⟨_, ⟨_, rfl, rfl⟩, rfl⟩ rfl rfl (Nat.le_of_ble_eq_true rfl) rfl (by decide) (fun h hh => ?_)
  refine rw_aload_n dX12_init_189 0 rfl rfl ?_
  refine rw_sipush (v := 600) dX12_init_190 (by decide) ?_
  refine hx_newarr (ti := 0) (ty := .int) (N := 600) (a0 := (600, .inl (fun _ => 0))) hh dX12_init_193 rfl rfl wm162 (fun _ => rfl) (by decide) (by decide) (by decide) (by decide) (by decide) (fun q22 h hh => ?_)
  replace hh := hh.swap
  refine hx_putF (v := .ref q22) (fs2 := [.int 0, .int 0, .int 0, .ref q1, .ref q2, .ref q3, .ref q4, .ref q5, .ref q6, .ref q7, .int 0, .ref q8, .int 50, .int 0, .int 0, .ref q9, .int 0, .ref q10, .ref q11, .ref q12, .ref q13, .ref q14, .ref q15, .int 0, .ref q16, .int 0, .ref q17, .ref q18, .ref q19, .long 0, .long 0, .int 0, .ref q20, .int 0, .ref q21, .ref q22, .null, .int 0, .null, .int 0, .null, .null, .null, .null, .null, .null]) hh dX12_init_195 fl1497 rfl ⟨_, ⟨_, rfl, rfl⟩, rfl⟩ rfl rfl (Nat.le_of_ble_eq_true rfl) rfl (by decide) (fun h hh => ?_)
  refine rw_aload_n dX12_init_198 0 rfl rfl ?_
  refine rw_sipush (v := 600) dX12_init_199 (by decide) ?_
  refine hx_newarr (ti := 0) (ty := .int) (N := 600) (a0 := (600, .inl (fun _ => 0))) hh dX12_init_202 rfl rfl wm162 (fun _ => rfl) (by decide) (by decide) (by decide) (by decide) (by decide) (fun q23 h hh => ?_)
  replace hh := hh.swap
  refine hx_putF (v := .ref q23) (fs2 := [.int 0, .int 0, .int 0, .ref q1, .ref q2, .ref q3, .ref q4, .ref q5, .ref q6, .ref q7, .int 0, .ref q8, .int 50, .int 0, .int 0, .ref q9, .int 0, .ref q10, .ref q11, .ref q12, .ref q13, .ref q14, .ref q15, .int 0, .ref q16, .int 0, .ref q17, .ref q18, .ref q19, .long 0, .long 0, .int 0, .ref q20, .int 0, .ref q21, .ref q22, .ref q23, .int 0, .null, .int 0, .null, .null, .null, .null, .null, .null]) hh dX12_init_204 fl1498 rfl ⟨_, ⟨_, rfl, rfl⟩, rfl⟩ rfl rfl (Nat.le_of_ble_eq_true rfl) rfl (by decide) (fun h hh => ?_)
  refine rw_aload_n dX12_init_207 0 rfl rfl ?_
  refine rw_sipush (v := 200) dX12_init_208 (by decide) ?_
  refine hx_newarr (ti := 2) (ty := .char) (N := 200) (a0 := (200, .inl (fun _ => 0))) hh dX12_init_211 rfl rfl wm408 (fun _ => rfl) (by decide) (by decide) (by decide) (by decide) (by decide) (fun q24 h hh => ?_)
  replace hh := hh.swap
  refine hx_putF (v := .ref q24) (fs2 := [.int 0, .int 0, .int 0, .ref q1, .ref q2, .ref q3, .ref q4, .ref q5, .ref q6, .ref q7, .int 0, .ref q8, .int 50, .int 0, .int 0, .ref q9, .int 0, .ref q10, .ref q11, .ref q12, .ref q13, .ref q14, .ref q15, .int 0, .ref q16, .int 0, .ref q17, .ref q18, .ref q19, .long 0, .long 0, .int 0, .ref q20, .int 0, .ref q21, .ref q22, .ref q23, .int 0, .ref q24, .int 0, .null, .null, .null, .null, .null, .null]) hh dX12_init_213 fl1500 rfl ⟨_, ⟨_, rfl, rfl⟩, rfl⟩ rfl rfl (Nat.le_of_ble_eq_true rfl) rfl (by decide) (fun h hh => ?_)
  refine rw_aload_n dX12_init_216 0 rfl rfl ?_
  refine rw_bipush (v := 16) dX12_init_217 (by decide) ?_
  refine hx_newarr (ti := 0) (ty := .int) (N := 16) (a0 := (16, .inl (fun _ => 0))) hh dX12_init_219 rfl rfl wm162 (fun _ => rfl) (by decide) (by decide) (by decide) (by decide) (by decide) (fun q25 h hh => ?_)
  replace hh := hh.swap
  refine hx_putF (v := .ref q25) (fs2 := [.int 0, .int 0, .int 0, .ref q1, .ref q2, .ref q3, .ref q4, .ref q5, .ref q6, .ref q7, .int 0, .ref q8, .int 50, .int 0, .int 0, .ref q9, .int 0, .ref q10, .ref q11, .ref q12, .ref q13, .ref q14, .ref q15, .int 0, .ref q16, .int 0, .ref q17, .ref q18, .ref q19, .long 0, .long 0, .int 0, .ref q20, .int 0, .ref q21, .ref q22, .ref q23, .int 0, .ref q24, .int 0, .ref q25, .null, .null, .null, .null, .null]) hh dX12_init_221 fl1502 rfl ⟨_, ⟨_, rfl, rfl⟩, rfl⟩ rfl rfl (Nat.le_of_ble_eq_true rfl) rfl (by decide) (fun h hh => ?_)
  refine rw_aload_n dX12_init_224 0 rfl rfl ?_
  refine rw_bipush (v := 16) dX12_init_225 (by decide) ?_
  refine hx_newarr (ti := 0) (ty := .int) (N := 16) (a0 := (16, .inl (fun _ => 0))) hh dX12_init_227 rfl rfl wm162 (fun _ => rfl) (by decide) (by decide) (by decide) (by decide) (by decide) (fun q26 h hh => ?_)
  replace hh := hh.swap
  refine hx_putF (v := .ref q26) (fs2 := [.int 0, .int 0, .int 0, .ref q1, .ref q2, .ref q3, .ref q4, .ref q5, .ref q6, .ref q7, .int 0, .ref q8, .int 50, .int 0, .int 0, .ref q9, .int 0, .ref q10, .ref q11, .ref q12, .ref q13, .ref q14, .ref q15, .int 0, .ref q16, .int 0, .ref q17, .ref q18, .ref q19, .long 0, .long 0, .int 0, .ref q20, .int 0, .ref q21, .ref q22, .ref q23, .int 0, .ref q24, .int 0, .ref q25, .ref q26, .null, .null, .null, .null]) hh dX12_init_229 fl1503 rfl ⟨_, ⟨_, rfl, rfl⟩, rfl⟩ rfl rfl (Nat.le_of_ble_eq_true rfl) rfl (by decide) (fun h hh => ?_)
  refine rw_aload_n dX12_init_232 0 rfl rfl ?_
  refine rw_bipush (v := 16) dX12_init_233 (by decide) ?_
  refine hx_newarr (ti := 0) (ty := .int) (N := 16) (a0 := (16, .inl (fun _ => 0))) hh dX12_init_235 rfl rfl wm162 (fun _ => rfl) (by decide) (by decide) (by decide) (by decide) (by decide) (fun q27 h hh => ?_)
  replace hh := hh.swap
  refine hx_putF (v := .ref q27) (fs2 := [.int 0, .int 0, .int 0, .ref q1, .ref q2, .ref q3, .ref q4, .ref q5, .ref q6, .ref q7, .int 0, .ref q8, .int 50, .int 0, .int 0, .ref q9, .int 0, .ref q10, .ref q11, .ref q12, .ref q13, .ref q14, .ref q15, .int 0, .ref q16, .int 0, .ref q17, .ref q18, .ref q19, .long 0, .long 0, .int 0, .ref q20, .int 0, .ref q21, .ref q22, .ref q23, .int 0, .ref q24, .int 0, .ref q25, .ref q26, .ref q27, .null, .null, .null]) hh dX12_init_237 fl1504 rfl ⟨_, ⟨_, rfl, rfl⟩, rfl⟩ rfl rfl (Nat.le_of_ble_eq_true rfl) rfl (by decide) (fun h hh => ?_)
  refine rw_aload_n dX12_init_240 0 rfl rfl ?_
  refine rw_bipush (v := 16) dX12_init_241 (by decide) ?_
  refine hx_newarr (ti := 0) (ty := .int) (N := 16) (a0 := (16, .inl (fun _ => 0))) hh dX12_init_243 rfl rfl wm162 (fun _ => rfl) (by decide) (by decide) (by decide) (by decide) (by decide) (fun q28 h hh => ?_)
  replace hh := hh.swap
  refine hx_putF (v := .ref q28) (fs2 := [.int 0, .int 0, .int 0, .ref q1, .ref q2, .ref q3, .ref q4, .ref q5, .ref q6, .ref q7, .int 0, .ref q8, .int 50, .int 0, .int 0, .ref q9, .int 0, .ref q10, .ref q11, .ref q12, .ref q13, .ref q14, .ref q15, .int 0, .ref q16, .int 0, .ref q17, .ref q18, .ref q19, .long 0, .long 0, .int 0, .ref q20, .int 0, .ref q21, .ref q22, .ref q23, .int 0, .ref q24, .int 0, .ref q25, .ref q26, .ref q27, .ref q28, .null, .null]) hh dX12_init_245 fl1505 rfl ⟨_, ⟨_, rfl, rfl⟩, rfl⟩ rfl rfl (Nat.le_of_ble_eq_true rfl) rfl (by decide) (fun h hh => ?_)
  refine rw_aload_n dX12_init_248 0 rfl rfl ?_
  refine rw_sipush (v := 192) dX12_init_249 (by decide) ?_
  refine hx_newarr (ti := 0) (ty := .int) (N := 192) (a0 := (192, .inl (fun _ => 0))) hh dX12_init_252 rfl rfl wm162 (fun _ => rfl) (by decide) (by decide) (by decide) (by decide) (by decide) (fun q29 h hh => ?_)
  replace hh := hh.swap
  refine hx_putF (v := .ref q29) (fs2 := [.int 0, .int 0, .int 0, .ref q1, .ref q2, .ref q3, .ref q4, .ref q5, .ref q6, .ref q7, .int 0, .ref q8, .int 50, .int 0, .int 0, .ref q9, .int 0, .ref q10, .ref q11, .ref q12, .ref q13, .ref q14, .ref q15, .int 0, .ref q16, .int 0, .ref q17, .ref q18, .ref q19, .long 0, .long 0, .int 0, .ref q20, .int 0, .ref q21, .ref q22, .ref q23, .int 0, .ref q24, .int 0, .ref q25, .ref q26, .ref q27, .ref q28, .ref q29, .null]) hh dX12_init_254 fl1506 rfl ⟨_, ⟨_, rfl, rfl⟩, rfl⟩ rfl rfl (Nat.le_of_ble_eq_true rfl) rfl (by decide) (fun h hh => ?_)
  refine rw_aload_n dX12_init_257 0 rfl rfl ?_
  refine rw_sipush (v := 192) dX12_init_258 (by decide) ?_
  refine hx_newarr (ti := 0) (ty := .int) (N := 192) (a0 := (192, .inl (fun _ => 0))) hh dX12_init_261 rfl rfl wm162 (fun _ => rfl) (by decide) (by decide) (by decide) (by decide) (by decide) (fun q30 h hh => ?_)
  replace hh := hh.swap
  refine hx_putF (v := .ref q30) (fs2 := [.int 0, .int 0, .int 0, .ref q1, .ref q2, .ref q3, .ref q4, .ref q5, .ref q6, .ref q7, .int 0, .ref q8, .int 50, .int 0, .int 0, .ref q9, .int 0, .ref q10, .ref q11, .ref q12, .ref q13, .ref q14, .ref q15, .int 0, .ref q16, .int 0, .ref q17, .ref q18, .ref q19, .long 0, .long 0, .int 0, .ref q20, .int 0, .ref q21, .ref q22, .ref q23, .int 0, .ref q24, .int 0, .ref q25, .ref q26, .ref q27, .ref q28, .ref q29, .ref q30]) hh dX12_init_263 fl1507 rfl ⟨_, ⟨_, rfl, rfl⟩, rfl⟩ rfl rfl (Nat.le_of_ble_eq_true rfl) rfl (by decide) (fun h hh => ?_)
  exact rw_return dX12_init_266 rfl ⟨rfl, q1, q2, q3, q4, q5, q6, q7, q8, q9, q10, q11, q12, q13, q14, q15, q16, q17, q18, q19, q20, q21, q22, q23, q24, q25, q26, q27, q28, q29, q30, hh⟩ (by decide) (by decide)
