set_option maxHeartbeats 4000000 in
theorem inX11 {G : rG} {b : Nat} {L : List (Nat × va_E)} {h : rH} (hh : Has ((b, .inr (11, [.null, .null, .null, .null, .null, .null, .null, .null, .null, .null, .int 0, .int 0, .int 0])) :: L) h) : rMT G mX11_init (rm 4 122 4942) [.ref b] h (fun v h2 => v = none ∧ ∃ q1 : Nat, ∃ q2 : Nat, ∃ q4 : Nat, ∃ q5 : Nat, ∃ q6 : Nat, ∃ q8 : Nat, ∃ q9 : Nat, ∃ q10 : Nat, ∃ q11 : Nat, ∃ q12 : Nat, ∃ q13 : Nat, ∃ q14 : Nat, ∃ q15 : Nat, ∃ q16 : Nat, ∃ q17 : Nat, ∃ q18 : Nat, ∃ q19 : Nat, ∃ q20 : Nat, ∃ q21 : Nat, ∃ q22 : Nat, ∃ q23 : Nat, ∃ q24 : Nat, ∃ q25 : Nat, ∃ q26 : Nat, ∃ q27 : Nat, ∃ q28 : Nat, ∃ q29 : Nat, ∃ q30 : Nat, ∃ q31 : Nat, ∃ q32 : Nat, ∃ q33 : Nat, ∃ q34 : Nat, ∃ q35 : Nat, ∃ q36 : Nat, ∃ q37 : Nat, ∃ q38 : Nat, ∃ q39 : Nat, ∃ q40 : Nat, ∃ q41 : Nat, ∃ q42 : Nat, ∃ q43 : Nat, ∃ q44 : Nat, ∃ a3 : Nat → Nat, ∃ a7 : Nat → Nat, Has ((b, .inr (11, [.ref q1, .ref q4, .ref q8, .ref q12, .ref q20, .ref q27, .ref q36, .ref q40, .ref q42, .ref q44, .int 50, .int 0, .int 0])) :: (q44, .inl (G.2.1 0, 8, .inl (fun _ => 0))) :: (q42, .inr (0, [.ref q43, .int 0, .int 0, .int 0])) :: (q43, .inl (G.2.1 1, 16, .inl (fun _ => 0))) :: (q40, .inr (8, [.ref q41, .int 0, .int 0, .int 0, .int 0, .int 0])) :: (q41, .inl (G.2.1 2, 600, .inl (fun _ => 0))) :: (q36, .inr (9, [.long 0, .long 0, .ref q37, .int 0, .ref q38, .ref q39, .int 0])) :: (q39, .inl (G.2.1 0, 81, .inl (fun _ => 0))) :: (q38, .inl (G.2.1 0, 27, .inl (fun _ => 0))) :: (q37, .inr (7, [.int 0, .int 0])) :: (q27, .inr (1, [.ref q28, .ref q29, .ref q30, .ref q31, .ref q32, .int 0, .ref q33, .ref q34, .ref q35, .int 0])) :: (q35, .inl (G.2.1 0, 192, .inl (fun _ => 0))) :: (q34, .inl (G.2.1 0, 192, .inl (fun _ => 0))) :: (q33, .inl (G.2.1 0, 192, .inl (fun _ => 0))) :: (q32, .inl (G.2.1 0, 192, .inl (fun _ => 0))) :: (q31, .inl (G.2.1 0, 192, .inl (fun _ => 0))) :: (q30, .inl (G.2.1 0, 192, .inl (fun _ => 0))) :: (q29, .inl (G.2.1 0, 192, .inl (fun _ => 0))) :: (q28, .inl (G.2.1 0, 192, .inl (fun _ => 0))) :: (q20, .inr (5, [.ref q21, .ref q22, .ref q23, .int 0, .ref q24, .ref q25, .ref q26])) :: (q26, .inl (G.2.1 0, 169, .inl (fun _ => 0))) :: (q25, .inl (G.2.1 0, 504, .inl (fun _ => 0))) :: (q24, .inl (G.2.1 0, 504, .inl (fun _ => 0))) :: (q23, .inl (G.2.1 0, 24, .inl (fun _ => 0))) :: (q22, .inl (G.2.1 0, 24, .inl (fun _ => 0))) :: (q21, .inl (G.2.1 0, 42, .inl (fun _ => 0))) :: (q12, .inr (6, [.ref q13, .ref q14, .ref q15, .ref q16, .int 0, .int 0, .int 0, .ref q17, .ref q18, .ref q19, .int 0])) :: (q19, .inl (G.2.1 0, 81, .inl (fun _ => 0))) :: (q18, .inl (G.2.1 0, 256, .inl (fun _ => 0))) :: (q17, .inl (G.2.1 0, 120, .inl (fun _ => 0))) :: (q16, .inl (G.2.1 0, 27, .inl (fun _ => 0))) :: (q15, .inl (G.2.1 3, 42, .inl (fun _ => 0))) :: (q14, .inl (G.2.1 0, 42, .inl (fun _ => 0))) :: (q13, .inl (G.2.1 0, 42, .inl (fun _ => 0))) :: (q8, .inr (10, [.ref q9, .ref q10, .ref q11, .int 0])) :: (q11, .inl (G.2.1 0, 60, .inl (fun _ => 0))) :: (q10, .inl (G.2.1 0, 60, .inl (fun _ => 0))) :: (q9, .inl (G.2.1 0, 60, .inl (fun _ => 0))) :: (q4, .inr (4, [.ref q5, .ref q6, .int 0])) :: (q6, .inl (G.2.1 6, 8, .inr (.inr (.inr (.inr (fB a7 145 2 8)))))) :: (q5, .inl (G.2.1 6, 8, .inr (.inr (.inr (.inr (fB a7 144 2 8)))))) :: (fcells a7 8 ++ ((q1, .inr (3, [.ref q2, .int 0, .int 0])) :: (q2, .inl (G.2.1 5, 16, .inr (.inr (.inr (.inr (fB a3 80 4 16)))))) :: (bcells G a3 16 ++ (L))))) h2) xN := by
  refine rw_met (by decide +kernel) rfl (Nat.le_of_ble_eq_true rfl) ?_
  show RW G _ _ _ _ 0 0 0 [(0, .ref b)] [] h
  refine rw_aload_n dX11_init_0 0 rfl rfl ?_
  refine rw_objInit dX11_init_1 wm99 wm100 wm101 (by decide) (Nat.le_of_ble_eq_true rfl) ?_
  refine rw_aload_n dX11_init_4 0 rfl rfl ?_
  refine hx_new (ci := 3) (fs := [.null, .int 0, .int 0]) hh dX11_init_5 clsX2 wm102 wm103 wm63 (fun j hj => match j, hj with | 0, _ => rfl | 1, _ => rfl | 2, _ => rfl | j + 3, hj => absurd hj (by omega)) (by decide) (by decide) (fun q1 h hh => ?_)
  refine rw_dup dX11_init_8 rfl ?_
  refine hx_callI (As := []) (st := [.ref q1, .ref b]) dX11_init_9 calX2_init rfl rfl wm104 wm105 rfl rfl (Nat.le_of_ble_eq_true rfl) ⟨⟨by decide, by decide⟩, by decide, by decide⟩ (inX2 hh) (fun h hh => ?_)
  obtain ⟨q2, a3, hh⟩ := hh
  replace hh := Has.mid (N := (q1, .inr (3, [.ref q2, .int 0, .int 0])) :: (q2, .inl (G.2.1 5, 16, .inr (.inr (.inr (.inr (fB a3 80 4 16)))))) :: bcells G a3 16) hh
  refine hx_putF (v := .ref q1) (fs2 := [.ref q1, .null, .null, .null, .null, .null, .null, .null, .null, .null, .int 0, .int 0, .int 0]) hh dX11_init_12 fl442 rfl ⟨_, ⟨_, rfl, rfl⟩, rfl⟩ rfl rfl (Nat.le_of_ble_eq_true rfl) rfl (by decide) (fun h hh => ?_)
  refine rw_aload_n dX11_init_15 0 rfl rfl ?_
  refine hx_new (ci := 4) (fs := [.null, .null, .int 0]) hh dX11_init_16 clsX3 wm182 wm183 wm66 (fun j hj => match j, hj with | 0, _ => rfl | 1, _ => rfl | 2, _ => rfl | j + 3, hj => absurd hj (by omega)) (by decide) (by decide) (fun q4 h hh => ?_)
  refine rw_dup dX11_init_19 rfl ?_
  refine hx_callI (As := []) (st := [.ref q4, .ref b]) dX11_init_20 calX3_init rfl rfl wm184 wm185 rfl rfl (Nat.le_of_ble_eq_true rfl) ⟨⟨by decide, by decide⟩, by decide, by decide⟩ (inX3 hh) (fun h hh => ?_)
  obtain ⟨q5, q6, a7, hh⟩ := hh
  replace hh := Has.mid (N := (q4, .inr (4, [.ref q5, .ref q6, .int 0])) :: (q6, .inl (G.2.1 6, 8, .inr (.inr (.inr (.inr (fB a7 145 2 8)))))) :: (q5, .inl (G.2.1 6, 8, .inr (.inr (.inr (.inr (fB a7 144 2 8)))))) :: fcells a7 8) hh
  refine hx_putF (v := .ref q4) (fs2 := [.ref q1, .ref q4, .null, .null, .null, .null, .null, .null, .null, .null, .int 0, .int 0, .int 0]) hh dX11_init_23 fl443 rfl ⟨_, ⟨_, rfl, rfl⟩, rfl⟩ rfl rfl (Nat.le_of_ble_eq_true rfl) rfl (by decide) (fun h hh => ?_)
  refine rw_aload_n dX11_init_26 0 rfl rfl ?_
  refine hx_new (ci := 10) (fs := [.null, .null, .null, .int 0]) hh dX11_init_27 clsX10 wm202 wm203 wm67 (fun j hj => match j, hj with | 0, _ => rfl | 1, _ => rfl | 2, _ => rfl | 3, _ => rfl | j + 4, hj => absurd hj (by omega)) (by decide) (by decide) (fun q8 h hh => ?_)
  refine rw_dup dX11_init_30 rfl ?_
  refine hx_callIN (As := []) (st := [.ref q8, .ref b]) dX11_init_31 calX10_init rfl rfl wm204 wm205 rfl rfl (Nat.le_of_ble_eq_true rfl) ⟨⟨by decide, by decide⟩, by decide, by decide⟩ (inX10 hh) (fun h hh => ?_)
  obtain ⟨q9, q10, q11, hh⟩ := hh
  replace hh := Has.mid (N := (q8, .inr (10, [.ref q9, .ref q10, .ref q11, .int 0])) :: (q11, .inl (G.2.1 0, 60, .inl (fun _ => 0))) :: (q10, .inl (G.2.1 0, 60, .inl (fun _ => 0))) :: (q9, .inl (G.2.1 0, 60, .inl (fun _ => 0))) :: []) hh
  refine hx_putF (v := .ref q8) (fs2 := [.ref q1, .ref q4, .ref q8, .null, .null, .null, .null, .null, .null, .null, .int 0, .int 0, .int 0]) hh dX11_init_34 fl444 rfl ⟨_, ⟨_, rfl, rfl⟩, rfl⟩ rfl rfl (Nat.le_of_ble_eq_true rfl) rfl (by decide) (fun h hh => ?_)
  refine rw_aload_n dX11_init_37 0 rfl rfl ?_
  refine hx_new (ci := 6) (fs := [.null, .null, .null, .null, .int 0, .int 0, .int 0, .null, .null, .null, .int 0]) hh dX11_init_38 clsX6 wm222 wm223 wm68 (fun j hj => match j, hj with | 0, _ => rfl | 1, _ => rfl | 2, _ => rfl | 3, _ => rfl | 4, _ => rfl | 5, _ => rfl | 6, _ => rfl | 7, _ => rfl | 8, _ => rfl | 9, _ => rfl | 10, _ => rfl | j + 11, hj => absurd hj (by omega)) (by decide) (by decide) (fun q12 h hh => ?_)
  refine rw_dup dX11_init_41 rfl ?_
  refine hx_callIN (As := []) (st := [.ref q12, .ref b]) dX11_init_42 calX6_init rfl rfl wm224 wm225 rfl rfl (Nat.le_of_ble_eq_true rfl) ⟨⟨by decide, by decide⟩, by decide, by decide⟩ (inX6 hh) (fun h hh => ?_)
  obtain ⟨q13, q14, q15, q16, q17, q18, q19, hh⟩ := hh
  replace hh := Has.mid (N := (q12, .inr (6, [.ref q13, .ref q14, .ref q15, .ref q16, .int 0, .int 0, .int 0, .ref q17, .ref q18, .ref q19, .int 0])) :: (q19, .inl (G.2.1 0, 81, .inl (fun _ => 0))) :: (q18, .inl (G.2.1 0, 256, .inl (fun _ => 0))) :: (q17, .inl (G.2.1 0, 120, .inl (fun _ => 0))) :: (q16, .inl (G.2.1 0, 27, .inl (fun _ => 0))) :: (q15, .inl (G.2.1 3, 42, .inl (fun _ => 0))) :: (q14, .inl (G.2.1 0, 42, .inl (fun _ => 0))) :: (q13, .inl (G.2.1 0, 42, .inl (fun _ => 0))) :: []) hh
  refine hx_putF (v := .ref q12) (fs2 := [.ref q1, .ref q4, .ref q8, .ref q12, .null, .null, .null, .null, .null, .null, .int 0, .int 0, .int 0]) hh dX11_init_45 fl445 rfl ⟨_, ⟨_, rfl, rfl⟩, rfl⟩ rfl rfl (Nat.le_of_ble_eq_true rfl) rfl (by decide) (fun h hh => ?_)
  refine rw_aload_n dX11_init_48 0 rfl rfl ?_
  refine hx_new (ci := 5) (fs := [.null, .null, .null, .int 0, .null, .null, .null]) hh dX11_init_49 clsX5 wm276 wm277 wm69 (fun j hj => match j, hj with | 0, _ => rfl | 1, _ => rfl | 2, _ => rfl | 3, _ => rfl | 4, _ => rfl | 5, _ => rfl | 6, _ => rfl | j + 7, hj => absurd hj (by omega)) (by decide) (by decide) (fun q20 h hh => ?_)
  refine rw_dup dX11_init_52 rfl ?_
  refine hx_callIN (As := []) (st := [.ref q20, .ref b]) dX11_init_53 calX5_init rfl rfl wm278 wm279 rfl rfl (Nat.le_of_ble_eq_true rfl) ⟨⟨by decide, by decide⟩, by decide, by decide⟩ (inX5 hh) (fun h hh => ?_)
  obtain ⟨q21, q22, q23, q24, q25, q26, hh⟩ := hh
  replace hh := Has.mid (N := (q20, .inr (5, [.ref q21, .ref q22, .ref q23, .int 0, .ref q24, .ref q25, .ref q26])) :: (q26, .inl (G.2.1 0, 169, .inl (fun _ => 0))) :: (q25, .inl (G.2.1 0, 504, .inl (fun _ => 0))) :: (q24, .inl (G.2.1 0, 504, .inl (fun _ => 0))) :: (q23, .inl (G.2.1 0, 24, .inl (fun _ => 0))) :: (q22, .inl (G.2.1 0, 24, .inl (fun _ => 0))) :: (q21, .inl (G.2.1 0, 42, .inl (fun _ => 0))) :: []) hh
  refine hx_putF (v := .ref q20) (fs2 := [.ref q1, .ref q4, .ref q8, .ref q12, .ref q20, .null, .null, .null, .null, .null, .int 0, .int 0, .int 0]) hh dX11_init_56 fl446 rfl ⟨_, ⟨_, rfl, rfl⟩, rfl⟩ rfl rfl (Nat.le_of_ble_eq_true rfl) rfl (by decide) (fun h hh => ?_)
  refine rw_aload_n dX11_init_59 0 rfl rfl ?_
  refine hx_new (ci := 1) (fs := [.null, .null, .null, .null, .null, .int 0, .null, .null, .null, .int 0]) hh dX11_init_60 clsX0 wm308 wm309 wm70 (fun j hj => match j, hj with | 0, _ => rfl | 1, _ => rfl | 2, _ => rfl | 3, _ => rfl | 4, _ => rfl | 5, _ => rfl | 6, _ => rfl | 7, _ => rfl | 8, _ => rfl | 9, _ => rfl | j + 10, hj => absurd hj (by omega)) (by decide) (by decide) (fun q27 h hh => ?_)
  refine rw_dup dX11_init_63 rfl ?_
  refine hx_callIN (As := []) (st := [.ref q27, .ref b]) dX11_init_64 calX0_init rfl rfl wm310 wm311 rfl rfl (Nat.le_of_ble_eq_true rfl) ⟨⟨by decide, by decide⟩, by decide, by decide⟩ (inX0 hh) (fun h hh => ?_)
  obtain ⟨q28, q29, q30, q31, q32, q33, q34, q35, hh⟩ := hh
  replace hh := Has.mid (N := (q27, .inr (1, [.ref q28, .ref q29, .ref q30, .ref q31, .ref q32, .int 0, .ref q33, .ref q34, .ref q35, .int 0])) :: (q35, .inl (G.2.1 0, 192, .inl (fun _ => 0))) :: (q34, .inl (G.2.1 0, 192, .inl (fun _ => 0))) :: (q33, .inl (G.2.1 0, 192, .inl (fun _ => 0))) :: (q32, .inl (G.2.1 0, 192, .inl (fun _ => 0))) :: (q31, .inl (G.2.1 0, 192, .inl (fun _ => 0))) :: (q30, .inl (G.2.1 0, 192, .inl (fun _ => 0))) :: (q29, .inl (G.2.1 0, 192, .inl (fun _ => 0))) :: (q28, .inl (G.2.1 0, 192, .inl (fun _ => 0))) :: []) hh
  refine hx_putF (v := .ref q27) (fs2 := [.ref q1, .ref q4, .ref q8, .ref q12, .ref q20, .ref q27, .null, .null, .null, .null, .int 0, .int 0, .int 0]) hh dX11_init_67 fl447 rfl ⟨_, ⟨_, rfl, rfl⟩, rfl⟩ rfl rfl (Nat.le_of_ble_eq_true rfl) rfl (by decide) (fun h hh => ?_)
  refine rw_aload_n dX11_init_70 0 rfl rfl ?_
  refine hx_new (ci := 9) (fs := [.long 0, .long 0, .null, .int 0, .null, .null, .int 0]) hh dX11_init_71 clsX9 wm351 wm352 wm71 (fun j hj => match j, hj with | 0, _ => rfl | 1, _ => rfl | 2, _ => rfl | 3, _ => rfl | 4, _ => rfl | 5, _ => rfl | 6, _ => rfl | j + 7, hj => absurd hj (by omega)) (by decide) (by decide) (fun q36 h hh => ?_)
  refine rw_dup dX11_init_74 rfl ?_
  refine hx_callIN (As := []) (st := [.ref q36, .ref b]) dX11_init_75 calX9_init rfl rfl wm353 wm354 rfl rfl (Nat.le_of_ble_eq_true rfl) ⟨⟨by decide, by decide⟩, by decide, by decide⟩ (inX9 hh) (fun h hh => ?_)
  obtain ⟨q37, q38, q39, hh⟩ := hh
  replace hh := Has.mid (N := (q36, .inr (9, [.long 0, .long 0, .ref q37, .int 0, .ref q38, .ref q39, .int 0])) :: (q39, .inl (G.2.1 0, 81, .inl (fun _ => 0))) :: (q38, .inl (G.2.1 0, 27, .inl (fun _ => 0))) :: (q37, .inr (7, [.int 0, .int 0])) :: []) hh
  refine hx_putF (v := .ref q36) (fs2 := [.ref q1, .ref q4, .ref q8, .ref q12, .ref q20, .ref q27, .ref q36, .null, .null, .null, .int 0, .int 0, .int 0]) hh dX11_init_78 fl448 rfl ⟨_, ⟨_, rfl, rfl⟩, rfl⟩ rfl rfl (Nat.le_of_ble_eq_true rfl) rfl (by decide) (fun h hh => ?_)
  refine rw_aload_n dX11_init_81 0 rfl rfl ?_
  refine hx_new (ci := 8) (fs := [.null, .int 0, .int 0, .int 0, .int 0, .int 0]) hh dX11_init_82 clsX8 wm383 wm384 wm72 (fun j hj => match j, hj with | 0, _ => rfl | 1, _ => rfl | 2, _ => rfl | 3, _ => rfl | 4, _ => rfl | 5, _ => rfl | j + 6, hj => absurd hj (by omega)) (by decide) (by decide) (fun q40 h hh => ?_)
  refine rw_dup dX11_init_85 rfl ?_
  refine hx_callIN (As := []) (st := [.ref q40, .ref b]) dX11_init_86 calX8_init rfl rfl wm385 wm386 rfl rfl (Nat.le_of_ble_eq_true rfl) ⟨⟨by decide, by decide⟩, by decide, by decide⟩ (inX8 hh) (fun h hh => ?_)
  obtain ⟨q41, hh⟩ := hh
  replace hh := Has.mid (N := (q40, .inr (8, [.ref q41, .int 0, .int 0, .int 0, .int 0, .int 0])) :: (q41, .inl (G.2.1 2, 600, .inl (fun _ => 0))) :: []) hh
  refine hx_putF (v := .ref q40) (fs2 := [.ref q1, .ref q4, .ref q8, .ref q12, .ref q20, .ref q27, .ref q36, .ref q40, .null, .null, .int 0, .int 0, .int 0]) hh dX11_init_89 fl449 rfl ⟨_, ⟨_, rfl, rfl⟩, rfl⟩ rfl rfl (Nat.le_of_ble_eq_true rfl) rfl (by decide) (fun h hh => ?_)
  refine rw_aload_n dX11_init_92 0 rfl rfl ?_
  refine hx_new (ci := 0) (fs := [.null, .int 0, .int 0, .int 0]) hh dX11_init_93 clsJ4 wm409 wm410 wm74 (fun j hj => match j, hj with | 0, _ => rfl | 1, _ => rfl | 2, _ => rfl | 3, _ => rfl | j + 4, hj => absurd hj (by omega)) (by decide) (by decide) (fun q42 h hh => ?_)
  refine rw_dup dX11_init_96 rfl ?_
  refine hx_callI (As := []) (st := [.ref q42, .ref b]) dX11_init_97 calJ4_init_da8c8 rfl rfl wm411 wm412 rfl rfl (Nat.le_of_ble_eq_true rfl) ⟨⟨by decide, by decide⟩, by decide, by decide⟩ (inJ4 hh) (fun h hh => ?_)
  obtain ⟨q43, hh⟩ := hh
  replace hh := Has.mid (N := (q42, .inr (0, [.ref q43, .int 0, .int 0, .int 0])) :: (q43, .inl (G.2.1 1, 16, .inl (fun _ => 0))) :: []) hh
  refine hx_putF (v := .ref q42) (fs2 := [.ref q1, .ref q4, .ref q8, .ref q12, .ref q20, .ref q27, .ref q36, .ref q40, .ref q42, .null, .int 0, .int 0, .int 0]) hh dX11_init_100 fl450 rfl ⟨_, ⟨_, rfl, rfl⟩, rfl⟩ rfl rfl (Nat.le_of_ble_eq_true rfl) rfl (by decide) (fun h hh => ?_)
  refine rw_aload_n dX11_init_103 0 rfl rfl ?_
  refine rw_bipush (v := 8) dX11_init_104 (by decide) ?_
  refine hx_newarr (ti := 0) (ty := .int) (N := 8) (a0 := (8, .inl (fun _ => 0))) hh dX11_init_106 rfl rfl wm162 (fun _ => rfl) (by decide) (by decide) (by decide) (by decide) (by decide) (fun q44 h hh => ?_)
  replace hh := hh.swap
  refine hx_putF (v := .ref q44) (fs2 := [.ref q1, .ref q4, .ref q8, .ref q12, .ref q20, .ref q27, .ref q36, .ref q40, .ref q42, .ref q44, .int 0, .int 0, .int 0]) hh dX11_init_108 fl451 rfl ⟨_, ⟨_, rfl, rfl⟩, rfl⟩ rfl rfl (Nat.le_of_ble_eq_true rfl) rfl (by decide) (fun h hh => ?_)
  refine rw_aload_n dX11_init_111 0 rfl rfl ?_
  refine rw_bipush (v := 50) dX11_init_112 (by decide) ?_
  refine hx_put (v := .int 50) (fs2 := [.ref q1, .ref q4, .ref q8, .ref q12, .ref q20, .ref q27, .ref q36, .ref q40, .ref q42, .ref q44, .int 50, .int 0, .int 0]) hh dX11_init_114 fl452 (by decide) (by decide) (Nat.le_of_ble_eq_true rfl) rfl (by decide) (fun h hh => ?_)
  refine rw_aload_n dX11_init_117 0 rfl rfl ?_
  refine rw_iconst (v := 0) dX11_init_118 (by decide) ?_
  refine hx_put (v := .int 0) (fs2 := [.ref q1, .ref q4, .ref q8, .ref q12, .ref q20, .ref q27, .ref q36, .ref q40, .ref q42, .ref q44, .int 50, .int 0, .int 0]) hh dX11_init_119 fl453 (by decide) (by decide) (Nat.le_of_ble_eq_true rfl) rfl (by decide) (fun h hh => ?_)
  refine rw_aload_n dX11_init_122 0 rfl rfl ?_
  refine rw_iconst (v := 0) dX11_init_123 (by decide) ?_
  refine hx_put (v := .int 0) (fs2 := [.ref q1, .ref q4, .ref q8, .ref q12, .ref q20, .ref q27, .ref q36, .ref q40, .ref q42, .ref q44, .int 50, .int 0, .int 0]) hh dX11_init_124 fl454 (by decide) (by decide) (Nat.le_of_ble_eq_true rfl) rfl (by decide) (fun h hh => ?_)
  exact rw_return dX11_init_127 rfl ⟨rfl, q1, q2, q4, q5, q6, q8, q9, q10, q11, q12, q13, q14, q15, q16, q17, q18, q19, q20, q21, q22, q23, q24, q25, q26, q27, q28, q29, q30, q31, q32, q33, q34, q35, q36, q37, q38, q39, q40, q41, q42, q43, q44, a3, a7, hh⟩ (by decide) (by decide)
