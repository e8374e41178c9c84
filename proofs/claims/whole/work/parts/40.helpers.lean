def fL_boring (a1 : Int32) (a2 : Int32) (a3 : Int32) (σ : rS) : Option (Int32 × rS) := (fX11_boring a1 a2 a3 σ).bind fun q1 => match q1.1 with | .error E3 => (if E3 = "java/lang/IllegalArgumentException" then some (1, q1.2) else if E3 = "java/lang/UnsupportedOperationException" then some (2, q1.2) else none) | .ok r2 => if inB 0 1 then vS (uO q1.2 (0 : Int32).toNatClampNeg r2.toInt64) fun σ9 => some (0, σ9) else none
set_option maxHeartbeats 4000000 in
theorem cmL_boring {G : rG} {ad : Nat → Nat} {a1 : Int32} {a2 : Int32} {a3 : Int32} {σ : rS} {h : rH} {o : (Int32 × rS)} (hr : Rep G ad σ h) (hf : fL_boring a1 a2 a3 σ = some o) : rMT G mL_boring (rm 7 1 6) [.ref (ad 0), .int a1, .int a2, .int a3, .ref (ad 42)] h (qI G ad o) xN := by
  unfold fL_boring at hf
  refine rw_metW (by decide +kernel) (List.cons_ne_nil _ _) (Nat.le_of_ble_eq_true rfl) ?_
  show RW G _ _ _ _ 0 0 0 [(0, .ref (ad 0)), (1, .int a1), (2, .int a2), (3, .int a3), (4, .ref (ad 42))] [] h
  refine rw_aload dL_boring_0 4 rfl ?_
  refine rw_iconst (v := 0) dL_boring_2 (by decide) ?_
  refine rw_aload_n dL_boring_3 0 rfl rfl ?_
  refine rw_iload_n dL_boring_4 1 rfl rfl ?_
  refine rw_iload_n dL_boring_5 2 rfl rfl ?_
  refine rw_iload_n dL_boring_6 3 rfl rfl ?_
  obtain ⟨q1, hq1, hf⟩ := bnd hf
  refine kV_Ix (ad := ad) (As := [.int a1, .int a2, .int a3]) (st := [.int 0, .ref (ad 42)]) dL_boring_7 calX11_boring wm818 wm819 wm820 rfl rfl (rc_0 hr) (ci := 11) (by decide) rfl rfl (Nat.le_of_ble_eq_true rfl) ⟨⟨by decide, by decide⟩, by decide, by decide⟩ (cmX11_boring hr hq1) (fun E h he hr => ?_) (fun r2 h he hr => ?_)
  · rw [he] at hf
    dsimp only at hf
    by_cases c4 : E = "java/lang/IllegalArgumentException"
    · rw [if_pos c4] at hf
      subst c4
      refine rx_catch [] (0, 12, 15, 13) [(0, 12, 19, 15)] rfl rfl (by decide) (fun z hz => nomatch hz) (by decide) (by decide) wm816 (fun y5 => ?_)
      refine rw_astore (lv2 := [(5, .ref y5), (0, .ref (ad 0)), (1, .int a1), (2, .int a2), (3, .int a3), (4, .ref (ad 42))]) dL_boring_15 (by decide) rfl ?_
      refine rw_iconst (v := 1) dL_boring_17 (by decide) ?_
      replace hf := Option.some.inj hf
      subst hf
      exact rw_ireturn dL_boring_18 rfl ⟨rfl, hr⟩ (by decide) (by decide)
    rw [if_neg c4] at hf
    by_cases c6 : E = "java/lang/UnsupportedOperationException"
    · rw [if_pos c6] at hf
      subst c6
      refine rx_catch [(0, 12, 15, 13)] (0, 12, 19, 15) [] rfl rfl (by decide) (by
        intro z hz
        simp only [List.mem_cons, List.not_mem_nil, or_false] at hz
        rcases hz with rfl
        · exact Or.inr ⟨by decide, "java/lang/IllegalArgumentException", wm816, by decide⟩) (by decide) (by decide) wm817 (fun y7 => ?_)
      refine rw_astore (lv2 := [(5, .ref y7), (0, .ref (ad 0)), (1, .int a1), (2, .int a2), (3, .int a3), (4, .ref (ad 42))]) dL_boring_19 (by decide) rfl ?_
      refine rw_iconst (v := 2) dL_boring_21 (by decide) ?_
      replace hf := Option.some.inj hf
      subst hf
      exact rw_ireturn dL_boring_22 rfl ⟨rfl, hr⟩ (by decide) (by decide)
    rw [if_neg c6] at hf
    cases hf
  rw [he] at hf
  dsimp only at hf
  refine rw_i2l dL_boring_10 ?_
  obtain ⟨hi8, hf⟩ := grd hf
  refine ss_42 hr dL_boring_11 (inB_in hi8) (fun h hr => ?_)
  refine nmS hf hr (fun σ9 hr hf => ?_)
  refine rw_goto (tgt := 23) dL_boring_12 (by decide) ?_
  refine rw_iconst (v := 0) dL_boring_23 (by decide) ?_
  replace hf := Option.some.inj hf
  subst hf
  exact rw_ireturn dL_boring_24 rfl ⟨rfl, hr⟩ (by decide) (by decide)
def fL_layer (a1 : Int32) (a2 : Int32) (a3 : Int32) (σ : rS) : Option (Int32 × rS) := (fX11_layer a1 a2 a3 σ).bind fun q1 => match q1.1 with | .error E3 => (if E3 = "java/lang/IndexOutOfBoundsException" then some (1, q1.2) else if E3 = "java/lang/IllegalArgumentException" then some (2, q1.2) else if E3 = "java/lang/UnsupportedOperationException" then some (3, q1.2) else none) | .ok r2 => if inB 0 1 then vS (uO q1.2 (0 : Int32).toNatClampNeg r2.toInt64) fun σ11 => some (0, σ11) else none
set_option maxHeartbeats 4000000 in
theorem cmL_layer {G : rG} {ad : Nat → Nat} {a1 : Int32} {a2 : Int32} {a3 : Int32} {σ : rS} {h : rH} {o : (Int32 × rS)} (hr : Rep G ad σ h) (hf : fL_layer a1 a2 a3 σ = some o) : rMT G mL_layer (rm 9 2 12) [.ref (ad 0), .int a1, .int a2, .int a3, .ref (ad 42)] h (qI G ad o) xN := by
  unfold fL_layer at hf
  refine rw_metW (by decide +kernel) (List.cons_ne_nil _ _) (Nat.le_of_ble_eq_true rfl) ?_
  show RW G _ _ _ _ 0 0 0 [(0, .ref (ad 0)), (1, .int a1), (2, .int a2), (3, .int a3), (4, .ref (ad 42))] [] h
  refine rw_aload dL_layer_0 4 rfl ?_
  refine rw_iconst (v := 0) dL_layer_2 (by decide) ?_
  refine rw_aload_n dL_layer_3 0 rfl rfl ?_
  refine rw_iload_n dL_layer_4 1 rfl rfl ?_
  refine rw_iload_n dL_layer_5 2 rfl rfl ?_
  refine rw_iload_n dL_layer_6 3 rfl rfl ?_
  obtain ⟨q1, hq1, hf⟩ := bnd hf
  refine kV_Ix (ad := ad) (As := [.int a1, .int a2, .int a3]) (st := [.int 0, .ref (ad 42)]) dL_layer_7 calX11_layer wm911 wm912 wm913 rfl rfl (rc_0 hr) (ci := 11) (by decide) rfl rfl (Nat.le_of_ble_eq_true rfl) ⟨⟨by decide, by decide⟩, by decide, by decide⟩ (cmX11_layer hr hq1) (fun E h he hr => ?_) (fun r2 h he hr => ?_)
  · rw [he] at hf
    dsimp only at hf
    by_cases c4 : E = "java/lang/IndexOutOfBoundsException"
    · rw [if_pos c4] at hf
      subst c4
      refine rx_catch [] (0, 12, 15, 20) [(0, 12, 19, 13), (0, 12, 23, 15)] rfl rfl (by decide) (fun z hz => nomatch hz) (by decide) (by decide) wm910 (fun y5 => ?_)
      refine rw_astore (lv2 := [(5, .ref y5), (0, .ref (ad 0)), (1, .int a1), (2, .int a2), (3, .int a3), (4, .ref (ad 42))]) dL_layer_15 (by decide) rfl ?_
      refine rw_iconst (v := 1) dL_layer_17 (by decide) ?_
      replace hf := Option.some.inj hf
      subst hf
      exact rw_ireturn dL_layer_18 rfl ⟨rfl, hr⟩ (by decide) (by decide)
    rw [if_neg c4] at hf
    by_cases c6 : E = "java/lang/IllegalArgumentException"
    · rw [if_pos c6] at hf
      subst c6
      refine rx_catch [(0, 12, 15, 20)] (0, 12, 19, 13) [(0, 12, 23, 15)] rfl rfl (by decide) (by
        intro z hz
        simp only [List.mem_cons, List.not_mem_nil, or_false] at hz
        rcases hz with rfl
        · exact Or.inr ⟨by decide, "java/lang/IndexOutOfBoundsException", wm910, by decide⟩) (by decide) (by decide) wm816 (fun y7 => ?_)
      refine rw_astore (lv2 := [(5, .ref y7), (0, .ref (ad 0)), (1, .int a1), (2, .int a2), (3, .int a3), (4, .ref (ad 42))]) dL_layer_19 (by decide) rfl ?_
      refine rw_iconst (v := 2) dL_layer_21 (by decide) ?_
      replace hf := Option.some.inj hf
      subst hf
      exact rw_ireturn dL_layer_22 rfl ⟨rfl, hr⟩ (by decide) (by decide)
    rw [if_neg c6] at hf
    by_cases c8 : E = "java/lang/UnsupportedOperationException"
    · rw [if_pos c8] at hf
      subst c8
      refine rx_catch [(0, 12, 15, 20), (0, 12, 19, 13)] (0, 12, 23, 15) [] rfl rfl (by decide) (by
        intro z hz
        simp only [List.mem_cons, List.not_mem_nil, or_false] at hz
        rcases hz with rfl | rfl
        · exact Or.inr ⟨by decide, "java/lang/IndexOutOfBoundsException", wm910, by decide⟩
        · exact Or.inr ⟨by decide, "java/lang/IllegalArgumentException", wm816, by decide⟩) (by decide) (by decide) wm817 (fun y9 => ?_)
      refine rw_astore (lv2 := [(5, .ref y9), (0, .ref (ad 0)), (1, .int a1), (2, .int a2), (3, .int a3), (4, .ref (ad 42))]) dL_layer_23 (by decide) rfl ?_
      refine rw_iconst (v := 3) dL_layer_25 (by decide) ?_
      replace hf := Option.some.inj hf
      subst hf
      exact rw_ireturn dL_layer_26 rfl ⟨rfl, hr⟩ (by decide) (by decide)
    rw [if_neg c8] at hf
    cases hf
  rw [he] at hf
  dsimp only at hf
  refine rw_i2l dL_layer_10 ?_
  obtain ⟨hi10, hf⟩ := grd hf
  refine ss_42 hr dL_layer_11 (inB_in hi10) (fun h hr => ?_)
  refine nmS hf hr (fun σ11 hr hf => ?_)
  refine rw_goto (tgt := 27) dL_layer_12 (by decide) ?_
  refine rw_iconst (v := 0) dL_layer_27 (by decide) ?_
  replace hf := Option.some.inj hf
  subst hf
  exact rw_ireturn dL_layer_28 rfl ⟨rfl, hr⟩ (by decide) (by decide)
def fL_count (a1 : Int32) (σ : rS) : Option (Int32 × rS) := (fX11_count a1 σ).bind fun q1 => match q1.1 with | .error E3 => (if E3 = "java/lang/IllegalStateException" then some (1, q1.2) else none) | .ok r2 => if inB 0 1 then vS (uO q1.2 (0 : Int32).toNatClampNeg r2.toInt64) fun σ7 => some (0, σ7) else none
set_option maxHeartbeats 4000000 in
theorem cmL_count {G : rG} {ad : Nat → Nat} {a1 : Int32} {σ : rS} {h : rH} {o : (Int32 × rS)} (hr : Rep G ad σ h) (hf : fL_count a1 σ = some o) : rMT G mL_count (rm 8 4 24) [.ref (ad 0), .int a1, .ref (ad 42)] h (qI G ad o) xN := by
  unfold fL_count at hf
  refine rw_metW (by decide +kernel) (List.cons_ne_nil _ _) (Nat.le_of_ble_eq_true rfl) ?_
  show RW G _ _ _ _ 0 0 0 [(0, .ref (ad 0)), (1, .int a1), (2, .ref (ad 42))] [] h
  refine rw_aload_n dL_count_0 2 rfl rfl ?_
  refine rw_iconst (v := 0) dL_count_1 (by decide) ?_
  refine rw_aload_n dL_count_2 0 rfl rfl ?_
  refine rw_iload_n dL_count_3 1 rfl rfl ?_
  obtain ⟨q1, hq1, hf⟩ := bnd hf
  refine kV_Ix (ad := ad) (As := [.int a1]) (st := [.int 0, .ref (ad 42)]) dL_count_4 calX11_count wm945 wm946 wm947 rfl rfl (rc_0 hr) (ci := 11) (by decide) rfl rfl (Nat.le_of_ble_eq_true rfl) ⟨⟨by decide, by decide⟩, by decide, by decide⟩ (cmX11_count hr hq1) (fun E h he hr => ?_) (fun r2 h he hr => ?_)
  · rw [he] at hf
    dsimp only at hf
    by_cases c4 : E = "java/lang/IllegalStateException"
    · rw [if_pos c4] at hf
      subst c4
      refine rx_catch [] (0, 9, 12, 26) [] rfl rfl (by decide) (fun z hz => nomatch hz) (by decide) (by decide) wm944 (fun y5 => ?_)
      refine rw_astore_n (lv2 := [(3, .ref y5), (0, .ref (ad 0)), (1, .int a1), (2, .ref (ad 42))]) dL_count_12 rfl (by decide) rfl ?_
      refine rw_iconst (v := 1) dL_count_13 (by decide) ?_
      replace hf := Option.some.inj hf
      subst hf
      exact rw_ireturn dL_count_14 rfl ⟨rfl, hr⟩ (by decide) (by decide)
    rw [if_neg c4] at hf
    cases hf
  rw [he] at hf
  dsimp only at hf
  refine rw_i2l dL_count_7 ?_
  obtain ⟨hi6, hf⟩ := grd hf
  refine ss_42 hr dL_count_8 (inB_in hi6) (fun h hr => ?_)
  refine nmS hf hr (fun σ7 hr hf => ?_)
  refine rw_goto (tgt := 15) dL_count_9 (by decide) ?_
  refine rw_iconst (v := 0) dL_count_15 (by decide) ?_
  replace hf := Option.some.inj hf
  subst hf
  exact rw_ireturn dL_count_16 rfl ⟨rfl, hr⟩ (by decide) (by decide)
def fL_edge (a1 : Int32) (a2 : Int32) (σ : rS) : Option (Int32 × rS) := (fX11_edge a1 a2 σ).bind fun q1 => match q1.1 with | .error E3 => (if E3 = "java/lang/IllegalStateException" then some (1, q1.2) else if E3 = "java/lang/IndexOutOfBoundsException" then some (2, q1.2) else if E3 = "java/lang/IllegalArgumentException" then some (3, q1.2) else none) | .ok r2 => if inB 0 1 then vS (uO q1.2 (0 : Int32).toNatClampNeg r2.toInt64) fun σ11 => some (0, σ11) else none
set_option maxHeartbeats 4000000 in
theorem cmL_edge {G : rG} {ad : Nat → Nat} {a1 : Int32} {a2 : Int32} {σ : rS} {h : rH} {o : (Int32 × rS)} (hr : Rep G ad σ h) (hf : fL_edge a1 a2 σ = some o) : rMT G mL_edge (rm 8 3 18) [.ref (ad 0), .int a1, .int a2, .ref (ad 42)] h (qI G ad o) xN := by
  unfold fL_edge at hf
  refine rw_metW (by decide +kernel) (List.cons_ne_nil _ _) (Nat.le_of_ble_eq_true rfl) ?_
  show RW G _ _ _ _ 0 0 0 [(0, .ref (ad 0)), (1, .int a1), (2, .int a2), (3, .ref (ad 42))] [] h
  refine rw_aload_n dL_edge_0 3 rfl rfl ?_
  refine rw_iconst (v := 0) dL_edge_1 (by decide) ?_
  refine rw_aload_n dL_edge_2 0 rfl rfl ?_
  refine rw_iload_n dL_edge_3 1 rfl rfl ?_
  refine rw_iload_n dL_edge_4 2 rfl rfl ?_
  obtain ⟨q1, hq1, hf⟩ := bnd hf
  refine kV_Ix (ad := ad) (As := [.int a1, .int a2]) (st := [.int 0, .ref (ad 42)]) dL_edge_5 calX11_edge wm971 wm972 wm973 rfl rfl (rc_0 hr) (ci := 11) (by decide) rfl rfl (Nat.le_of_ble_eq_true rfl) ⟨⟨by decide, by decide⟩, by decide, by decide⟩ (cmX11_edge hr hq1) (fun E h he hr => ?_) (fun r2 h he hr => ?_)
  · rw [he] at hf
    dsimp only at hf
    by_cases c4 : E = "java/lang/IllegalStateException"
    · rw [if_pos c4] at hf
      subst c4
      refine rx_catch [] (0, 10, 13, 26) [(0, 10, 17, 20), (0, 10, 21, 13)] rfl rfl (by decide) (fun z hz => nomatch hz) (by decide) (by decide) wm944 (fun y5 => ?_)
      refine rw_astore (lv2 := [(4, .ref y5), (0, .ref (ad 0)), (1, .int a1), (2, .int a2), (3, .ref (ad 42))]) dL_edge_13 (by decide) rfl ?_
      refine rw_iconst (v := 1) dL_edge_15 (by decide) ?_
      replace hf := Option.some.inj hf
      subst hf
      exact rw_ireturn dL_edge_16 rfl ⟨rfl, hr⟩ (by decide) (by decide)
    rw [if_neg c4] at hf
    by_cases c6 : E = "java/lang/IndexOutOfBoundsException"
    · rw [if_pos c6] at hf
      subst c6
      refine rx_catch [(0, 10, 13, 26)] (0, 10, 17, 20) [(0, 10, 21, 13)] rfl rfl (by decide) (by
        intro z hz
        simp only [List.mem_cons, List.not_mem_nil, or_false] at hz
        rcases hz with rfl
        · exact Or.inr ⟨by decide, "java/lang/IllegalStateException", wm944, by decide⟩) (by decide) (by decide) wm910 (fun y7 => ?_)
      refine rw_astore (lv2 := [(4, .ref y7), (0, .ref (ad 0)), (1, .int a1), (2, .int a2), (3, .ref (ad 42))]) dL_edge_17 (by decide) rfl ?_
      refine rw_iconst (v := 2) dL_edge_19 (by decide) ?_
      replace hf := Option.some.inj hf
      subst hf
      exact rw_ireturn dL_edge_20 rfl ⟨rfl, hr⟩ (by decide) (by decide)
    rw [if_neg c6] at hf
    by_cases c8 : E = "java/lang/IllegalArgumentException"
    · rw [if_pos c8] at hf
      subst c8
      refine rx_catch [(0, 10, 13, 26), (0, 10, 17, 20)] (0, 10, 21, 13) [] rfl rfl (by decide) (by
        intro z hz
        simp only [List.mem_cons, List.not_mem_nil, or_false] at hz
        rcases hz with rfl | rfl
        · exact Or.inr ⟨by decide, "java/lang/IllegalStateException", wm944, by decide⟩
        · exact Or.inr ⟨by decide, "java/lang/IndexOutOfBoundsException", wm910, by decide⟩) (by decide) (by decide) wm816 (fun y9 => ?_)
      refine rw_astore (lv2 := [(4, .ref y9), (0, .ref (ad 0)), (1, .int a1), (2, .int a2), (3, .ref (ad 42))]) dL_edge_21 (by decide) rfl ?_
      refine rw_iconst (v := 3) dL_edge_23 (by decide) ?_
      replace hf := Option.some.inj hf
      subst hf
      exact rw_ireturn dL_edge_24 rfl ⟨rfl, hr⟩ (by decide) (by decide)
    rw [if_neg c8] at hf
    cases hf
  rw [he] at hf
  dsimp only at hf
  refine rw_i2l dL_edge_8 ?_
  obtain ⟨hi10, hf⟩ := grd hf
  refine ss_42 hr dL_edge_9 (inB_in hi10) (fun h hr => ?_)
  refine nmS hf hr (fun σ11 hr hf => ?_)
  refine rw_goto (tgt := 25) dL_edge_10 (by decide) ?_
  refine rw_iconst (v := 0) dL_edge_25 (by decide) ?_
  replace hf := Option.some.inj hf
  subst hf
  exact rw_ireturn dL_edge_26 rfl ⟨rfl, hr⟩ (by decide) (by decide)
def fL_triangle (a1 : Int32) (a2 : Int32) (σ : rS) : Option (Int32 × rS) := (fX11_triangle a1 a2 σ).bind fun q1 => match q1.1 with | .error E3 => (if E3 = "java/lang/IllegalStateException" then some (1, q1.2) else if E3 = "java/lang/IndexOutOfBoundsException" then some (2, q1.2) else if E3 = "java/lang/IllegalArgumentException" then some (3, q1.2) else none) | .ok r2 => if inB 0 1 then vS (uO q1.2 (0 : Int32).toNatClampNeg r2.toInt64) fun σ11 => some (0, σ11) else none
set_option maxHeartbeats 4000000 in
theorem cmL_triangle {G : rG} {ad : Nat → Nat} {a1 : Int32} {a2 : Int32} {σ : rS} {h : rH} {o : (Int32 × rS)} (hr : Rep G ad σ h) (hf : fL_triangle a1 a2 σ = some o) : rMT G mL_triangle (rm 8 3 18) [.ref (ad 0), .int a1, .int a2, .ref (ad 42)] h (qI G ad o) xN := by
  unfold fL_triangle at hf
  refine rw_metW (by decide +kernel) (List.cons_ne_nil _ _) (Nat.le_of_ble_eq_true rfl) ?_
  show RW G _ _ _ _ 0 0 0 [(0, .ref (ad 0)), (1, .int a1), (2, .int a2), (3, .ref (ad 42))] [] h
  refine rw_aload_n dL_triangle_0 3 rfl rfl ?_
  refine rw_iconst (v := 0) dL_triangle_1 (by decide) ?_
  refine rw_aload_n dL_triangle_2 0 rfl rfl ?_
  refine rw_iload_n dL_triangle_3 1 rfl rfl ?_
  refine rw_iload_n dL_triangle_4 2 rfl rfl ?_
  obtain ⟨q1, hq1, hf⟩ := bnd hf
  refine kV_Ix (ad := ad) (As := [.int a1, .int a2]) (st := [.int 0, .ref (ad 42)]) dL_triangle_5 calX11_triangle wm978 wm979 wm980 rfl rfl (rc_0 hr) (ci := 11) (by decide) rfl rfl (Nat.le_of_ble_eq_true rfl) ⟨⟨by decide, by decide⟩, by decide, by decide⟩ (cmX11_triangle hr hq1) (fun E h he hr => ?_) (fun r2 h he hr => ?_)
  · rw [he] at hf
    dsimp only at hf
    by_cases c4 : E = "java/lang/IllegalStateException"
    · rw [if_pos c4] at hf
      subst c4
      refine rx_catch [] (0, 10, 13, 26) [(0, 10, 17, 20), (0, 10, 21, 13)] rfl rfl (by decide) (fun z hz => nomatch hz) (by decide) (by decide) wm944 (fun y5 => ?_)
      refine rw_astore (lv2 := [(4, .ref y5), (0, .ref (ad 0)), (1, .int a1), (2, .int a2), (3, .ref (ad 42))]) dL_triangle_13 (by decide) rfl ?_
      refine rw_iconst (v := 1) dL_triangle_15 (by decide) ?_
      replace hf := Option.some.inj hf
      subst hf
      exact rw_ireturn dL_triangle_16 rfl ⟨rfl, hr⟩ (by decide) (by decide)
    rw [if_neg c4] at hf
    by_cases c6 : E = "java/lang/IndexOutOfBoundsException"
    · rw [if_pos c6] at hf
      subst c6
      refine rx_catch [(0, 10, 13, 26)] (0, 10, 17, 20) [(0, 10, 21, 13)] rfl rfl (by decide) (by
        intro z hz
        simp only [List.mem_cons, List.not_mem_nil, or_false] at hz
        rcases hz with rfl
        · exact Or.inr ⟨by decide, "java/lang/IllegalStateException", wm944, by decide⟩) (by decide) (by decide) wm910 (fun y7 => ?_)
      refine rw_astore (lv2 := [(4, .ref y7), (0, .ref (ad 0)), (1, .int a1), (2, .int a2), (3, .ref (ad 42))]) dL_triangle_17 (by decide) rfl ?_
      refine rw_iconst (v := 2) dL_triangle_19 (by decide) ?_
      replace hf := Option.some.inj hf
      subst hf
      exact rw_ireturn dL_triangle_20 rfl ⟨rfl, hr⟩ (by decide) (by decide)
    rw [if_neg c6] at hf
    by_cases c8 : E = "java/lang/IllegalArgumentException"
    · rw [if_pos c8] at hf
      subst c8
      refine rx_catch [(0, 10, 13, 26), (0, 10, 17, 20)] (0, 10, 21, 13) [] rfl rfl (by decide) (by
        intro z hz
        simp only [List.mem_cons, List.not_mem_nil, or_false] at hz
        rcases hz with rfl | rfl
        · exact Or.inr ⟨by decide, "java/lang/IllegalStateException", wm944, by decide⟩
        · exact Or.inr ⟨by decide, "java/lang/IndexOutOfBoundsException", wm910, by decide⟩) (by decide) (by decide) wm816 (fun y9 => ?_)
      refine rw_astore (lv2 := [(4, .ref y9), (0, .ref (ad 0)), (1, .int a1), (2, .int a2), (3, .ref (ad 42))]) dL_triangle_21 (by decide) rfl ?_
      refine rw_iconst (v := 3) dL_triangle_23 (by decide) ?_
      replace hf := Option.some.inj hf
      subst hf
      exact rw_ireturn dL_triangle_24 rfl ⟨rfl, hr⟩ (by decide) (by decide)
    rw [if_neg c8] at hf
    cases hf
  rw [he] at hf
  dsimp only at hf
  refine rw_i2l dL_triangle_8 ?_
  obtain ⟨hi10, hf⟩ := grd hf
  refine ss_42 hr dL_triangle_9 (inB_in hi10) (fun h hr => ?_)
  refine nmS hf hr (fun σ11 hr hf => ?_)
  refine rw_goto (tgt := 25) dL_triangle_10 (by decide) ?_
  refine rw_iconst (v := 0) dL_triangle_25 (by decide) ?_
  replace hf := Option.some.inj hf
  subst hf
  exact rw_ireturn dL_triangle_26 rfl ⟨rfl, hr⟩ (by decide) (by decide)
def fL_match (a1 : Int32) (a2 : Int32) (a3 : Int32) (σ : rS) : Option (Int32 × rS) := (fX11_match a1 a2 a3 σ).bind fun q1 => match q1.1 with | .error E3 => (if E3 = "java/lang/IllegalStateException" then some (1, q1.2) else if E3 = "java/lang/IndexOutOfBoundsException" then some (2, q1.2) else if E3 = "java/lang/IllegalArgumentException" then some (3, q1.2) else none) | .ok r2 => if inB 0 1 then vS (uO q1.2 (0 : Int32).toNatClampNeg r2.toInt64) fun σ11 => some (0, σ11) else none
set_option maxHeartbeats 4000000 in
theorem cmL_match {G : rG} {ad : Nat → Nat} {a1 : Int32} {a2 : Int32} {a3 : Int32} {σ : rS} {h : rH} {o : (Int32 × rS)} (hr : Rep G ad σ h) (hf : fL_match a1 a2 a3 σ = some o) : rMT G mL_match (rm 9 5 30) [.ref (ad 0), .int a1, .int a2, .int a3, .ref (ad 42)] h (qI G ad o) xN := by
  unfold fL_match at hf
  refine rw_metW (by decide +kernel) (List.cons_ne_nil _ _) (Nat.le_of_ble_eq_true rfl) ?_
  show RW G _ _ _ _ 0 0 0 [(0, .ref (ad 0)), (1, .int a1), (2, .int a2), (3, .int a3), (4, .ref (ad 42))] [] h
  refine rw_aload dL_match_0 4 rfl ?_
  refine rw_iconst (v := 0) dL_match_2 (by decide) ?_
  refine rw_aload_n dL_match_3 0 rfl rfl ?_
  refine rw_iload_n dL_match_4 1 rfl rfl ?_
  refine rw_iload_n dL_match_5 2 rfl rfl ?_
  refine rw_iload_n dL_match_6 3 rfl rfl ?_
  obtain ⟨q1, hq1, hf⟩ := bnd hf
  refine kV_Ix (ad := ad) (As := [.int a1, .int a2, .int a3]) (st := [.int 0, .ref (ad 42)]) dL_match_7 calX11_match wm992 wm993 wm994 rfl rfl (rc_0 hr) (ci := 11) (by decide) rfl rfl (Nat.le_of_ble_eq_true rfl) ⟨⟨by decide, by decide⟩, by decide, by decide⟩ (cmX11_match hr hq1) (fun E h he hr => ?_) (fun r2 h he hr => ?_)
  · rw [he] at hf
    dsimp only at hf
    by_cases c4 : E = "java/lang/IllegalStateException"
    · rw [if_pos c4] at hf
      subst c4
      refine rx_catch [] (0, 12, 15, 26) [(0, 12, 19, 20), (0, 12, 23, 13)] rfl rfl (by decide) (fun z hz => nomatch hz) (by decide) (by decide) wm944 (fun y5 => ?_)
      refine rw_astore (lv2 := [(5, .ref y5), (0, .ref (ad 0)), (1, .int a1), (2, .int a2), (3, .int a3), (4, .ref (ad 42))]) dL_match_15 (by decide) rfl ?_
      refine rw_iconst (v := 1) dL_match_17 (by decide) ?_
      replace hf := Option.some.inj hf
      subst hf
      exact rw_ireturn dL_match_18 rfl ⟨rfl, hr⟩ (by decide) (by decide)
    rw [if_neg c4] at hf
    by_cases c6 : E = "java/lang/IndexOutOfBoundsException"
    · rw [if_pos c6] at hf
      subst c6
      refine rx_catch [(0, 12, 15, 26)] (0, 12, 19, 20) [(0, 12, 23, 13)] rfl rfl (by decide) (by
        intro z hz
        simp only [List.mem_cons, List.not_mem_nil, or_false] at hz
        rcases hz with rfl
        · exact Or.inr ⟨by decide, "java/lang/IllegalStateException", wm944, by decide⟩) (by decide) (by decide) wm910 (fun y7 => ?_)
      refine rw_astore (lv2 := [(5, .ref y7), (0, .ref (ad 0)), (1, .int a1), (2, .int a2), (3, .int a3), (4, .ref (ad 42))]) dL_match_19 (by decide) rfl ?_
      refine rw_iconst (v := 2) dL_match_21 (by decide) ?_
      replace hf := Option.some.inj hf
      subst hf
      exact rw_ireturn dL_match_22 rfl ⟨rfl, hr⟩ (by decide) (by decide)
    rw [if_neg c6] at hf
    by_cases c8 : E = "java/lang/IllegalArgumentException"
    · rw [if_pos c8] at hf
      subst c8
      refine rx_catch [(0, 12, 15, 26), (0, 12, 19, 20)] (0, 12, 23, 13) [] rfl rfl (by decide) (by
        intro z hz
        simp only [List.mem_cons, List.not_mem_nil, or_false] at hz
        rcases hz with rfl | rfl
        · exact Or.inr ⟨by decide, "java/lang/IllegalStateException", wm944, by decide⟩
        · exact Or.inr ⟨by decide, "java/lang/IndexOutOfBoundsException", wm910, by decide⟩) (by decide) (by decide) wm816 (fun y9 => ?_)
      refine rw_astore (lv2 := [(5, .ref y9), (0, .ref (ad 0)), (1, .int a1), (2, .int a2), (3, .int a3), (4, .ref (ad 42))]) dL_match_23 (by decide) rfl ?_
      refine rw_iconst (v := 3) dL_match_25 (by decide) ?_
      replace hf := Option.some.inj hf
      subst hf
      exact rw_ireturn dL_match_26 rfl ⟨rfl, hr⟩ (by decide) (by decide)
    rw [if_neg c8] at hf
    cases hf
  rw [he] at hf
  dsimp only at hf
  refine rw_i2l dL_match_10 ?_
  obtain ⟨hi10, hf⟩ := grd hf
  refine ss_42 hr dL_match_11 (inB_in hi10) (fun h hr => ?_)
  refine nmS hf hr (fun σ11 hr hf => ?_)
  refine rw_goto (tgt := 27) dL_match_12 (by decide) ?_
  refine rw_iconst (v := 0) dL_match_27 (by decide) ?_
  replace hf := Option.some.inj hf
  subst hf
  exact rw_ireturn dL_match_28 rfl ⟨rfl, hr⟩ (by decide) (by decide)
def fL_sum (a1 : Int32) (a2 : Int32) (σ : rS) : Option (Int32 × rS) := (fX11_sum a1 a2 σ).bind fun q1 => match q1.1 with | .error E3 => (if E3 = "java/lang/IllegalStateException" then some (1, q1.2) else if E3 = "java/lang/IndexOutOfBoundsException" then some (2, q1.2) else if E3 = "java/lang/IllegalArgumentException" then some (3, q1.2) else none) | .ok r2 => if inB 0 1 then vS (uO q1.2 (0 : Int32).toNatClampNeg r2.toInt64) fun σ11 => some (0, σ11) else none
set_option maxHeartbeats 4000000 in
theorem cmL_sum {G : rG} {ad : Nat → Nat} {a1 : Int32} {a2 : Int32} {σ : rS} {h : rH} {o : (Int32 × rS)} (hr : Rep G ad σ h) (hf : fL_sum a1 a2 σ = some o) : rMT G mL_sum (rm 9 4 24) [.ref (ad 0), .int a1, .int a2, .ref (ad 42)] h (qI G ad o) xN := by
  unfold fL_sum at hf
  refine rw_metW (by decide +kernel) (List.cons_ne_nil _ _) (Nat.le_of_ble_eq_true rfl) ?_
  show RW G _ _ _ _ 0 0 0 [(0, .ref (ad 0)), (1, .int a1), (2, .int a2), (3, .ref (ad 42))] [] h
  refine rw_aload_n dL_sum_0 3 rfl rfl ?_
  refine rw_iconst (v := 0) dL_sum_1 (by decide) ?_
  refine rw_aload_n dL_sum_2 0 rfl rfl ?_
  refine rw_iload_n dL_sum_3 1 rfl rfl ?_
  refine rw_iload_n dL_sum_4 2 rfl rfl ?_
  obtain ⟨q1, hq1, hf⟩ := bnd hf
  refine kV_Ix (ad := ad) (As := [.int a1, .int a2]) (st := [.int 0, .ref (ad 42)]) dL_sum_5 calX11_sum wm1005 wm1006 wm1007 rfl rfl (rc_0 hr) (ci := 11) (by decide) rfl rfl (Nat.le_of_ble_eq_true rfl) ⟨⟨by decide, by decide⟩, by decide, by decide⟩ (cmX11_sum hr hq1) (fun E h he hr => ?_) (fun r2 h he hr => ?_)
  · rw [he] at hf
    dsimp only at hf
    by_cases c4 : E = "java/lang/IllegalStateException"
    · rw [if_pos c4] at hf
      subst c4
      refine rx_catch [] (0, 10, 13, 26) [(0, 10, 17, 20), (0, 10, 21, 13)] rfl rfl (by decide) (fun z hz => nomatch hz) (by decide) (by decide) wm944 (fun y5 => ?_)
      refine rw_astore (lv2 := [(4, .ref y5), (0, .ref (ad 0)), (1, .int a1), (2, .int a2), (3, .ref (ad 42))]) dL_sum_13 (by decide) rfl ?_
      refine rw_iconst (v := 1) dL_sum_15 (by decide) ?_
      replace hf := Option.some.inj hf
      subst hf
      exact rw_ireturn dL_sum_16 rfl ⟨rfl, hr⟩ (by decide) (by decide)
    rw [if_neg c4] at hf
    by_cases c6 : E = "java/lang/IndexOutOfBoundsException"
    · rw [if_pos c6] at hf
      subst c6
      refine rx_catch [(0, 10, 13, 26)] (0, 10, 17, 20) [(0, 10, 21, 13)] rfl rfl (by decide) (by
        intro z hz
        simp only [List.mem_cons, List.not_mem_nil, or_false] at hz
        rcases hz with rfl
        · exact Or.inr ⟨by decide, "java/lang/IllegalStateException", wm944, by decide⟩) (by decide) (by decide) wm910 (fun y7 => ?_)
      refine rw_astore (lv2 := [(4, .ref y7), (0, .ref (ad 0)), (1, .int a1), (2, .int a2), (3, .ref (ad 42))]) dL_sum_17 (by decide) rfl ?_
      refine rw_iconst (v := 2) dL_sum_19 (by decide) ?_
      replace hf := Option.some.inj hf
      subst hf
      exact rw_ireturn dL_sum_20 rfl ⟨rfl, hr⟩ (by decide) (by decide)
    rw [if_neg c6] at hf
    by_cases c8 : E = "java/lang/IllegalArgumentException"
    · rw [if_pos c8] at hf
      subst c8
      refine rx_catch [(0, 10, 13, 26), (0, 10, 17, 20)] (0, 10, 21, 13) [] rfl rfl (by decide) (by
        intro z hz
        simp only [List.mem_cons, List.not_mem_nil, or_false] at hz
        rcases hz with rfl | rfl
        · exact Or.inr ⟨by decide, "java/lang/IllegalStateException", wm944, by decide⟩
        · exact Or.inr ⟨by decide, "java/lang/IndexOutOfBoundsException", wm910, by decide⟩) (by decide) (by decide) wm816 (fun y9 => ?_)
      refine rw_astore (lv2 := [(4, .ref y9), (0, .ref (ad 0)), (1, .int a1), (2, .int a2), (3, .ref (ad 42))]) dL_sum_21 (by decide) rfl ?_
      refine rw_iconst (v := 3) dL_sum_23 (by decide) ?_
      replace hf := Option.some.inj hf
      subst hf
      exact rw_ireturn dL_sum_24 rfl ⟨rfl, hr⟩ (by decide) (by decide)
    rw [if_neg c8] at hf
    cases hf
  rw [he] at hf
  dsimp only at hf
  refine rw_i2l dL_sum_8 ?_
  obtain ⟨hi10, hf⟩ := grd hf
  refine ss_42 hr dL_sum_9 (inB_in hi10) (fun h hr => ?_)
  refine nmS hf hr (fun σ11 hr hf => ?_)
  refine rw_goto (tgt := 25) dL_sum_10 (by decide) ?_
  refine rw_iconst (v := 0) dL_sum_25 (by decide) ?_
  replace hf := Option.some.inj hf
  subst hf
  exact rw_ireturn dL_sum_26 rfl ⟨rfl, hr⟩ (by decide) (by decide)
def fL_section (a1 : Int32) (a2 : Int32) (a3 : Int32) (a4 : Int32) (σ : rS) : Option (Int32 × rS) := (fX11_section a1 a2 a3 a4 σ).bind fun q1 => match q1.1 with | .error E3 => (if E3 = "java/lang/IllegalStateException" then some (1, q1.2) else if E3 = "java/lang/IndexOutOfBoundsException" then some (2, q1.2) else if E3 = "java/lang/IllegalArgumentException" then some (3, q1.2) else none) | .ok r2 => if inB 0 1 then vS (uO q1.2 (0 : Int32).toNatClampNeg r2.toInt64) fun σ11 => some (0, σ11) else none
set_option maxHeartbeats 4000000 in
theorem cmL_section {G : rG} {ad : Nat → Nat} {a1 : Int32} {a2 : Int32} {a3 : Int32} {a4 : Int32} {σ : rS} {h : rH} {o : (Int32 × rS)} (hr : Rep G ad σ h) (hf : fL_section a1 a2 a3 a4 σ = some o) : rMT G mL_section (rm 9 6 36) [.ref (ad 0), .int a1, .int a2, .int a3, .int a4, .ref (ad 42)] h (qI G ad o) xN := by
  unfold fL_section at hf
  refine rw_metW (by decide +kernel) (List.cons_ne_nil _ _) (Nat.le_of_ble_eq_true rfl) ?_
  show RW G _ _ _ _ 0 0 0 [(0, .ref (ad 0)), (1, .int a1), (2, .int a2), (3, .int a3), (4, .int a4), (5, .ref (ad 42))] [] h
  refine rw_aload dL_section_0 5 rfl ?_
  refine rw_iconst (v := 0) dL_section_2 (by decide) ?_
  refine rw_aload_n dL_section_3 0 rfl rfl ?_
  refine rw_iload_n dL_section_4 1 rfl rfl ?_
  refine rw_iload_n dL_section_5 2 rfl rfl ?_
  refine rw_iload_n dL_section_6 3 rfl rfl ?_
  refine rw_iload dL_section_7 4 rfl ?_
  obtain ⟨q1, hq1, hf⟩ := bnd hf
  refine kV_Ix (ad := ad) (As := [.int a1, .int a2, .int a3, .int a4]) (st := [.int 0, .ref (ad 42)]) dL_section_9 calX11_section wm1012 wm1013 wm1014 rfl rfl (rc_0 hr) (ci := 11) (by decide) rfl rfl (Nat.le_of_ble_eq_true rfl) ⟨⟨by decide, by decide⟩, by decide, by decide⟩ (cmX11_section hr hq1) (fun E h he hr => ?_) (fun r2 h he hr => ?_)
  · rw [he] at hf
    dsimp only at hf
    by_cases c4 : E = "java/lang/IllegalStateException"
    · rw [if_pos c4] at hf
      subst c4
      refine rx_catch [] (0, 14, 17, 26) [(0, 14, 21, 20), (0, 14, 25, 13)] rfl rfl (by decide) (fun z hz => nomatch hz) (by decide) (by decide) wm944 (fun y5 => ?_)
      refine rw_astore (lv2 := [(6, .ref y5), (0, .ref (ad 0)), (1, .int a1), (2, .int a2), (3, .int a3), (4, .int a4), (5, .ref (ad 42))]) dL_section_17 (by decide) rfl ?_
      refine rw_iconst (v := 1) dL_section_19 (by decide) ?_
      replace hf := Option.some.inj hf
      subst hf
      exact rw_ireturn dL_section_20 rfl ⟨rfl, hr⟩ (by decide) (by decide)
    rw [if_neg c4] at hf
    by_cases c6 : E = "java/lang/IndexOutOfBoundsException"
    · rw [if_pos c6] at hf
      subst c6
      refine rx_catch [(0, 14, 17, 26)] (0, 14, 21, 20) [(0, 14, 25, 13)] rfl rfl (by decide) (by
        intro z hz
        simp only [List.mem_cons, List.not_mem_nil, or_false] at hz
        rcases hz with rfl
        · exact Or.inr ⟨by decide, "java/lang/IllegalStateException", wm944, by decide⟩) (by decide) (by decide) wm910 (fun y7 => ?_)
      refine rw_astore (lv2 := [(6, .ref y7), (0, .ref (ad 0)), (1, .int a1), (2, .int a2), (3, .int a3), (4, .int a4), (5, .ref (ad 42))]) dL_section_21 (by decide) rfl ?_
      refine rw_iconst (v := 2) dL_section_23 (by decide) ?_
      replace hf := Option.some.inj hf
      subst hf
      exact rw_ireturn dL_section_24 rfl ⟨rfl, hr⟩ (by decide) (by decide)
    rw [if_neg c6] at hf
    by_cases c8 : E = "java/lang/IllegalArgumentException"
    · rw [if_pos c8] at hf
      subst c8
      refine rx_catch [(0, 14, 17, 26), (0, 14, 21, 20)] (0, 14, 25, 13) [] rfl rfl (by decide) (by
        intro z hz
        simp only [List.mem_cons, List.not_mem_nil, or_false] at hz
        rcases hz with rfl | rfl
        · exact Or.inr ⟨by decide, "java/lang/IllegalStateException", wm944, by decide⟩
        · exact Or.inr ⟨by decide, "java/lang/IndexOutOfBoundsException", wm910, by decide⟩) (by decide) (by decide) wm816 (fun y9 => ?_)
      refine rw_astore (lv2 := [(6, .ref y9), (0, .ref (ad 0)), (1, .int a1), (2, .int a2), (3, .int a3), (4, .int a4), (5, .ref (ad 42))]) dL_section_25 (by decide) rfl ?_
      refine rw_iconst (v := 3) dL_section_27 (by decide) ?_
      replace hf := Option.some.inj hf
      subst hf
      exact rw_ireturn dL_section_28 rfl ⟨rfl, hr⟩ (by decide) (by decide)
    rw [if_neg c8] at hf
    cases hf
  rw [he] at hf
  dsimp only at hf
  refine rw_i2l dL_section_12 ?_
  obtain ⟨hi10, hf⟩ := grd hf
  refine ss_42 hr dL_section_13 (inB_in hi10) (fun h hr => ?_)
  refine nmS hf hr (fun σ11 hr hf => ?_)
  refine rw_goto (tgt := 29) dL_section_14 (by decide) ?_
  refine rw_iconst (v := 0) dL_section_29 (by decide) ?_
  replace hf := Option.some.inj hf
  subst hf
  exact rw_ireturn dL_section_30 rfl ⟨rfl, hr⟩ (by decide) (by decide)
def jL_crosses_14  (s0 : Int64) (s1 : Int32) (σ : rS) : Option (Int32 × rS) := if inB s1 1 then vS (uO σ s1.toNatClampNeg s0) fun σ8 => some (0, σ8) else none
set_option maxHeartbeats 4000000 in
theorem t_jL_crosses_14 {G : rG} {ad : Nat → Nat} {o : (Int32 × rS)}   (s0 : Int64) (s1 : Int32) (σ : rS) (h : rH) (hr : Rep G ad σ h) (hf : jL_crosses_14  s0 s1 σ = some o) : RW G mL_crosses (rm 8 1 6) (qI G ad o) xN 1 6 14 [] [.long s0, .int s1, .ref (ad 42)] h := by
  unfold jL_crosses_14 at hf
  obtain ⟨hi7, hf⟩ := grd hf
  refine ss_42 hr dL_crosses_14 (inB_in hi7) (fun h hr => ?_)
  refine nmS hf hr (fun σ8 hr hf => ?_)
  refine rw_goto (tgt := 21) dL_crosses_15 (by decide) ?_
  refine rw_iconst (v := 0) dL_crosses_21 (by decide) ?_
  replace hf := Option.some.inj hf
  subst hf
  exact rw_ireturn dL_crosses_22 rfl ⟨rfl, hr⟩ (by decide) (by decide)
def fL_crosses  (σ : rS) : Option (Int32 × rS) := (fX11_crosses σ).bind fun q1 => match q1.1 with | .error E3 => (if E3 = "java/lang/IllegalStateException" then some (1, q1.2) else none) | .ok r2 => if r2 = 0 then jL_crosses_14 0 0 q1.2 else jL_crosses_14 1 0 q1.2
set_option maxHeartbeats 4000000 in
theorem cmL_crosses {G : rG} {ad : Nat → Nat}  {σ : rS} {h : rH} {o : (Int32 × rS)} (hr : Rep G ad σ h) (hf : fL_crosses  σ = some o) : rMT G mL_crosses (rm 8 1 6) [.ref (ad 0), .ref (ad 42)] h (qI G ad o) xN := by
  unfold fL_crosses at hf
  refine rw_metW (by decide +kernel) (List.cons_ne_nil _ _) (Nat.le_of_ble_eq_true rfl) ?_
  show RW G _ _ _ _ 0 0 0 [(0, .ref (ad 0)), (1, .ref (ad 42))] [] h
  refine rw_aload_n dL_crosses_0 1 rfl rfl ?_
  refine rw_iconst (v := 0) dL_crosses_1 (by decide) ?_
  refine rw_aload_n dL_crosses_2 0 rfl rfl ?_
  obtain ⟨q1, hq1, hf⟩ := bnd hf
  refine kV_Ix (ad := ad) (As := []) (st := [.int 0, .ref (ad 42)]) dL_crosses_3 calX11_crosses wm1028 wm1029 wm1030 rfl rfl (rc_0 hr) (ci := 11) (by decide) rfl rfl (Nat.le_of_ble_eq_true rfl) ⟨⟨by decide, by decide⟩, by decide, by decide⟩ (cmX11_crosses hr hq1) (fun E h he hr => ?_) (fun r2 h he hr => ?_)
  · rw [he] at hf
    dsimp only at hf
    by_cases c4 : E = "java/lang/IllegalStateException"
    · rw [if_pos c4] at hf
      subst c4
      refine rx_catch [] (0, 15, 18, 26) [] rfl rfl (by decide) (fun z hz => nomatch hz) (by decide) (by decide) wm944 (fun y5 => ?_)
      refine rw_astore_n (lv2 := [(2, .ref y5), (0, .ref (ad 0)), (1, .ref (ad 42))]) dL_crosses_18 rfl (by decide) rfl ?_
      refine rw_iconst (v := 1) dL_crosses_19 (by decide) ?_
      replace hf := Option.some.inj hf
      subst hf
      exact rw_ireturn dL_crosses_20 rfl ⟨rfl, hr⟩ (by decide) (by decide)
    rw [if_neg c4] at hf
    cases hf
  rw [he] at hf
  dsimp only at hf
  refine rw_if_eq (tgt := 13) dL_crosses_6 (by decide) (fun c6 => ?_) (fun c6 => ?_)
  · rw [if_pos c6] at hf
    refine rw_lconst (v := 0) dL_crosses_13 (by decide) ?_
    refine rw_sub [] rfl ?_
    exact t_jL_crosses_14 (ad := ad) (G := G)  0 0 q1.2 _ hr hf
  · rw [if_neg c6] at hf
    refine rw_lconst (v := 1) dL_crosses_9 (by decide) ?_
    refine rw_goto (tgt := 14) dL_crosses_10 (by decide) ?_
    refine rw_sub [] rfl ?_
    exact t_jL_crosses_14 (ad := ad) (G := G)  1 0 q1.2 _ hr hf
def fL_bed (a1 : Int32) (a2 : Int32) (σ : rS) : Option (Int32 × rS) := (fX11_bed a1 a2 σ).bind fun q1 => match q1.1 with | .error E3 => (if E3 = "java/lang/IllegalStateException" then some (1, q1.2) else if E3 = "java/lang/IndexOutOfBoundsException" then some (2, q1.2) else if E3 = "java/lang/IllegalArgumentException" then some (3, q1.2) else none) | .ok r2 => if inB 0 1 then vS (uO q1.2 (0 : Int32).toNatClampNeg r2.toInt64) fun σ11 => some (0, σ11) else none
set_option maxHeartbeats 4000000 in
theorem cmL_bed {G : rG} {ad : Nat → Nat} {a1 : Int32} {a2 : Int32} {σ : rS} {h : rH} {o : (Int32 × rS)} (hr : Rep G ad σ h) (hf : fL_bed a1 a2 σ = some o) : rMT G mL_bed (rm 8 3 18) [.ref (ad 0), .int a1, .int a2, .ref (ad 42)] h (qI G ad o) xN := by
  unfold fL_bed at hf
  refine rw_metW (by decide +kernel) (List.cons_ne_nil _ _) (Nat.le_of_ble_eq_true rfl) ?_
  show RW G _ _ _ _ 0 0 0 [(0, .ref (ad 0)), (1, .int a1), (2, .int a2), (3, .ref (ad 42))] [] h
  refine rw_aload_n dL_bed_0 3 rfl rfl ?_
  refine rw_iconst (v := 0) dL_bed_1 (by decide) ?_
  refine rw_aload_n dL_bed_2 0 rfl rfl ?_
  refine rw_iload_n dL_bed_3 1 rfl rfl ?_
  refine rw_iload_n dL_bed_4 2 rfl rfl ?_
  obtain ⟨q1, hq1, hf⟩ := bnd hf
  refine kV_Ix (ad := ad) (As := [.int a1, .int a2]) (st := [.int 0, .ref (ad 42)]) dL_bed_5 calX11_bed wm1044 wm1045 wm1046 rfl rfl (rc_0 hr) (ci := 11) (by decide) rfl rfl (Nat.le_of_ble_eq_true rfl) ⟨⟨by decide, by decide⟩, by decide, by decide⟩ (cmX11_bed hr hq1) (fun E h he hr => ?_) (fun r2 h he hr => ?_)
  · rw [he] at hf
    dsimp only at hf
    by_cases c4 : E = "java/lang/IllegalStateException"
    · rw [if_pos c4] at hf
      subst c4
      refine rx_catch [] (0, 10, 13, 26) [(0, 10, 17, 20), (0, 10, 21, 13)] rfl rfl (by decide) (fun z hz => nomatch hz) (by decide) (by decide) wm944 (fun y5 => ?_)
      refine rw_astore (lv2 := [(4, .ref y5), (0, .ref (ad 0)), (1, .int a1), (2, .int a2), (3, .ref (ad 42))]) dL_bed_13 (by decide) rfl ?_
      refine rw_iconst (v := 1) dL_bed_15 (by decide) ?_
      replace hf := Option.some.inj hf
      subst hf
      exact rw_ireturn dL_bed_16 rfl ⟨rfl, hr⟩ (by decide) (by decide)
    rw [if_neg c4] at hf
    by_cases c6 : E = "java/lang/IndexOutOfBoundsException"
    · rw [if_pos c6] at hf
      subst c6
      refine rx_catch [(0, 10, 13, 26)] (0, 10, 17, 20) [(0, 10, 21, 13)] rfl rfl (by decide) (by
        intro z hz
        simp only [List.mem_cons, List.not_mem_nil, or_false] at hz
        rcases hz with rfl
        · exact Or.inr ⟨by decide, "java/lang/IllegalStateException", wm944, by decide⟩) (by decide) (by decide) wm910 (fun y7 => ?_)
      refine rw_astore (lv2 := [(4, .ref y7), (0, .ref (ad 0)), (1, .int a1), (2, .int a2), (3, .ref (ad 42))]) dL_bed_17 (by decide) rfl ?_
      refine rw_iconst (v := 2) dL_bed_19 (by decide) ?_
      replace hf := Option.some.inj hf
      subst hf
      exact rw_ireturn dL_bed_20 rfl ⟨rfl, hr⟩ (by decide) (by decide)
    rw [if_neg c6] at hf
    by_cases c8 : E = "java/lang/IllegalArgumentException"
    · rw [if_pos c8] at hf
      subst c8
      refine rx_catch [(0, 10, 13, 26), (0, 10, 17, 20)] (0, 10, 21, 13) [] rfl rfl (by decide) (by
        intro z hz
        simp only [List.mem_cons, List.not_mem_nil, or_false] at hz
        rcases hz with rfl | rfl
        · exact Or.inr ⟨by decide, "java/lang/IllegalStateException", wm944, by decide⟩
        · exact Or.inr ⟨by decide, "java/lang/IndexOutOfBoundsException", wm910, by decide⟩) (by decide) (by decide) wm816 (fun y9 => ?_)
      refine rw_astore (lv2 := [(4, .ref y9), (0, .ref (ad 0)), (1, .int a1), (2, .int a2), (3, .ref (ad 42))]) dL_bed_21 (by decide) rfl ?_
      refine rw_iconst (v := 3) dL_bed_23 (by decide) ?_
      replace hf := Option.some.inj hf
      subst hf
      exact rw_ireturn dL_bed_24 rfl ⟨rfl, hr⟩ (by decide) (by decide)
    rw [if_neg c8] at hf
    cases hf
  rw [he] at hf
  dsimp only at hf
  refine rw_i2l dL_bed_8 ?_
  obtain ⟨hi10, hf⟩ := grd hf
  refine ss_42 hr dL_bed_9 (inB_in hi10) (fun h hr => ?_)
  refine nmS hf hr (fun σ11 hr hf => ?_)
  refine rw_goto (tgt := 25) dL_bed_10 (by decide) ?_
  refine rw_iconst (v := 0) dL_bed_25 (by decide) ?_
  replace hf := Option.some.inj hf
  subst hf
  exact rw_ireturn dL_bed_26 rfl ⟨rfl, hr⟩ (by decide) (by decide)
def fL_bedOf (a1 : Int32) (a2 : Int32) (σ : rS) : Option (Int32 × rS) := (fX11_bedOf a1 a2 σ).bind fun q1 => match q1.1 with | .error E3 => (if E3 = "java/lang/IllegalStateException" then some (1, q1.2) else if E3 = "java/lang/IndexOutOfBoundsException" then some (2, q1.2) else none) | .ok r2 => if inB 0 1 then vS (uO q1.2 (0 : Int32).toNatClampNeg r2.toInt64) fun σ9 => some (0, σ9) else none
set_option maxHeartbeats 4000000 in
theorem cmL_bedOf {G : rG} {ad : Nat → Nat} {a1 : Int32} {a2 : Int32} {σ : rS} {h : rH} {o : (Int32 × rS)} (hr : Rep G ad σ h) (hf : fL_bedOf a1 a2 σ = some o) : rMT G mL_bedOf (rm 9 3 18) [.ref (ad 0), .int a1, .int a2, .ref (ad 42)] h (qI G ad o) xN := by
  unfold fL_bedOf at hf
  refine rw_metW (by decide +kernel) (List.cons_ne_nil _ _) (Nat.le_of_ble_eq_true rfl) ?_
  show RW G _ _ _ _ 0 0 0 [(0, .ref (ad 0)), (1, .int a1), (2, .int a2), (3, .ref (ad 42))] [] h
  refine rw_aload_n dL_bedOf_0 3 rfl rfl ?_
  refine rw_iconst (v := 0) dL_bedOf_1 (by decide) ?_
  refine rw_aload_n dL_bedOf_2 0 rfl rfl ?_
  refine rw_iload_n dL_bedOf_3 1 rfl rfl ?_
  refine rw_iload_n dL_bedOf_4 2 rfl rfl ?_
  obtain ⟨q1, hq1, hf⟩ := bnd hf
  refine kV_Ix (ad := ad) (As := [.int a1, .int a2]) (st := [.int 0, .ref (ad 42)]) dL_bedOf_5 calX11_bedOf wm1057 wm1058 wm1059 rfl rfl (rc_0 hr) (ci := 11) (by decide) rfl rfl (Nat.le_of_ble_eq_true rfl) ⟨⟨by decide, by decide⟩, by decide, by decide⟩ (cmX11_bedOf hr hq1) (fun E h he hr => ?_) (fun r2 h he hr => ?_)
  · rw [he] at hf
    dsimp only at hf
    by_cases c4 : E = "java/lang/IllegalStateException"
    · rw [if_pos c4] at hf
      subst c4
      refine rx_catch [] (0, 10, 13, 26) [(0, 10, 17, 20)] rfl rfl (by decide) (fun z hz => nomatch hz) (by decide) (by decide) wm944 (fun y5 => ?_)
      refine rw_astore (lv2 := [(4, .ref y5), (0, .ref (ad 0)), (1, .int a1), (2, .int a2), (3, .ref (ad 42))]) dL_bedOf_13 (by decide) rfl ?_
      refine rw_iconst (v := 1) dL_bedOf_15 (by decide) ?_
      replace hf := Option.some.inj hf
      subst hf
      exact rw_ireturn dL_bedOf_16 rfl ⟨rfl, hr⟩ (by decide) (by decide)
    rw [if_neg c4] at hf
    by_cases c6 : E = "java/lang/IndexOutOfBoundsException"
    · rw [if_pos c6] at hf
      subst c6
      refine rx_catch [(0, 10, 13, 26)] (0, 10, 17, 20) [] rfl rfl (by decide) (by
        intro z hz
        simp only [List.mem_cons, List.not_mem_nil, or_false] at hz
        rcases hz with rfl
        · exact Or.inr ⟨by decide, "java/lang/IllegalStateException", wm944, by decide⟩) (by decide) (by decide) wm910 (fun y7 => ?_)
      refine rw_astore (lv2 := [(4, .ref y7), (0, .ref (ad 0)), (1, .int a1), (2, .int a2), (3, .ref (ad 42))]) dL_bedOf_17 (by decide) rfl ?_
      refine rw_iconst (v := 2) dL_bedOf_19 (by decide) ?_
      replace hf := Option.some.inj hf
      subst hf
      exact rw_ireturn dL_bedOf_20 rfl ⟨rfl, hr⟩ (by decide) (by decide)
    rw [if_neg c6] at hf
    cases hf
  rw [he] at hf
  dsimp only at hf
  refine rw_i2l dL_bedOf_8 ?_
  obtain ⟨hi8, hf⟩ := grd hf
  refine ss_42 hr dL_bedOf_9 (inB_in hi8) (fun h hr => ?_)
  refine nmS hf hr (fun σ9 hr hf => ?_)
  refine rw_goto (tgt := 21) dL_bedOf_10 (by decide) ?_
  refine rw_iconst (v := 0) dL_bedOf_21 (by decide) ?_
  replace hf := Option.some.inj hf
  subst hf
  exact rw_ireturn dL_bedOf_22 rfl ⟨rfl, hr⟩ (by decide) (by decide)
def fL_at (a1 : Int32) (a2 : Int32) (a3 : Int32) (a4 : Int32) (σ : rS) : Option (Int32 × rS) := (fX11_at a1 a2 a3 a4 σ).bind fun q1 => match q1.1 with | .error E3 => (if E3 = "java/lang/IllegalStateException" then some (1, q1.2) else if E3 = "java/lang/IndexOutOfBoundsException" then some (2, q1.2) else if E3 = "java/lang/IllegalArgumentException" then some (3, q1.2) else none) | .ok r2 => if inB 0 1 then vS (uO q1.2 (0 : Int32).toNatClampNeg r2) fun σ11 => some (0, σ11) else none
set_option maxHeartbeats 4000000 in
theorem cmL_at {G : rG} {ad : Nat → Nat} {a1 : Int32} {a2 : Int32} {a3 : Int32} {a4 : Int32} {σ : rS} {h : rH} {o : (Int32 × rS)} (hr : Rep G ad σ h) (hf : fL_at a1 a2 a3 a4 σ = some o) : rMT G mL_at (rm 8 4 24) [.ref (ad 0), .int a1, .int a2, .int a3, .int a4, .ref (ad 42)] h (qI G ad o) xN := by
  unfold fL_at at hf
  refine rw_metW (by decide +kernel) (List.cons_ne_nil _ _) (Nat.le_of_ble_eq_true rfl) ?_
  show RW G _ _ _ _ 0 0 0 [(0, .ref (ad 0)), (1, .int a1), (2, .int a2), (3, .int a3), (4, .int a4), (5, .ref (ad 42))] [] h
  refine rw_aload dL_at_0 5 rfl ?_
  refine rw_iconst (v := 0) dL_at_2 (by decide) ?_
  refine rw_aload_n dL_at_3 0 rfl rfl ?_
  refine rw_iload_n dL_at_4 1 rfl rfl ?_
  refine rw_iload_n dL_at_5 2 rfl rfl ?_
  refine rw_iload_n dL_at_6 3 rfl rfl ?_
  refine rw_iload dL_at_7 4 rfl ?_
  obtain ⟨q1, hq1, hf⟩ := bnd hf
  refine kV_Jx (ad := ad) (As := [.int a1, .int a2, .int a3, .int a4]) (st := [.int 0, .ref (ad 42)]) dL_at_9 calX11_at wm1065 wm1066 wm1067 rfl rfl (rc_0 hr) (ci := 11) (by decide) rfl rfl (Nat.le_of_ble_eq_true rfl) ⟨⟨by decide, by decide⟩, by decide, by decide⟩ (cmX11_at hr hq1) (fun E h he hr => ?_) (fun r2 h he hr => ?_)
  · rw [he] at hf
    dsimp only at hf
    by_cases c4 : E = "java/lang/IllegalStateException"
    · rw [if_pos c4] at hf
      subst c4
      refine rx_catch [] (0, 13, 16, 26) [(0, 13, 20, 20), (0, 13, 24, 13)] rfl rfl (by decide) (fun z hz => nomatch hz) (by decide) (by decide) wm944 (fun y5 => ?_)
      refine rw_astore (lv2 := [(6, .ref y5), (0, .ref (ad 0)), (1, .int a1), (2, .int a2), (3, .int a3), (4, .int a4), (5, .ref (ad 42))]) dL_at_16 (by decide) rfl ?_
      refine rw_iconst (v := 1) dL_at_18 (by decide) ?_
      replace hf := Option.some.inj hf
      subst hf
      exact rw_ireturn dL_at_19 rfl ⟨rfl, hr⟩ (by decide) (by decide)
    rw [if_neg c4] at hf
    by_cases c6 : E = "java/lang/IndexOutOfBoundsException"
    · rw [if_pos c6] at hf
      subst c6
      refine rx_catch [(0, 13, 16, 26)] (0, 13, 20, 20) [(0, 13, 24, 13)] rfl rfl (by decide) (by
        intro z hz
        simp only [List.mem_cons, List.not_mem_nil, or_false] at hz
        rcases hz with rfl
        · exact Or.inr ⟨by decide, "java/lang/IllegalStateException", wm944, by decide⟩) (by decide) (by decide) wm910 (fun y7 => ?_)
      refine rw_astore (lv2 := [(6, .ref y7), (0, .ref (ad 0)), (1, .int a1), (2, .int a2), (3, .int a3), (4, .int a4), (5, .ref (ad 42))]) dL_at_20 (by decide) rfl ?_
      refine rw_iconst (v := 2) dL_at_22 (by decide) ?_
      replace hf := Option.some.inj hf
      subst hf
      exact rw_ireturn dL_at_23 rfl ⟨rfl, hr⟩ (by decide) (by decide)
    rw [if_neg c6] at hf
    by_cases c8 : E = "java/lang/IllegalArgumentException"
    · rw [if_pos c8] at hf
      subst c8
      refine rx_catch [(0, 13, 16, 26), (0, 13, 20, 20)] (0, 13, 24, 13) [] rfl rfl (by decide) (by
        intro z hz
        simp only [List.mem_cons, List.not_mem_nil, or_false] at hz
        rcases hz with rfl | rfl
        · exact Or.inr ⟨by decide, "java/lang/IllegalStateException", wm944, by decide⟩
        · exact Or.inr ⟨by decide, "java/lang/IndexOutOfBoundsException", wm910, by decide⟩) (by decide) (by decide) wm816 (fun y9 => ?_)
      refine rw_astore (lv2 := [(6, .ref y9), (0, .ref (ad 0)), (1, .int a1), (2, .int a2), (3, .int a3), (4, .int a4), (5, .ref (ad 42))]) dL_at_24 (by decide) rfl ?_
      refine rw_iconst (v := 3) dL_at_26 (by decide) ?_
      replace hf := Option.some.inj hf
      subst hf
      exact rw_ireturn dL_at_27 rfl ⟨rfl, hr⟩ (by decide) (by decide)
    rw [if_neg c8] at hf
    cases hf
  rw [he] at hf
  dsimp only at hf
  obtain ⟨hi10, hf⟩ := grd hf
  refine ss_42 hr dL_at_12 (inB_in hi10) (fun h hr => ?_)
  refine nmS hf hr (fun σ11 hr hf => ?_)
  refine rw_goto (tgt := 28) dL_at_13 (by decide) ?_
  refine rw_iconst (v := 0) dL_at_28 (by decide) ?_
  replace hf := Option.some.inj hf
  subst hf
  exact rw_ireturn dL_at_29 rfl ⟨rfl, hr⟩ (by decide) (by decide)
def fL_wet (a1 : Int32) (a2 : Int32) (a3 : Int32) (a4 : Int32) (σ : rS) : Option (Int32 × rS) := (fX11_wet a1 a2 a3 a4 σ).bind fun q1 => match q1.1 with | .error E3 => (if E3 = "java/lang/IllegalStateException" then some (1, q1.2) else if E3 = "java/lang/IllegalArgumentException" then some (2, q1.2) else none) | .ok r2 => if inB 0 1 then vS (uO q1.2 (0 : Int32).toNatClampNeg r2) fun σ9 => some (0, σ9) else none
set_option maxHeartbeats 4000000 in
theorem cmL_wet {G : rG} {ad : Nat → Nat} {a1 : Int32} {a2 : Int32} {a3 : Int32} {a4 : Int32} {σ : rS} {h : rH} {o : (Int32 × rS)} (hr : Rep G ad σ h) (hf : fL_wet a1 a2 a3 a4 σ = some o) : rMT G mL_wet (rm 8 4 24) [.ref (ad 0), .int a1, .int a2, .int a3, .int a4, .ref (ad 42)] h (qI G ad o) xN := by
  unfold fL_wet at hf
  refine rw_metW (by decide +kernel) (List.cons_ne_nil _ _) (Nat.le_of_ble_eq_true rfl) ?_
  show RW G _ _ _ _ 0 0 0 [(0, .ref (ad 0)), (1, .int a1), (2, .int a2), (3, .int a3), (4, .int a4), (5, .ref (ad 42))] [] h
  refine rw_aload dL_wet_0 5 rfl ?_
  refine rw_iconst (v := 0) dL_wet_2 (by decide) ?_
  refine rw_aload_n dL_wet_3 0 rfl rfl ?_
  refine rw_iload_n dL_wet_4 1 rfl rfl ?_
  refine rw_iload_n dL_wet_5 2 rfl rfl ?_
  refine rw_iload_n dL_wet_6 3 rfl rfl ?_
  refine rw_iload dL_wet_7 4 rfl ?_
  obtain ⟨q1, hq1, hf⟩ := bnd hf
  refine kV_Jx (ad := ad) (As := [.int a1, .int a2, .int a3, .int a4]) (st := [.int 0, .ref (ad 42)]) dL_wet_9 calX11_wet wm1122 wm1123 wm1124 rfl rfl (rc_0 hr) (ci := 11) (by decide) rfl rfl (Nat.le_of_ble_eq_true rfl) ⟨⟨by decide, by decide⟩, by decide, by decide⟩ (cmX11_wet hr hq1) (fun E h he hr => ?_) (fun r2 h he hr => ?_)
  · rw [he] at hf
    dsimp only at hf
    by_cases c4 : E = "java/lang/IllegalStateException"
    · rw [if_pos c4] at hf
      subst c4
      refine rx_catch [] (0, 13, 16, 26) [(0, 13, 20, 13)] rfl rfl (by decide) (fun z hz => nomatch hz) (by decide) (by decide) wm944 (fun y5 => ?_)
      refine rw_astore (lv2 := [(6, .ref y5), (0, .ref (ad 0)), (1, .int a1), (2, .int a2), (3, .int a3), (4, .int a4), (5, .ref (ad 42))]) dL_wet_16 (by decide) rfl ?_
      refine rw_iconst (v := 1) dL_wet_18 (by decide) ?_
      replace hf := Option.some.inj hf
      subst hf
      exact rw_ireturn dL_wet_19 rfl ⟨rfl, hr⟩ (by decide) (by decide)
    rw [if_neg c4] at hf
    by_cases c6 : E = "java/lang/IllegalArgumentException"
    · rw [if_pos c6] at hf
      subst c6
      refine rx_catch [(0, 13, 16, 26)] (0, 13, 20, 13) [] rfl rfl (by decide) (by
        intro z hz
        simp only [List.mem_cons, List.not_mem_nil, or_false] at hz
        rcases hz with rfl
        · exact Or.inr ⟨by decide, "java/lang/IllegalStateException", wm944, by decide⟩) (by decide) (by decide) wm816 (fun y7 => ?_)
      refine rw_astore (lv2 := [(6, .ref y7), (0, .ref (ad 0)), (1, .int a1), (2, .int a2), (3, .int a3), (4, .int a4), (5, .ref (ad 42))]) dL_wet_20 (by decide) rfl ?_
      refine rw_iconst (v := 2) dL_wet_22 (by decide) ?_
      replace hf := Option.some.inj hf
      subst hf
      exact rw_ireturn dL_wet_23 rfl ⟨rfl, hr⟩ (by decide) (by decide)
    rw [if_neg c6] at hf
    cases hf
  rw [he] at hf
  dsimp only at hf
  obtain ⟨hi8, hf⟩ := grd hf
  refine ss_42 hr dL_wet_12 (inB_in hi8) (fun h hr => ?_)
  refine nmS hf hr (fun σ9 hr hf => ?_)
  refine rw_goto (tgt := 24) dL_wet_13 (by decide) ?_
  refine rw_iconst (v := 0) dL_wet_24 (by decide) ?_
  replace hf := Option.some.inj hf
  subst hf
  exact rw_ireturn dL_wet_25 rfl ⟨rfl, hr⟩ (by decide) (by decide)
def fL_volume (a1 : Int32) (a2 : Int32) (a3 : Int32) (a4 : Int32) (a5 : Int32) (σ : rS) : Option (Int32 × rS) := (fX11_volume a1 a2 a3 a4 a5 σ).bind fun q1 => match q1.1 with | .error E3 => (if E3 = "java/lang/IllegalStateException" then some (1, q1.2) else if E3 = "java/lang/IllegalArgumentException" then some (2, q1.2) else none) | .ok r2 => if inB 0 1 then vS (uO q1.2 (0 : Int32).toNatClampNeg r2) fun σ9 => some (0, σ9) else none
set_option maxHeartbeats 4000000 in
theorem cmL_volume {G : rG} {ad : Nat → Nat} {a1 : Int32} {a2 : Int32} {a3 : Int32} {a4 : Int32} {a5 : Int32} {σ : rS} {h : rH} {o : (Int32 × rS)} (hr : Rep G ad σ h) (hf : fL_volume a1 a2 a3 a4 a5 σ = some o) : rMT G mL_volume (rm 8 2 12) [.ref (ad 0), .int a1, .int a2, .int a3, .int a4, .int a5, .ref (ad 42)] h (qI G ad o) xN := by
  unfold fL_volume at hf
  refine rw_metW (by decide +kernel) (List.cons_ne_nil _ _) (Nat.le_of_ble_eq_true rfl) ?_
  show RW G _ _ _ _ 0 0 0 [(0, .ref (ad 0)), (1, .int a1), (2, .int a2), (3, .int a3), (4, .int a4), (5, .int a5), (6, .ref (ad 42))] [] h
  refine rw_aload dL_volume_0 6 rfl ?_
  refine rw_iconst (v := 0) dL_volume_2 (by decide) ?_
  refine rw_aload_n dL_volume_3 0 rfl rfl ?_
  refine rw_iload_n dL_volume_4 1 rfl rfl ?_
  refine rw_iload_n dL_volume_5 2 rfl rfl ?_
  refine rw_iload_n dL_volume_6 3 rfl rfl ?_
  refine rw_iload dL_volume_7 4 rfl ?_
  refine rw_iload dL_volume_9 5 rfl ?_
  obtain ⟨q1, hq1, hf⟩ := bnd hf
  refine kV_Jx (ad := ad) (As := [.int a1, .int a2, .int a3, .int a4, .int a5]) (st := [.int 0, .ref (ad 42)]) dL_volume_11 calX11_volume wm1129 wm1130 wm1131 rfl rfl (rc_0 hr) (ci := 11) (by decide) rfl rfl (Nat.le_of_ble_eq_true rfl) ⟨⟨by decide, by decide⟩, by decide, by decide⟩ (cmX11_volume hr hq1) (fun E h he hr => ?_) (fun r2 h he hr => ?_)
  · rw [he] at hf
    dsimp only at hf
    by_cases c4 : E = "java/lang/IllegalStateException"
    · rw [if_pos c4] at hf
      subst c4
      refine rx_catch [] (0, 15, 18, 26) [(0, 15, 22, 13)] rfl rfl (by decide) (fun z hz => nomatch hz) (by decide) (by decide) wm944 (fun y5 => ?_)
      refine rw_astore (lv2 := [(7, .ref y5), (0, .ref (ad 0)), (1, .int a1), (2, .int a2), (3, .int a3), (4, .int a4), (5, .int a5), (6, .ref (ad 42))]) dL_volume_18 (by decide) rfl ?_
      refine rw_iconst (v := 1) dL_volume_20 (by decide) ?_
      replace hf := Option.some.inj hf
      subst hf
      exact rw_ireturn dL_volume_21 rfl ⟨rfl, hr⟩ (by decide) (by decide)
    rw [if_neg c4] at hf
    by_cases c6 : E = "java/lang/IllegalArgumentException"
    · rw [if_pos c6] at hf
      subst c6
      refine rx_catch [(0, 15, 18, 26)] (0, 15, 22, 13) [] rfl rfl (by decide) (by
        intro z hz
        simp only [List.mem_cons, List.not_mem_nil, or_false] at hz
        rcases hz with rfl
        · exact Or.inr ⟨by decide, "java/lang/IllegalStateException", wm944, by decide⟩) (by decide) (by decide) wm816 (fun y7 => ?_)
      refine rw_astore (lv2 := [(7, .ref y7), (0, .ref (ad 0)), (1, .int a1), (2, .int a2), (3, .int a3), (4, .int a4), (5, .int a5), (6, .ref (ad 42))]) dL_volume_22 (by decide) rfl ?_
      refine rw_iconst (v := 2) dL_volume_24 (by decide) ?_
      replace hf := Option.some.inj hf
      subst hf
      exact rw_ireturn dL_volume_25 rfl ⟨rfl, hr⟩ (by decide) (by decide)
    rw [if_neg c6] at hf
    cases hf
  rw [he] at hf
  dsimp only at hf
  obtain ⟨hi8, hf⟩ := grd hf
  refine ss_42 hr dL_volume_14 (inB_in hi8) (fun h hr => ?_)
  refine nmS hf hr (fun σ9 hr hf => ?_)
  refine rw_goto (tgt := 26) dL_volume_15 (by decide) ?_
  refine rw_iconst (v := 0) dL_volume_26 (by decide) ?_
  replace hf := Option.some.inj hf
  subst hf
  exact rw_ireturn dL_volume_27 rfl ⟨rfl, hr⟩ (by decide) (by decide)
def fL_later (a1 : Int32) (a2 : Int32) (a3 : Int32) (a4 : Int32) (σ : rS) : Option (Int32 × rS) := (fX11_later a1 a2 a3 a4 σ).bind fun q1 => match q1.1 with | .error E3 => (if E3 = "java/lang/IllegalStateException" then some (1, q1.2) else if E3 = "java/lang/IllegalArgumentException" then some (2, q1.2) else none) | .ok r2 => if inB 0 1 then vS (uO q1.2 (0 : Int32).toNatClampNeg r2.toInt64) fun σ9 => some (0, σ9) else none
set_option maxHeartbeats 4000000 in
theorem cmL_later {G : rG} {ad : Nat → Nat} {a1 : Int32} {a2 : Int32} {a3 : Int32} {a4 : Int32} {σ : rS} {h : rH} {o : (Int32 × rS)} (hr : Rep G ad σ h) (hf : fL_later a1 a2 a3 a4 σ = some o) : rMT G mL_later (rm 8 4 24) [.ref (ad 0), .int a1, .int a2, .int a3, .int a4, .ref (ad 42)] h (qI G ad o) xN := by
  unfold fL_later at hf
  refine rw_metW (by decide +kernel) (List.cons_ne_nil _ _) (Nat.le_of_ble_eq_true rfl) ?_
  show RW G _ _ _ _ 0 0 0 [(0, .ref (ad 0)), (1, .int a1), (2, .int a2), (3, .int a3), (4, .int a4), (5, .ref (ad 42))] [] h
  refine rw_aload dL_later_0 5 rfl ?_
  refine rw_iconst (v := 0) dL_later_2 (by decide) ?_
  refine rw_aload_n dL_later_3 0 rfl rfl ?_
  refine rw_iload_n dL_later_4 1 rfl rfl ?_
  refine rw_iload_n dL_later_5 2 rfl rfl ?_
  refine rw_iload_n dL_later_6 3 rfl rfl ?_
  refine rw_iload dL_later_7 4 rfl ?_
  obtain ⟨q1, hq1, hf⟩ := bnd hf
  refine kV_Ix (ad := ad) (As := [.int a1, .int a2, .int a3, .int a4]) (st := [.int 0, .ref (ad 42)]) dL_later_9 calX11_later wm1154 wm1155 wm1156 rfl rfl (rc_0 hr) (ci := 11) (by decide) rfl rfl (Nat.le_of_ble_eq_true rfl) ⟨⟨by decide, by decide⟩, by decide, by decide⟩ (cmX11_later hr hq1) (fun E h he hr => ?_) (fun r2 h he hr => ?_)
  · rw [he] at hf
    dsimp only at hf
    by_cases c4 : E = "java/lang/IllegalStateException"
    · rw [if_pos c4] at hf
      subst c4
      refine rx_catch [] (0, 14, 17, 26) [(0, 14, 21, 13)] rfl rfl (by decide) (fun z hz => nomatch hz) (by decide) (by decide) wm944 (fun y5 => ?_)
      refine rw_astore (lv2 := [(6, .ref y5), (0, .ref (ad 0)), (1, .int a1), (2, .int a2), (3, .int a3), (4, .int a4), (5, .ref (ad 42))]) dL_later_17 (by decide) rfl ?_
      refine rw_iconst (v := 1) dL_later_19 (by decide) ?_
      replace hf := Option.some.inj hf
      subst hf
      exact rw_ireturn dL_later_20 rfl ⟨rfl, hr⟩ (by decide) (by decide)
    rw [if_neg c4] at hf
    by_cases c6 : E = "java/lang/IllegalArgumentException"
    · rw [if_pos c6] at hf
      subst c6
      refine rx_catch [(0, 14, 17, 26)] (0, 14, 21, 13) [] rfl rfl (by decide) (by
        intro z hz
        simp only [List.mem_cons, List.not_mem_nil, or_false] at hz
        rcases hz with rfl
        · exact Or.inr ⟨by decide, "java/lang/IllegalStateException", wm944, by decide⟩) (by decide) (by decide) wm816 (fun y7 => ?_)
      refine rw_astore (lv2 := [(6, .ref y7), (0, .ref (ad 0)), (1, .int a1), (2, .int a2), (3, .int a3), (4, .int a4), (5, .ref (ad 42))]) dL_later_21 (by decide) rfl ?_
      refine rw_iconst (v := 2) dL_later_23 (by decide) ?_
      replace hf := Option.some.inj hf
      subst hf
      exact rw_ireturn dL_later_24 rfl ⟨rfl, hr⟩ (by decide) (by decide)
    rw [if_neg c6] at hf
    cases hf
  rw [he] at hf
  dsimp only at hf
  refine rw_i2l dL_later_12 ?_
  obtain ⟨hi8, hf⟩ := grd hf
  refine ss_42 hr dL_later_13 (inB_in hi8) (fun h hr => ?_)
  refine nmS hf hr (fun σ9 hr hf => ?_)
  refine rw_goto (tgt := 25) dL_later_14 (by decide) ?_
  refine rw_iconst (v := 0) dL_later_25 (by decide) ?_
  replace hf := Option.some.inj hf
  subst hf
  exact rw_ireturn dL_later_26 rfl ⟨rfl, hr⟩ (by decide) (by decide)
