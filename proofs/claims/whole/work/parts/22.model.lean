def jX12_at__91  (s0 : Int64) (σ : rS) : Option (Int64 × rS) := some (s0, σ)
set_option maxHeartbeats 4000000 in
theorem t_jX12_at__91 {G : rG} {ad : Nat → Nat} {o : (Int64 × rS)}   (s0 : Int64) (σ : rS) (h : rH) (hr : Rep G ad σ h) (hf : jX12_at__91  s0 σ = some o) : RW G mX12_at_ (rm 4 0 0) (qJ G ad o) xN 0 0 91 [] [.long s0] h := by
  unfold jX12_at__91 at hf
  replace hf := Option.some.inj hf
  subst hf
  exact rw_lreturn dX12_at__91 rfl ⟨rfl, hr⟩ (by decide) (by decide)
def jX12_at__65   (σ : rS) : Option (Int64 × rS) := some (0, σ)
set_option maxHeartbeats 4000000 in
theorem t_jX12_at__65 {G : rG} {ad : Nat → Nat} {o : (Int64 × rS)}    (σ : rS) (h : rH) (hr : Rep G ad σ h) (hf : jX12_at__65   σ = some o) : RW G mX12_at_ (rm 4 0 0) (qJ G ad o) xN 0 0 65 [] [] h := by
  unfold jX12_at__65 at hf
  refine rw_lconst (v := 0) dX12_at__65 (by decide) ?_
  replace hf := Option.some.inj hf
  subst hf
  exact rw_lreturn dX12_at__66 rfl ⟨rfl, hr⟩ (by decide) (by decide)
def jX12_at__58  (v1 : Int32) (v2 : Int32) (v3 : Int32) (v4 : Int32) (s0 : Int32) (σ : rS) : Option (Int64 × rS) := (fX12_fails s0 3 σ).bind fun q11 => if q11.1 = 0 then (fX12_findLevel v1 ((-1)) v2 v3 q11.2).bind fun q13 => if v4 = 0 then jX12_at__91 (q13.2.2.1 43 29) q13.2 else jX12_at__91 (q13.2.2.1 43 30) q13.2 else jX12_at__65 q11.2
set_option maxHeartbeats 4000000 in
theorem t_jX12_at__58 {G : rG} {ad : Nat → Nat} {o : (Int64 × rS)}   (v1 : Int32) (v2 : Int32) (v3 : Int32) (v4 : Int32) (s0 : Int32) (σ : rS) (h : rH) (hr : Rep G ad σ h) (hf : jX12_at__58  v1 v2 v3 v4 s0 σ = some o) : RW G mX12_at_ (rm 4 0 0) (qJ G ad o) xN 0 0 58 [(0, .ref (ad 43)), (1, .int v1), (2, .int v2), (3, .int v3), (4, .int v4)] [.int s0, .ref (ad 43)] h := by
  unfold jX12_at__58 at hf
  refine rw_iconst (v := 3) dX12_at__58 (by decide) ?_
  obtain ⟨q11, hq11, hf⟩ := bnd hf
  refine kV_I (ad := ad) (As := [.int s0, .int 3]) (st := []) dX12_at__59 calX12_fails wm1728 wm1730 wm46 rfl rfl (rc_43 hr) (ci := 12) (by decide) rfl rfl (Nat.le_of_ble_eq_true rfl) ⟨⟨by decide, by decide⟩, by decide, by decide⟩ (cmX12_fails hr hq11) (fun h hr => ?_)
  refine rw_if_eq (tgt := 67) dX12_at__62 (by decide) (fun c12 => ?_) (fun c12 => ?_)
  · rw [if_pos c12] at hf
    refine rw_aload_n dX12_at__67 0 rfl rfl ?_
    refine rw_iload_n dX12_at__68 1 rfl rfl ?_
    refine rw_iconst (v := (-1)) dX12_at__69 (by decide) ?_
    refine rw_iload_n dX12_at__70 2 rfl rfl ?_
    refine rw_iload_n dX12_at__71 3 rfl rfl ?_
    obtain ⟨q13, hq13, hf⟩ := bnd hf
    refine kV_V (ad := ad) (As := [.int v1, .int ((-1)), .int v2, .int v3]) (st := []) dX12_at__72 calX12_findLevel wm1772 wm1774 wm48 rfl rfl (rc_43 hr) (ci := 12) (by decide) rfl rfl (Nat.le_of_ble_eq_true rfl) ⟨⟨by decide, by decide⟩, by decide, by decide⟩ (cmX12_findLevel hr hq13) (fun h hr => ?_)
    refine rw_iload dX12_at__75 4 rfl ?_
    refine rw_if_ne (tgt := 87) dX12_at__77 (by decide) (fun c14 => ?_) (fun c14 => ?_)
    · rw [if_neg c14] at hf
      refine rw_aload_n dX12_at__87 0 rfl rfl ?_
      refine sg_43_30 hr dX12_at__88 fl1492 ?_
      refine rw_sub [] rfl ?_
      exact t_jX12_at__91 (ad := ad) (G := G)  (q13.2.2.1 43 30) q13.2 _ hr hf
    · rw [if_pos c14] at hf
      refine rw_aload_n dX12_at__80 0 rfl rfl ?_
      refine sg_43_29 hr dX12_at__81 fl1491 ?_
      refine rw_goto (tgt := 91) dX12_at__84 (by decide) ?_
      refine rw_sub [] rfl ?_
      exact t_jX12_at__91 (ad := ad) (G := G)  (q13.2.2.1 43 29) q13.2 _ hr hf
  · rw [if_neg c12] at hf
    refine rw_sub [] rfl ?_
    exact t_jX12_at__65 (ad := ad) (G := G)  q11.2 _ hr hf
def jX12_at__53  (v1 : Int32) (v2 : Int32) (v3 : Int32) (v4 : Int32) (σ : rS) : Option (Int64 × rS) := jX12_at__58 v1 v2 v3 v4 1 σ
set_option maxHeartbeats 4000000 in
theorem t_jX12_at__53 {G : rG} {ad : Nat → Nat} {o : (Int64 × rS)}   (v1 : Int32) (v2 : Int32) (v3 : Int32) (v4 : Int32) (σ : rS) (h : rH) (hr : Rep G ad σ h) (hf : jX12_at__53  v1 v2 v3 v4 σ = some o) : RW G mX12_at_ (rm 4 0 0) (qJ G ad o) xN 0 0 53 [(0, .ref (ad 43)), (1, .int v1), (2, .int v2), (3, .int v3), (4, .int v4)] [.ref (ad 43)] h := by
  unfold jX12_at__53 at hf
  refine rw_iconst (v := 1) dX12_at__53 (by decide) ?_
  refine rw_goto (tgt := 58) dX12_at__54 (by decide) ?_
  exact t_jX12_at__58 (ad := ad) (G := G)  v1 v2 v3 v4 1 σ _ hr hf
def jX12_at__27  (v1 : Int32) (v2 : Int32) (v3 : Int32) (v4 : Int32) (s0 : Int32) (σ : rS) : Option (Int64 × rS) := (fX12_fails s0 2 σ).bind fun q5 => if q5.1 = 0 then (fX12_isPlace v2 v3 q5.2).bind fun q7 => if q7.1 = 0 then jX12_at__53 v1 v2 v3 v4 q7.2 else (fX12_in v4 0 1 q7.2).bind fun q9 => if q9.1 = 0 then jX12_at__53 v1 v2 v3 v4 q9.2 else jX12_at__58 v1 v2 v3 v4 0 q9.2 else jX12_at__65 q5.2
set_option maxHeartbeats 4000000 in
theorem t_jX12_at__27 {G : rG} {ad : Nat → Nat} {o : (Int64 × rS)}   (v1 : Int32) (v2 : Int32) (v3 : Int32) (v4 : Int32) (s0 : Int32) (σ : rS) (h : rH) (hr : Rep G ad σ h) (hf : jX12_at__27  v1 v2 v3 v4 s0 σ = some o) : RW G mX12_at_ (rm 4 0 0) (qJ G ad o) xN 0 0 27 [(0, .ref (ad 43)), (1, .int v1), (2, .int v2), (3, .int v3), (4, .int v4)] [.int s0, .ref (ad 43)] h := by
  unfold jX12_at__27 at hf
  refine rw_iconst (v := 2) dX12_at__27 (by decide) ?_
  obtain ⟨q5, hq5, hf⟩ := bnd hf
  refine kV_I (ad := ad) (As := [.int s0, .int 2]) (st := []) dX12_at__28 calX12_fails wm1728 wm1730 wm46 rfl rfl (rc_43 hr) (ci := 12) (by decide) rfl rfl (Nat.le_of_ble_eq_true rfl) ⟨⟨by decide, by decide⟩, by decide, by decide⟩ (cmX12_fails hr hq5) (fun h hr => ?_)
  refine rw_if_ne (tgt := 65) dX12_at__31 (by decide) (fun c6 => ?_) (fun c6 => ?_)
  · rw [if_neg c6] at hf
    refine rw_sub [] rfl ?_
    exact t_jX12_at__65 (ad := ad) (G := G)  q5.2 _ hr hf
  · rw [if_pos c6] at hf
    refine rw_aload_n dX12_at__34 0 rfl rfl ?_
    refine rw_iload_n dX12_at__35 2 rfl rfl ?_
    refine rw_iload_n dX12_at__36 3 rfl rfl ?_
    obtain ⟨q7, hq7, hf⟩ := bnd hf
    refine kS_I (ad := ad) (As := [.int v2, .int v3]) (st := [.ref (ad 43)]) dX12_at__37 calX12_isPlace wm1609 wm1610 rfl rfl (Nat.le_of_ble_eq_true rfl) ⟨⟨by decide, by decide⟩, by decide, by decide⟩ (cmX12_isPlace hr hq7) (fun h hr => ?_)
    refine rw_if_eq (tgt := 53) dX12_at__40 (by decide) (fun c8 => ?_) (fun c8 => ?_)
    · rw [if_pos c8] at hf
      exact t_jX12_at__53 (ad := ad) (G := G)  v1 v2 v3 v4 q7.2 _ hr hf
    · rw [if_neg c8] at hf
      refine rw_iload dX12_at__43 4 rfl ?_
      refine rw_iconst (v := 0) dX12_at__45 (by decide) ?_
      refine rw_iconst (v := 1) dX12_at__46 (by decide) ?_
      obtain ⟨q9, hq9, hf⟩ := bnd hf
      refine kS_I (ad := ad) (As := [.int v4, .int 0, .int 1]) (st := [.ref (ad 43)]) dX12_at__47 calX12_in wm1612 wm1613 rfl rfl (Nat.le_of_ble_eq_true rfl) ⟨⟨by decide, by decide⟩, by decide, by decide⟩ (cmX12_in hr hq9) (fun h hr => ?_)
      refine rw_if_ne (tgt := 57) dX12_at__50 (by decide) (fun c10 => ?_) (fun c10 => ?_)
      · rw [if_neg c10] at hf
        refine rw_iconst (v := 0) dX12_at__57 (by decide) ?_
        exact t_jX12_at__58 (ad := ad) (G := G)  v1 v2 v3 v4 0 q9.2 _ hr hf
      · rw [if_pos c10] at hf
        exact t_jX12_at__53 (ad := ad) (G := G)  v1 v2 v3 v4 q9.2 _ hr hf
def fX12_at_ (a0 : Int32) (a1 : Int32) (a2 : Int32) (a3 : Int32) (σ : rS) : Option (Int64 × rS) := (fX12_isOld σ).bind fun q1 => if q1.1 = 0 then (fX12_in a0 0 ((q1.2.1 43 25) - 1) q1.2).bind fun q3 => if q3.1 = 0 then jX12_at__27 a0 a1 a2 a3 1 q3.2 else jX12_at__27 a0 a1 a2 a3 0 q3.2 else jX12_at__65 q1.2
set_option maxHeartbeats 4000000 in
theorem cmX12_at_ {G : rG} {ad : Nat → Nat} {a0 : Int32} {a1 : Int32} {a2 : Int32} {a3 : Int32} {σ : rS} {h : rH} {o : (Int64 × rS)} (hr : Rep G ad σ h) (hf : fX12_at_ a0 a1 a2 a3 σ = some o) : rMT G mX12_at_ (rm 4 0 0) [.ref (ad 43), .int a0, .int a1, .int a2, .int a3] h (qJ G ad o) xN := by
  unfold fX12_at_ at hf
  refine rw_met (by decide +kernel) rfl (Nat.le_of_ble_eq_true rfl) ?_
  show RW G _ _ _ _ 0 0 0 [(0, .ref (ad 43)), (1, .int a0), (2, .int a1), (3, .int a2), (4, .int a3)] [] h
  refine rw_aload_n dX12_at__0 0 rfl rfl ?_
  obtain ⟨q1, hq1, hf⟩ := bnd hf
  refine kV_I (ad := ad) (As := []) (st := []) dX12_at__1 calX12_isOld wm1724 wm1726 wm45 rfl rfl (rc_43 hr) (ci := 12) (by decide) rfl rfl (Nat.le_of_ble_eq_true rfl) ⟨⟨by decide, by decide⟩, by decide, by decide⟩ (cmX12_isOld hr hq1) (fun h hr => ?_)
  refine rw_if_ne (tgt := 65) dX12_at__4 (by decide) (fun c2 => ?_) (fun c2 => ?_)
  · rw [if_neg c2] at hf
    refine rw_sub [] rfl ?_
    exact t_jX12_at__65 (ad := ad) (G := G)  q1.2 _ hr hf
  · rw [if_pos c2] at hf
    refine rw_aload_n dX12_at__7 0 rfl rfl ?_
    refine rw_iload_n dX12_at__8 1 rfl rfl ?_
    refine rw_iconst (v := 0) dX12_at__9 (by decide) ?_
    refine rw_aload_n dX12_at__10 0 rfl rfl ?_
    refine sg_43_25 hr dX12_at__11 fl1487 ?_
    refine rw_iconst (v := 1) dX12_at__14 (by decide) ?_
    refine rw_isub dX12_at__15 ?_
    obtain ⟨q3, hq3, hf⟩ := bnd hf
    refine kS_I (ad := ad) (As := [.int a0, .int 0, .int ((q1.2.1 43 25) - 1)]) (st := [.ref (ad 43)]) dX12_at__16 calX12_in wm1612 wm1613 rfl rfl (Nat.le_of_ble_eq_true rfl) ⟨⟨by decide, by decide⟩, by decide, by decide⟩ (cmX12_in hr hq3) (fun h hr => ?_)
    refine rw_if_ne (tgt := 26) dX12_at__19 (by decide) (fun c4 => ?_) (fun c4 => ?_)
    · rw [if_neg c4] at hf
      refine rw_iconst (v := 0) dX12_at__26 (by decide) ?_
      exact t_jX12_at__27 (ad := ad) (G := G)  a0 a1 a2 a3 0 q3.2 _ hr hf
    · rw [if_pos c4] at hf
      refine rw_iconst (v := 1) dX12_at__22 (by decide) ?_
      refine rw_goto (tgt := 27) dX12_at__23 (by decide) ?_
      exact t_jX12_at__27 (ad := ad) (G := G)  a0 a1 a2 a3 1 q3.2 _ hr hf
def jX12_wet_74  (s0 : Int64) (σ : rS) : Option (Int64 × rS) := some (s0, σ)
set_option maxHeartbeats 4000000 in
theorem t_jX12_wet_74 {G : rG} {ad : Nat → Nat} {o : (Int64 × rS)}   (s0 : Int64) (σ : rS) (h : rH) (hr : Rep G ad σ h) (hf : jX12_wet_74  s0 σ = some o) : RW G mX12_wet (rm 4 0 0) (qJ G ad o) xN 0 0 74 [] [.long s0] h := by
  unfold jX12_wet_74 at hf
  replace hf := Option.some.inj hf
  subst hf
  exact rw_lreturn dX12_wet_74 rfl ⟨rfl, hr⟩ (by decide) (by decide)
def jX12_wet_48   (σ : rS) : Option (Int64 × rS) := some (0, σ)
set_option maxHeartbeats 4000000 in
theorem t_jX12_wet_48 {G : rG} {ad : Nat → Nat} {o : (Int64 × rS)}    (σ : rS) (h : rH) (hr : Rep G ad σ h) (hf : jX12_wet_48   σ = some o) : RW G mX12_wet (rm 4 0 0) (qJ G ad o) xN 0 0 48 [] [] h := by
  unfold jX12_wet_48 at hf
  refine rw_lconst (v := 0) dX12_wet_48 (by decide) ?_
  replace hf := Option.some.inj hf
  subst hf
  exact rw_lreturn dX12_wet_49 rfl ⟨rfl, hr⟩ (by decide) (by decide)
def jX12_wet_41  (v1 : Int32) (v2 : Int32) (v3 : Int32) (v4 : Int32) (s0 : Int32) (σ : rS) : Option (Int64 × rS) := (fX12_fails s0 2 σ).bind fun q9 => if q9.1 = 0 then (fX12_findLevel ((-1)) v1 v2 v3 q9.2).bind fun q11 => if v4 = 0 then jX12_wet_74 (q11.2.2.1 43 29) q11.2 else jX12_wet_74 (q11.2.2.1 43 30) q11.2 else jX12_wet_48 q9.2
set_option maxHeartbeats 4000000 in
theorem t_jX12_wet_41 {G : rG} {ad : Nat → Nat} {o : (Int64 × rS)}   (v1 : Int32) (v2 : Int32) (v3 : Int32) (v4 : Int32) (s0 : Int32) (σ : rS) (h : rH) (hr : Rep G ad σ h) (hf : jX12_wet_41  v1 v2 v3 v4 s0 σ = some o) : RW G mX12_wet (rm 4 0 0) (qJ G ad o) xN 0 0 41 [(0, .ref (ad 43)), (1, .int v1), (2, .int v2), (3, .int v3), (4, .int v4)] [.int s0, .ref (ad 43)] h := by
  unfold jX12_wet_41 at hf
  refine rw_iconst (v := 2) dX12_wet_41 (by decide) ?_
  obtain ⟨q9, hq9, hf⟩ := bnd hf
  refine kV_I (ad := ad) (As := [.int s0, .int 2]) (st := []) dX12_wet_42 calX12_fails wm1728 wm1730 wm46 rfl rfl (rc_43 hr) (ci := 12) (by decide) rfl rfl (Nat.le_of_ble_eq_true rfl) ⟨⟨by decide, by decide⟩, by decide, by decide⟩ (cmX12_fails hr hq9) (fun h hr => ?_)
  refine rw_if_eq (tgt := 50) dX12_wet_45 (by decide) (fun c10 => ?_) (fun c10 => ?_)
  · rw [if_pos c10] at hf
    refine rw_aload_n dX12_wet_50 0 rfl rfl ?_
    refine rw_iconst (v := (-1)) dX12_wet_51 (by decide) ?_
    refine rw_iload_n dX12_wet_52 1 rfl rfl ?_
    refine rw_iload_n dX12_wet_53 2 rfl rfl ?_
    refine rw_iload_n dX12_wet_54 3 rfl rfl ?_
    obtain ⟨q11, hq11, hf⟩ := bnd hf
    refine kV_V (ad := ad) (As := [.int ((-1)), .int v1, .int v2, .int v3]) (st := []) dX12_wet_55 calX12_findLevel wm1772 wm1774 wm48 rfl rfl (rc_43 hr) (ci := 12) (by decide) rfl rfl (Nat.le_of_ble_eq_true rfl) ⟨⟨by decide, by decide⟩, by decide, by decide⟩ (cmX12_findLevel hr hq11) (fun h hr => ?_)
    refine rw_iload dX12_wet_58 4 rfl ?_
    refine rw_if_ne (tgt := 70) dX12_wet_60 (by decide) (fun c12 => ?_) (fun c12 => ?_)
    · rw [if_neg c12] at hf
      refine rw_aload_n dX12_wet_70 0 rfl rfl ?_
      refine sg_43_30 hr dX12_wet_71 fl1492 ?_
      refine rw_sub [] rfl ?_
      exact t_jX12_wet_74 (ad := ad) (G := G)  (q11.2.2.1 43 30) q11.2 _ hr hf
    · rw [if_pos c12] at hf
      refine rw_aload_n dX12_wet_63 0 rfl rfl ?_
      refine sg_43_29 hr dX12_wet_64 fl1491 ?_
      refine rw_goto (tgt := 74) dX12_wet_67 (by decide) ?_
      refine rw_sub [] rfl ?_
      exact t_jX12_wet_74 (ad := ad) (G := G)  (q11.2.2.1 43 29) q11.2 _ hr hf
  · rw [if_neg c10] at hf
    refine rw_sub [] rfl ?_
    exact t_jX12_wet_48 (ad := ad) (G := G)  q9.2 _ hr hf
def jX12_wet_36  (v1 : Int32) (v2 : Int32) (v3 : Int32) (v4 : Int32) (σ : rS) : Option (Int64 × rS) := jX12_wet_41 v1 v2 v3 v4 1 σ
set_option maxHeartbeats 4000000 in
theorem t_jX12_wet_36 {G : rG} {ad : Nat → Nat} {o : (Int64 × rS)}   (v1 : Int32) (v2 : Int32) (v3 : Int32) (v4 : Int32) (σ : rS) (h : rH) (hr : Rep G ad σ h) (hf : jX12_wet_36  v1 v2 v3 v4 σ = some o) : RW G mX12_wet (rm 4 0 0) (qJ G ad o) xN 0 0 36 [(0, .ref (ad 43)), (1, .int v1), (2, .int v2), (3, .int v3), (4, .int v4)] [.ref (ad 43)] h := by
  unfold jX12_wet_36 at hf
  refine rw_iconst (v := 1) dX12_wet_36 (by decide) ?_
  refine rw_goto (tgt := 41) dX12_wet_37 (by decide) ?_
  exact t_jX12_wet_41 (ad := ad) (G := G)  v1 v2 v3 v4 1 σ _ hr hf
def fX12_wet (a0 : Int32) (a1 : Int32) (a2 : Int32) (a3 : Int32) (σ : rS) : Option (Int64 × rS) := (fX12_isOld σ).bind fun q1 => if q1.1 = 0 then (fX12_in a0 0 99 q1.2).bind fun q3 => if q3.1 = 0 then jX12_wet_36 a0 a1 a2 a3 q3.2 else (fX12_isPlace a1 a2 q3.2).bind fun q5 => if q5.1 = 0 then jX12_wet_36 a0 a1 a2 a3 q5.2 else (fX12_in a3 0 1 q5.2).bind fun q7 => if q7.1 = 0 then jX12_wet_36 a0 a1 a2 a3 q7.2 else jX12_wet_41 a0 a1 a2 a3 0 q7.2 else jX12_wet_48 q1.2
set_option maxHeartbeats 4000000 in
theorem cmX12_wet {G : rG} {ad : Nat → Nat} {a0 : Int32} {a1 : Int32} {a2 : Int32} {a3 : Int32} {σ : rS} {h : rH} {o : (Int64 × rS)} (hr : Rep G ad σ h) (hf : fX12_wet a0 a1 a2 a3 σ = some o) : rMT G mX12_wet (rm 4 0 0) [.ref (ad 43), .int a0, .int a1, .int a2, .int a3] h (qJ G ad o) xN := by
  unfold fX12_wet at hf
  refine rw_met (by decide +kernel) rfl (Nat.le_of_ble_eq_true rfl) ?_
  show RW G _ _ _ _ 0 0 0 [(0, .ref (ad 43)), (1, .int a0), (2, .int a1), (3, .int a2), (4, .int a3)] [] h
  refine rw_aload_n dX12_wet_0 0 rfl rfl ?_
  obtain ⟨q1, hq1, hf⟩ := bnd hf
  refine kV_I (ad := ad) (As := []) (st := []) dX12_wet_1 calX12_isOld wm1724 wm1726 wm45 rfl rfl (rc_43 hr) (ci := 12) (by decide) rfl rfl (Nat.le_of_ble_eq_true rfl) ⟨⟨by decide, by decide⟩, by decide, by decide⟩ (cmX12_isOld hr hq1) (fun h hr => ?_)
  refine rw_if_ne (tgt := 48) dX12_wet_4 (by decide) (fun c2 => ?_) (fun c2 => ?_)
  · rw [if_neg c2] at hf
    refine rw_sub [] rfl ?_
    exact t_jX12_wet_48 (ad := ad) (G := G)  q1.2 _ hr hf
  · rw [if_pos c2] at hf
    refine rw_aload_n dX12_wet_7 0 rfl rfl ?_
    refine rw_iload_n dX12_wet_8 1 rfl rfl ?_
    refine rw_iconst (v := 0) dX12_wet_9 (by decide) ?_
    refine rw_bipush (v := 99) dX12_wet_10 (by decide) ?_
    obtain ⟨q3, hq3, hf⟩ := bnd hf
    refine kS_I (ad := ad) (As := [.int a0, .int 0, .int 99]) (st := [.ref (ad 43)]) dX12_wet_12 calX12_in wm1612 wm1613 rfl rfl (Nat.le_of_ble_eq_true rfl) ⟨⟨by decide, by decide⟩, by decide, by decide⟩ (cmX12_in hr hq3) (fun h hr => ?_)
    refine rw_if_eq (tgt := 36) dX12_wet_15 (by decide) (fun c4 => ?_) (fun c4 => ?_)
    · rw [if_pos c4] at hf
      exact t_jX12_wet_36 (ad := ad) (G := G)  a0 a1 a2 a3 q3.2 _ hr hf
    · rw [if_neg c4] at hf
      refine rw_iload_n dX12_wet_18 2 rfl rfl ?_
      refine rw_iload_n dX12_wet_19 3 rfl rfl ?_
      obtain ⟨q5, hq5, hf⟩ := bnd hf
      refine kS_I (ad := ad) (As := [.int a1, .int a2]) (st := [.ref (ad 43)]) dX12_wet_20 calX12_isPlace wm1609 wm1610 rfl rfl (Nat.le_of_ble_eq_true rfl) ⟨⟨by decide, by decide⟩, by decide, by decide⟩ (cmX12_isPlace hr hq5) (fun h hr => ?_)
      refine rw_if_eq (tgt := 36) dX12_wet_23 (by decide) (fun c6 => ?_) (fun c6 => ?_)
      · rw [if_pos c6] at hf
        exact t_jX12_wet_36 (ad := ad) (G := G)  a0 a1 a2 a3 q5.2 _ hr hf
      · rw [if_neg c6] at hf
        refine rw_iload dX12_wet_26 4 rfl ?_
        refine rw_iconst (v := 0) dX12_wet_28 (by decide) ?_
        refine rw_iconst (v := 1) dX12_wet_29 (by decide) ?_
        obtain ⟨q7, hq7, hf⟩ := bnd hf
        refine kS_I (ad := ad) (As := [.int a3, .int 0, .int 1]) (st := [.ref (ad 43)]) dX12_wet_30 calX12_in wm1612 wm1613 rfl rfl (Nat.le_of_ble_eq_true rfl) ⟨⟨by decide, by decide⟩, by decide, by decide⟩ (cmX12_in hr hq7) (fun h hr => ?_)
        refine rw_if_ne (tgt := 40) dX12_wet_33 (by decide) (fun c8 => ?_) (fun c8 => ?_)
        · rw [if_neg c8] at hf
          refine rw_iconst (v := 0) dX12_wet_40 (by decide) ?_
          exact t_jX12_wet_41 (ad := ad) (G := G)  a0 a1 a2 a3 0 q7.2 _ hr hf
        · rw [if_pos c8] at hf
          exact t_jX12_wet_36 (ad := ad) (G := G)  a0 a1 a2 a3 q7.2 _ hr hf
def jX12_thickness_50 (k5 : Int32 → Int32 → Int64 → Int32 → rS → Option (Int64 × rS)) (v1 : Int32) (v2 : Int32) (v5 : Int32) (s0 : Int64) (s1 : Int64) (σ : rS) : Option (Int64 × rS) := vJ (s1 + s0) fun x6 => vI (v5 + 1) fun x7 => k5 v1 v2 x6 x7 σ
set_option maxHeartbeats 4000000 in
theorem t_jX12_thickness_50 {G : rG} {ad : Nat → Nat} {o : (Int64 × rS)} (k5 : Int32 → Int32 → Int64 → Int32 → rS → Option (Int64 × rS)) (hk5 : ∀ (v1 : Int32) (v2 : Int32) (v3 : Int64) (v5 : Int32) (σ : rS) (h : rH), Rep G ad σ h → k5 v1 v2 v3 v5 σ = some o → RW G mX12_thickness (rm 0 0 0) (qJ G ad o) xN 0 0 5 [(0, .ref (ad 43)), (1, .int v1), (2, .int v2), (3, .long v3), (5, .int v5)] [] h) (v1 : Int32) (v2 : Int32) (v5 : Int32) (s0 : Int64) (s1 : Int64) (σ : rS) (h : rH) (hr : Rep G ad σ h) (hf : jX12_thickness_50 k5 v1 v2 v5 s0 s1 σ = some o) : RW G mX12_thickness (rm 0 0 0) (qJ G ad o) xN 0 0 50 [(0, .ref (ad 43)), (1, .int v1), (2, .int v2), (5, .int v5)] [.long s0, .long s1] h := by
  unfold jX12_thickness_50 at hf
  refine rw_ladd dX12_thickness_50 ?_
  refine nmJ hf (fun x6 hf => ?_)
  refine rw_lstore_n (lv2 := [(3, .long x6), (0, .ref (ad 43)), (1, .int v1), (2, .int v2), (5, .int v5)]) dX12_thickness_51 rfl (by decide) rfl ?_
  refine rw_iinc (v := v5 + 1) (lv2 := [(5, .int (v5 + 1)), (3, .long x6), (0, .ref (ad 43)), (1, .int v1), (2, .int v2)]) dX12_thickness_52 4 rfl rfl (by decide) rfl ?_
  refine nmL hf (fun x7 hf => ?_)
  refine rw_goto (tgt := 5) dX12_thickness_55 (by decide) ?_
  refine rw_sub [2, 3, 4, 1, 0] rfl ?_
  exact hk5 v1 v2 x6 x7 σ _ hr hf
def lX12_thickness_5  : Nat → Int32 → Int32 → Int64 → Int32 → rS → Option (Int64 × rS)
  | 0, _, _, _, _, _ => none
  | n + 1, v1, v2, v3, v5, σ => if inB v2 16 then (if (σ.2.2.1 47 v2.toNatClampNeg) ≤ v5 then some (v3, σ) else if inB ((12 * v2) + v5) 192 then (if (σ.2.2.1 60 ((12 * v2) + v5).toNatClampNeg) = v1 then if inB ((12 * v2) + v5) 192 then jX12_thickness_50 (lX12_thickness_5 n) v1 v2 v5 ((σ.2.2.1 49 ((12 * v2) + v5).toNatClampNeg).toInt64) v3 σ else none else jX12_thickness_50 (lX12_thickness_5 n) v1 v2 v5 0 v3 σ) else none) else none
set_option maxHeartbeats 4000000 in
theorem t_lX12_thickness_5 {G : rG} {ad : Nat → Nat} {o : (Int64 × rS)}   : ∀ (n : Nat) (v1 : Int32) (v2 : Int32) (v3 : Int64) (v5 : Int32) (σ : rS) (h : rH), Rep G ad σ h → lX12_thickness_5  n v1 v2 v3 v5 σ = some o → RW G mX12_thickness (rm 0 0 0) (qJ G ad o) xN 0 0 5 [(0, .ref (ad 43)), (1, .int v1), (2, .int v2), (3, .long v3), (5, .int v5)] [] h := by
  intro n
  induction n with
  | zero =>
    intro v1 v2 v3 v5 σ h hr hf
    rw [lX12_thickness_5] at hf
    cases hf
  | succ n ih =>
    intro v1 v2 v3 v5 σ h hr hf
    rw [lX12_thickness_5] at hf
    refine rw_iload dX12_thickness_5 4 rfl ?_
    refine rw_aload_n dX12_thickness_7 0 rfl rfl ?_
    refine sg_43_6 hr dX12_thickness_8 fl1468 ?_
    refine rw_iload_n dX12_thickness_11 2 rfl rfl ?_
    obtain ⟨hi1, hf⟩ := grd hf
    refine sl_47 hr dX12_thickness_12 (inB_in hi1) ?_
    refine rw_icmp_ge (tgt := 58) dX12_thickness_13 (by decide) (fun c2 => ?_) (fun c2 => ?_)
    · rw [if_pos c2] at hf
      refine rw_lload_n dX12_thickness_58 3 rfl rfl ?_
      replace hf := Option.some.inj hf
      subst hf
      exact rw_lreturn dX12_thickness_59 rfl ⟨rfl, hr⟩ (by decide) (by decide)
    · rw [if_neg c2] at hf
      refine rw_lload_n dX12_thickness_16 3 rfl rfl ?_
      refine rw_aload_n dX12_thickness_17 0 rfl rfl ?_
      refine sg_43_26 hr dX12_thickness_18 fl1488 ?_
      refine rw_bipush (v := 12) dX12_thickness_21 (by decide) ?_
      refine rw_iload_n dX12_thickness_23 2 rfl rfl ?_
      refine rw_imul dX12_thickness_24 ?_
      refine rw_iload dX12_thickness_25 4 rfl ?_
      refine rw_iadd dX12_thickness_27 ?_
      obtain ⟨hi3, hf⟩ := grd hf
      refine sl_60 hr dX12_thickness_28 (inB_in hi3) ?_
      refine rw_iload_n dX12_thickness_29 1 rfl rfl ?_
      refine rw_icmp_ne (tgt := 49) dX12_thickness_30 (by decide) (fun c4 => ?_) (fun c4 => ?_)
      · rw [if_neg c4] at hf
        refine rw_lconst (v := 0) dX12_thickness_49 (by decide) ?_
        refine rw_sub [0, 1, 2, 4] rfl ?_
        exact t_jX12_thickness_50 (ad := ad) (G := G) (lX12_thickness_5 n) ih v1 v2 v5 0 v3 σ _ hr hf
      · rw [if_pos c4] at hf
        refine rw_aload_n dX12_thickness_33 0 rfl rfl ?_
        refine sg_43_8 hr dX12_thickness_34 fl1470 ?_
        refine rw_bipush (v := 12) dX12_thickness_37 (by decide) ?_
        refine rw_iload_n dX12_thickness_39 2 rfl rfl ?_
        refine rw_imul dX12_thickness_40 ?_
        refine rw_iload dX12_thickness_41 4 rfl ?_
        refine rw_iadd dX12_thickness_43 ?_
        obtain ⟨hi5, hf⟩ := grd hf
        refine sl_49 hr dX12_thickness_44 (inB_in hi5) ?_
        refine rw_i2l dX12_thickness_45 ?_
        refine rw_goto (tgt := 50) dX12_thickness_46 (by decide) ?_
        refine rw_sub [0, 1, 2, 4] rfl ?_
        exact t_jX12_thickness_50 (ad := ad) (G := G) (lX12_thickness_5 n) ih v1 v2 v5 ((σ.2.2.1 49 ((12 * v2) + v5).toNatClampNeg).toInt64) v3 σ _ hr hf
def fX12_thickness (a0 : Int32) (a1 : Int32) (σ : rS) : Option (Int64 × rS) := lX12_thickness_5 1000 a0 a1 0 0 σ
set_option maxHeartbeats 4000000 in
theorem cmX12_thickness {G : rG} {ad : Nat → Nat} {a0 : Int32} {a1 : Int32} {σ : rS} {h : rH} {o : (Int64 × rS)} (hr : Rep G ad σ h) (hf : fX12_thickness a0 a1 σ = some o) : rMT G mX12_thickness (rm 0 0 0) [.ref (ad 43), .int a0, .int a1] h (qJ G ad o) xN := by
  unfold fX12_thickness at hf
  refine rw_met (by decide +kernel) rfl (Nat.le_of_ble_eq_true rfl) ?_
  show RW G _ _ _ _ 0 0 0 [(0, .ref (ad 43)), (1, .int a0), (2, .int a1)] [] h
  refine rw_lconst (v := 0) dX12_thickness_0 (by decide) ?_
  refine rw_lstore_n (lv2 := [(3, .long 0), (0, .ref (ad 43)), (1, .int a0), (2, .int a1)]) dX12_thickness_1 rfl (by decide) rfl ?_
  refine rw_iconst (v := 0) dX12_thickness_2 (by decide) ?_
  refine rw_istore (lv2 := [(5, .int 0), (3, .long 0), (0, .ref (ad 43)), (1, .int a0), (2, .int a1)]) dX12_thickness_3 (by decide) rfl ?_
  refine rw_sub [2, 3, 4, 1, 0] rfl ?_
  exact t_lX12_thickness_5 (ad := ad) (G := G)  1000 a0 a1 0 0 σ _ hr hf
def jX12_volume_452 (k38 : Int32 → Int32 → Int32 → Int32 → Int32 → Int64 → Int32 → rS → Option (Int64 × rS)) (v1 : Int32) (v2 : Int32) (v3 : Int32) (v4 : Int32) (v5 : Int32) (v6 : Int64) (v8 : Int32) (σ : rS) : Option (Int64 × rS) := vI (v8 + 1) fun x42 => k38 v1 v2 v3 v4 v5 v6 x42 σ
set_option maxHeartbeats 4000000 in
theorem t_jX12_volume_452 {G : rG} {ad : Nat → Nat} {o : (Int64 × rS)} (k38 : Int32 → Int32 → Int32 → Int32 → Int32 → Int64 → Int32 → rS → Option (Int64 × rS)) (hk38 : ∀ (v1 : Int32) (v2 : Int32) (v3 : Int32) (v4 : Int32) (v5 : Int32) (v6 : Int64) (v8 : Int32) (σ : rS) (h : rH), Rep G ad σ h → k38 v1 v2 v3 v4 v5 v6 v8 σ = some o → RW G mX12_volume (rm 2 0 0) (qJ G ad o) xN 0 0 38 [(0, .ref (ad 43)), (1, .int v1), (2, .int v2), (3, .int v3), (4, .int v4), (5, .int v5), (6, .long v6), (8, .int v8)] [] h) (v1 : Int32) (v2 : Int32) (v3 : Int32) (v4 : Int32) (v5 : Int32) (v6 : Int64) (v8 : Int32) (σ : rS) (h : rH) (hr : Rep G ad σ h) (hf : jX12_volume_452 k38 v1 v2 v3 v4 v5 v6 v8 σ = some o) : RW G mX12_volume (rm 2 0 0) (qJ G ad o) xN 0 0 452 [(0, .ref (ad 43)), (1, .int v1), (2, .int v2), (3, .int v3), (4, .int v4), (5, .int v5), (6, .long v6), (8, .int v8)] [] h := by
  unfold jX12_volume_452 at hf
  refine rw_iinc (v := v8 + 1) (lv2 := [(8, .int (v8 + 1)), (0, .ref (ad 43)), (1, .int v1), (2, .int v2), (3, .int v3), (4, .int v4), (5, .int v5), (6, .long v6)]) dX12_volume_452 7 rfl rfl (by decide) rfl ?_
  refine nmL hf (fun x42 hf => ?_)
  refine rw_goto (tgt := 38) dX12_volume_455 (by decide) ?_
  refine rw_sub [1, 2, 3, 4, 5, 6, 7, 0] rfl ?_
  exact hk38 v1 v2 v3 v4 v5 v6 x42 σ _ hr hf
def jX12_volume_446 (k38 : Int32 → Int32 → Int32 → Int32 → Int32 → Int64 → Int32 → rS → Option (Int64 × rS)) (k249 : Int32 → Int32 → Int32 → Int32 → Int32 → Int64 → Int32 → Int32 → Int32 → Int32 → Int32 → Int64 → Int32 → rS → Option (Int64 × rS)) (v1 : Int32) (v2 : Int32) (v3 : Int32) (v4 : Int32) (v5 : Int32) (v6 : Int64) (v8 : Int32) (v9 : Int32) (v10 : Int32) (v11 : Int32) (v12 : Int32) (v13 : Int64) (v15 : Int32) (σ : rS) : Option (Int64 × rS) := vI (v15 + 1) fun x43 => k249 v1 v2 v3 v4 v5 v6 v8 v9 v10 v11 v12 v13 x43 σ
set_option maxHeartbeats 4000000 in
theorem t_jX12_volume_446 {G : rG} {ad : Nat → Nat} {o : (Int64 × rS)} (k38 : Int32 → Int32 → Int32 → Int32 → Int32 → Int64 → Int32 → rS → Option (Int64 × rS)) (k249 : Int32 → Int32 → Int32 → Int32 → Int32 → Int64 → Int32 → Int32 → Int32 → Int32 → Int32 → Int64 → Int32 → rS → Option (Int64 × rS)) (hk38 : ∀ (v1 : Int32) (v2 : Int32) (v3 : Int32) (v4 : Int32) (v5 : Int32) (v6 : Int64) (v8 : Int32) (σ : rS) (h : rH), Rep G ad σ h → k38 v1 v2 v3 v4 v5 v6 v8 σ = some o → RW G mX12_volume (rm 2 0 0) (qJ G ad o) xN 0 0 38 [(0, .ref (ad 43)), (1, .int v1), (2, .int v2), (3, .int v3), (4, .int v4), (5, .int v5), (6, .long v6), (8, .int v8)] [] h) (hk249 : ∀ (v1 : Int32) (v2 : Int32) (v3 : Int32) (v4 : Int32) (v5 : Int32) (v6 : Int64) (v8 : Int32) (v9 : Int32) (v10 : Int32) (v11 : Int32) (v12 : Int32) (v13 : Int64) (v15 : Int32) (σ : rS) (h : rH), Rep G ad σ h → k249 v1 v2 v3 v4 v5 v6 v8 v9 v10 v11 v12 v13 v15 σ = some o → RW G mX12_volume (rm 2 0 0) (qJ G ad o) xN 0 0 249 [(0, .ref (ad 43)), (1, .int v1), (2, .int v2), (3, .int v3), (4, .int v4), (5, .int v5), (6, .long v6), (8, .int v8), (9, .int v9), (10, .int v10), (11, .int v11), (12, .int v12), (13, .long v13), (15, .int v15)] [] h) (v1 : Int32) (v2 : Int32) (v3 : Int32) (v4 : Int32) (v5 : Int32) (v6 : Int64) (v8 : Int32) (v9 : Int32) (v10 : Int32) (v11 : Int32) (v12 : Int32) (v13 : Int64) (v15 : Int32) (σ : rS) (h : rH) (hr : Rep G ad σ h) (hf : jX12_volume_446 k38 k249 v1 v2 v3 v4 v5 v6 v8 v9 v10 v11 v12 v13 v15 σ = some o) : RW G mX12_volume (rm 2 0 0) (qJ G ad o) xN 0 0 446 [(0, .ref (ad 43)), (1, .int v1), (2, .int v2), (3, .int v3), (4, .int v4), (5, .int v5), (6, .long v6), (8, .int v8), (9, .int v9), (10, .int v10), (11, .int v11), (12, .int v12), (13, .long v13), (15, .int v15)] [] h := by
  unfold jX12_volume_446 at hf
  refine rw_iinc (v := v15 + 1) (lv2 := [(15, .int (v15 + 1)), (0, .ref (ad 43)), (1, .int v1), (2, .int v2), (3, .int v3), (4, .int v4), (5, .int v5), (6, .long v6), (8, .int v8), (9, .int v9), (10, .int v10), (11, .int v11), (12, .int v12), (13, .long v13)]) dX12_volume_446 13 rfl rfl (by decide) rfl ?_
  refine nmL hf (fun x43 hf => ?_)
  refine rw_goto (tgt := 249) dX12_volume_449 (by decide) ?_
  refine rw_sub [1, 2, 3, 4, 5, 6, 7, 8, 9, 10, 11, 12, 13, 0] rfl ?_
  exact hk249 v1 v2 v3 v4 v5 v6 v8 v9 v10 v11 v12 v13 x43 σ _ hr hf
def jX12_volume_443 (k38 : Int32 → Int32 → Int32 → Int32 → Int32 → Int64 → Int32 → rS → Option (Int64 × rS)) (k249 : Int32 → Int32 → Int32 → Int32 → Int32 → Int64 → Int32 → Int32 → Int32 → Int32 → Int32 → Int64 → Int32 → rS → Option (Int64 × rS)) (v1 : Int32) (v2 : Int32) (v3 : Int32) (v4 : Int32) (v5 : Int32) (v8 : Int32) (v9 : Int32) (v10 : Int32) (v11 : Int32) (v12 : Int32) (v13 : Int64) (v15 : Int32) (s0 : Int64) (s1 : Int64) (σ : rS) : Option (Int64 × rS) := vJ (s1 + s0) fun x56 => jX12_volume_446 k38 k249 v1 v2 v3 v4 v5 x56 v8 v9 v10 v11 v12 v13 v15 σ
set_option maxHeartbeats 4000000 in
theorem t_jX12_volume_443 {G : rG} {ad : Nat → Nat} {o : (Int64 × rS)} (k38 : Int32 → Int32 → Int32 → Int32 → Int32 → Int64 → Int32 → rS → Option (Int64 × rS)) (k249 : Int32 → Int32 → Int32 → Int32 → Int32 → Int64 → Int32 → Int32 → Int32 → Int32 → Int32 → Int64 → Int32 → rS → Option (Int64 × rS)) (hk38 : ∀ (v1 : Int32) (v2 : Int32) (v3 : Int32) (v4 : Int32) (v5 : Int32) (v6 : Int64) (v8 : Int32) (σ : rS) (h : rH), Rep G ad σ h → k38 v1 v2 v3 v4 v5 v6 v8 σ = some o → RW G mX12_volume (rm 2 0 0) (qJ G ad o) xN 0 0 38 [(0, .ref (ad 43)), (1, .int v1), (2, .int v2), (3, .int v3), (4, .int v4), (5, .int v5), (6, .long v6), (8, .int v8)] [] h) (hk249 : ∀ (v1 : Int32) (v2 : Int32) (v3 : Int32) (v4 : Int32) (v5 : Int32) (v6 : Int64) (v8 : Int32) (v9 : Int32) (v10 : Int32) (v11 : Int32) (v12 : Int32) (v13 : Int64) (v15 : Int32) (σ : rS) (h : rH), Rep G ad σ h → k249 v1 v2 v3 v4 v5 v6 v8 v9 v10 v11 v12 v13 v15 σ = some o → RW G mX12_volume (rm 2 0 0) (qJ G ad o) xN 0 0 249 [(0, .ref (ad 43)), (1, .int v1), (2, .int v2), (3, .int v3), (4, .int v4), (5, .int v5), (6, .long v6), (8, .int v8), (9, .int v9), (10, .int v10), (11, .int v11), (12, .int v12), (13, .long v13), (15, .int v15)] [] h) (v1 : Int32) (v2 : Int32) (v3 : Int32) (v4 : Int32) (v5 : Int32) (v8 : Int32) (v9 : Int32) (v10 : Int32) (v11 : Int32) (v12 : Int32) (v13 : Int64) (v15 : Int32) (s0 : Int64) (s1 : Int64) (σ : rS) (h : rH) (hr : Rep G ad σ h) (hf : jX12_volume_443 k38 k249 v1 v2 v3 v4 v5 v8 v9 v10 v11 v12 v13 v15 s0 s1 σ = some o) : RW G mX12_volume (rm 2 0 0) (qJ G ad o) xN 0 0 443 [(0, .ref (ad 43)), (1, .int v1), (2, .int v2), (3, .int v3), (4, .int v4), (5, .int v5), (8, .int v8), (9, .int v9), (10, .int v10), (11, .int v11), (12, .int v12), (13, .long v13), (15, .int v15)] [.long s0, .long s1] h := by
  unfold jX12_volume_443 at hf
  refine rw_ladd dX12_volume_443 ?_
  refine nmJ hf (fun x56 hf => ?_)
  refine rw_lstore (lv2 := [(6, .long x56), (0, .ref (ad 43)), (1, .int v1), (2, .int v2), (3, .int v3), (4, .int v4), (5, .int v5), (8, .int v8), (9, .int v9), (10, .int v10), (11, .int v11), (12, .int v12), (13, .long v13), (15, .int v15)]) dX12_volume_444 (by decide) rfl ?_
  refine rw_sub [1, 2, 3, 4, 5, 6, 0, 7, 8, 9, 10, 11, 12, 13] rfl ?_
  exact t_jX12_volume_446 (ad := ad) (G := G) k38 k249 hk38 hk249 v1 v2 v3 v4 v5 x56 v8 v9 v10 v11 v12 v13 v15 σ _ hr hf
def jX12_volume_422 (k38 : Int32 → Int32 → Int32 → Int32 → Int32 → Int64 → Int32 → rS → Option (Int64 × rS)) (k249 : Int32 → Int32 → Int32 → Int32 → Int32 → Int64 → Int32 → Int32 → Int32 → Int32 → Int32 → Int64 → Int32 → rS → Option (Int64 × rS)) (v1 : Int32) (v2 : Int32) (v3 : Int32) (v4 : Int32) (v5 : Int32) (v6 : Int64) (v8 : Int32) (v9 : Int32) (v10 : Int32) (v11 : Int32) (v12 : Int32) (v13 : Int64) (v15 : Int32) (v16 : Int32) (v17 : Int64) (s0 : Int64) (σ : rS) : Option (Int64 × rS) := if v16 = 0 then jX12_volume_443 k38 k249 v1 v2 v3 v4 v5 v8 v9 v10 v11 v12 v13 v15 0 v6 σ else jX12_volume_443 k38 k249 v1 v2 v3 v4 v5 v8 v9 v10 v11 v12 v13 v15 ((v13 * v17) * s0) v6 σ
set_option maxHeartbeats 4000000 in
theorem t_jX12_volume_422 {G : rG} {ad : Nat → Nat} {o : (Int64 × rS)} (k38 : Int32 → Int32 → Int32 → Int32 → Int32 → Int64 → Int32 → rS → Option (Int64 × rS)) (k249 : Int32 → Int32 → Int32 → Int32 → Int32 → Int64 → Int32 → Int32 → Int32 → Int32 → Int32 → Int64 → Int32 → rS → Option (Int64 × rS)) (hk38 : ∀ (v1 : Int32) (v2 : Int32) (v3 : Int32) (v4 : Int32) (v5 : Int32) (v6 : Int64) (v8 : Int32) (σ : rS) (h : rH), Rep G ad σ h → k38 v1 v2 v3 v4 v5 v6 v8 σ = some o → RW G mX12_volume (rm 2 0 0) (qJ G ad o) xN 0 0 38 [(0, .ref (ad 43)), (1, .int v1), (2, .int v2), (3, .int v3), (4, .int v4), (5, .int v5), (6, .long v6), (8, .int v8)] [] h) (hk249 : ∀ (v1 : Int32) (v2 : Int32) (v3 : Int32) (v4 : Int32) (v5 : Int32) (v6 : Int64) (v8 : Int32) (v9 : Int32) (v10 : Int32) (v11 : Int32) (v12 : Int32) (v13 : Int64) (v15 : Int32) (σ : rS) (h : rH), Rep G ad σ h → k249 v1 v2 v3 v4 v5 v6 v8 v9 v10 v11 v12 v13 v15 σ = some o → RW G mX12_volume (rm 2 0 0) (qJ G ad o) xN 0 0 249 [(0, .ref (ad 43)), (1, .int v1), (2, .int v2), (3, .int v3), (4, .int v4), (5, .int v5), (6, .long v6), (8, .int v8), (9, .int v9), (10, .int v10), (11, .int v11), (12, .int v12), (13, .long v13), (15, .int v15)] [] h) (v1 : Int32) (v2 : Int32) (v3 : Int32) (v4 : Int32) (v5 : Int32) (v6 : Int64) (v8 : Int32) (v9 : Int32) (v10 : Int32) (v11 : Int32) (v12 : Int32) (v13 : Int64) (v15 : Int32) (v16 : Int32) (v17 : Int64) (s0 : Int64) (σ : rS) (h : rH) (hr : Rep G ad σ h) (hf : jX12_volume_422 k38 k249 v1 v2 v3 v4 v5 v6 v8 v9 v10 v11 v12 v13 v15 v16 v17 s0 σ = some o) : RW G mX12_volume (rm 2 0 0) (qJ G ad o) xN 0 0 422 [(0, .ref (ad 43)), (1, .int v1), (2, .int v2), (3, .int v3), (4, .int v4), (5, .int v5), (6, .long v6), (8, .int v8), (9, .int v9), (10, .int v10), (11, .int v11), (12, .int v12), (13, .long v13), (15, .int v15), (16, .int v16), (17, .long v17)] [.long s0] h := by
  unfold jX12_volume_422 at hf
  refine rw_lstore (lv2 := [(19, .long s0), (0, .ref (ad 43)), (1, .int v1), (2, .int v2), (3, .int v3), (4, .int v4), (5, .int v5), (6, .long v6), (8, .int v8), (9, .int v9), (10, .int v10), (11, .int v11), (12, .int v12), (13, .long v13), (15, .int v15), (16, .int v16), (17, .long v17)]) dX12_volume_422 (by decide) rfl ?_
  refine rw_lload dX12_volume_424 7 rfl ?_
  refine rw_iload dX12_volume_426 15 rfl ?_
  refine rw_if_ne (tgt := 435) dX12_volume_428 (by decide) (fun c55 => ?_) (fun c55 => ?_)
  · rw [if_neg c55] at hf
    refine rw_lload dX12_volume_435 13 rfl ?_
    refine rw_lload dX12_volume_437 16 rfl ?_
    refine rw_lmul dX12_volume_439 ?_
    refine rw_lload dX12_volume_440 0 rfl ?_
    refine rw_lmul dX12_volume_442 ?_
    refine rw_sub [1, 2, 3, 4, 5, 6, 8, 9, 10, 11, 12, 13, 14] rfl ?_
    exact t_jX12_volume_443 (ad := ad) (G := G) k38 k249 hk38 hk249 v1 v2 v3 v4 v5 v8 v9 v10 v11 v12 v13 v15 ((v13 * v17) * s0) v6 σ _ hr hf
  · rw [if_pos c55] at hf
    refine rw_lconst (v := 0) dX12_volume_431 (by decide) ?_
    refine rw_goto (tgt := 443) dX12_volume_432 (by decide) ?_
    refine rw_sub [1, 2, 3, 4, 5, 6, 8, 9, 10, 11, 12, 13, 14] rfl ?_
    exact t_jX12_volume_443 (ad := ad) (G := G) k38 k249 hk38 hk249 v1 v2 v3 v4 v5 v8 v9 v10 v11 v12 v13 v15 0 v6 σ _ hr hf
def jX12_volume_334 (k38 : Int32 → Int32 → Int32 → Int32 → Int32 → Int64 → Int32 → rS → Option (Int64 × rS)) (k249 : Int32 → Int32 → Int32 → Int32 → Int32 → Int64 → Int32 → Int32 → Int32 → Int32 → Int32 → Int64 → Int32 → rS → Option (Int64 × rS)) (v1 : Int32) (v2 : Int32) (v3 : Int32) (v4 : Int32) (v5 : Int32) (v6 : Int64) (v8 : Int32) (v9 : Int32) (v10 : Int32) (v11 : Int32) (v12 : Int32) (v13 : Int64) (v15 : Int32) (s0 : Int32) (s1 : Int32) (σ : rS) : Option (Int64 × rS) := vI (s1 + s0) fun x48 => (fX12_thickness v15 v10 σ).bind fun q49 => (fX12_thickness v15 v11 q49.2).bind fun q50 => (fX12_thickness v15 v12 q50.2).bind fun q51 => vJ ((q49.1 + q50.1) + q51.1) fun x52 => if x48 = 3 then jX12_volume_422 k38 k249 v1 v2 v3 v4 v5 v6 v8 v9 v10 v11 v12 v13 v15 x48 x52 20000 q51.2 else if x48 = 2 then jX12_volume_422 k38 k249 v1 v2 v3 v4 v5 v6 v8 v9 v10 v11 v12 v13 v15 x48 x52 ((300 * ((q51.2.1 43 12).toInt64)) - (((q51.2.1 43 12).toInt64) * ((q51.2.1 43 12).toInt64))) q51.2 else jX12_volume_422 k38 k249 v1 v2 v3 v4 v5 v6 v8 v9 v10 v11 v12 v13 v15 x48 x52 ((2 * ((q51.2.1 43 12).toInt64)) * ((q51.2.1 43 12).toInt64)) q51.2
set_option maxHeartbeats 4000000 in
theorem t_jX12_volume_334 {G : rG} {ad : Nat → Nat} {o : (Int64 × rS)} (k38 : Int32 → Int32 → Int32 → Int32 → Int32 → Int64 → Int32 → rS → Option (Int64 × rS)) (k249 : Int32 → Int32 → Int32 → Int32 → Int32 → Int64 → Int32 → Int32 → Int32 → Int32 → Int32 → Int64 → Int32 → rS → Option (Int64 × rS)) (hk38 : ∀ (v1 : Int32) (v2 : Int32) (v3 : Int32) (v4 : Int32) (v5 : Int32) (v6 : Int64) (v8 : Int32) (σ : rS) (h : rH), Rep G ad σ h → k38 v1 v2 v3 v4 v5 v6 v8 σ = some o → RW G mX12_volume (rm 2 0 0) (qJ G ad o) xN 0 0 38 [(0, .ref (ad 43)), (1, .int v1), (2, .int v2), (3, .int v3), (4, .int v4), (5, .int v5), (6, .long v6), (8, .int v8)] [] h) (hk249 : ∀ (v1 : Int32) (v2 : Int32) (v3 : Int32) (v4 : Int32) (v5 : Int32) (v6 : Int64) (v8 : Int32) (v9 : Int32) (v10 : Int32) (v11 : Int32) (v12 : Int32) (v13 : Int64) (v15 : Int32) (σ : rS) (h : rH), Rep G ad σ h → k249 v1 v2 v3 v4 v5 v6 v8 v9 v10 v11 v12 v13 v15 σ = some o → RW G mX12_volume (rm 2 0 0) (qJ G ad o) xN 0 0 249 [(0, .ref (ad 43)), (1, .int v1), (2, .int v2), (3, .int v3), (4, .int v4), (5, .int v5), (6, .long v6), (8, .int v8), (9, .int v9), (10, .int v10), (11, .int v11), (12, .int v12), (13, .long v13), (15, .int v15)] [] h) (v1 : Int32) (v2 : Int32) (v3 : Int32) (v4 : Int32) (v5 : Int32) (v6 : Int64) (v8 : Int32) (v9 : Int32) (v10 : Int32) (v11 : Int32) (v12 : Int32) (v13 : Int64) (v15 : Int32) (s0 : Int32) (s1 : Int32) (σ : rS) (h : rH) (hr : Rep G ad σ h) (hf : jX12_volume_334 k38 k249 v1 v2 v3 v4 v5 v6 v8 v9 v10 v11 v12 v13 v15 s0 s1 σ = some o) : RW G mX12_volume (rm 2 0 0) (qJ G ad o) xN 0 0 334 [(0, .ref (ad 43)), (1, .int v1), (2, .int v2), (3, .int v3), (4, .int v4), (5, .int v5), (6, .long v6), (8, .int v8), (9, .int v9), (10, .int v10), (11, .int v11), (12, .int v12), (13, .long v13), (15, .int v15)] [.int s0, .int s1] h := by
  unfold jX12_volume_334 at hf
  refine rw_iadd dX12_volume_334 ?_
  refine nmI hf (fun x48 hf => ?_)
  refine rw_istore (lv2 := [(16, .int x48), (0, .ref (ad 43)), (1, .int v1), (2, .int v2), (3, .int v3), (4, .int v4), (5, .int v5), (6, .long v6), (8, .int v8), (9, .int v9), (10, .int v10), (11, .int v11), (12, .int v12), (13, .long v13), (15, .int v15)]) dX12_volume_335 (by decide) rfl ?_
  refine rw_aload_n dX12_volume_337 1 rfl rfl ?_
  refine rw_iload dX12_volume_338 14 rfl ?_
  refine rw_iload dX12_volume_340 10 rfl ?_
  obtain ⟨q49, hq49, hf⟩ := bnd hf
  refine kV_J (ad := ad) (As := [.int v15, .int v10]) (st := []) dX12_volume_342 calX12_thickness wm1800 wm1802 wm53 rfl rfl (rc_43 hr) (ci := 12) (by decide) rfl rfl (Nat.le_of_ble_eq_true rfl) ⟨⟨by decide, by decide⟩, by decide, by decide⟩ (cmX12_thickness hr hq49) (fun h hr => ?_)
  refine rw_aload_n dX12_volume_345 1 rfl rfl ?_
  refine rw_iload dX12_volume_346 14 rfl ?_
  refine rw_iload dX12_volume_348 11 rfl ?_
  obtain ⟨q50, hq50, hf⟩ := bnd hf
  refine kV_J (ad := ad) (As := [.int v15, .int v11]) (st := [.long q49.1]) dX12_volume_350 calX12_thickness wm1800 wm1802 wm53 rfl rfl (rc_43 hr) (ci := 12) (by decide) rfl rfl (Nat.le_of_ble_eq_true rfl) ⟨⟨by decide, by decide⟩, by decide, by decide⟩ (cmX12_thickness hr hq50) (fun h hr => ?_)
  refine rw_ladd dX12_volume_353 ?_
  refine rw_aload_n dX12_volume_354 1 rfl rfl ?_
  refine rw_iload dX12_volume_355 14 rfl ?_
  refine rw_iload dX12_volume_357 12 rfl ?_
  obtain ⟨q51, hq51, hf⟩ := bnd hf
  refine kV_J (ad := ad) (As := [.int v15, .int v12]) (st := [.long (q49.1 + q50.1)]) dX12_volume_359 calX12_thickness wm1800 wm1802 wm53 rfl rfl (rc_43 hr) (ci := 12) (by decide) rfl rfl (Nat.le_of_ble_eq_true rfl) ⟨⟨by decide, by decide⟩, by decide, by decide⟩ (cmX12_thickness hr hq51) (fun h hr => ?_)
  refine rw_ladd dX12_volume_362 ?_
  refine nmJ hf (fun x52 hf => ?_)
  refine rw_lstore (lv2 := [(17, .long x52), (16, .int x48), (0, .ref (ad 43)), (1, .int v1), (2, .int v2), (3, .int v3), (4, .int v4), (5, .int v5), (6, .long v6), (8, .int v8), (9, .int v9), (10, .int v10), (11, .int v11), (12, .int v12), (13, .long v13), (15, .int v15)]) dX12_volume_363 (by decide) rfl ?_
  refine rw_iload dX12_volume_365 1 rfl ?_
  refine rw_iconst (v := 3) dX12_volume_367 (by decide) ?_
  refine rw_icmp_ne (tgt := 377) dX12_volume_368 (by decide) (fun c53 => ?_) (fun c53 => ?_)
  · rw [if_neg c53] at hf
    refine rw_iload dX12_volume_377 1 rfl ?_
    refine rw_iconst (v := 2) dX12_volume_379 (by decide) ?_
    refine rw_icmp_ne (tgt := 407) dX12_volume_380 (by decide) (fun c54 => ?_) (fun c54 => ?_)
    · rw [if_neg c54] at hf
      refine rw_ldc2 (v := 2) dX12_volume_407 wm1806 ?_
      refine rw_aload_n dX12_volume_410 2 rfl rfl ?_
      refine sg_43_12 hr dX12_volume_411 fl1474 ?_
      refine rw_i2l dX12_volume_414 ?_
      refine rw_lmul dX12_volume_415 ?_
      refine rw_aload_n dX12_volume_416 2 rfl rfl ?_
      refine sg_43_12 hr dX12_volume_417 fl1474 ?_
      refine rw_i2l dX12_volume_420 ?_
      refine rw_lmul dX12_volume_421 ?_
      refine rw_sub [2, 3, 4, 5, 6, 7, 8, 9, 10, 11, 12, 13, 14, 15, 1, 0] rfl ?_
      exact t_jX12_volume_422 (ad := ad) (G := G) k38 k249 hk38 hk249 v1 v2 v3 v4 v5 v6 v8 v9 v10 v11 v12 v13 v15 x48 x52 ((2 * ((q51.2.1 43 12).toInt64)) * ((q51.2.1 43 12).toInt64)) q51.2 _ hr hf
    · rw [if_pos c54] at hf
      refine rw_ldc2 (v := 300) dX12_volume_383 wm1805 ?_
      refine rw_aload_n dX12_volume_386 2 rfl rfl ?_
      refine sg_43_12 hr dX12_volume_387 fl1474 ?_
      refine rw_i2l dX12_volume_390 ?_
      refine rw_lmul dX12_volume_391 ?_
      refine rw_aload_n dX12_volume_392 2 rfl rfl ?_
      refine sg_43_12 hr dX12_volume_393 fl1474 ?_
      refine rw_i2l dX12_volume_396 ?_
      refine rw_aload_n dX12_volume_397 2 rfl rfl ?_
      refine sg_43_12 hr dX12_volume_398 fl1474 ?_
      refine rw_i2l dX12_volume_401 ?_
      refine rw_lmul dX12_volume_402 ?_
      refine rw_lsub dX12_volume_403 ?_
      refine rw_goto (tgt := 422) dX12_volume_404 (by decide) ?_
      refine rw_sub [2, 3, 4, 5, 6, 7, 8, 9, 10, 11, 12, 13, 14, 15, 1, 0] rfl ?_
      exact t_jX12_volume_422 (ad := ad) (G := G) k38 k249 hk38 hk249 v1 v2 v3 v4 v5 v6 v8 v9 v10 v11 v12 v13 v15 x48 x52 ((300 * ((q51.2.1 43 12).toInt64)) - (((q51.2.1 43 12).toInt64) * ((q51.2.1 43 12).toInt64))) q51.2 _ hr hf
  · rw [if_pos c53] at hf
    refine rw_ldc2 (v := 20000) dX12_volume_371 wm1804 ?_
    refine rw_goto (tgt := 422) dX12_volume_374 (by decide) ?_
    refine rw_sub [2, 3, 4, 5, 6, 7, 8, 9, 10, 11, 12, 13, 14, 15, 1, 0] rfl ?_
    exact t_jX12_volume_422 (ad := ad) (G := G) k38 k249 hk38 hk249 v1 v2 v3 v4 v5 v6 v8 v9 v10 v11 v12 v13 v15 x48 x52 20000 q51.2 _ hr hf
def jX12_volume_316 (k38 : Int32 → Int32 → Int32 → Int32 → Int32 → Int64 → Int32 → rS → Option (Int64 × rS)) (k249 : Int32 → Int32 → Int32 → Int32 → Int32 → Int64 → Int32 → Int32 → Int32 → Int32 → Int32 → Int64 → Int32 → rS → Option (Int64 × rS)) (v1 : Int32) (v2 : Int32) (v3 : Int32) (v4 : Int32) (v5 : Int32) (v6 : Int64) (v8 : Int32) (v9 : Int32) (v10 : Int32) (v11 : Int32) (v12 : Int32) (v13 : Int64) (v15 : Int32) (s0 : Int32) (s1 : Int32) (σ : rS) : Option (Int64 × rS) := (fX12_has v15 ((-1)) v12 σ).bind fun q46 => if q46.1 = 0 then jX12_volume_334 k38 k249 v1 v2 v3 v4 v5 v6 v8 v9 v10 v11 v12 v13 v15 0 (s1 + s0) q46.2 else jX12_volume_334 k38 k249 v1 v2 v3 v4 v5 v6 v8 v9 v10 v11 v12 v13 v15 1 (s1 + s0) q46.2
set_option maxHeartbeats 4000000 in
theorem t_jX12_volume_316 {G : rG} {ad : Nat → Nat} {o : (Int64 × rS)} (k38 : Int32 → Int32 → Int32 → Int32 → Int32 → Int64 → Int32 → rS → Option (Int64 × rS)) (k249 : Int32 → Int32 → Int32 → Int32 → Int32 → Int64 → Int32 → Int32 → Int32 → Int32 → Int32 → Int64 → Int32 → rS → Option (Int64 × rS)) (hk38 : ∀ (v1 : Int32) (v2 : Int32) (v3 : Int32) (v4 : Int32) (v5 : Int32) (v6 : Int64) (v8 : Int32) (σ : rS) (h : rH), Rep G ad σ h → k38 v1 v2 v3 v4 v5 v6 v8 σ = some o → RW G mX12_volume (rm 2 0 0) (qJ G ad o) xN 0 0 38 [(0, .ref (ad 43)), (1, .int v1), (2, .int v2), (3, .int v3), (4, .int v4), (5, .int v5), (6, .long v6), (8, .int v8)] [] h) (hk249 : ∀ (v1 : Int32) (v2 : Int32) (v3 : Int32) (v4 : Int32) (v5 : Int32) (v6 : Int64) (v8 : Int32) (v9 : Int32) (v10 : Int32) (v11 : Int32) (v12 : Int32) (v13 : Int64) (v15 : Int32) (σ : rS) (h : rH), Rep G ad σ h → k249 v1 v2 v3 v4 v5 v6 v8 v9 v10 v11 v12 v13 v15 σ = some o → RW G mX12_volume (rm 2 0 0) (qJ G ad o) xN 0 0 249 [(0, .ref (ad 43)), (1, .int v1), (2, .int v2), (3, .int v3), (4, .int v4), (5, .int v5), (6, .long v6), (8, .int v8), (9, .int v9), (10, .int v10), (11, .int v11), (12, .int v12), (13, .long v13), (15, .int v15)] [] h) (v1 : Int32) (v2 : Int32) (v3 : Int32) (v4 : Int32) (v5 : Int32) (v6 : Int64) (v8 : Int32) (v9 : Int32) (v10 : Int32) (v11 : Int32) (v12 : Int32) (v13 : Int64) (v15 : Int32) (s0 : Int32) (s1 : Int32) (σ : rS) (h : rH) (hr : Rep G ad σ h) (hf : jX12_volume_316 k38 k249 v1 v2 v3 v4 v5 v6 v8 v9 v10 v11 v12 v13 v15 s0 s1 σ = some o) : RW G mX12_volume (rm 2 0 0) (qJ G ad o) xN 0 0 316 [(0, .ref (ad 43)), (1, .int v1), (2, .int v2), (3, .int v3), (4, .int v4), (5, .int v5), (6, .long v6), (8, .int v8), (9, .int v9), (10, .int v10), (11, .int v11), (12, .int v12), (13, .long v13), (15, .int v15)] [.int s0, .int s1] h := by
  unfold jX12_volume_316 at hf
  refine rw_iadd dX12_volume_316 ?_
  refine rw_aload_n dX12_volume_317 0 rfl rfl ?_
  refine rw_iload dX12_volume_318 13 rfl ?_
  refine rw_iconst (v := (-1)) dX12_volume_320 (by decide) ?_
  refine rw_iload dX12_volume_321 11 rfl ?_
  obtain ⟨q46, hq46, hf⟩ := bnd hf
  refine kV_I (ad := ad) (As := [.int v15, .int ((-1)), .int v12]) (st := [.int (s1 + s0)]) dX12_volume_323 calX12_has wm1776 wm1778 wm49 rfl rfl (rc_43 hr) (ci := 12) (by decide) rfl rfl (Nat.le_of_ble_eq_true rfl) ⟨⟨by decide, by decide⟩, by decide, by decide⟩ (cmX12_has hr hq46) (fun h hr => ?_)
  refine rw_if_eq (tgt := 333) dX12_volume_326 (by decide) (fun c47 => ?_) (fun c47 => ?_)
  · rw [if_pos c47] at hf
    refine rw_iconst (v := 0) dX12_volume_333 (by decide) ?_
    exact t_jX12_volume_334 (ad := ad) (G := G) k38 k249 hk38 hk249 v1 v2 v3 v4 v5 v6 v8 v9 v10 v11 v12 v13 v15 0 (s1 + s0) q46.2 _ hr hf
  · rw [if_neg c47] at hf
    refine rw_iconst (v := 1) dX12_volume_329 (by decide) ?_
    refine rw_goto (tgt := 334) dX12_volume_330 (by decide) ?_
    exact t_jX12_volume_334 (ad := ad) (G := G) k38 k249 hk38 hk249 v1 v2 v3 v4 v5 v6 v8 v9 v10 v11 v12 v13 v15 1 (s1 + s0) q46.2 _ hr hf
def jX12_volume_299 (k38 : Int32 → Int32 → Int32 → Int32 → Int32 → Int64 → Int32 → rS → Option (Int64 × rS)) (k249 : Int32 → Int32 → Int32 → Int32 → Int32 → Int64 → Int32 → Int32 → Int32 → Int32 → Int32 → Int64 → Int32 → rS → Option (Int64 × rS)) (v1 : Int32) (v2 : Int32) (v3 : Int32) (v4 : Int32) (v5 : Int32) (v6 : Int64) (v8 : Int32) (v9 : Int32) (v10 : Int32) (v11 : Int32) (v12 : Int32) (v13 : Int64) (v15 : Int32) (s0 : Int32) (σ : rS) : Option (Int64 × rS) := (fX12_has v15 ((-1)) v11 σ).bind fun q44 => if q44.1 = 0 then jX12_volume_316 k38 k249 v1 v2 v3 v4 v5 v6 v8 v9 v10 v11 v12 v13 v15 0 s0 q44.2 else jX12_volume_316 k38 k249 v1 v2 v3 v4 v5 v6 v8 v9 v10 v11 v12 v13 v15 1 s0 q44.2
set_option maxHeartbeats 4000000 in
theorem t_jX12_volume_299 {G : rG} {ad : Nat → Nat} {o : (Int64 × rS)} (k38 : Int32 → Int32 → Int32 → Int32 → Int32 → Int64 → Int32 → rS → Option (Int64 × rS)) (k249 : Int32 → Int32 → Int32 → Int32 → Int32 → Int64 → Int32 → Int32 → Int32 → Int32 → Int32 → Int64 → Int32 → rS → Option (Int64 × rS)) (hk38 : ∀ (v1 : Int32) (v2 : Int32) (v3 : Int32) (v4 : Int32) (v5 : Int32) (v6 : Int64) (v8 : Int32) (σ : rS) (h : rH), Rep G ad σ h → k38 v1 v2 v3 v4 v5 v6 v8 σ = some o → RW G mX12_volume (rm 2 0 0) (qJ G ad o) xN 0 0 38 [(0, .ref (ad 43)), (1, .int v1), (2, .int v2), (3, .int v3), (4, .int v4), (5, .int v5), (6, .long v6), (8, .int v8)] [] h) (hk249 : ∀ (v1 : Int32) (v2 : Int32) (v3 : Int32) (v4 : Int32) (v5 : Int32) (v6 : Int64) (v8 : Int32) (v9 : Int32) (v10 : Int32) (v11 : Int32) (v12 : Int32) (v13 : Int64) (v15 : Int32) (σ : rS) (h : rH), Rep G ad σ h → k249 v1 v2 v3 v4 v5 v6 v8 v9 v10 v11 v12 v13 v15 σ = some o → RW G mX12_volume (rm 2 0 0) (qJ G ad o) xN 0 0 249 [(0, .ref (ad 43)), (1, .int v1), (2, .int v2), (3, .int v3), (4, .int v4), (5, .int v5), (6, .long v6), (8, .int v8), (9, .int v9), (10, .int v10), (11, .int v11), (12, .int v12), (13, .long v13), (15, .int v15)] [] h) (v1 : Int32) (v2 : Int32) (v3 : Int32) (v4 : Int32) (v5 : Int32) (v6 : Int64) (v8 : Int32) (v9 : Int32) (v10 : Int32) (v11 : Int32) (v12 : Int32) (v13 : Int64) (v15 : Int32) (s0 : Int32) (σ : rS) (h : rH) (hr : Rep G ad σ h) (hf : jX12_volume_299 k38 k249 v1 v2 v3 v4 v5 v6 v8 v9 v10 v11 v12 v13 v15 s0 σ = some o) : RW G mX12_volume (rm 2 0 0) (qJ G ad o) xN 0 0 299 [(0, .ref (ad 43)), (1, .int v1), (2, .int v2), (3, .int v3), (4, .int v4), (5, .int v5), (6, .long v6), (8, .int v8), (9, .int v9), (10, .int v10), (11, .int v11), (12, .int v12), (13, .long v13), (15, .int v15)] [.int s0] h := by
  unfold jX12_volume_299 at hf
  refine rw_aload_n dX12_volume_299 0 rfl rfl ?_
  refine rw_iload dX12_volume_300 13 rfl ?_
  refine rw_iconst (v := (-1)) dX12_volume_302 (by decide) ?_
  refine rw_iload dX12_volume_303 10 rfl ?_
  obtain ⟨q44, hq44, hf⟩ := bnd hf
  refine kV_I (ad := ad) (As := [.int v15, .int ((-1)), .int v11]) (st := [.int s0]) dX12_volume_305 calX12_has wm1776 wm1778 wm49 rfl rfl (rc_43 hr) (ci := 12) (by decide) rfl rfl (Nat.le_of_ble_eq_true rfl) ⟨⟨by decide, by decide⟩, by decide, by decide⟩ (cmX12_has hr hq44) (fun h hr => ?_)
  refine rw_if_eq (tgt := 315) dX12_volume_308 (by decide) (fun c45 => ?_) (fun c45 => ?_)
  · rw [if_pos c45] at hf
    refine rw_iconst (v := 0) dX12_volume_315 (by decide) ?_
    exact t_jX12_volume_316 (ad := ad) (G := G) k38 k249 hk38 hk249 v1 v2 v3 v4 v5 v6 v8 v9 v10 v11 v12 v13 v15 0 s0 q44.2 _ hr hf
  · rw [if_neg c45] at hf
    refine rw_iconst (v := 1) dX12_volume_311 (by decide) ?_
    refine rw_goto (tgt := 316) dX12_volume_312 (by decide) ?_
    exact t_jX12_volume_316 (ad := ad) (G := G) k38 k249 hk38 hk249 v1 v2 v3 v4 v5 v6 v8 v9 v10 v11 v12 v13 v15 1 s0 q44.2 _ hr hf
def lX12_volume_249 (k38 : Int32 → Int32 → Int32 → Int32 → Int32 → Int64 → Int32 → rS → Option (Int64 × rS)) : Nat → Int32 → Int32 → Int32 → Int32 → Int32 → Int64 → Int32 → Int32 → Int32 → Int32 → Int32 → Int64 → Int32 → rS → Option (Int64 × rS)
  | 0, _, _, _, _, _, _, _, _, _, _, _, _, _, _ => none
  | n + 1, v1, v2, v3, v4, v5, v6, v8, v9, v10, v11, v12, v13, v15, σ => if (σ.1 43 25) ≤ v15 then jX12_volume_452 k38 v1 v2 v3 v4 v5 v6 v8 σ else if v9 = 0 then jX12_volume_452 k38 v1 v2 v3 v4 v5 v6 v8 σ else if inB v15 192 then if inB (σ.2.2.1 61 v15.toNatClampNeg) 192 then (if (σ.2.2.1 48 (σ.2.2.1 61 v15.toNatClampNeg).toNatClampNeg) = v1 then (fX12_has v15 ((-1)) v10 σ).bind fun q40 => if q40.1 = 0 then jX12_volume_299 k38 (lX12_volume_249 k38 n) v1 v2 v3 v4 v5 v6 v8 v9 v10 v11 v12 v13 v15 0 q40.2 else jX12_volume_299 k38 (lX12_volume_249 k38 n) v1 v2 v3 v4 v5 v6 v8 v9 v10 v11 v12 v13 v15 1 q40.2 else jX12_volume_446 k38 (lX12_volume_249 k38 n) v1 v2 v3 v4 v5 v6 v8 v9 v10 v11 v12 v13 v15 σ) else none else none
set_option maxHeartbeats 4000000 in
theorem t_lX12_volume_249 {G : rG} {ad : Nat → Nat} {o : (Int64 × rS)} (k38 : Int32 → Int32 → Int32 → Int32 → Int32 → Int64 → Int32 → rS → Option (Int64 × rS)) (hk38 : ∀ (v1 : Int32) (v2 : Int32) (v3 : Int32) (v4 : Int32) (v5 : Int32) (v6 : Int64) (v8 : Int32) (σ : rS) (h : rH), Rep G ad σ h → k38 v1 v2 v3 v4 v5 v6 v8 σ = some o → RW G mX12_volume (rm 2 0 0) (qJ G ad o) xN 0 0 38 [(0, .ref (ad 43)), (1, .int v1), (2, .int v2), (3, .int v3), (4, .int v4), (5, .int v5), (6, .long v6), (8, .int v8)] [] h) : ∀ (n : Nat) (v1 : Int32) (v2 : Int32) (v3 : Int32) (v4 : Int32) (v5 : Int32) (v6 : Int64) (v8 : Int32) (v9 : Int32) (v10 : Int32) (v11 : Int32) (v12 : Int32) (v13 : Int64) (v15 : Int32) (σ : rS) (h : rH), Rep G ad σ h → lX12_volume_249 k38 n v1 v2 v3 v4 v5 v6 v8 v9 v10 v11 v12 v13 v15 σ = some o → RW G mX12_volume (rm 2 0 0) (qJ G ad o) xN 0 0 249 [(0, .ref (ad 43)), (1, .int v1), (2, .int v2), (3, .int v3), (4, .int v4), (5, .int v5), (6, .long v6), (8, .int v8), (9, .int v9), (10, .int v10), (11, .int v11), (12, .int v12), (13, .long v13), (15, .int v15)] [] h := by
  intro n
  induction n with
  | zero =>
    intro v1 v2 v3 v4 v5 v6 v8 v9 v10 v11 v12 v13 v15 σ h hr hf
    rw [lX12_volume_249] at hf
    cases hf
  | succ n ih =>
    intro v1 v2 v3 v4 v5 v6 v8 v9 v10 v11 v12 v13 v15 σ h hr hf
    rw [lX12_volume_249] at hf
    refine rw_iload dX12_volume_249 13 rfl ?_
    refine rw_aload_n dX12_volume_251 0 rfl rfl ?_
    refine sg_43_25 hr dX12_volume_252 fl1487 ?_
    refine rw_icmp_ge (tgt := 452) dX12_volume_255 (by decide) (fun c35 => ?_) (fun c35 => ?_)
    · rw [if_pos c35] at hf
      refine rw_sub [0, 1, 2, 3, 4, 5, 6, 7] rfl ?_
      exact t_jX12_volume_452 (ad := ad) (G := G) k38 hk38 v1 v2 v3 v4 v5 v6 v8 σ _ hr hf
    · rw [if_neg c35] at hf
      refine rw_iload dX12_volume_258 8 rfl ?_
      refine rw_if_eq (tgt := 452) dX12_volume_260 (by decide) (fun c36 => ?_) (fun c36 => ?_)
      · rw [if_pos c36] at hf
        refine rw_sub [0, 1, 2, 3, 4, 5, 6, 7] rfl ?_
        exact t_jX12_volume_452 (ad := ad) (G := G) k38 hk38 v1 v2 v3 v4 v5 v6 v8 σ _ hr hf
      · rw [if_neg c36] at hf
        refine rw_aload_n dX12_volume_263 0 rfl rfl ?_
        refine sg_43_7 hr dX12_volume_264 fl1469 ?_
        refine rw_aload_n dX12_volume_267 0 rfl rfl ?_
        refine sg_43_27 hr dX12_volume_268 fl1489 ?_
        refine rw_iload dX12_volume_271 13 rfl ?_
        obtain ⟨hi37, hf⟩ := grd hf
        refine sl_61 hr dX12_volume_273 (inB_in hi37) ?_
        obtain ⟨hi38, hf⟩ := grd hf
        refine sl_48 hr dX12_volume_274 (inB_in hi38) ?_
        refine rw_iload_n dX12_volume_275 1 rfl rfl ?_
        refine rw_icmp_eq (tgt := 282) dX12_volume_276 (by decide) (fun c39 => ?_) (fun c39 => ?_)
        · rw [if_pos c39] at hf
          refine rw_aload_n dX12_volume_282 0 rfl rfl ?_
          refine rw_iload dX12_volume_283 13 rfl ?_
          refine rw_iconst (v := (-1)) dX12_volume_285 (by decide) ?_
          refine rw_iload dX12_volume_286 9 rfl ?_
          obtain ⟨q40, hq40, hf⟩ := bnd hf
          refine kV_I (ad := ad) (As := [.int v15, .int ((-1)), .int v10]) (st := []) dX12_volume_288 calX12_has wm1776 wm1778 wm49 rfl rfl (rc_43 hr) (ci := 12) (by decide) rfl rfl (Nat.le_of_ble_eq_true rfl) ⟨⟨by decide, by decide⟩, by decide, by decide⟩ (cmX12_has hr hq40) (fun h hr => ?_)
          refine rw_if_eq (tgt := 298) dX12_volume_291 (by decide) (fun c41 => ?_) (fun c41 => ?_)
          · rw [if_pos c41] at hf
            refine rw_iconst (v := 0) dX12_volume_298 (by decide) ?_
            exact t_jX12_volume_299 (ad := ad) (G := G) k38 (lX12_volume_249 k38 n) hk38 ih v1 v2 v3 v4 v5 v6 v8 v9 v10 v11 v12 v13 v15 0 q40.2 _ hr hf
          · rw [if_neg c41] at hf
            refine rw_iconst (v := 1) dX12_volume_294 (by decide) ?_
            refine rw_goto (tgt := 299) dX12_volume_295 (by decide) ?_
            exact t_jX12_volume_299 (ad := ad) (G := G) k38 (lX12_volume_249 k38 n) hk38 ih v1 v2 v3 v4 v5 v6 v8 v9 v10 v11 v12 v13 v15 1 q40.2 _ hr hf
        · rw [if_neg c39] at hf
          refine rw_goto (tgt := 446) dX12_volume_279 (by decide) ?_
          exact t_jX12_volume_446 (ad := ad) (G := G) k38 (lX12_volume_249 k38 n) hk38 ih v1 v2 v3 v4 v5 v6 v8 v9 v10 v11 v12 v13 v15 σ _ hr hf
def jX12_volume_244 (k38 : Int32 → Int32 → Int32 → Int32 → Int32 → Int64 → Int32 → rS → Option (Int64 × rS)) (v1 : Int32) (v2 : Int32) (v3 : Int32) (v4 : Int32) (v5 : Int32) (v6 : Int64) (v8 : Int32) (v9 : Int32) (v10 : Int32) (v11 : Int32) (v12 : Int32) (s0 : Int64) (σ : rS) : Option (Int64 × rS) := lX12_volume_249 k38 1000 v1 v2 v3 v4 v5 v6 v8 v9 v10 v11 v12 s0 0 σ
set_option maxHeartbeats 4000000 in
theorem t_jX12_volume_244 {G : rG} {ad : Nat → Nat} {o : (Int64 × rS)} (k38 : Int32 → Int32 → Int32 → Int32 → Int32 → Int64 → Int32 → rS → Option (Int64 × rS)) (hk38 : ∀ (v1 : Int32) (v2 : Int32) (v3 : Int32) (v4 : Int32) (v5 : Int32) (v6 : Int64) (v8 : Int32) (σ : rS) (h : rH), Rep G ad σ h → k38 v1 v2 v3 v4 v5 v6 v8 σ = some o → RW G mX12_volume (rm 2 0 0) (qJ G ad o) xN 0 0 38 [(0, .ref (ad 43)), (1, .int v1), (2, .int v2), (3, .int v3), (4, .int v4), (5, .int v5), (6, .long v6), (8, .int v8)] [] h) (v1 : Int32) (v2 : Int32) (v3 : Int32) (v4 : Int32) (v5 : Int32) (v6 : Int64) (v8 : Int32) (v9 : Int32) (v10 : Int32) (v11 : Int32) (v12 : Int32) (s0 : Int64) (σ : rS) (h : rH) (hr : Rep G ad σ h) (hf : jX12_volume_244 k38 v1 v2 v3 v4 v5 v6 v8 v9 v10 v11 v12 s0 σ = some o) : RW G mX12_volume (rm 2 0 0) (qJ G ad o) xN 0 0 244 [(0, .ref (ad 43)), (1, .int v1), (2, .int v2), (3, .int v3), (4, .int v4), (5, .int v5), (6, .long v6), (8, .int v8), (9, .int v9), (10, .int v10), (11, .int v11), (12, .int v12)] [.long s0] h := by
  unfold jX12_volume_244 at hf
  refine rw_lstore (lv2 := [(13, .long s0), (0, .ref (ad 43)), (1, .int v1), (2, .int v2), (3, .int v3), (4, .int v4), (5, .int v5), (6, .long v6), (8, .int v8), (9, .int v9), (10, .int v10), (11, .int v11), (12, .int v12)]) dX12_volume_244 (by decide) rfl ?_
  refine rw_iconst (v := 0) dX12_volume_246 (by decide) ?_
  refine rw_istore (lv2 := [(15, .int 0), (13, .long s0), (0, .ref (ad 43)), (1, .int v1), (2, .int v2), (3, .int v3), (4, .int v4), (5, .int v5), (6, .long v6), (8, .int v8), (9, .int v9), (10, .int v10), (11, .int v11), (12, .int v12)]) dX12_volume_247 (by decide) rfl ?_
  refine rw_sub [2, 3, 4, 5, 6, 7, 8, 9, 10, 11, 12, 13, 1, 0] rfl ?_
  exact t_lX12_volume_249 (ad := ad) (G := G) k38 hk38 1000 v1 v2 v3 v4 v5 v6 v8 v9 v10 v11 v12 s0 0 σ _ hr hf
def jX12_volume_115 (k38 : Int32 → Int32 → Int32 → Int32 → Int32 → Int64 → Int32 → rS → Option (Int64 × rS)) (k53 : Int32 → Int32 → Int32 → Int32 → Int32 → Int64 → Int32 → Int32 → Int32 → rS → Option (Int64 × rS)) (v1 : Int32) (v2 : Int32) (v3 : Int32) (v4 : Int32) (v5 : Int32) (v6 : Int64) (v8 : Int32) (v10 : Int32) (s0 : Int32) (σ : rS) : Option (Int64 × rS) := vI (v10 + 1) fun x57 => k53 v1 v2 v3 v4 v5 v6 v8 s0 x57 σ
set_option maxHeartbeats 4000000 in
theorem t_jX12_volume_115 {G : rG} {ad : Nat → Nat} {o : (Int64 × rS)} (k38 : Int32 → Int32 → Int32 → Int32 → Int32 → Int64 → Int32 → rS → Option (Int64 × rS)) (k53 : Int32 → Int32 → Int32 → Int32 → Int32 → Int64 → Int32 → Int32 → Int32 → rS → Option (Int64 × rS)) (hk38 : ∀ (v1 : Int32) (v2 : Int32) (v3 : Int32) (v4 : Int32) (v5 : Int32) (v6 : Int64) (v8 : Int32) (σ : rS) (h : rH), Rep G ad σ h → k38 v1 v2 v3 v4 v5 v6 v8 σ = some o → RW G mX12_volume (rm 2 0 0) (qJ G ad o) xN 0 0 38 [(0, .ref (ad 43)), (1, .int v1), (2, .int v2), (3, .int v3), (4, .int v4), (5, .int v5), (6, .long v6), (8, .int v8)] [] h) (hk53 : ∀ (v1 : Int32) (v2 : Int32) (v3 : Int32) (v4 : Int32) (v5 : Int32) (v6 : Int64) (v8 : Int32) (v9 : Int32) (v10 : Int32) (σ : rS) (h : rH), Rep G ad σ h → k53 v1 v2 v3 v4 v5 v6 v8 v9 v10 σ = some o → RW G mX12_volume (rm 2 0 0) (qJ G ad o) xN 0 0 53 [(0, .ref (ad 43)), (1, .int v1), (2, .int v2), (3, .int v3), (4, .int v4), (5, .int v5), (6, .long v6), (8, .int v8), (9, .int v9), (10, .int v10)] [] h) (v1 : Int32) (v2 : Int32) (v3 : Int32) (v4 : Int32) (v5 : Int32) (v6 : Int64) (v8 : Int32) (v10 : Int32) (s0 : Int32) (σ : rS) (h : rH) (hr : Rep G ad σ h) (hf : jX12_volume_115 k38 k53 v1 v2 v3 v4 v5 v6 v8 v10 s0 σ = some o) : RW G mX12_volume (rm 2 0 0) (qJ G ad o) xN 0 0 115 [(0, .ref (ad 43)), (1, .int v1), (2, .int v2), (3, .int v3), (4, .int v4), (5, .int v5), (6, .long v6), (8, .int v8), (10, .int v10)] [.int s0] h := by
  unfold jX12_volume_115 at hf
  refine rw_istore (lv2 := [(9, .int s0), (0, .ref (ad 43)), (1, .int v1), (2, .int v2), (3, .int v3), (4, .int v4), (5, .int v5), (6, .long v6), (8, .int v8), (10, .int v10)]) dX12_volume_115 (by decide) rfl ?_
  refine rw_iinc (v := v10 + 1) (lv2 := [(10, .int (v10 + 1)), (9, .int s0), (0, .ref (ad 43)), (1, .int v1), (2, .int v2), (3, .int v3), (4, .int v4), (5, .int v5), (6, .long v6), (8, .int v8)]) dX12_volume_117 9 rfl rfl (by decide) rfl ?_
  refine nmL hf (fun x57 hf => ?_)
  refine rw_goto (tgt := 53) dX12_volume_120 (by decide) ?_
  refine rw_sub [2, 3, 4, 5, 6, 7, 8, 9, 1, 0] rfl ?_
  exact hk53 v1 v2 v3 v4 v5 v6 v8 s0 x57 σ _ hr hf
def jX12_volume_114 (k38 : Int32 → Int32 → Int32 → Int32 → Int32 → Int64 → Int32 → rS → Option (Int64 × rS)) (k53 : Int32 → Int32 → Int32 → Int32 → Int32 → Int64 → Int32 → Int32 → Int32 → rS → Option (Int64 × rS)) (v1 : Int32) (v2 : Int32) (v3 : Int32) (v4 : Int32) (v5 : Int32) (v6 : Int64) (v8 : Int32) (v10 : Int32) (σ : rS) : Option (Int64 × rS) := jX12_volume_115 k38 k53 v1 v2 v3 v4 v5 v6 v8 v10 0 σ
set_option maxHeartbeats 4000000 in
theorem t_jX12_volume_114 {G : rG} {ad : Nat → Nat} {o : (Int64 × rS)} (k38 : Int32 → Int32 → Int32 → Int32 → Int32 → Int64 → Int32 → rS → Option (Int64 × rS)) (k53 : Int32 → Int32 → Int32 → Int32 → Int32 → Int64 → Int32 → Int32 → Int32 → rS → Option (Int64 × rS)) (hk38 : ∀ (v1 : Int32) (v2 : Int32) (v3 : Int32) (v4 : Int32) (v5 : Int32) (v6 : Int64) (v8 : Int32) (σ : rS) (h : rH), Rep G ad σ h → k38 v1 v2 v3 v4 v5 v6 v8 σ = some o → RW G mX12_volume (rm 2 0 0) (qJ G ad o) xN 0 0 38 [(0, .ref (ad 43)), (1, .int v1), (2, .int v2), (3, .int v3), (4, .int v4), (5, .int v5), (6, .long v6), (8, .int v8)] [] h) (hk53 : ∀ (v1 : Int32) (v2 : Int32) (v3 : Int32) (v4 : Int32) (v5 : Int32) (v6 : Int64) (v8 : Int32) (v9 : Int32) (v10 : Int32) (σ : rS) (h : rH), Rep G ad σ h → k53 v1 v2 v3 v4 v5 v6 v8 v9 v10 σ = some o → RW G mX12_volume (rm 2 0 0) (qJ G ad o) xN 0 0 53 [(0, .ref (ad 43)), (1, .int v1), (2, .int v2), (3, .int v3), (4, .int v4), (5, .int v5), (6, .long v6), (8, .int v8), (9, .int v9), (10, .int v10)] [] h) (v1 : Int32) (v2 : Int32) (v3 : Int32) (v4 : Int32) (v5 : Int32) (v6 : Int64) (v8 : Int32) (v10 : Int32) (σ : rS) (h : rH) (hr : Rep G ad σ h) (hf : jX12_volume_114 k38 k53 v1 v2 v3 v4 v5 v6 v8 v10 σ = some o) : RW G mX12_volume (rm 2 0 0) (qJ G ad o) xN 0 0 114 [(0, .ref (ad 43)), (1, .int v1), (2, .int v2), (3, .int v3), (4, .int v4), (5, .int v5), (6, .long v6), (8, .int v8), (10, .int v10)] [] h := by
  unfold jX12_volume_114 at hf
  refine rw_iconst (v := 0) dX12_volume_114 (by decide) ?_
  exact t_jX12_volume_115 (ad := ad) (G := G) k38 k53 hk38 hk53 v1 v2 v3 v4 v5 v6 v8 v10 0 σ _ hr hf
def lX12_volume_53 (k38 : Int32 → Int32 → Int32 → Int32 → Int32 → Int64 → Int32 → rS → Option (Int64 × rS)) : Nat → Int32 → Int32 → Int32 → Int32 → Int32 → Int64 → Int32 → Int32 → Int32 → rS → Option (Int64 × rS)
  | 0, _, _, _, _, _, _, _, _, _, _ => none
  | n + 1, v1, v2, v3, v4, v5, v6, v8, v9, v10, σ => if 3 ≤ v10 then if inB (3 * v8) 1680 then vI (σ.2.2.1 59 (3 * v8).toNatClampNeg) fun x10 => if inB ((3 * v8) + 1) 1680 then vI (σ.2.2.1 59 ((3 * v8) + 1).toNatClampNeg) fun x12 => if inB ((3 * v8) + 2) 1680 then vI (σ.2.2.1 59 ((3 * v8) + 2).toNatClampNeg) fun x14 => if inB x12 16 then if inB x10 16 then if inB x12 16 then if inB x10 16 then if inB x14 16 then if inB x10 16 then if inB x14 16 then if inB x10 16 then (fX12_cross (((σ.2.2.1 44 x12.toNatClampNeg) - (σ.2.2.1 44 x10.toNatClampNeg)).toInt64) (((σ.2.2.1 45 x12.toNatClampNeg) - (σ.2.2.1 45 x10.toNatClampNeg)).toInt64) (((σ.2.2.1 44 x14.toNatClampNeg) - (σ.2.2.1 44 x10.toNatClampNeg)).toInt64) (((σ.2.2.1 45 x14.toNatClampNeg) - (σ.2.2.1 45 x10.toNatClampNeg)).toInt64) σ).bind fun q23 => vJ q23.1 fun x24 => (if 0 ≤ (lg_cmp x24 0) then jX12_volume_244 k38 v1 v2 v3 v4 v5 v6 v8 v9 x10 x12 x14 x24 q23.2 else jX12_volume_244 k38 v1 v2 v3 v4 v5 v6 v8 v9 x10 x12 x14 (-x24) q23.2) else none else none else none else none else none else none else none else none else none else none else none else if inB ((3 * v8) + v10) 1680 then vI (σ.2.2.1 59 ((3 * v8) + v10).toNatClampNeg) fun x27 => (if v9 = 0 then jX12_volume_114 k38 (lX12_volume_53 k38 n) v1 v2 v3 v4 v5 v6 v8 v10 σ else if inB x27 16 then (fX12_in (σ.2.2.1 44 x27.toNatClampNeg) v2 v4 σ).bind fun q30 => (if q30.1 = 0 then jX12_volume_114 k38 (lX12_volume_53 k38 n) v1 v2 v3 v4 v5 v6 v8 v10 q30.2 else if inB x27 16 then (fX12_in (q30.2.2.2.1 45 x27.toNatClampNeg) v3 v5 q30.2).bind fun q33 => (if q33.1 = 0 then jX12_volume_114 k38 (lX12_volume_53 k38 n) v1 v2 v3 v4 v5 v6 v8 v10 q33.2 else jX12_volume_115 k38 (lX12_volume_53 k38 n) v1 v2 v3 v4 v5 v6 v8 v10 1 q33.2) else none) else none) else none
set_option maxHeartbeats 4000000 in
theorem t_lX12_volume_53 {G : rG} {ad : Nat → Nat} {o : (Int64 × rS)} (k38 : Int32 → Int32 → Int32 → Int32 → Int32 → Int64 → Int32 → rS → Option (Int64 × rS)) (hk38 : ∀ (v1 : Int32) (v2 : Int32) (v3 : Int32) (v4 : Int32) (v5 : Int32) (v6 : Int64) (v8 : Int32) (σ : rS) (h : rH), Rep G ad σ h → k38 v1 v2 v3 v4 v5 v6 v8 σ = some o → RW G mX12_volume (rm 2 0 0) (qJ G ad o) xN 0 0 38 [(0, .ref (ad 43)), (1, .int v1), (2, .int v2), (3, .int v3), (4, .int v4), (5, .int v5), (6, .long v6), (8, .int v8)] [] h) : ∀ (n : Nat) (v1 : Int32) (v2 : Int32) (v3 : Int32) (v4 : Int32) (v5 : Int32) (v6 : Int64) (v8 : Int32) (v9 : Int32) (v10 : Int32) (σ : rS) (h : rH), Rep G ad σ h → lX12_volume_53 k38 n v1 v2 v3 v4 v5 v6 v8 v9 v10 σ = some o → RW G mX12_volume (rm 2 0 0) (qJ G ad o) xN 0 0 53 [(0, .ref (ad 43)), (1, .int v1), (2, .int v2), (3, .int v3), (4, .int v4), (5, .int v5), (6, .long v6), (8, .int v8), (9, .int v9), (10, .int v10)] [] h := by
  intro n
  induction n with
  | zero =>
    intro v1 v2 v3 v4 v5 v6 v8 v9 v10 σ h hr hf
    rw [lX12_volume_53] at hf
    cases hf
  | succ n ih =>
    intro v1 v2 v3 v4 v5 v6 v8 v9 v10 σ h hr hf
    rw [lX12_volume_53] at hf
    refine rw_iload dX12_volume_53 9 rfl ?_
    refine rw_iconst (v := 3) dX12_volume_55 (by decide) ?_
    refine rw_icmp_ge (tgt := 123) dX12_volume_56 (by decide) (fun c8 => ?_) (fun c8 => ?_)
    · rw [if_pos c8] at hf
      refine rw_aload_n dX12_volume_123 0 rfl rfl ?_
      refine sg_43_24 hr dX12_volume_124 fl1486 ?_
      refine rw_iconst (v := 3) dX12_volume_127 (by decide) ?_
      refine rw_iload dX12_volume_128 7 rfl ?_
      refine rw_imul dX12_volume_130 ?_
      obtain ⟨hi9, hf⟩ := grd hf
      refine sl_59 hr dX12_volume_131 (inB_in hi9) ?_
      refine nmI hf (fun x10 hf => ?_)
      refine rw_istore (lv2 := [(10, .int x10), (0, .ref (ad 43)), (1, .int v1), (2, .int v2), (3, .int v3), (4, .int v4), (5, .int v5), (6, .long v6), (8, .int v8), (9, .int v9)]) dX12_volume_132 (by decide) rfl ?_
      refine rw_aload_n dX12_volume_134 1 rfl rfl ?_
      refine sg_43_24 hr dX12_volume_135 fl1486 ?_
      refine rw_iconst (v := 3) dX12_volume_138 (by decide) ?_
      refine rw_iload dX12_volume_139 8 rfl ?_
      refine rw_imul dX12_volume_141 ?_
      refine rw_iconst (v := 1) dX12_volume_142 (by decide) ?_
      refine rw_iadd dX12_volume_143 ?_
      obtain ⟨hi11, hf⟩ := grd hf
      refine sl_59 hr dX12_volume_144 (inB_in hi11) ?_
      refine nmI hf (fun x12 hf => ?_)
      refine rw_istore (lv2 := [(11, .int x12), (10, .int x10), (0, .ref (ad 43)), (1, .int v1), (2, .int v2), (3, .int v3), (4, .int v4), (5, .int v5), (6, .long v6), (8, .int v8), (9, .int v9)]) dX12_volume_145 (by decide) rfl ?_
      refine rw_aload_n dX12_volume_147 2 rfl rfl ?_
      refine sg_43_24 hr dX12_volume_148 fl1486 ?_
      refine rw_iconst (v := 3) dX12_volume_151 (by decide) ?_
      refine rw_iload dX12_volume_152 9 rfl ?_
      refine rw_imul dX12_volume_154 ?_
      refine rw_iconst (v := 2) dX12_volume_155 (by decide) ?_
      refine rw_iadd dX12_volume_156 ?_
      obtain ⟨hi13, hf⟩ := grd hf
      refine sl_59 hr dX12_volume_157 (inB_in hi13) ?_
      refine nmI hf (fun x14 hf => ?_)
      refine rw_istore (lv2 := [(12, .int x14), (11, .int x12), (10, .int x10), (0, .ref (ad 43)), (1, .int v1), (2, .int v2), (3, .int v3), (4, .int v4), (5, .int v5), (6, .long v6), (8, .int v8), (9, .int v9)]) dX12_volume_158 (by decide) rfl ?_
      refine rw_aload_n dX12_volume_160 3 rfl rfl ?_
      refine sg_43_3 hr dX12_volume_161 fl1465 ?_
      refine rw_iload dX12_volume_164 1 rfl ?_
      obtain ⟨hi15, hf⟩ := grd hf
      refine sl_44 hr dX12_volume_166 (inB_in hi15) ?_
      refine rw_aload_n dX12_volume_167 3 rfl rfl ?_
      refine sg_43_3 hr dX12_volume_168 fl1465 ?_
      refine rw_iload dX12_volume_171 2 rfl ?_
      obtain ⟨hi16, hf⟩ := grd hf
      refine sl_44 hr dX12_volume_173 (inB_in hi16) ?_
      refine rw_isub dX12_volume_174 ?_
      refine rw_i2l dX12_volume_175 ?_
      refine rw_aload_n dX12_volume_176 3 rfl rfl ?_
      refine sg_43_4 hr dX12_volume_177 fl1466 ?_
      refine rw_iload dX12_volume_180 1 rfl ?_
      obtain ⟨hi17, hf⟩ := grd hf
      refine sl_45 hr dX12_volume_182 (inB_in hi17) ?_
      refine rw_aload_n dX12_volume_183 3 rfl rfl ?_
      refine sg_43_4 hr dX12_volume_184 fl1466 ?_
      refine rw_iload dX12_volume_187 2 rfl ?_
      obtain ⟨hi18, hf⟩ := grd hf
      refine sl_45 hr dX12_volume_189 (inB_in hi18) ?_
      refine rw_isub dX12_volume_190 ?_
      refine rw_i2l dX12_volume_191 ?_
      refine rw_aload_n dX12_volume_192 3 rfl rfl ?_
      refine sg_43_3 hr dX12_volume_193 fl1465 ?_
      refine rw_iload dX12_volume_196 0 rfl ?_
      obtain ⟨hi19, hf⟩ := grd hf
      refine sl_44 hr dX12_volume_198 (inB_in hi19) ?_
      refine rw_aload_n dX12_volume_199 3 rfl rfl ?_
      refine sg_43_3 hr dX12_volume_200 fl1465 ?_
      refine rw_iload dX12_volume_203 2 rfl ?_
      obtain ⟨hi20, hf⟩ := grd hf
      refine sl_44 hr dX12_volume_205 (inB_in hi20) ?_
      refine rw_isub dX12_volume_206 ?_
      refine rw_i2l dX12_volume_207 ?_
      refine rw_aload_n dX12_volume_208 3 rfl rfl ?_
      refine sg_43_4 hr dX12_volume_209 fl1466 ?_
      refine rw_iload dX12_volume_212 0 rfl ?_
      obtain ⟨hi21, hf⟩ := grd hf
      refine sl_45 hr dX12_volume_214 (inB_in hi21) ?_
      refine rw_aload_n dX12_volume_215 3 rfl rfl ?_
      refine sg_43_4 hr dX12_volume_216 fl1466 ?_
      refine rw_iload dX12_volume_219 2 rfl ?_
      obtain ⟨hi22, hf⟩ := grd hf
      refine sl_45 hr dX12_volume_221 (inB_in hi22) ?_
      refine rw_isub dX12_volume_222 ?_
      refine rw_i2l dX12_volume_223 ?_
      obtain ⟨q23, hq23, hf⟩ := bnd hf
      refine kS_J (ad := ad) (As := [.long (((σ.2.2.1 44 x12.toNatClampNeg) - (σ.2.2.1 44 x10.toNatClampNeg)).toInt64), .long (((σ.2.2.1 45 x12.toNatClampNeg) - (σ.2.2.1 45 x10.toNatClampNeg)).toInt64), .long (((σ.2.2.1 44 x14.toNatClampNeg) - (σ.2.2.1 44 x10.toNatClampNeg)).toInt64), .long (((σ.2.2.1 45 x14.toNatClampNeg) - (σ.2.2.1 45 x10.toNatClampNeg)).toInt64)]) (st := []) dX12_volume_224 calX12_cross wm1671 wm1672 rfl rfl (Nat.le_of_ble_eq_true rfl) ⟨⟨by decide, by decide⟩, by decide, by decide⟩ (cmX12_cross hr hq23) (fun h hr => ?_)
      refine nmJ hf (fun x24 hf => ?_)
      refine rw_lstore (lv2 := [(13, .long x24), (12, .int x14), (11, .int x12), (10, .int x10), (0, .ref (ad 43)), (1, .int v1), (2, .int v2), (3, .int v3), (4, .int v4), (5, .int v5), (6, .long v6), (8, .int v8), (9, .int v9)]) dX12_volume_227 (by decide) rfl ?_
      refine rw_lload dX12_volume_229 0 rfl ?_
      refine rw_lconst (v := 0) dX12_volume_231 (by decide) ?_
      refine rw_lcmp dX12_volume_232 ?_
      refine rw_if_ge (tgt := 242) dX12_volume_233 (by decide) (fun c25 => ?_) (fun c25 => ?_)
      · rw [if_pos c25] at hf
        refine rw_lload dX12_volume_242 0 rfl ?_
        refine rw_sub [4, 5, 6, 7, 8, 9, 10, 11, 12, 3, 2, 1] rfl ?_
        exact t_jX12_volume_244 (ad := ad) (G := G) k38 hk38 v1 v2 v3 v4 v5 v6 v8 v9 x10 x12 x14 x24 q23.2 _ hr hf
      · rw [if_neg c25] at hf
        refine rw_lload dX12_volume_236 0 rfl ?_
        refine rw_lneg dX12_volume_238 ?_
        refine rw_goto (tgt := 244) dX12_volume_239 (by decide) ?_
        refine rw_sub [4, 5, 6, 7, 8, 9, 10, 11, 12, 3, 2, 1] rfl ?_
        exact t_jX12_volume_244 (ad := ad) (G := G) k38 hk38 v1 v2 v3 v4 v5 v6 v8 v9 x10 x12 x14 (-x24) q23.2 _ hr hf
    · rw [if_neg c8] at hf
      refine rw_aload_n dX12_volume_59 0 rfl rfl ?_
      refine sg_43_24 hr dX12_volume_60 fl1486 ?_
      refine rw_iconst (v := 3) dX12_volume_63 (by decide) ?_
      refine rw_iload dX12_volume_64 7 rfl ?_
      refine rw_imul dX12_volume_66 ?_
      refine rw_iload dX12_volume_67 9 rfl ?_
      refine rw_iadd dX12_volume_69 ?_
      obtain ⟨hi26, hf⟩ := grd hf
      refine sl_59 hr dX12_volume_70 (inB_in hi26) ?_
      refine nmI hf (fun x27 hf => ?_)
      refine rw_istore (lv2 := [(11, .int x27), (0, .ref (ad 43)), (1, .int v1), (2, .int v2), (3, .int v3), (4, .int v4), (5, .int v5), (6, .long v6), (8, .int v8), (9, .int v9), (10, .int v10)]) dX12_volume_71 (by decide) rfl ?_
      refine rw_iload dX12_volume_73 9 rfl ?_
      refine rw_if_eq (tgt := 114) dX12_volume_75 (by decide) (fun c28 => ?_) (fun c28 => ?_)
      · rw [if_pos c28] at hf
        refine rw_sub [1, 2, 3, 4, 5, 6, 7, 8, 10] rfl ?_
        exact t_jX12_volume_114 (ad := ad) (G := G) k38 (lX12_volume_53 k38 n) hk38 ih v1 v2 v3 v4 v5 v6 v8 v10 σ _ hr hf
      · rw [if_neg c28] at hf
        refine rw_aload_n dX12_volume_78 1 rfl rfl ?_
        refine sg_43_3 hr dX12_volume_79 fl1465 ?_
        refine rw_iload dX12_volume_82 0 rfl ?_
        obtain ⟨hi29, hf⟩ := grd hf
        refine sl_44 hr dX12_volume_84 (inB_in hi29) ?_
        refine rw_iload_n dX12_volume_85 3 rfl rfl ?_
        refine rw_iload dX12_volume_86 5 rfl ?_
        obtain ⟨q30, hq30, hf⟩ := bnd hf
        refine kS_I (ad := ad) (As := [.int (σ.2.2.1 44 x27.toNatClampNeg), .int v2, .int v4]) (st := []) dX12_volume_88 calX12_in wm1612 wm1613 rfl rfl (Nat.le_of_ble_eq_true rfl) ⟨⟨by decide, by decide⟩, by decide, by decide⟩ (cmX12_in hr hq30) (fun h hr => ?_)
        refine rw_if_eq (tgt := 114) dX12_volume_91 (by decide) (fun c31 => ?_) (fun c31 => ?_)
        · rw [if_pos c31] at hf
          refine rw_sub [1, 2, 3, 4, 5, 6, 7, 8, 10] rfl ?_
          exact t_jX12_volume_114 (ad := ad) (G := G) k38 (lX12_volume_53 k38 n) hk38 ih v1 v2 v3 v4 v5 v6 v8 v10 q30.2 _ hr hf
        · rw [if_neg c31] at hf
          refine rw_aload_n dX12_volume_94 1 rfl rfl ?_
          refine sg_43_4 hr dX12_volume_95 fl1466 ?_
          refine rw_iload dX12_volume_98 0 rfl ?_
          obtain ⟨hi32, hf⟩ := grd hf
          refine sl_45 hr dX12_volume_100 (inB_in hi32) ?_
          refine rw_iload_n dX12_volume_101 4 rfl rfl ?_
          refine rw_iload dX12_volume_102 6 rfl ?_
          obtain ⟨q33, hq33, hf⟩ := bnd hf
          refine kS_I (ad := ad) (As := [.int (q30.2.2.2.1 45 x27.toNatClampNeg), .int v3, .int v5]) (st := []) dX12_volume_104 calX12_in wm1612 wm1613 rfl rfl (Nat.le_of_ble_eq_true rfl) ⟨⟨by decide, by decide⟩, by decide, by decide⟩ (cmX12_in hr hq33) (fun h hr => ?_)
          refine rw_if_eq (tgt := 114) dX12_volume_107 (by decide) (fun c34 => ?_) (fun c34 => ?_)
          · rw [if_pos c34] at hf
            refine rw_sub [1, 2, 3, 4, 5, 6, 7, 8, 10] rfl ?_
            exact t_jX12_volume_114 (ad := ad) (G := G) k38 (lX12_volume_53 k38 n) hk38 ih v1 v2 v3 v4 v5 v6 v8 v10 q33.2 _ hr hf
          · rw [if_neg c34] at hf
            refine rw_iconst (v := 1) dX12_volume_110 (by decide) ?_
            refine rw_goto (tgt := 115) dX12_volume_111 (by decide) ?_
            refine rw_sub [1, 2, 3, 4, 5, 6, 7, 8, 10] rfl ?_
            exact t_jX12_volume_115 (ad := ad) (G := G) k38 (lX12_volume_53 k38 n) hk38 ih v1 v2 v3 v4 v5 v6 v8 v10 1 q33.2 _ hr hf
def lX12_volume_38  : Nat → Int32 → Int32 → Int32 → Int32 → Int32 → Int64 → Int32 → rS → Option (Int64 × rS)
  | 0, _, _, _, _, _, _, _, _ => none
  | n + 1, v1, v2, v3, v4, v5, v6, v8, σ => if (σ.1 43 23) ≤ v8 then some (v6, σ) else lX12_volume_53 (lX12_volume_38 n) 1000 v1 v2 v3 v4 v5 v6 v8 1 0 σ
set_option maxHeartbeats 4000000 in
theorem t_lX12_volume_38 {G : rG} {ad : Nat → Nat} {o : (Int64 × rS)}   : ∀ (n : Nat) (v1 : Int32) (v2 : Int32) (v3 : Int32) (v4 : Int32) (v5 : Int32) (v6 : Int64) (v8 : Int32) (σ : rS) (h : rH), Rep G ad σ h → lX12_volume_38  n v1 v2 v3 v4 v5 v6 v8 σ = some o → RW G mX12_volume (rm 2 0 0) (qJ G ad o) xN 0 0 38 [(0, .ref (ad 43)), (1, .int v1), (2, .int v2), (3, .int v3), (4, .int v4), (5, .int v5), (6, .long v6), (8, .int v8)] [] h := by
  intro n
  induction n with
  | zero =>
    intro v1 v2 v3 v4 v5 v6 v8 σ h hr hf
    rw [lX12_volume_38] at hf
    cases hf
  | succ n ih =>
    intro v1 v2 v3 v4 v5 v6 v8 σ h hr hf
    rw [lX12_volume_38] at hf
    refine rw_iload dX12_volume_38 7 rfl ?_
    refine rw_aload_n dX12_volume_40 0 rfl rfl ?_
    refine sg_43_23 hr dX12_volume_41 fl1485 ?_
    refine rw_icmp_ge (tgt := 458) dX12_volume_44 (by decide) (fun c7 => ?_) (fun c7 => ?_)
    · rw [if_pos c7] at hf
      refine rw_lload dX12_volume_458 6 rfl ?_
      replace hf := Option.some.inj hf
      subst hf
      exact rw_lreturn dX12_volume_460 rfl ⟨rfl, hr⟩ (by decide) (by decide)
    · rw [if_neg c7] at hf
      refine rw_iconst (v := 1) dX12_volume_47 (by decide) ?_
      refine rw_istore (lv2 := [(9, .int 1), (0, .ref (ad 43)), (1, .int v1), (2, .int v2), (3, .int v3), (4, .int v4), (5, .int v5), (6, .long v6), (8, .int v8)]) dX12_volume_48 (by decide) rfl ?_
      refine rw_iconst (v := 0) dX12_volume_50 (by decide) ?_
      refine rw_istore (lv2 := [(10, .int 0), (9, .int 1), (0, .ref (ad 43)), (1, .int v1), (2, .int v2), (3, .int v3), (4, .int v4), (5, .int v5), (6, .long v6), (8, .int v8)]) dX12_volume_51 (by decide) rfl ?_
      refine rw_sub [2, 3, 4, 5, 6, 7, 8, 9, 1, 0] rfl ?_
      exact t_lX12_volume_53 (ad := ad) (G := G) (lX12_volume_38 n) ih 1000 v1 v2 v3 v4 v5 v6 v8 1 0 σ _ hr hf
def jX12_volume_30   (σ : rS) : Option (Int64 × rS) := some (0, σ)
set_option maxHeartbeats 4000000 in
theorem t_jX12_volume_30 {G : rG} {ad : Nat → Nat} {o : (Int64 × rS)}    (σ : rS) (h : rH) (hr : Rep G ad σ h) (hf : jX12_volume_30   σ = some o) : RW G mX12_volume (rm 2 0 0) (qJ G ad o) xN 0 0 30 [] [] h := by
  unfold jX12_volume_30 at hf
  refine rw_lconst (v := 0) dX12_volume_30 (by decide) ?_
  replace hf := Option.some.inj hf
  subst hf
  exact rw_lreturn dX12_volume_31 rfl ⟨rfl, hr⟩ (by decide) (by decide)
def jX12_volume_23  (v1 : Int32) (v2 : Int32) (v3 : Int32) (v4 : Int32) (v5 : Int32) (s0 : Int32) (σ : rS) : Option (Int64 × rS) := (fX12_fails s0 2 σ).bind fun q5 => if q5.1 = 0 then lX12_volume_38 1000 v1 v2 v3 v4 v5 0 0 q5.2 else jX12_volume_30 q5.2
set_option maxHeartbeats 4000000 in
theorem t_jX12_volume_23 {G : rG} {ad : Nat → Nat} {o : (Int64 × rS)}   (v1 : Int32) (v2 : Int32) (v3 : Int32) (v4 : Int32) (v5 : Int32) (s0 : Int32) (σ : rS) (h : rH) (hr : Rep G ad σ h) (hf : jX12_volume_23  v1 v2 v3 v4 v5 s0 σ = some o) : RW G mX12_volume (rm 2 0 0) (qJ G ad o) xN 0 0 23 [(0, .ref (ad 43)), (1, .int v1), (2, .int v2), (3, .int v3), (4, .int v4), (5, .int v5)] [.int s0, .ref (ad 43)] h := by
  unfold jX12_volume_23 at hf
  refine rw_iconst (v := 2) dX12_volume_23 (by decide) ?_
  obtain ⟨q5, hq5, hf⟩ := bnd hf
  refine kV_I (ad := ad) (As := [.int s0, .int 2]) (st := []) dX12_volume_24 calX12_fails wm1728 wm1730 wm46 rfl rfl (rc_43 hr) (ci := 12) (by decide) rfl rfl (Nat.le_of_ble_eq_true rfl) ⟨⟨by decide, by decide⟩, by decide, by decide⟩ (cmX12_fails hr hq5) (fun h hr => ?_)
  refine rw_if_eq (tgt := 32) dX12_volume_27 (by decide) (fun c6 => ?_) (fun c6 => ?_)
  · rw [if_pos c6] at hf
    refine rw_lconst (v := 0) dX12_volume_32 (by decide) ?_
    refine rw_lstore (lv2 := [(6, .long 0), (0, .ref (ad 43)), (1, .int v1), (2, .int v2), (3, .int v3), (4, .int v4), (5, .int v5)]) dX12_volume_33 (by decide) rfl ?_
    refine rw_iconst (v := 0) dX12_volume_35 (by decide) ?_
    refine rw_istore (lv2 := [(8, .int 0), (6, .long 0), (0, .ref (ad 43)), (1, .int v1), (2, .int v2), (3, .int v3), (4, .int v4), (5, .int v5)]) dX12_volume_36 (by decide) rfl ?_
    refine rw_sub [2, 3, 4, 5, 6, 7, 1, 0] rfl ?_
    exact t_lX12_volume_38 (ad := ad) (G := G)  1000 v1 v2 v3 v4 v5 0 0 q5.2 _ hr hf
  · rw [if_neg c6] at hf
    refine rw_sub [] rfl ?_
    exact t_jX12_volume_30 (ad := ad) (G := G)  q5.2 _ hr hf
def fX12_volume (a0 : Int32) (a1 : Int32) (a2 : Int32) (a3 : Int32) (a4 : Int32) (σ : rS) : Option (Int64 × rS) := (fX12_isOld σ).bind fun q1 => if q1.1 = 0 then (fX12_in a0 0 7 q1.2).bind fun q3 => if q3.1 = 0 then jX12_volume_23 a0 a1 a2 a3 a4 1 q3.2 else jX12_volume_23 a0 a1 a2 a3 a4 0 q3.2 else jX12_volume_30 q1.2
set_option maxHeartbeats 4000000 in
theorem cmX12_volume {G : rG} {ad : Nat → Nat} {a0 : Int32} {a1 : Int32} {a2 : Int32} {a3 : Int32} {a4 : Int32} {σ : rS} {h : rH} {o : (Int64 × rS)} (hr : Rep G ad σ h) (hf : fX12_volume a0 a1 a2 a3 a4 σ = some o) : rMT G mX12_volume (rm 2 0 0) [.ref (ad 43), .int a0, .int a1, .int a2, .int a3, .int a4] h (qJ G ad o) xN := by
  unfold fX12_volume at hf
  refine rw_met (by decide +kernel) rfl (Nat.le_of_ble_eq_true rfl) ?_
  show RW G _ _ _ _ 0 0 0 [(0, .ref (ad 43)), (1, .int a0), (2, .int a1), (3, .int a2), (4, .int a3), (5, .int a4)] [] h
  refine rw_aload_n dX12_volume_0 0 rfl rfl ?_
  obtain ⟨q1, hq1, hf⟩ := bnd hf
  refine kV_I (ad := ad) (As := []) (st := []) dX12_volume_1 calX12_isOld wm1724 wm1726 wm45 rfl rfl (rc_43 hr) (ci := 12) (by decide) rfl rfl (Nat.le_of_ble_eq_true rfl) ⟨⟨by decide, by decide⟩, by decide, by decide⟩ (cmX12_isOld hr hq1) (fun h hr => ?_)
  refine rw_if_ne (tgt := 30) dX12_volume_4 (by decide) (fun c2 => ?_) (fun c2 => ?_)
  · rw [if_neg c2] at hf
    refine rw_sub [] rfl ?_
    exact t_jX12_volume_30 (ad := ad) (G := G)  q1.2 _ hr hf
  · rw [if_pos c2] at hf
    refine rw_aload_n dX12_volume_7 0 rfl rfl ?_
    refine rw_iload_n dX12_volume_8 1 rfl rfl ?_
    refine rw_iconst (v := 0) dX12_volume_9 (by decide) ?_
    refine rw_bipush (v := 7) dX12_volume_10 (by decide) ?_
    obtain ⟨q3, hq3, hf⟩ := bnd hf
    refine kS_I (ad := ad) (As := [.int a0, .int 0, .int 7]) (st := [.ref (ad 43)]) dX12_volume_12 calX12_in wm1612 wm1613 rfl rfl (Nat.le_of_ble_eq_true rfl) ⟨⟨by decide, by decide⟩, by decide, by decide⟩ (cmX12_in hr hq3) (fun h hr => ?_)
    refine rw_if_ne (tgt := 22) dX12_volume_15 (by decide) (fun c4 => ?_) (fun c4 => ?_)
    · rw [if_neg c4] at hf
      refine rw_iconst (v := 0) dX12_volume_22 (by decide) ?_
      exact t_jX12_volume_23 (ad := ad) (G := G)  a0 a1 a2 a3 a4 0 q3.2 _ hr hf
    · rw [if_pos c4] at hf
      refine rw_iconst (v := 1) dX12_volume_18 (by decide) ?_
      refine rw_goto (tgt := 23) dX12_volume_19 (by decide) ?_
      exact t_jX12_volume_23 (ad := ad) (G := G)  a0 a1 a2 a3 a4 1 q3.2 _ hr hf
def jX12_later_178 (k58 : Int32 → Int32 → Int32 → Int32 → Int32 → Int32 → rS → Option (Int32 × rS)) (v1 : Int32) (v2 : Int32) (v3 : Int32) (v4 : Int32) (v5 : Int32) (v6 : Int32) (σ : rS) : Option (Int32 × rS) := vI (v6 + 1) fun x18 => k58 v1 v2 v3 v4 v5 x18 σ
set_option maxHeartbeats 4000000 in
theorem t_jX12_later_178 {G : rG} {ad : Nat → Nat} {o : (Int32 × rS)} (k58 : Int32 → Int32 → Int32 → Int32 → Int32 → Int32 → rS → Option (Int32 × rS)) (hk58 : ∀ (v1 : Int32) (v2 : Int32) (v3 : Int32) (v4 : Int32) (v5 : Int32) (v6 : Int32) (σ : rS) (h : rH), Rep G ad σ h → k58 v1 v2 v3 v4 v5 v6 σ = some o → RW G mX12_later (rm 4 0 0) (qI G ad o) xN 0 0 58 [(0, .ref (ad 43)), (1, .int v1), (2, .int v2), (3, .int v3), (4, .int v4), (5, .int v5), (6, .int v6)] [] h) (v1 : Int32) (v2 : Int32) (v3 : Int32) (v4 : Int32) (v5 : Int32) (v6 : Int32) (σ : rS) (h : rH) (hr : Rep G ad σ h) (hf : jX12_later_178 k58 v1 v2 v3 v4 v5 v6 σ = some o) : RW G mX12_later (rm 4 0 0) (qI G ad o) xN 0 0 178 [(0, .ref (ad 43)), (1, .int v1), (2, .int v2), (3, .int v3), (4, .int v4), (5, .int v5), (6, .int v6)] [] h := by
  unfold jX12_later_178 at hf
  refine rw_iinc (v := v6 + 1) (lv2 := [(6, .int (v6 + 1)), (0, .ref (ad 43)), (1, .int v1), (2, .int v2), (3, .int v3), (4, .int v4), (5, .int v5)]) dX12_later_178 6 rfl rfl (by decide) rfl ?_
  refine nmL hf (fun x18 hf => ?_)
  refine rw_goto (tgt := 58) dX12_later_181 (by decide) ?_
  refine rw_sub [1, 2, 3, 4, 5, 6, 0] rfl ?_
  exact hk58 v1 v2 v3 v4 v5 x18 σ _ hr hf
def jX12_later_176 (k58 : Int32 → Int32 → Int32 → Int32 → Int32 → Int32 → rS → Option (Int32 × rS)) (v1 : Int32) (v2 : Int32) (v3 : Int32) (v4 : Int32) (v6 : Int32) (s0 : Int32) (σ : rS) : Option (Int32 × rS) := jX12_later_178 k58 v1 v2 v3 v4 s0 v6 σ
set_option maxHeartbeats 4000000 in
theorem t_jX12_later_176 {G : rG} {ad : Nat → Nat} {o : (Int32 × rS)} (k58 : Int32 → Int32 → Int32 → Int32 → Int32 → Int32 → rS → Option (Int32 × rS)) (hk58 : ∀ (v1 : Int32) (v2 : Int32) (v3 : Int32) (v4 : Int32) (v5 : Int32) (v6 : Int32) (σ : rS) (h : rH), Rep G ad σ h → k58 v1 v2 v3 v4 v5 v6 σ = some o → RW G mX12_later (rm 4 0 0) (qI G ad o) xN 0 0 58 [(0, .ref (ad 43)), (1, .int v1), (2, .int v2), (3, .int v3), (4, .int v4), (5, .int v5), (6, .int v6)] [] h) (v1 : Int32) (v2 : Int32) (v3 : Int32) (v4 : Int32) (v6 : Int32) (s0 : Int32) (σ : rS) (h : rH) (hr : Rep G ad σ h) (hf : jX12_later_176 k58 v1 v2 v3 v4 v6 s0 σ = some o) : RW G mX12_later (rm 4 0 0) (qI G ad o) xN 0 0 176 [(0, .ref (ad 43)), (1, .int v1), (2, .int v2), (3, .int v3), (4, .int v4), (6, .int v6)] [.int s0] h := by
  unfold jX12_later_176 at hf
  refine rw_istore (lv2 := [(5, .int s0), (0, .ref (ad 43)), (1, .int v1), (2, .int v2), (3, .int v3), (4, .int v4), (6, .int v6)]) dX12_later_176 (by decide) rfl ?_
  refine rw_sub [1, 2, 3, 4, 5, 0, 6] rfl ?_
  exact t_jX12_later_178 (ad := ad) (G := G) k58 hk58 v1 v2 v3 v4 s0 v6 σ _ hr hf
def jX12_later_141 (k58 : Int32 → Int32 → Int32 → Int32 → Int32 → Int32 → rS → Option (Int32 × rS)) (v1 : Int32) (v2 : Int32) (v3 : Int32) (v4 : Int32) (v5 : Int32) (v6 : Int32) (s0 : Int32) (σ : rS) : Option (Int32 × rS) := if (lg_cmp (σ.2.1 43 30) 0) = 0 then jX12_later_176 k58 v1 v2 v3 v4 v6 v5 σ else if s0 = 0 then if v5 = 0 then jX12_later_176 k58 v1 v2 v3 v4 v6 0 σ else jX12_later_176 k58 v1 v2 v3 v4 v6 1 σ else jX12_later_176 k58 v1 v2 v3 v4 v6 0 σ
set_option maxHeartbeats 4000000 in
theorem t_jX12_later_141 {G : rG} {ad : Nat → Nat} {o : (Int32 × rS)} (k58 : Int32 → Int32 → Int32 → Int32 → Int32 → Int32 → rS → Option (Int32 × rS)) (hk58 : ∀ (v1 : Int32) (v2 : Int32) (v3 : Int32) (v4 : Int32) (v5 : Int32) (v6 : Int32) (σ : rS) (h : rH), Rep G ad σ h → k58 v1 v2 v3 v4 v5 v6 σ = some o → RW G mX12_later (rm 4 0 0) (qI G ad o) xN 0 0 58 [(0, .ref (ad 43)), (1, .int v1), (2, .int v2), (3, .int v3), (4, .int v4), (5, .int v5), (6, .int v6)] [] h) (v1 : Int32) (v2 : Int32) (v3 : Int32) (v4 : Int32) (v5 : Int32) (v6 : Int32) (s0 : Int32) (σ : rS) (h : rH) (hr : Rep G ad σ h) (hf : jX12_later_141 k58 v1 v2 v3 v4 v5 v6 s0 σ = some o) : RW G mX12_later (rm 4 0 0) (qI G ad o) xN 0 0 141 [(0, .ref (ad 43)), (1, .int v1), (2, .int v2), (3, .int v3), (4, .int v4), (5, .int v5), (6, .int v6)] [.int s0] h := by
  unfold jX12_later_141 at hf
  refine rw_istore (lv2 := [(9, .int s0), (0, .ref (ad 43)), (1, .int v1), (2, .int v2), (3, .int v3), (4, .int v4), (5, .int v5), (6, .int v6)]) dX12_later_141 (by decide) rfl ?_
  refine rw_aload_n dX12_later_143 1 rfl rfl ?_
  refine sg_43_30 hr dX12_later_144 fl1492 ?_
  refine rw_lconst (v := 0) dX12_later_147 (by decide) ?_
  refine rw_lcmp dX12_later_148 ?_
  refine rw_if_ne (tgt := 157) dX12_later_149 (by decide) (fun c20 => ?_) (fun c20 => ?_)
  · rw [if_neg c20] at hf
    refine rw_iload dX12_later_157 0 rfl ?_
    refine rw_if_eq (tgt := 166) dX12_later_159 (by decide) (fun c21 => ?_) (fun c21 => ?_)
    · rw [if_pos c21] at hf
      refine rw_iload dX12_later_166 6 rfl ?_
      refine rw_if_ne (tgt := 175) dX12_later_168 (by decide) (fun c22 => ?_) (fun c22 => ?_)
      · rw [if_neg c22] at hf
        refine rw_iconst (v := 1) dX12_later_175 (by decide) ?_
        refine rw_sub [1, 2, 3, 4, 5, 7] rfl ?_
        exact t_jX12_later_176 (ad := ad) (G := G) k58 hk58 v1 v2 v3 v4 v6 1 σ _ hr hf
      · rw [if_pos c22] at hf
        refine rw_iconst (v := 0) dX12_later_171 (by decide) ?_
        refine rw_goto (tgt := 176) dX12_later_172 (by decide) ?_
        refine rw_sub [1, 2, 3, 4, 5, 7] rfl ?_
        exact t_jX12_later_176 (ad := ad) (G := G) k58 hk58 v1 v2 v3 v4 v6 0 σ _ hr hf
    · rw [if_neg c21] at hf
      refine rw_iconst (v := 0) dX12_later_162 (by decide) ?_
      refine rw_goto (tgt := 176) dX12_later_163 (by decide) ?_
      refine rw_sub [1, 2, 3, 4, 5, 7] rfl ?_
      exact t_jX12_later_176 (ad := ad) (G := G) k58 hk58 v1 v2 v3 v4 v6 0 σ _ hr hf
  · rw [if_pos c20] at hf
    refine rw_iload dX12_later_152 6 rfl ?_
    refine rw_goto (tgt := 176) dX12_later_154 (by decide) ?_
    refine rw_sub [1, 2, 3, 4, 5, 7] rfl ?_
    exact t_jX12_later_176 (ad := ad) (G := G) k58 hk58 v1 v2 v3 v4 v6 v5 σ _ hr hf
def jX12_later_122 (k58 : Int32 → Int32 → Int32 → Int32 → Int32 → Int32 → rS → Option (Int32 × rS)) (v1 : Int32) (v2 : Int32) (v3 : Int32) (v4 : Int32) (v5 : Int32) (v6 : Int32) (s0 : Int64) (σ : rS) : Option (Int32 × rS) := if 0 < (lg_cmp s0 (((σ.1 43 13).toInt64) * (σ.2.1 43 30))) then jX12_later_141 k58 v1 v2 v3 v4 v5 v6 0 σ else jX12_later_141 k58 v1 v2 v3 v4 v5 v6 1 σ
set_option maxHeartbeats 4000000 in
theorem t_jX12_later_122 {G : rG} {ad : Nat → Nat} {o : (Int32 × rS)} (k58 : Int32 → Int32 → Int32 → Int32 → Int32 → Int32 → rS → Option (Int32 × rS)) (hk58 : ∀ (v1 : Int32) (v2 : Int32) (v3 : Int32) (v4 : Int32) (v5 : Int32) (v6 : Int32) (σ : rS) (h : rH), Rep G ad σ h → k58 v1 v2 v3 v4 v5 v6 σ = some o → RW G mX12_later (rm 4 0 0) (qI G ad o) xN 0 0 58 [(0, .ref (ad 43)), (1, .int v1), (2, .int v2), (3, .int v3), (4, .int v4), (5, .int v5), (6, .int v6)] [] h) (v1 : Int32) (v2 : Int32) (v3 : Int32) (v4 : Int32) (v5 : Int32) (v6 : Int32) (s0 : Int64) (σ : rS) (h : rH) (hr : Rep G ad σ h) (hf : jX12_later_122 k58 v1 v2 v3 v4 v5 v6 s0 σ = some o) : RW G mX12_later (rm 4 0 0) (qI G ad o) xN 0 0 122 [(0, .ref (ad 43)), (1, .int v1), (2, .int v2), (3, .int v3), (4, .int v4), (5, .int v5), (6, .int v6)] [.long s0] h := by
  unfold jX12_later_122 at hf
  refine rw_aload_n dX12_later_122 0 rfl rfl ?_
  refine sg_43_13 hr dX12_later_123 fl1475 ?_
  refine rw_i2l dX12_later_126 ?_
  refine rw_aload_n dX12_later_127 0 rfl rfl ?_
  refine sg_43_30 hr dX12_later_128 fl1492 ?_
  refine rw_lmul dX12_later_131 ?_
  refine rw_lcmp dX12_later_132 ?_
  refine rw_if_gt (tgt := 140) dX12_later_133 (by decide) (fun c19 => ?_) (fun c19 => ?_)
  · rw [if_pos c19] at hf
    refine rw_iconst (v := 0) dX12_later_140 (by decide) ?_
    exact t_jX12_later_141 (ad := ad) (G := G) k58 hk58 v1 v2 v3 v4 v5 v6 0 σ _ hr hf
  · rw [if_neg c19] at hf
    refine rw_iconst (v := 1) dX12_later_136 (by decide) ?_
    refine rw_goto (tgt := 141) dX12_later_137 (by decide) ?_
    exact t_jX12_later_141 (ad := ad) (G := G) k58 hk58 v1 v2 v3 v4 v5 v6 1 σ _ hr hf
def lX12_later_58  : Nat → Int32 → Int32 → Int32 → Int32 → Int32 → Int32 → rS → Option (Int32 × rS)
  | 0, _, _, _, _, _, _, _ => none
  | n + 1, v1, v2, v3, v4, v5, v6, σ => if (σ.1 43 25) ≤ v6 then some (v5, σ) else if inB v6 192 then if inB (σ.2.2.1 61 v6.toNatClampNeg) 192 then (if (σ.2.2.1 48 (σ.2.2.1 61 v6.toNatClampNeg).toNatClampNeg) = v3 then (fX12_findLevel v6 ((-1)) v1 v2 σ).bind fun q15 => vJ ((q15.2.2.1 43 29) - (v4.toInt64 * (q15.2.2.1 43 30))) fun x16 => if 0 ≤ (lg_cmp x16 0) then jX12_later_122 (lX12_later_58 n) v1 v2 v3 v4 v5 v6 x16 q15.2 else jX12_later_122 (lX12_later_58 n) v1 v2 v3 v4 v5 v6 (-x16) q15.2 else jX12_later_178 (lX12_later_58 n) v1 v2 v3 v4 v5 v6 σ) else none else none
set_option maxHeartbeats 4000000 in
theorem t_lX12_later_58 {G : rG} {ad : Nat → Nat} {o : (Int32 × rS)}   : ∀ (n : Nat) (v1 : Int32) (v2 : Int32) (v3 : Int32) (v4 : Int32) (v5 : Int32) (v6 : Int32) (σ : rS) (h : rH), Rep G ad σ h → lX12_later_58  n v1 v2 v3 v4 v5 v6 σ = some o → RW G mX12_later (rm 4 0 0) (qI G ad o) xN 0 0 58 [(0, .ref (ad 43)), (1, .int v1), (2, .int v2), (3, .int v3), (4, .int v4), (5, .int v5), (6, .int v6)] [] h := by
  intro n
  induction n with
  | zero =>
    intro v1 v2 v3 v4 v5 v6 σ h hr hf
    rw [lX12_later_58] at hf
    cases hf
  | succ n ih =>
    intro v1 v2 v3 v4 v5 v6 σ h hr hf
    rw [lX12_later_58] at hf
    refine rw_iload dX12_later_58 6 rfl ?_
    refine rw_aload_n dX12_later_60 0 rfl rfl ?_
    refine sg_43_25 hr dX12_later_61 fl1487 ?_
    refine rw_icmp_ge (tgt := 184) dX12_later_64 (by decide) (fun c11 => ?_) (fun c11 => ?_)
    · rw [if_pos c11] at hf
      refine rw_iload dX12_later_184 5 rfl ?_
      replace hf := Option.some.inj hf
      subst hf
      exact rw_ireturn dX12_later_186 rfl ⟨rfl, hr⟩ (by decide) (by decide)
    · rw [if_neg c11] at hf
      refine rw_aload_n dX12_later_67 0 rfl rfl ?_
      refine sg_43_7 hr dX12_later_68 fl1469 ?_
      refine rw_aload_n dX12_later_71 0 rfl rfl ?_
      refine sg_43_27 hr dX12_later_72 fl1489 ?_
      refine rw_iload dX12_later_75 6 rfl ?_
      obtain ⟨hi12, hf⟩ := grd hf
      refine sl_61 hr dX12_later_77 (inB_in hi12) ?_
      obtain ⟨hi13, hf⟩ := grd hf
      refine sl_48 hr dX12_later_78 (inB_in hi13) ?_
      refine rw_iload_n dX12_later_79 3 rfl rfl ?_
      refine rw_icmp_ne (tgt := 178) dX12_later_80 (by decide) (fun c14 => ?_) (fun c14 => ?_)
      · rw [if_neg c14] at hf
        exact t_jX12_later_178 (ad := ad) (G := G) (lX12_later_58 n) ih v1 v2 v3 v4 v5 v6 σ _ hr hf
      · rw [if_pos c14] at hf
        refine rw_aload_n dX12_later_83 0 rfl rfl ?_
        refine rw_iload dX12_later_84 6 rfl ?_
        refine rw_iconst (v := (-1)) dX12_later_86 (by decide) ?_
        refine rw_iload_n dX12_later_87 1 rfl rfl ?_
        refine rw_iload_n dX12_later_88 2 rfl rfl ?_
        obtain ⟨q15, hq15, hf⟩ := bnd hf
        refine kV_V (ad := ad) (As := [.int v6, .int ((-1)), .int v1, .int v2]) (st := []) dX12_later_89 calX12_findLevel wm1772 wm1774 wm48 rfl rfl (rc_43 hr) (ci := 12) (by decide) rfl rfl (Nat.le_of_ble_eq_true rfl) ⟨⟨by decide, by decide⟩, by decide, by decide⟩ (cmX12_findLevel hr hq15) (fun h hr => ?_)
        refine rw_aload_n dX12_later_92 0 rfl rfl ?_
        refine sg_43_29 hr dX12_later_93 fl1491 ?_
        refine rw_iload dX12_later_96 4 rfl ?_
        refine rw_i2l dX12_later_98 ?_
        refine rw_aload_n dX12_later_99 0 rfl rfl ?_
        refine sg_43_30 hr dX12_later_100 fl1492 ?_
        refine rw_lmul dX12_later_103 ?_
        refine rw_lsub dX12_later_104 ?_
        refine nmJ hf (fun x16 hf => ?_)
        refine rw_lstore (lv2 := [(7, .long x16), (0, .ref (ad 43)), (1, .int v1), (2, .int v2), (3, .int v3), (4, .int v4), (5, .int v5), (6, .int v6)]) dX12_later_105 (by decide) rfl ?_
        refine rw_lload dX12_later_107 0 rfl ?_
        refine rw_lconst (v := 0) dX12_later_109 (by decide) ?_
        refine rw_lcmp dX12_later_110 ?_
        refine rw_if_ge (tgt := 120) dX12_later_111 (by decide) (fun c17 => ?_) (fun c17 => ?_)
        · rw [if_pos c17] at hf
          refine rw_lload dX12_later_120 0 rfl ?_
          refine rw_sub [1, 2, 3, 4, 5, 6, 7] rfl ?_
          exact t_jX12_later_122 (ad := ad) (G := G) (lX12_later_58 n) ih v1 v2 v3 v4 v5 v6 x16 q15.2 _ hr hf
        · rw [if_neg c17] at hf
          refine rw_lload dX12_later_114 0 rfl ?_
          refine rw_lneg dX12_later_116 ?_
          refine rw_goto (tgt := 122) dX12_later_117 (by decide) ?_
          refine rw_sub [1, 2, 3, 4, 5, 6, 7] rfl ?_
          exact t_jX12_later_122 (ad := ad) (G := G) (lX12_later_58 n) ih v1 v2 v3 v4 v5 v6 (-x16) q15.2 _ hr hf
def jX12_later_50   (σ : rS) : Option (Int32 × rS) := some (0, σ)
set_option maxHeartbeats 4000000 in
theorem t_jX12_later_50 {G : rG} {ad : Nat → Nat} {o : (Int32 × rS)}    (σ : rS) (h : rH) (hr : Rep G ad σ h) (hf : jX12_later_50   σ = some o) : RW G mX12_later (rm 4 0 0) (qI G ad o) xN 0 0 50 [] [] h := by
  unfold jX12_later_50 at hf
  refine rw_iconst (v := 0) dX12_later_50 (by decide) ?_
  replace hf := Option.some.inj hf
  subst hf
  exact rw_ireturn dX12_later_51 rfl ⟨rfl, hr⟩ (by decide) (by decide)
def jX12_later_43  (v1 : Int32) (v2 : Int32) (v3 : Int32) (v4 : Int32) (s0 : Int32) (σ : rS) : Option (Int32 × rS) := (fX12_fails s0 2 σ).bind fun q9 => if q9.1 = 0 then lX12_later_58 1000 v1 v2 v3 v4 2 0 q9.2 else jX12_later_50 q9.2
set_option maxHeartbeats 4000000 in
theorem t_jX12_later_43 {G : rG} {ad : Nat → Nat} {o : (Int32 × rS)}   (v1 : Int32) (v2 : Int32) (v3 : Int32) (v4 : Int32) (s0 : Int32) (σ : rS) (h : rH) (hr : Rep G ad σ h) (hf : jX12_later_43  v1 v2 v3 v4 s0 σ = some o) : RW G mX12_later (rm 4 0 0) (qI G ad o) xN 0 0 43 [(0, .ref (ad 43)), (1, .int v1), (2, .int v2), (3, .int v3), (4, .int v4)] [.int s0, .ref (ad 43)] h := by
  unfold jX12_later_43 at hf
  refine rw_iconst (v := 2) dX12_later_43 (by decide) ?_
  obtain ⟨q9, hq9, hf⟩ := bnd hf
  refine kV_I (ad := ad) (As := [.int s0, .int 2]) (st := []) dX12_later_44 calX12_fails wm1728 wm1730 wm46 rfl rfl (rc_43 hr) (ci := 12) (by decide) rfl rfl (Nat.le_of_ble_eq_true rfl) ⟨⟨by decide, by decide⟩, by decide, by decide⟩ (cmX12_fails hr hq9) (fun h hr => ?_)
  refine rw_if_eq (tgt := 52) dX12_later_47 (by decide) (fun c10 => ?_) (fun c10 => ?_)
  · rw [if_pos c10] at hf
    refine rw_iconst (v := 2) dX12_later_52 (by decide) ?_
    refine rw_istore (lv2 := [(5, .int 2), (0, .ref (ad 43)), (1, .int v1), (2, .int v2), (3, .int v3), (4, .int v4)]) dX12_later_53 (by decide) rfl ?_
    refine rw_iconst (v := 0) dX12_later_55 (by decide) ?_
    refine rw_istore (lv2 := [(6, .int 0), (5, .int 2), (0, .ref (ad 43)), (1, .int v1), (2, .int v2), (3, .int v3), (4, .int v4)]) dX12_later_56 (by decide) rfl ?_
    refine rw_sub [2, 3, 4, 5, 6, 1, 0] rfl ?_
    exact t_lX12_later_58 (ad := ad) (G := G)  1000 v1 v2 v3 v4 2 0 q9.2 _ hr hf
  · rw [if_neg c10] at hf
    refine rw_sub [] rfl ?_
    exact t_jX12_later_50 (ad := ad) (G := G)  q9.2 _ hr hf
def jX12_later_38  (v1 : Int32) (v2 : Int32) (v3 : Int32) (v4 : Int32) (σ : rS) : Option (Int32 × rS) := jX12_later_43 v1 v2 v3 v4 1 σ
set_option maxHeartbeats 4000000 in
theorem t_jX12_later_38 {G : rG} {ad : Nat → Nat} {o : (Int32 × rS)}   (v1 : Int32) (v2 : Int32) (v3 : Int32) (v4 : Int32) (σ : rS) (h : rH) (hr : Rep G ad σ h) (hf : jX12_later_38  v1 v2 v3 v4 σ = some o) : RW G mX12_later (rm 4 0 0) (qI G ad o) xN 0 0 38 [(0, .ref (ad 43)), (1, .int v1), (2, .int v2), (3, .int v3), (4, .int v4)] [.ref (ad 43)] h := by
  unfold jX12_later_38 at hf
  refine rw_iconst (v := 1) dX12_later_38 (by decide) ?_
  refine rw_goto (tgt := 43) dX12_later_39 (by decide) ?_
  exact t_jX12_later_43 (ad := ad) (G := G)  v1 v2 v3 v4 1 σ _ hr hf
def fX12_later (a0 : Int32) (a1 : Int32) (a2 : Int32) (a3 : Int32) (σ : rS) : Option (Int32 × rS) := (fX12_isOld σ).bind fun q1 => if q1.1 = 0 then (fX12_isPlace a0 a1 q1.2).bind fun q3 => if q3.1 = 0 then jX12_later_38 a0 a1 a2 a3 q3.2 else (fX12_in a2 0 7 q3.2).bind fun q5 => if q5.1 = 0 then jX12_later_38 a0 a1 a2 a3 q5.2 else (fX12_in a3 ((-100000)) 100000 q5.2).bind fun q7 => if q7.1 = 0 then jX12_later_38 a0 a1 a2 a3 q7.2 else jX12_later_43 a0 a1 a2 a3 0 q7.2 else jX12_later_50 q1.2
set_option maxHeartbeats 4000000 in
theorem cmX12_later {G : rG} {ad : Nat → Nat} {a0 : Int32} {a1 : Int32} {a2 : Int32} {a3 : Int32} {σ : rS} {h : rH} {o : (Int32 × rS)} (hr : Rep G ad σ h) (hf : fX12_later a0 a1 a2 a3 σ = some o) : rMT G mX12_later (rm 4 0 0) [.ref (ad 43), .int a0, .int a1, .int a2, .int a3] h (qI G ad o) xN := by
  unfold fX12_later at hf
  refine rw_met (by decide +kernel) rfl (Nat.le_of_ble_eq_true rfl) ?_
  show RW G _ _ _ _ 0 0 0 [(0, .ref (ad 43)), (1, .int a0), (2, .int a1), (3, .int a2), (4, .int a3)] [] h
  refine rw_aload_n dX12_later_0 0 rfl rfl ?_
  obtain ⟨q1, hq1, hf⟩ := bnd hf
  refine kV_I (ad := ad) (As := []) (st := []) dX12_later_1 calX12_isOld wm1724 wm1726 wm45 rfl rfl (rc_43 hr) (ci := 12) (by decide) rfl rfl (Nat.le_of_ble_eq_true rfl) ⟨⟨by decide, by decide⟩, by decide, by decide⟩ (cmX12_isOld hr hq1) (fun h hr => ?_)
  refine rw_if_ne (tgt := 50) dX12_later_4 (by decide) (fun c2 => ?_) (fun c2 => ?_)
  · rw [if_neg c2] at hf
    refine rw_sub [] rfl ?_
    exact t_jX12_later_50 (ad := ad) (G := G)  q1.2 _ hr hf
  · rw [if_pos c2] at hf
    refine rw_aload_n dX12_later_7 0 rfl rfl ?_
    refine rw_iload_n dX12_later_8 1 rfl rfl ?_
    refine rw_iload_n dX12_later_9 2 rfl rfl ?_
    obtain ⟨q3, hq3, hf⟩ := bnd hf
    refine kS_I (ad := ad) (As := [.int a0, .int a1]) (st := [.ref (ad 43)]) dX12_later_10 calX12_isPlace wm1609 wm1610 rfl rfl (Nat.le_of_ble_eq_true rfl) ⟨⟨by decide, by decide⟩, by decide, by decide⟩ (cmX12_isPlace hr hq3) (fun h hr => ?_)
    refine rw_if_eq (tgt := 38) dX12_later_13 (by decide) (fun c4 => ?_) (fun c4 => ?_)
    · rw [if_pos c4] at hf
      exact t_jX12_later_38 (ad := ad) (G := G)  a0 a1 a2 a3 q3.2 _ hr hf
    · rw [if_neg c4] at hf
      refine rw_iload_n dX12_later_16 3 rfl rfl ?_
      refine rw_iconst (v := 0) dX12_later_17 (by decide) ?_
      refine rw_bipush (v := 7) dX12_later_18 (by decide) ?_
      obtain ⟨q5, hq5, hf⟩ := bnd hf
      refine kS_I (ad := ad) (As := [.int a2, .int 0, .int 7]) (st := [.ref (ad 43)]) dX12_later_20 calX12_in wm1612 wm1613 rfl rfl (Nat.le_of_ble_eq_true rfl) ⟨⟨by decide, by decide⟩, by decide, by decide⟩ (cmX12_in hr hq5) (fun h hr => ?_)
      refine rw_if_eq (tgt := 38) dX12_later_23 (by decide) (fun c6 => ?_) (fun c6 => ?_)
      · rw [if_pos c6] at hf
        exact t_jX12_later_38 (ad := ad) (G := G)  a0 a1 a2 a3 q5.2 _ hr hf
      · rw [if_neg c6] at hf
        refine rw_iload dX12_later_26 4 rfl ?_
        refine rw_ldc (v := (-100000)) dX12_later_28 wm1615 ?_
        refine rw_ldc (v := 100000) dX12_later_30 wm1616 ?_
        obtain ⟨q7, hq7, hf⟩ := bnd hf
        refine kS_I (ad := ad) (As := [.int a3, .int ((-100000)), .int 100000]) (st := [.ref (ad 43)]) dX12_later_32 calX12_in wm1612 wm1613 rfl rfl (Nat.le_of_ble_eq_true rfl) ⟨⟨by decide, by decide⟩, by decide, by decide⟩ (cmX12_in hr hq7) (fun h hr => ?_)
        refine rw_if_ne (tgt := 42) dX12_later_35 (by decide) (fun c8 => ?_) (fun c8 => ?_)
        · rw [if_neg c8] at hf
          refine rw_iconst (v := 0) dX12_later_42 (by decide) ?_
          exact t_jX12_later_43 (ad := ad) (G := G)  a0 a1 a2 a3 0 q7.2 _ hr hf
        · rw [if_pos c8] at hf
          exact t_jX12_later_38 (ad := ad) (G := G)  a0 a1 a2 a3 q7.2 _ hr hf
def jX12_doubt_96  (v3 : Int32) (σ : rS) : Option (Int32 × rS) := some (v3, σ)
set_option maxHeartbeats 4000000 in
theorem t_jX12_doubt_96 {G : rG} {ad : Nat → Nat} {o : (Int32 × rS)}   (v3 : Int32) (σ : rS) (h : rH) (hr : Rep G ad σ h) (hf : jX12_doubt_96  v3 σ = some o) : RW G mX12_doubt (rm 2 0 0) (qI G ad o) xN 0 0 96 [(3, .int v3)] [] h := by
  unfold jX12_doubt_96 at hf
  refine rw_iload_n dX12_doubt_96 0 rfl rfl ?_
  replace hf := Option.some.inj hf
  subst hf
  exact rw_ireturn dX12_doubt_97 rfl ⟨rfl, hr⟩ (by decide) (by decide)
def jX12_doubt_90 (k13 : Int32 → Int32 → Int32 → Int32 → Int32 → rS → Option (Int32 × rS)) (v1 : Int32) (v2 : Int32) (v3 : Int32) (v4 : Int32) (v5 : Int32) (σ : rS) : Option (Int32 × rS) := vI (v5 + 1) fun x12 => k13 v1 v2 v3 v4 x12 σ
set_option maxHeartbeats 4000000 in
theorem t_jX12_doubt_90 {G : rG} {ad : Nat → Nat} {o : (Int32 × rS)} (k13 : Int32 → Int32 → Int32 → Int32 → Int32 → rS → Option (Int32 × rS)) (hk13 : ∀ (v1 : Int32) (v2 : Int32) (v3 : Int32) (v4 : Int32) (v5 : Int32) (σ : rS) (h : rH), Rep G ad σ h → k13 v1 v2 v3 v4 v5 σ = some o → RW G mX12_doubt (rm 2 0 0) (qI G ad o) xN 0 0 13 [(0, .ref (ad 43)), (1, .int v1), (2, .int v2), (3, .int v3), (4, .int v4), (5, .int v5)] [] h) (v1 : Int32) (v2 : Int32) (v3 : Int32) (v4 : Int32) (v5 : Int32) (σ : rS) (h : rH) (hr : Rep G ad σ h) (hf : jX12_doubt_90 k13 v1 v2 v3 v4 v5 σ = some o) : RW G mX12_doubt (rm 2 0 0) (qI G ad o) xN 0 0 90 [(0, .ref (ad 43)), (1, .int v1), (2, .int v2), (3, .int v3), (4, .int v4), (5, .int v5)] [] h := by
  unfold jX12_doubt_90 at hf
  refine rw_iinc (v := v5 + 1) (lv2 := [(5, .int (v5 + 1)), (0, .ref (ad 43)), (1, .int v1), (2, .int v2), (3, .int v3), (4, .int v4)]) dX12_doubt_90 5 rfl rfl (by decide) rfl ?_
  refine nmL hf (fun x12 hf => ?_)
  refine rw_goto (tgt := 13) dX12_doubt_93 (by decide) ?_
  refine rw_sub [1, 2, 3, 4, 5, 0] rfl ?_
  exact hk13 v1 v2 v3 v4 x12 σ _ hr hf
def jX12_doubt_83 (k13 : Int32 → Int32 → Int32 → Int32 → Int32 → rS → Option (Int32 × rS)) (v1 : Int32) (v2 : Int32) (v5 : Int32) (v6 : Int32) (σ : rS) : Option (Int32 × rS) := jX12_doubt_90 k13 v1 v2 v5 v6 v5 σ
set_option maxHeartbeats 4000000 in
theorem t_jX12_doubt_83 {G : rG} {ad : Nat → Nat} {o : (Int32 × rS)} (k13 : Int32 → Int32 → Int32 → Int32 → Int32 → rS → Option (Int32 × rS)) (hk13 : ∀ (v1 : Int32) (v2 : Int32) (v3 : Int32) (v4 : Int32) (v5 : Int32) (σ : rS) (h : rH), Rep G ad σ h → k13 v1 v2 v3 v4 v5 σ = some o → RW G mX12_doubt (rm 2 0 0) (qI G ad o) xN 0 0 13 [(0, .ref (ad 43)), (1, .int v1), (2, .int v2), (3, .int v3), (4, .int v4), (5, .int v5)] [] h) (v1 : Int32) (v2 : Int32) (v5 : Int32) (v6 : Int32) (σ : rS) (h : rH) (hr : Rep G ad σ h) (hf : jX12_doubt_83 k13 v1 v2 v5 v6 σ = some o) : RW G mX12_doubt (rm 2 0 0) (qI G ad o) xN 0 0 83 [(0, .ref (ad 43)), (1, .int v1), (2, .int v2), (5, .int v5), (6, .int v6)] [] h := by
  unfold jX12_doubt_83 at hf
  refine rw_iload dX12_doubt_83 3 rfl ?_
  refine rw_istore_n (lv2 := [(3, .int v5), (0, .ref (ad 43)), (1, .int v1), (2, .int v2), (5, .int v5), (6, .int v6)]) dX12_doubt_85 rfl (by decide) rfl ?_
  refine rw_iload dX12_doubt_86 5 rfl ?_
  refine rw_istore (lv2 := [(4, .int v6), (3, .int v5), (0, .ref (ad 43)), (1, .int v1), (2, .int v2), (5, .int v5), (6, .int v6)]) dX12_doubt_88 (by decide) rfl ?_
  refine rw_sub [2, 3, 4, 1, 0, 5] rfl ?_
  exact t_jX12_doubt_90 (ad := ad) (G := G) k13 hk13 v1 v2 v5 v6 v5 σ _ hr hf
def lX12_doubt_13  : Nat → Int32 → Int32 → Int32 → Int32 → Int32 → rS → Option (Int32 × rS)
  | 0, _, _, _, _, _, _ => none
  | n + 1, v1, v2, v3, v4, v5, σ => if (σ.1 43 2) ≤ v5 then jX12_doubt_96 v3 σ else (fX12_isPlace v1 v2 σ).bind fun q3 => if q3.1 = 0 then jX12_doubt_96 v3 q3.2 else if inB v5 16 then if inB v5 16 then if inB v5 16 then if inB v5 16 then vI ((((q3.2.2.2.1 44 v5.toNatClampNeg) - v1) * ((q3.2.2.2.1 44 v5.toNatClampNeg) - v1)) + (((q3.2.2.2.1 45 v5.toNatClampNeg) - v2) * ((q3.2.2.2.1 45 v5.toNatClampNeg) - v2))) fun x9 => (if v3 = ((-1)) then jX12_doubt_83 (lX12_doubt_13 n) v1 v2 v5 x9 q3.2 else if v4 ≤ x9 then jX12_doubt_90 (lX12_doubt_13 n) v1 v2 v3 v4 v5 q3.2 else jX12_doubt_83 (lX12_doubt_13 n) v1 v2 v5 x9 q3.2) else none else none else none else none
set_option maxHeartbeats 4000000 in
theorem t_lX12_doubt_13 {G : rG} {ad : Nat → Nat} {o : (Int32 × rS)}   : ∀ (n : Nat) (v1 : Int32) (v2 : Int32) (v3 : Int32) (v4 : Int32) (v5 : Int32) (σ : rS) (h : rH), Rep G ad σ h → lX12_doubt_13  n v1 v2 v3 v4 v5 σ = some o → RW G mX12_doubt (rm 2 0 0) (qI G ad o) xN 0 0 13 [(0, .ref (ad 43)), (1, .int v1), (2, .int v2), (3, .int v3), (4, .int v4), (5, .int v5)] [] h := by
  intro n
  induction n with
  | zero =>
    intro v1 v2 v3 v4 v5 σ h hr hf
    rw [lX12_doubt_13] at hf
    cases hf
  | succ n ih =>
    intro v1 v2 v3 v4 v5 σ h hr hf
    rw [lX12_doubt_13] at hf
    refine rw_iload dX12_doubt_13 5 rfl ?_
    refine rw_aload_n dX12_doubt_15 0 rfl rfl ?_
    refine sg_43_2 hr dX12_doubt_16 fl1464 ?_
    refine rw_icmp_ge (tgt := 96) dX12_doubt_19 (by decide) (fun c2 => ?_) (fun c2 => ?_)
    · rw [if_pos c2] at hf
      refine rw_sub [3] rfl ?_
      exact t_jX12_doubt_96 (ad := ad) (G := G)  v3 σ _ hr hf
    · rw [if_neg c2] at hf
      refine rw_iload_n dX12_doubt_22 1 rfl rfl ?_
      refine rw_iload_n dX12_doubt_23 2 rfl rfl ?_
      obtain ⟨q3, hq3, hf⟩ := bnd hf
      refine kS_I (ad := ad) (As := [.int v1, .int v2]) (st := []) dX12_doubt_24 calX12_isPlace wm1609 wm1610 rfl rfl (Nat.le_of_ble_eq_true rfl) ⟨⟨by decide, by decide⟩, by decide, by decide⟩ (cmX12_isPlace hr hq3) (fun h hr => ?_)
      refine rw_if_eq (tgt := 96) dX12_doubt_27 (by decide) (fun c4 => ?_) (fun c4 => ?_)
      · rw [if_pos c4] at hf
        refine rw_sub [3] rfl ?_
        exact t_jX12_doubt_96 (ad := ad) (G := G)  v3 q3.2 _ hr hf
      · rw [if_neg c4] at hf
        refine rw_aload_n dX12_doubt_30 0 rfl rfl ?_
        refine sg_43_3 hr dX12_doubt_31 fl1465 ?_
        refine rw_iload dX12_doubt_34 5 rfl ?_
        obtain ⟨hi5, hf⟩ := grd hf
        refine sl_44 hr dX12_doubt_36 (inB_in hi5) ?_
        refine rw_iload_n dX12_doubt_37 1 rfl rfl ?_
        refine rw_isub dX12_doubt_38 ?_
        refine rw_aload_n dX12_doubt_39 0 rfl rfl ?_
        refine sg_43_3 hr dX12_doubt_40 fl1465 ?_
        refine rw_iload dX12_doubt_43 5 rfl ?_
        obtain ⟨hi6, hf⟩ := grd hf
        refine sl_44 hr dX12_doubt_45 (inB_in hi6) ?_
        refine rw_iload_n dX12_doubt_46 1 rfl rfl ?_
        refine rw_isub dX12_doubt_47 ?_
        refine rw_imul dX12_doubt_48 ?_
        refine rw_aload_n dX12_doubt_49 0 rfl rfl ?_
        refine sg_43_4 hr dX12_doubt_50 fl1466 ?_
        refine rw_iload dX12_doubt_53 5 rfl ?_
        obtain ⟨hi7, hf⟩ := grd hf
        refine sl_45 hr dX12_doubt_55 (inB_in hi7) ?_
        refine rw_iload_n dX12_doubt_56 2 rfl rfl ?_
        refine rw_isub dX12_doubt_57 ?_
        refine rw_aload_n dX12_doubt_58 0 rfl rfl ?_
        refine sg_43_4 hr dX12_doubt_59 fl1466 ?_
        refine rw_iload dX12_doubt_62 5 rfl ?_
        obtain ⟨hi8, hf⟩ := grd hf
        refine sl_45 hr dX12_doubt_64 (inB_in hi8) ?_
        refine rw_iload_n dX12_doubt_65 2 rfl rfl ?_
        refine rw_isub dX12_doubt_66 ?_
        refine rw_imul dX12_doubt_67 ?_
        refine rw_iadd dX12_doubt_68 ?_
        refine nmI hf (fun x9 hf => ?_)
        refine rw_istore (lv2 := [(6, .int x9), (0, .ref (ad 43)), (1, .int v1), (2, .int v2), (3, .int v3), (4, .int v4), (5, .int v5)]) dX12_doubt_69 (by decide) rfl ?_
        refine rw_iload_n dX12_doubt_71 4 rfl rfl ?_
        refine rw_iconst (v := (-1)) dX12_doubt_72 (by decide) ?_
        refine rw_icmp_eq (tgt := 83) dX12_doubt_73 (by decide) (fun c10 => ?_) (fun c10 => ?_)
        · rw [if_pos c10] at hf
          refine rw_sub [1, 2, 3, 6, 0] rfl ?_
          exact t_jX12_doubt_83 (ad := ad) (G := G) (lX12_doubt_13 n) ih v1 v2 v5 x9 q3.2 _ hr hf
        · rw [if_neg c10] at hf
          refine rw_iload dX12_doubt_76 0 rfl ?_
          refine rw_iload dX12_doubt_78 5 rfl ?_
          refine rw_icmp_ge (tgt := 90) dX12_doubt_80 (by decide) (fun c11 => ?_) (fun c11 => ?_)
          · rw [if_pos c11] at hf
            refine rw_sub [1, 2, 3, 4, 5, 6] rfl ?_
            exact t_jX12_doubt_90 (ad := ad) (G := G) (lX12_doubt_13 n) ih v1 v2 v3 v4 v5 q3.2 _ hr hf
          · rw [if_neg c11] at hf
            refine rw_sub [1, 2, 3, 6, 0] rfl ?_
            exact t_jX12_doubt_83 (ad := ad) (G := G) (lX12_doubt_13 n) ih v1 v2 v5 x9 q3.2 _ hr hf
def fX12_doubt (a0 : Int32) (a1 : Int32) (σ : rS) : Option (Int32 × rS) := vS (uI σ 43 0 0) fun σ1 => lX12_doubt_13 1000 a0 a1 ((-1)) 0 0 σ1
set_option maxHeartbeats 4000000 in
theorem cmX12_doubt {G : rG} {ad : Nat → Nat} {a0 : Int32} {a1 : Int32} {σ : rS} {h : rH} {o : (Int32 × rS)} (hr : Rep G ad σ h) (hf : fX12_doubt a0 a1 σ = some o) : rMT G mX12_doubt (rm 2 0 0) [.ref (ad 43), .int a0, .int a1] h (qI G ad o) xN := by
  unfold fX12_doubt at hf
  refine rw_met (by decide +kernel) rfl (Nat.le_of_ble_eq_true rfl) ?_
  show RW G _ _ _ _ 0 0 0 [(0, .ref (ad 43)), (1, .int a0), (2, .int a1)] [] h
  refine rw_aload_n dX12_doubt_0 0 rfl rfl ?_
  refine rw_iconst (v := 0) dX12_doubt_1 (by decide) ?_
  refine sp_43_0 hr dX12_doubt_2 fl1462 (fun h hr => ?_)
  refine nmS hf hr (fun σ1 hr hf => ?_)
  refine rw_iconst (v := (-1)) dX12_doubt_5 (by decide) ?_
  refine rw_istore_n (lv2 := [(3, .int ((-1))), (0, .ref (ad 43)), (1, .int a0), (2, .int a1)]) dX12_doubt_6 rfl (by decide) rfl ?_
  refine rw_iconst (v := 0) dX12_doubt_7 (by decide) ?_
  refine rw_istore (lv2 := [(4, .int 0), (3, .int ((-1))), (0, .ref (ad 43)), (1, .int a0), (2, .int a1)]) dX12_doubt_8 (by decide) rfl ?_
  refine rw_iconst (v := 0) dX12_doubt_10 (by decide) ?_
  refine rw_istore (lv2 := [(5, .int 0), (4, .int 0), (3, .int ((-1))), (0, .ref (ad 43)), (1, .int a0), (2, .int a1)]) dX12_doubt_11 (by decide) rfl ?_
  refine rw_sub [3, 4, 5, 2, 1, 0] rfl ?_
  exact t_lX12_doubt_13 (ad := ad) (G := G)  1000 a0 a1 ((-1)) 0 0 σ1 _ hr hf
def jX12_unit_32   (σ : rS) : Option (Int32 × rS) := some (0, σ)
set_option maxHeartbeats 4000000 in
theorem t_jX12_unit_32 {G : rG} {ad : Nat → Nat} {o : (Int32 × rS)}    (σ : rS) (h : rH) (hr : Rep G ad σ h) (hf : jX12_unit_32   σ = some o) : RW G mX12_unit (rm 1 0 0) (qI G ad o) xN 0 0 32 [] [] h := by
  unfold jX12_unit_32 at hf
  refine rw_iconst (v := 0) dX12_unit_32 (by decide) ?_
  replace hf := Option.some.inj hf
  subst hf
  exact rw_zreturn dX12_unit_33 rfl (by decide) ⟨rfl, hr⟩ (by decide) (by decide)
def jX12_unit_22  (v1 : Int32) (σ : rS) : Option (Int32 × rS) := if (σ.1 43 31) = 600 then jX12_unit_32 σ else if inB (σ.1 43 31) 600 then vS (uA σ 63 (σ.1 43 31).toNatClampNeg v1) fun σ7 => vS (uI σ7 43 31 ((σ7.1 43 31) + 1)) fun σ8 => some (1, σ8) else none
set_option maxHeartbeats 4000000 in
theorem t_jX12_unit_22 {G : rG} {ad : Nat → Nat} {o : (Int32 × rS)}   (v1 : Int32) (σ : rS) (h : rH) (hr : Rep G ad σ h) (hf : jX12_unit_22  v1 σ = some o) : RW G mX12_unit (rm 1 0 0) (qI G ad o) xN 0 0 22 [(0, .ref (ad 43)), (1, .int v1)] [] h := by
  unfold jX12_unit_22 at hf
  refine rw_aload_n dX12_unit_22 0 rfl rfl ?_
  refine sg_43_31 hr dX12_unit_23 fl1493 ?_
  refine rw_sipush (v := 600) dX12_unit_26 (by decide) ?_
  refine rw_icmp_ne (tgt := 34) dX12_unit_29 (by decide) (fun c5 => ?_) (fun c5 => ?_)
  · rw [if_neg c5] at hf
    refine rw_aload_n dX12_unit_34 0 rfl rfl ?_
    refine sg_43_32 hr dX12_unit_35 fl1494 ?_
    refine rw_aload_n dX12_unit_38 0 rfl rfl ?_
    refine sg_43_31 hr dX12_unit_39 fl1493 ?_
    refine rw_iload_n dX12_unit_42 1 rfl rfl ?_
    obtain ⟨hi6, hf⟩ := grd hf
    refine ss_63 hr dX12_unit_43 (inB_in hi6) (fun h hr => ?_)
    refine nmS hf hr (fun σ7 hr hf => ?_)
    refine rw_aload_n dX12_unit_44 0 rfl rfl ?_
    refine rw_dup dX12_unit_45 rfl ?_
    refine sg_43_31 hr dX12_unit_46 fl1493 ?_
    refine rw_iconst (v := 1) dX12_unit_49 (by decide) ?_
    refine rw_iadd dX12_unit_50 ?_
    refine sp_43_31 hr dX12_unit_51 fl1493 (fun h hr => ?_)
    refine nmS hf hr (fun σ8 hr hf => ?_)
    refine rw_iconst (v := 1) dX12_unit_54 (by decide) ?_
    replace hf := Option.some.inj hf
    subst hf
    exact rw_zreturn dX12_unit_55 rfl (by decide) ⟨rfl, hr⟩ (by decide) (by decide)
  · rw [if_pos c5] at hf
    refine rw_sub [] rfl ?_
    exact t_jX12_unit_32 (ad := ad) (G := G)  σ _ hr hf
def fX12_unit (a0 : Int32) (σ : rS) : Option (Int32 × rS) := vS (uI σ 43 0 0) fun σ1 => (fX12_in a0 32 126 σ1).bind fun q2 => if q2.1 = 0 then if a0 = 10 then jX12_unit_22 a0 q2.2 else jX12_unit_32 q2.2 else jX12_unit_22 a0 q2.2
set_option maxHeartbeats 4000000 in
theorem cmX12_unit {G : rG} {ad : Nat → Nat} {a0 : Int32} {σ : rS} {h : rH} {o : (Int32 × rS)} (hr : Rep G ad σ h) (hf : fX12_unit a0 σ = some o) : rMT G mX12_unit (rm 1 0 0) [.ref (ad 43), .int a0] h (qI G ad o) xN := by
  unfold fX12_unit at hf
  refine rw_met (by decide +kernel) rfl (Nat.le_of_ble_eq_true rfl) ?_
  show RW G _ _ _ _ 0 0 0 [(0, .ref (ad 43)), (1, .int a0)] [] h
  refine rw_aload_n dX12_unit_0 0 rfl rfl ?_
  refine rw_iconst (v := 0) dX12_unit_1 (by decide) ?_
  refine sp_43_0 hr dX12_unit_2 fl1462 (fun h hr => ?_)
  refine nmS hf hr (fun σ1 hr hf => ?_)
  refine rw_iload_n dX12_unit_5 1 rfl rfl ?_
  refine rw_bipush (v := 32) dX12_unit_6 (by decide) ?_
  refine rw_bipush (v := 126) dX12_unit_8 (by decide) ?_
  obtain ⟨q2, hq2, hf⟩ := bnd hf
  refine kS_I (ad := ad) (As := [.int a0, .int 32, .int 126]) (st := []) dX12_unit_10 calX12_in wm1612 wm1613 rfl rfl (Nat.le_of_ble_eq_true rfl) ⟨⟨by decide, by decide⟩, by decide, by decide⟩ (cmX12_in hr hq2) (fun h hr => ?_)
  refine rw_if_ne (tgt := 22) dX12_unit_13 (by decide) (fun c3 => ?_) (fun c3 => ?_)
  · rw [if_neg c3] at hf
    exact t_jX12_unit_22 (ad := ad) (G := G)  a0 q2.2 _ hr hf
  · rw [if_pos c3] at hf
    refine rw_iload_n dX12_unit_16 1 rfl rfl ?_
    refine rw_bipush (v := 10) dX12_unit_17 (by decide) ?_
    refine rw_icmp_ne (tgt := 32) dX12_unit_19 (by decide) (fun c4 => ?_) (fun c4 => ?_)
    · rw [if_neg c4] at hf
      refine rw_sub [] rfl ?_
      exact t_jX12_unit_32 (ad := ad) (G := G)  q2.2 _ hr hf
    · rw [if_pos c4] at hf
      exact t_jX12_unit_22 (ad := ad) (G := G)  a0 q2.2 _ hr hf
def jX12_findWords_125 (k7 : Int32 → rS → Option (Unit × rS)) (v1 : Int32) (σ : rS) : Option (Unit × rS) := vI (v1 + 1) fun x20 => k7 x20 σ
set_option maxHeartbeats 4000000 in
theorem t_jX12_findWords_125 {G : rG} {ad : Nat → Nat} {o : (Unit × rS)} (k7 : Int32 → rS → Option (Unit × rS)) (hk7 : ∀ (v1 : Int32) (σ : rS) (h : rH), Rep G ad σ h → k7 v1 σ = some o → RW G mX12_findWords (rm 0 0 0) (qV G ad o) xN 0 0 7 [(0, .ref (ad 43)), (1, .int v1)] [] h) (v1 : Int32) (σ : rS) (h : rH) (hr : Rep G ad σ h) (hf : jX12_findWords_125 k7 v1 σ = some o) : RW G mX12_findWords (rm 0 0 0) (qV G ad o) xN 0 0 125 [(0, .ref (ad 43)), (1, .int v1)] [] h := by
  unfold jX12_findWords_125 at hf
  refine rw_iinc (v := v1 + 1) (lv2 := [(1, .int (v1 + 1)), (0, .ref (ad 43))]) dX12_findWords_125 1 rfl rfl (by decide) rfl ?_
  refine nmL hf (fun x20 hf => ?_)
  refine rw_goto (tgt := 7) dX12_findWords_128 (by decide) ?_
  refine rw_sub [1, 0] rfl ?_
  exact hk7 x20 σ _ hr hf
def jX12_findWords_107 (k7 : Int32 → rS → Option (Unit × rS)) (v1 : Int32) (v2 : Int32) (σ : rS) : Option (Unit × rS) := if v2 = 0 then if inB ((σ.1 43 33) - 1) 600 then vS (uA σ 65 ((σ.1 43 33) - 1).toNatClampNeg (v1 + 1)) fun σ19 => jX12_findWords_125 k7 v1 σ19 else none else jX12_findWords_125 k7 v1 σ
set_option maxHeartbeats 4000000 in
theorem t_jX12_findWords_107 {G : rG} {ad : Nat → Nat} {o : (Unit × rS)} (k7 : Int32 → rS → Option (Unit × rS)) (hk7 : ∀ (v1 : Int32) (σ : rS) (h : rH), Rep G ad σ h → k7 v1 σ = some o → RW G mX12_findWords (rm 0 0 0) (qV G ad o) xN 0 0 7 [(0, .ref (ad 43)), (1, .int v1)] [] h) (v1 : Int32) (v2 : Int32) (σ : rS) (h : rH) (hr : Rep G ad σ h) (hf : jX12_findWords_107 k7 v1 v2 σ = some o) : RW G mX12_findWords (rm 0 0 0) (qV G ad o) xN 0 0 107 [(0, .ref (ad 43)), (1, .int v1), (2, .int v2)] [] h := by
  unfold jX12_findWords_107 at hf
  refine rw_iload_n dX12_findWords_107 2 rfl rfl ?_
  refine rw_if_ne (tgt := 125) dX12_findWords_108 (by decide) (fun c17 => ?_) (fun c17 => ?_)
  · rw [if_neg c17] at hf
    refine rw_sub [0, 1] rfl ?_
    exact t_jX12_findWords_125 (ad := ad) (G := G) k7 hk7 v1 σ _ hr hf
  · rw [if_pos c17] at hf
    refine rw_aload_n dX12_findWords_111 0 rfl rfl ?_
    refine sg_43_35 hr dX12_findWords_112 fl1497 ?_
    refine rw_aload_n dX12_findWords_115 0 rfl rfl ?_
    refine sg_43_33 hr dX12_findWords_116 fl1495 ?_
    refine rw_iconst (v := 1) dX12_findWords_119 (by decide) ?_
    refine rw_isub dX12_findWords_120 ?_
    refine rw_iload_n dX12_findWords_121 1 rfl rfl ?_
    refine rw_iconst (v := 1) dX12_findWords_122 (by decide) ?_
    refine rw_iadd dX12_findWords_123 ?_
    obtain ⟨hi18, hf⟩ := grd hf
    refine ss_65 hr dX12_findWords_124 (inB_in hi18) (fun h hr => ?_)
    refine nmS hf hr (fun σ19 hr hf => ?_)
    refine rw_sub [0, 1] rfl ?_
    exact t_jX12_findWords_125 (ad := ad) (G := G) k7 hk7 v1 σ19 _ hr hf
def jX12_findWords_78 (k7 : Int32 → rS → Option (Unit × rS)) (v1 : Int32) (v2 : Int32) (s0 : Int32) (σ : rS) : Option (Unit × rS) := if v2 = 0 then if s0 = 0 then jX12_findWords_107 k7 v1 v2 σ else if inB (σ.1 43 33) 600 then vS (uA σ 64 (σ.1 43 33).toNatClampNeg v1) fun σ15 => vS (uI σ15 43 33 ((σ15.1 43 33) + 1)) fun σ16 => jX12_findWords_107 k7 v1 v2 σ16 else none else jX12_findWords_107 k7 v1 v2 σ
set_option maxHeartbeats 4000000 in
theorem t_jX12_findWords_78 {G : rG} {ad : Nat → Nat} {o : (Unit × rS)} (k7 : Int32 → rS → Option (Unit × rS)) (hk7 : ∀ (v1 : Int32) (σ : rS) (h : rH), Rep G ad σ h → k7 v1 σ = some o → RW G mX12_findWords (rm 0 0 0) (qV G ad o) xN 0 0 7 [(0, .ref (ad 43)), (1, .int v1)] [] h) (v1 : Int32) (v2 : Int32) (s0 : Int32) (σ : rS) (h : rH) (hr : Rep G ad σ h) (hf : jX12_findWords_78 k7 v1 v2 s0 σ = some o) : RW G mX12_findWords (rm 0 0 0) (qV G ad o) xN 0 0 78 [(0, .ref (ad 43)), (1, .int v1), (2, .int v2)] [.int s0] h := by
  unfold jX12_findWords_78 at hf
  refine rw_istore_n (lv2 := [(3, .int s0), (0, .ref (ad 43)), (1, .int v1), (2, .int v2)]) dX12_findWords_78 rfl (by decide) rfl ?_
  refine rw_iload_n dX12_findWords_79 3 rfl rfl ?_
  refine rw_if_ne (tgt := 107) dX12_findWords_80 (by decide) (fun c12 => ?_) (fun c12 => ?_)
  · rw [if_neg c12] at hf
    refine rw_sub [1, 2, 3] rfl ?_
    exact t_jX12_findWords_107 (ad := ad) (G := G) k7 hk7 v1 v2 σ _ hr hf
  · rw [if_pos c12] at hf
    refine rw_iload_n dX12_findWords_83 0 rfl rfl ?_
    refine rw_if_eq (tgt := 107) dX12_findWords_84 (by decide) (fun c13 => ?_) (fun c13 => ?_)
    · rw [if_pos c13] at hf
      refine rw_sub [1, 2, 3] rfl ?_
      exact t_jX12_findWords_107 (ad := ad) (G := G) k7 hk7 v1 v2 σ _ hr hf
    · rw [if_neg c13] at hf
      refine rw_aload_n dX12_findWords_87 1 rfl rfl ?_
      refine sg_43_34 hr dX12_findWords_88 fl1496 ?_
      refine rw_aload_n dX12_findWords_91 1 rfl rfl ?_
      refine sg_43_33 hr dX12_findWords_92 fl1495 ?_
      refine rw_iload_n dX12_findWords_95 2 rfl rfl ?_
      obtain ⟨hi14, hf⟩ := grd hf
      refine ss_64 hr dX12_findWords_96 (inB_in hi14) (fun h hr => ?_)
      refine nmS hf hr (fun σ15 hr hf => ?_)
      refine rw_aload_n dX12_findWords_97 1 rfl rfl ?_
      refine rw_dup dX12_findWords_98 rfl ?_
      refine sg_43_33 hr dX12_findWords_99 fl1495 ?_
      refine rw_iconst (v := 1) dX12_findWords_102 (by decide) ?_
      refine rw_iadd dX12_findWords_103 ?_
      refine sp_43_33 hr dX12_findWords_104 fl1495 (fun h hr => ?_)
      refine nmS hf hr (fun σ16 hr hf => ?_)
      refine rw_sub [1, 2, 3] rfl ?_
      exact t_jX12_findWords_107 (ad := ad) (G := G) k7 hk7 v1 v2 σ16 _ hr hf
def jX12_findWords_73 (k7 : Int32 → rS → Option (Unit × rS)) (v1 : Int32) (v2 : Int32) (σ : rS) : Option (Unit × rS) := jX12_findWords_78 k7 v1 v2 1 σ
set_option maxHeartbeats 4000000 in
theorem t_jX12_findWords_73 {G : rG} {ad : Nat → Nat} {o : (Unit × rS)} (k7 : Int32 → rS → Option (Unit × rS)) (hk7 : ∀ (v1 : Int32) (σ : rS) (h : rH), Rep G ad σ h → k7 v1 σ = some o → RW G mX12_findWords (rm 0 0 0) (qV G ad o) xN 0 0 7 [(0, .ref (ad 43)), (1, .int v1)] [] h) (v1 : Int32) (v2 : Int32) (σ : rS) (h : rH) (hr : Rep G ad σ h) (hf : jX12_findWords_73 k7 v1 v2 σ = some o) : RW G mX12_findWords (rm 0 0 0) (qV G ad o) xN 0 0 73 [(0, .ref (ad 43)), (1, .int v1), (2, .int v2)] [] h := by
  unfold jX12_findWords_73 at hf
  refine rw_iconst (v := 1) dX12_findWords_73 (by decide) ?_
  refine rw_goto (tgt := 78) dX12_findWords_74 (by decide) ?_
  exact t_jX12_findWords_78 (ad := ad) (G := G) k7 hk7 v1 v2 1 σ _ hr hf
def jX12_findWords_42 (k7 : Int32 → rS → Option (Unit × rS)) (v1 : Int32) (s0 : Int32) (σ : rS) : Option (Unit × rS) := if v1 = 0 then jX12_findWords_73 k7 v1 s0 σ else if inB (v1 - 1) 600 then (if (σ.2.2.1 63 (v1 - 1).toNatClampNeg) = 32 then jX12_findWords_73 k7 v1 s0 σ else if inB (v1 - 1) 600 then (if (σ.2.2.1 63 (v1 - 1).toNatClampNeg) = 10 then jX12_findWords_73 k7 v1 s0 σ else jX12_findWords_78 k7 v1 s0 0 σ) else none) else none
set_option maxHeartbeats 4000000 in
theorem t_jX12_findWords_42 {G : rG} {ad : Nat → Nat} {o : (Unit × rS)} (k7 : Int32 → rS → Option (Unit × rS)) (hk7 : ∀ (v1 : Int32) (σ : rS) (h : rH), Rep G ad σ h → k7 v1 σ = some o → RW G mX12_findWords (rm 0 0 0) (qV G ad o) xN 0 0 7 [(0, .ref (ad 43)), (1, .int v1)] [] h) (v1 : Int32) (s0 : Int32) (σ : rS) (h : rH) (hr : Rep G ad σ h) (hf : jX12_findWords_42 k7 v1 s0 σ = some o) : RW G mX12_findWords (rm 0 0 0) (qV G ad o) xN 0 0 42 [(0, .ref (ad 43)), (1, .int v1)] [.int s0] h := by
  unfold jX12_findWords_42 at hf
  refine rw_istore_n (lv2 := [(2, .int s0), (0, .ref (ad 43)), (1, .int v1)]) dX12_findWords_42 rfl (by decide) rfl ?_
  refine rw_iload_n dX12_findWords_43 2 rfl rfl ?_
  refine rw_if_eq (tgt := 73) dX12_findWords_44 (by decide) (fun c7 => ?_) (fun c7 => ?_)
  · rw [if_pos c7] at hf
    refine rw_sub [1, 2, 0] rfl ?_
    exact t_jX12_findWords_73 (ad := ad) (G := G) k7 hk7 v1 s0 σ _ hr hf
  · rw [if_neg c7] at hf
    refine rw_aload_n dX12_findWords_47 1 rfl rfl ?_
    refine sg_43_32 hr dX12_findWords_48 fl1494 ?_
    refine rw_iload_n dX12_findWords_51 2 rfl rfl ?_
    refine rw_iconst (v := 1) dX12_findWords_52 (by decide) ?_
    refine rw_isub dX12_findWords_53 ?_
    obtain ⟨hi8, hf⟩ := grd hf
    refine sl_63 hr dX12_findWords_54 (inB_in hi8) ?_
    refine rw_bipush (v := 32) dX12_findWords_55 (by decide) ?_
    refine rw_icmp_eq (tgt := 73) dX12_findWords_57 (by decide) (fun c9 => ?_) (fun c9 => ?_)
    · rw [if_pos c9] at hf
      refine rw_sub [1, 2, 0] rfl ?_
      exact t_jX12_findWords_73 (ad := ad) (G := G) k7 hk7 v1 s0 σ _ hr hf
    · rw [if_neg c9] at hf
      refine rw_aload_n dX12_findWords_60 1 rfl rfl ?_
      refine sg_43_32 hr dX12_findWords_61 fl1494 ?_
      refine rw_iload_n dX12_findWords_64 2 rfl rfl ?_
      refine rw_iconst (v := 1) dX12_findWords_65 (by decide) ?_
      refine rw_isub dX12_findWords_66 ?_
      obtain ⟨hi10, hf⟩ := grd hf
      refine sl_63 hr dX12_findWords_67 (inB_in hi10) ?_
      refine rw_bipush (v := 10) dX12_findWords_68 (by decide) ?_
      refine rw_icmp_ne (tgt := 77) dX12_findWords_70 (by decide) (fun c11 => ?_) (fun c11 => ?_)
      · rw [if_neg c11] at hf
        refine rw_iconst (v := 0) dX12_findWords_77 (by decide) ?_
        refine rw_sub [1, 2, 0] rfl ?_
        exact t_jX12_findWords_78 (ad := ad) (G := G) k7 hk7 v1 s0 0 σ _ hr hf
      · rw [if_pos c11] at hf
        refine rw_sub [1, 2, 0] rfl ?_
        exact t_jX12_findWords_73 (ad := ad) (G := G) k7 hk7 v1 s0 σ _ hr hf
def jX12_findWords_37 (k7 : Int32 → rS → Option (Unit × rS)) (v1 : Int32) (σ : rS) : Option (Unit × rS) := jX12_findWords_42 k7 v1 1 σ
set_option maxHeartbeats 4000000 in
theorem t_jX12_findWords_37 {G : rG} {ad : Nat → Nat} {o : (Unit × rS)} (k7 : Int32 → rS → Option (Unit × rS)) (hk7 : ∀ (v1 : Int32) (σ : rS) (h : rH), Rep G ad σ h → k7 v1 σ = some o → RW G mX12_findWords (rm 0 0 0) (qV G ad o) xN 0 0 7 [(0, .ref (ad 43)), (1, .int v1)] [] h) (v1 : Int32) (σ : rS) (h : rH) (hr : Rep G ad σ h) (hf : jX12_findWords_37 k7 v1 σ = some o) : RW G mX12_findWords (rm 0 0 0) (qV G ad o) xN 0 0 37 [(0, .ref (ad 43)), (1, .int v1)] [] h := by
  unfold jX12_findWords_37 at hf
  refine rw_iconst (v := 1) dX12_findWords_37 (by decide) ?_
  refine rw_goto (tgt := 42) dX12_findWords_38 (by decide) ?_
  exact t_jX12_findWords_42 (ad := ad) (G := G) k7 hk7 v1 1 σ _ hr hf
def lX12_findWords_7  : Nat → Int32 → rS → Option (Unit × rS)
  | 0, _, _ => none
  | n + 1, v1, σ => if (σ.1 43 31) ≤ v1 then some ((), σ) else if inB v1 600 then (if (σ.2.2.1 63 v1.toNatClampNeg) = 32 then jX12_findWords_37 (lX12_findWords_7 n) v1 σ else if inB v1 600 then (if (σ.2.2.1 63 v1.toNatClampNeg) = 10 then jX12_findWords_37 (lX12_findWords_7 n) v1 σ else jX12_findWords_42 (lX12_findWords_7 n) v1 0 σ) else none) else none
set_option maxHeartbeats 4000000 in
theorem t_lX12_findWords_7 {G : rG} {ad : Nat → Nat} {o : (Unit × rS)}   : ∀ (n : Nat) (v1 : Int32) (σ : rS) (h : rH), Rep G ad σ h → lX12_findWords_7  n v1 σ = some o → RW G mX12_findWords (rm 0 0 0) (qV G ad o) xN 0 0 7 [(0, .ref (ad 43)), (1, .int v1)] [] h := by
  intro n
  induction n with
  | zero =>
    intro v1 σ h hr hf
    rw [lX12_findWords_7] at hf
    cases hf
  | succ n ih =>
    intro v1 σ h hr hf
    rw [lX12_findWords_7] at hf
    refine rw_iload_n dX12_findWords_7 1 rfl rfl ?_
    refine rw_aload_n dX12_findWords_8 0 rfl rfl ?_
    refine sg_43_31 hr dX12_findWords_9 fl1493 ?_
    refine rw_icmp_ge (tgt := 131) dX12_findWords_12 (by decide) (fun c2 => ?_) (fun c2 => ?_)
    · rw [if_pos c2] at hf
      replace hf := Option.some.inj hf
      subst hf
      exact rw_return dX12_findWords_131 rfl ⟨rfl, hr⟩ (by decide) (by decide)
    · rw [if_neg c2] at hf
      refine rw_aload_n dX12_findWords_15 0 rfl rfl ?_
      refine sg_43_32 hr dX12_findWords_16 fl1494 ?_
      refine rw_iload_n dX12_findWords_19 1 rfl rfl ?_
      obtain ⟨hi3, hf⟩ := grd hf
      refine sl_63 hr dX12_findWords_20 (inB_in hi3) ?_
      refine rw_bipush (v := 32) dX12_findWords_21 (by decide) ?_
      refine rw_icmp_eq (tgt := 37) dX12_findWords_23 (by decide) (fun c4 => ?_) (fun c4 => ?_)
      · rw [if_pos c4] at hf
        exact t_jX12_findWords_37 (ad := ad) (G := G) (lX12_findWords_7 n) ih v1 σ _ hr hf
      · rw [if_neg c4] at hf
        refine rw_aload_n dX12_findWords_26 0 rfl rfl ?_
        refine sg_43_32 hr dX12_findWords_27 fl1494 ?_
        refine rw_iload_n dX12_findWords_30 1 rfl rfl ?_
        obtain ⟨hi5, hf⟩ := grd hf
        refine sl_63 hr dX12_findWords_31 (inB_in hi5) ?_
        refine rw_bipush (v := 10) dX12_findWords_32 (by decide) ?_
        refine rw_icmp_ne (tgt := 41) dX12_findWords_34 (by decide) (fun c6 => ?_) (fun c6 => ?_)
        · rw [if_neg c6] at hf
          refine rw_iconst (v := 0) dX12_findWords_41 (by decide) ?_
          exact t_jX12_findWords_42 (ad := ad) (G := G) (lX12_findWords_7 n) ih v1 0 σ _ hr hf
        · rw [if_pos c6] at hf
          exact t_jX12_findWords_37 (ad := ad) (G := G) (lX12_findWords_7 n) ih v1 σ _ hr hf
def fX12_findWords  (σ : rS) : Option (Unit × rS) := vS (uI σ 43 33 0) fun σ1 => lX12_findWords_7 1000 0 σ1
set_option maxHeartbeats 4000000 in
theorem cmX12_findWords {G : rG} {ad : Nat → Nat}  {σ : rS} {h : rH} {o : (Unit × rS)} (hr : Rep G ad σ h) (hf : fX12_findWords  σ = some o) : rMT G mX12_findWords (rm 0 0 0) [.ref (ad 43)] h (qV G ad o) xN := by
  unfold fX12_findWords at hf
  refine rw_met (by decide +kernel) rfl (Nat.le_of_ble_eq_true rfl) ?_
  show RW G _ _ _ _ 0 0 0 [(0, .ref (ad 43))] [] h
  refine rw_aload_n dX12_findWords_0 0 rfl rfl ?_
  refine rw_iconst (v := 0) dX12_findWords_1 (by decide) ?_
  refine sp_43_33 hr dX12_findWords_2 fl1495 (fun h hr => ?_)
  refine nmS hf hr (fun σ1 hr hf => ?_)
  refine rw_iconst (v := 0) dX12_findWords_5 (by decide) ?_
  refine rw_istore_n (lv2 := [(1, .int 0), (0, .ref (ad 43))]) dX12_findWords_6 rfl (by decide) rfl ?_
  refine rw_sub [1, 0] rfl ?_
  exact t_lX12_findWords_7 (ad := ad) (G := G)  1000 0 σ1 _ hr hf
def jX12_isWord_37  (s0 : Int32) (σ : rS) : Option (Int32 × rS) := if s0 = 0 ∨ s0 = 1 then some (s0, σ) else none
set_option maxHeartbeats 4000000 in
theorem t_jX12_isWord_37 {G : rG} {ad : Nat → Nat} {o : (Int32 × rS)}   (s0 : Int32) (σ : rS) (h : rH) (hr : Rep G ad σ h) (hf : jX12_isWord_37  s0 σ = some o) : RW G mX12_isWord (rm 0 0 0) (qI G ad o) xN 0 0 37 [] [.int s0] h := by
  unfold jX12_isWord_37 at hf
  obtain ⟨hz7, hf⟩ := grd hf
  replace hf := Option.some.inj hf
  subst hf
  exact rw_zreturn dX12_isWord_37 rfl (nar_z hz7) ⟨rfl, hr⟩ (by decide) (by decide)
def jX12_isWord_36   (σ : rS) : Option (Int32 × rS) := jX12_isWord_37 0 σ
set_option maxHeartbeats 4000000 in
theorem t_jX12_isWord_36 {G : rG} {ad : Nat → Nat} {o : (Int32 × rS)}    (σ : rS) (h : rH) (hr : Rep G ad σ h) (hf : jX12_isWord_36   σ = some o) : RW G mX12_isWord (rm 0 0 0) (qI G ad o) xN 0 0 36 [] [] h := by
  unfold jX12_isWord_36 at hf
  refine rw_iconst (v := 0) dX12_isWord_36 (by decide) ?_
  exact t_jX12_isWord_37 (ad := ad) (G := G)  0 σ _ hr hf
def fX12_isWord (a0 : Int32) (a1 : Int32) (σ : rS) : Option (Int32 × rS) := if inB a0 600 then if inB a0 600 then (if ((σ.2.2.1 65 a0.toNatClampNeg) - (σ.2.2.1 64 a0.toNatClampNeg)) = 1 then if inB a0 600 then if inB (σ.2.2.1 64 a0.toNatClampNeg) 600 then (if (σ.2.2.1 63 (σ.2.2.1 64 a0.toNatClampNeg).toNatClampNeg) = a1 then jX12_isWord_37 1 σ else jX12_isWord_36 σ) else none else none else jX12_isWord_36 σ) else none else none
set_option maxHeartbeats 4000000 in
theorem cmX12_isWord {G : rG} {ad : Nat → Nat} {a0 : Int32} {a1 : Int32} {σ : rS} {h : rH} {o : (Int32 × rS)} (hr : Rep G ad σ h) (hf : fX12_isWord a0 a1 σ = some o) : rMT G mX12_isWord (rm 0 0 0) [.ref (ad 43), .int a0, .int a1] h (qI G ad o) xN := by
  unfold fX12_isWord at hf
  refine rw_met (by decide +kernel) rfl (Nat.le_of_ble_eq_true rfl) ?_
  show RW G _ _ _ _ 0 0 0 [(0, .ref (ad 43)), (1, .int a0), (2, .int a1)] [] h
  refine rw_aload_n dX12_isWord_0 0 rfl rfl ?_
  refine sg_43_35 hr dX12_isWord_1 fl1497 ?_
  refine rw_iload_n dX12_isWord_4 1 rfl rfl ?_
  obtain ⟨hi1, hf⟩ := grd hf
  refine sl_65 hr dX12_isWord_5 (inB_in hi1) ?_
  refine rw_aload_n dX12_isWord_6 0 rfl rfl ?_
  refine sg_43_34 hr dX12_isWord_7 fl1496 ?_
  refine rw_iload_n dX12_isWord_10 1 rfl rfl ?_
  obtain ⟨hi2, hf⟩ := grd hf
  refine sl_64 hr dX12_isWord_11 (inB_in hi2) ?_
  refine rw_isub dX12_isWord_12 ?_
  refine rw_iconst (v := 1) dX12_isWord_13 (by decide) ?_
  refine rw_icmp_ne (tgt := 36) dX12_isWord_14 (by decide) (fun c3 => ?_) (fun c3 => ?_)
  · rw [if_neg c3] at hf
    refine rw_sub [] rfl ?_
    exact t_jX12_isWord_36 (ad := ad) (G := G)  σ _ hr hf
  · rw [if_pos c3] at hf
    refine rw_aload_n dX12_isWord_17 0 rfl rfl ?_
    refine sg_43_32 hr dX12_isWord_18 fl1494 ?_
    refine rw_aload_n dX12_isWord_21 0 rfl rfl ?_
    refine sg_43_34 hr dX12_isWord_22 fl1496 ?_
    refine rw_iload_n dX12_isWord_25 1 rfl rfl ?_
    obtain ⟨hi4, hf⟩ := grd hf
    refine sl_64 hr dX12_isWord_26 (inB_in hi4) ?_
    obtain ⟨hi5, hf⟩ := grd hf
    refine sl_63 hr dX12_isWord_27 (inB_in hi5) ?_
    refine rw_iload_n dX12_isWord_28 2 rfl rfl ?_
    refine rw_icmp_ne (tgt := 36) dX12_isWord_29 (by decide) (fun c6 => ?_) (fun c6 => ?_)
    · rw [if_neg c6] at hf
      refine rw_sub [] rfl ?_
      exact t_jX12_isWord_36 (ad := ad) (G := G)  σ _ hr hf
    · rw [if_pos c6] at hf
      refine rw_iconst (v := 1) dX12_isWord_32 (by decide) ?_
      refine rw_goto (tgt := 37) dX12_isWord_33 (by decide) ?_
      refine rw_sub [] rfl ?_
      exact t_jX12_isWord_37 (ad := ad) (G := G)  1 σ _ hr hf
def jX12_isNumber_200  (s0 : Int32) (σ : rS) : Option (Int32 × rS) := if s0 = 0 ∨ s0 = 1 then some (s0, σ) else none
set_option maxHeartbeats 4000000 in
theorem t_jX12_isNumber_200 {G : rG} {ad : Nat → Nat} {o : (Int32 × rS)}   (s0 : Int32) (σ : rS) (h : rH) (hr : Rep G ad σ h) (hf : jX12_isNumber_200  s0 σ = some o) : RW G mX12_isNumber (rm 1 0 0) (qI G ad o) xN 0 0 200 [] [.int s0] h := by
  unfold jX12_isNumber_200 at hf
  obtain ⟨hz26, hf⟩ := grd hf
  replace hf := Option.some.inj hf
  subst hf
  exact rw_zreturn dX12_isNumber_200 rfl (nar_z hz26) ⟨rfl, hr⟩ (by decide) (by decide)
def jX12_isNumber_199   (σ : rS) : Option (Int32 × rS) := jX12_isNumber_200 0 σ
set_option maxHeartbeats 4000000 in
theorem t_jX12_isNumber_199 {G : rG} {ad : Nat → Nat} {o : (Int32 × rS)}    (σ : rS) (h : rH) (hr : Rep G ad σ h) (hf : jX12_isNumber_199   σ = some o) : RW G mX12_isNumber (rm 1 0 0) (qI G ad o) xN 0 0 199 [] [] h := by
  unfold jX12_isNumber_199 at hf
  refine rw_iconst (v := 0) dX12_isNumber_199 (by decide) ?_
  exact t_jX12_isNumber_200 (ad := ad) (G := G)  0 σ _ hr hf
def jX12_isNumber_175  (v1 : Int32) (v2 : Int32) (v3 : Int32) (v7 : Int32) (s0 : Int32) (s1 : Int32) (σ : rS) : Option (Int32 × rS) := if inB s1 600 then vS (uA σ 66 s1.toNatClampNeg s0) fun σ21 => (if v7 = 0 then jX12_isNumber_199 σ21 else if inB v1 600 then (fX12_in (σ21.2.2.1 66 v1.toNatClampNeg) v2 v3 σ21).bind fun q24 => (if q24.1 = 0 then jX12_isNumber_199 q24.2 else jX12_isNumber_200 1 q24.2) else none) else none
set_option maxHeartbeats 4000000 in
theorem t_jX12_isNumber_175 {G : rG} {ad : Nat → Nat} {o : (Int32 × rS)}   (v1 : Int32) (v2 : Int32) (v3 : Int32) (v7 : Int32) (s0 : Int32) (s1 : Int32) (σ : rS) (h : rH) (hr : Rep G ad σ h) (hf : jX12_isNumber_175  v1 v2 v3 v7 s0 s1 σ = some o) : RW G mX12_isNumber (rm 1 0 0) (qI G ad o) xN 0 0 175 [(0, .ref (ad 43)), (1, .int v1), (2, .int v2), (3, .int v3), (7, .int v7)] [.int s0, .int s1, .ref (ad 66)] h := by
  unfold jX12_isNumber_175 at hf
  obtain ⟨hi20, hf⟩ := grd hf
  refine ss_66 hr dX12_isNumber_175 (inB_in hi20) (fun h hr => ?_)
  refine nmS hf hr (fun σ21 hr hf => ?_)
  refine rw_iload dX12_isNumber_176 4 rfl ?_
  refine rw_if_eq (tgt := 199) dX12_isNumber_178 (by decide) (fun c22 => ?_) (fun c22 => ?_)
  · rw [if_pos c22] at hf
    refine rw_sub [] rfl ?_
    exact t_jX12_isNumber_199 (ad := ad) (G := G)  σ21 _ hr hf
  · rw [if_neg c22] at hf
    refine rw_aload_n dX12_isNumber_181 0 rfl rfl ?_
    refine sg_43_36 hr dX12_isNumber_182 fl1498 ?_
    refine rw_iload_n dX12_isNumber_185 1 rfl rfl ?_
    obtain ⟨hi23, hf⟩ := grd hf
    refine sl_66 hr dX12_isNumber_186 (inB_in hi23) ?_
    refine rw_iload_n dX12_isNumber_187 2 rfl rfl ?_
    refine rw_iload_n dX12_isNumber_188 3 rfl rfl ?_
    obtain ⟨q24, hq24, hf⟩ := bnd hf
    refine kS_I (ad := ad) (As := [.int (σ21.2.2.1 66 v1.toNatClampNeg), .int v2, .int v3]) (st := []) dX12_isNumber_189 calX12_in wm1612 wm1613 rfl rfl (Nat.le_of_ble_eq_true rfl) ⟨⟨by decide, by decide⟩, by decide, by decide⟩ (cmX12_in hr hq24) (fun h hr => ?_)
    refine rw_if_eq (tgt := 199) dX12_isNumber_192 (by decide) (fun c25 => ?_) (fun c25 => ?_)
    · rw [if_pos c25] at hf
      refine rw_sub [] rfl ?_
      exact t_jX12_isNumber_199 (ad := ad) (G := G)  q24.2 _ hr hf
    · rw [if_neg c25] at hf
      refine rw_iconst (v := 1) dX12_isNumber_195 (by decide) ?_
      refine rw_goto (tgt := 200) dX12_isNumber_196 (by decide) ?_
      refine rw_sub [] rfl ?_
      exact t_jX12_isNumber_200 (ad := ad) (G := G)  1 q24.2 _ hr hf
def jX12_isNumber_157  (v1 : Int32) (v2 : Int32) (v3 : Int32) (v5 : Int32) (v7 : Int32) (v8 : Int32) (σ : rS) : Option (Int32 × rS) := if v5 = 0 then jX12_isNumber_175 v1 v2 v3 v7 v8 v1 σ else jX12_isNumber_175 v1 v2 v3 v7 (-v8) v1 σ
set_option maxHeartbeats 4000000 in
theorem t_jX12_isNumber_157 {G : rG} {ad : Nat → Nat} {o : (Int32 × rS)}   (v1 : Int32) (v2 : Int32) (v3 : Int32) (v5 : Int32) (v7 : Int32) (v8 : Int32) (σ : rS) (h : rH) (hr : Rep G ad σ h) (hf : jX12_isNumber_157  v1 v2 v3 v5 v7 v8 σ = some o) : RW G mX12_isNumber (rm 1 0 0) (qI G ad o) xN 0 0 157 [(0, .ref (ad 43)), (1, .int v1), (2, .int v2), (3, .int v3), (5, .int v5), (7, .int v7), (8, .int v8)] [] h := by
  unfold jX12_isNumber_157 at hf
  refine rw_aload_n dX12_isNumber_157 0 rfl rfl ?_
  refine sg_43_36 hr dX12_isNumber_158 fl1498 ?_
  refine rw_iload_n dX12_isNumber_161 1 rfl rfl ?_
  refine rw_iload dX12_isNumber_162 4 rfl ?_
  refine rw_if_eq (tgt := 173) dX12_isNumber_164 (by decide) (fun c19 => ?_) (fun c19 => ?_)
  · rw [if_pos c19] at hf
    refine rw_iload dX12_isNumber_173 6 rfl ?_
    refine rw_sub [0, 1, 2, 3, 5] rfl ?_
    exact t_jX12_isNumber_175 (ad := ad) (G := G)  v1 v2 v3 v7 v8 v1 σ _ hr hf
  · rw [if_neg c19] at hf
    refine rw_iload dX12_isNumber_167 6 rfl ?_
    refine rw_ineg dX12_isNumber_169 ?_
    refine rw_goto (tgt := 175) dX12_isNumber_170 (by decide) ?_
    refine rw_sub [0, 1, 2, 3, 5] rfl ?_
    exact t_jX12_isNumber_175 (ad := ad) (G := G)  v1 v2 v3 v7 (-v8) v1 σ _ hr hf
def jX12_isNumber_131 (k86 : Int32 → Int32 → Int32 → Int32 → Int32 → Int32 → Int32 → rS → Option (Int32 × rS)) (v1 : Int32) (v2 : Int32) (v3 : Int32) (v5 : Int32) (v8 : Int32) (v9 : Int32) (s0 : Int32) (σ : rS) : Option (Int32 × rS) := if inB v9 600 then vI (((10 * v8) + (σ.2.2.1 63 v9.toNatClampNeg)) - 48) fun x28 => vI (v9 + 1) fun x29 => k86 v1 v2 v3 v5 s0 x28 x29 σ else none
set_option maxHeartbeats 4000000 in
theorem t_jX12_isNumber_131 {G : rG} {ad : Nat → Nat} {o : (Int32 × rS)} (k86 : Int32 → Int32 → Int32 → Int32 → Int32 → Int32 → Int32 → rS → Option (Int32 × rS)) (hk86 : ∀ (v1 : Int32) (v2 : Int32) (v3 : Int32) (v5 : Int32) (v7 : Int32) (v8 : Int32) (v9 : Int32) (σ : rS) (h : rH), Rep G ad σ h → k86 v1 v2 v3 v5 v7 v8 v9 σ = some o → RW G mX12_isNumber (rm 1 0 0) (qI G ad o) xN 0 0 86 [(0, .ref (ad 43)), (1, .int v1), (2, .int v2), (3, .int v3), (5, .int v5), (7, .int v7), (8, .int v8), (9, .int v9)] [] h) (v1 : Int32) (v2 : Int32) (v3 : Int32) (v5 : Int32) (v8 : Int32) (v9 : Int32) (s0 : Int32) (σ : rS) (h : rH) (hr : Rep G ad σ h) (hf : jX12_isNumber_131 k86 v1 v2 v3 v5 v8 v9 s0 σ = some o) : RW G mX12_isNumber (rm 1 0 0) (qI G ad o) xN 0 0 131 [(0, .ref (ad 43)), (1, .int v1), (2, .int v2), (3, .int v3), (5, .int v5), (8, .int v8), (9, .int v9)] [.int s0] h := by
  unfold jX12_isNumber_131 at hf
  refine rw_istore (lv2 := [(7, .int s0), (0, .ref (ad 43)), (1, .int v1), (2, .int v2), (3, .int v3), (5, .int v5), (8, .int v8), (9, .int v9)]) dX12_isNumber_131 (by decide) rfl ?_
  refine rw_bipush (v := 10) dX12_isNumber_133 (by decide) ?_
  refine rw_iload dX12_isNumber_135 6 rfl ?_
  refine rw_imul dX12_isNumber_137 ?_
  refine rw_aload_n dX12_isNumber_138 1 rfl rfl ?_
  refine sg_43_32 hr dX12_isNumber_139 fl1494 ?_
  refine rw_iload dX12_isNumber_142 7 rfl ?_
  obtain ⟨hi27, hf⟩ := grd hf
  refine sl_63 hr dX12_isNumber_144 (inB_in hi27) ?_
  refine rw_iadd dX12_isNumber_145 ?_
  refine rw_bipush (v := 48) dX12_isNumber_146 (by decide) ?_
  refine rw_isub dX12_isNumber_148 ?_
  refine nmI hf (fun x28 hf => ?_)
  refine rw_istore (lv2 := [(8, .int x28), (7, .int s0), (0, .ref (ad 43)), (1, .int v1), (2, .int v2), (3, .int v3), (5, .int v5), (9, .int v9)]) dX12_isNumber_149 (by decide) rfl ?_
  refine rw_iinc (v := v9 + 1) (lv2 := [(9, .int (v9 + 1)), (8, .int x28), (7, .int s0), (0, .ref (ad 43)), (1, .int v1), (2, .int v2), (3, .int v3), (5, .int v5)]) dX12_isNumber_151 7 rfl rfl (by decide) rfl ?_
  refine nmL hf (fun x29 hf => ?_)
  refine rw_goto (tgt := 86) dX12_isNumber_154 (by decide) ?_
  refine rw_sub [3, 4, 5, 6, 7, 2, 1, 0] rfl ?_
  exact hk86 v1 v2 v3 v5 s0 x28 x29 σ _ hr hf
def jX12_isNumber_130 (k86 : Int32 → Int32 → Int32 → Int32 → Int32 → Int32 → Int32 → rS → Option (Int32 × rS)) (v1 : Int32) (v2 : Int32) (v3 : Int32) (v5 : Int32) (v8 : Int32) (v9 : Int32) (σ : rS) : Option (Int32 × rS) := jX12_isNumber_131 k86 v1 v2 v3 v5 v8 v9 0 σ
set_option maxHeartbeats 4000000 in
theorem t_jX12_isNumber_130 {G : rG} {ad : Nat → Nat} {o : (Int32 × rS)} (k86 : Int32 → Int32 → Int32 → Int32 → Int32 → Int32 → Int32 → rS → Option (Int32 × rS)) (hk86 : ∀ (v1 : Int32) (v2 : Int32) (v3 : Int32) (v5 : Int32) (v7 : Int32) (v8 : Int32) (v9 : Int32) (σ : rS) (h : rH), Rep G ad σ h → k86 v1 v2 v3 v5 v7 v8 v9 σ = some o → RW G mX12_isNumber (rm 1 0 0) (qI G ad o) xN 0 0 86 [(0, .ref (ad 43)), (1, .int v1), (2, .int v2), (3, .int v3), (5, .int v5), (7, .int v7), (8, .int v8), (9, .int v9)] [] h) (v1 : Int32) (v2 : Int32) (v3 : Int32) (v5 : Int32) (v8 : Int32) (v9 : Int32) (σ : rS) (h : rH) (hr : Rep G ad σ h) (hf : jX12_isNumber_130 k86 v1 v2 v3 v5 v8 v9 σ = some o) : RW G mX12_isNumber (rm 1 0 0) (qI G ad o) xN 0 0 130 [(0, .ref (ad 43)), (1, .int v1), (2, .int v2), (3, .int v3), (5, .int v5), (8, .int v8), (9, .int v9)] [] h := by
  unfold jX12_isNumber_130 at hf
  refine rw_iconst (v := 0) dX12_isNumber_130 (by decide) ?_
  exact t_jX12_isNumber_131 (ad := ad) (G := G) k86 hk86 v1 v2 v3 v5 v8 v9 0 σ _ hr hf
def lX12_isNumber_86  : Nat → Int32 → Int32 → Int32 → Int32 → Int32 → Int32 → Int32 → rS → Option (Int32 × rS)
  | 0, _, _, _, _, _, _, _, _ => none
  | n + 1, v1, v2, v3, v5, v7, v8, v9, σ => if inB v1 600 then (if (σ.2.2.1 65 v1.toNatClampNeg) ≤ v9 then jX12_isNumber_157 v1 v2 v3 v5 v7 v8 σ else if v7 = 0 then jX12_isNumber_157 v1 v2 v3 v5 v7 v8 σ else if inB v9 600 then (if (σ.2.2.1 63 v9.toNatClampNeg) < 48 then jX12_isNumber_130 (lX12_isNumber_86 n) v1 v2 v3 v5 v8 v9 σ else if inB v9 600 then (if 57 < (σ.2.2.1 63 v9.toNatClampNeg) then jX12_isNumber_130 (lX12_isNumber_86 n) v1 v2 v3 v5 v8 v9 σ else jX12_isNumber_131 (lX12_isNumber_86 n) v1 v2 v3 v5 v8 v9 1 σ) else none) else none) else none
set_option maxHeartbeats 4000000 in
theorem t_lX12_isNumber_86 {G : rG} {ad : Nat → Nat} {o : (Int32 × rS)}   : ∀ (n : Nat) (v1 : Int32) (v2 : Int32) (v3 : Int32) (v5 : Int32) (v7 : Int32) (v8 : Int32) (v9 : Int32) (σ : rS) (h : rH), Rep G ad σ h → lX12_isNumber_86  n v1 v2 v3 v5 v7 v8 v9 σ = some o → RW G mX12_isNumber (rm 1 0 0) (qI G ad o) xN 0 0 86 [(0, .ref (ad 43)), (1, .int v1), (2, .int v2), (3, .int v3), (5, .int v5), (7, .int v7), (8, .int v8), (9, .int v9)] [] h := by
  intro n
  induction n with
  | zero =>
    intro v1 v2 v3 v5 v7 v8 v9 σ h hr hf
    rw [lX12_isNumber_86] at hf
    cases hf
  | succ n ih =>
    intro v1 v2 v3 v5 v7 v8 v9 σ h hr hf
    rw [lX12_isNumber_86] at hf
    refine rw_iload dX12_isNumber_86 7 rfl ?_
    refine rw_aload_n dX12_isNumber_88 0 rfl rfl ?_
    refine sg_43_35 hr dX12_isNumber_89 fl1497 ?_
    refine rw_iload_n dX12_isNumber_92 1 rfl rfl ?_
    obtain ⟨hi12, hf⟩ := grd hf
    refine sl_65 hr dX12_isNumber_93 (inB_in hi12) ?_
    refine rw_icmp_ge (tgt := 157) dX12_isNumber_94 (by decide) (fun c13 => ?_) (fun c13 => ?_)
    · rw [if_pos c13] at hf
      refine rw_sub [0, 1, 2, 3, 4, 5, 6] rfl ?_
      exact t_jX12_isNumber_157 (ad := ad) (G := G)  v1 v2 v3 v5 v7 v8 σ _ hr hf
    · rw [if_neg c13] at hf
      refine rw_iload dX12_isNumber_97 5 rfl ?_
      refine rw_if_eq (tgt := 157) dX12_isNumber_99 (by decide) (fun c14 => ?_) (fun c14 => ?_)
      · rw [if_pos c14] at hf
        refine rw_sub [0, 1, 2, 3, 4, 5, 6] rfl ?_
        exact t_jX12_isNumber_157 (ad := ad) (G := G)  v1 v2 v3 v5 v7 v8 σ _ hr hf
      · rw [if_neg c14] at hf
        refine rw_aload_n dX12_isNumber_102 0 rfl rfl ?_
        refine sg_43_32 hr dX12_isNumber_103 fl1494 ?_
        refine rw_iload dX12_isNumber_106 7 rfl ?_
        obtain ⟨hi15, hf⟩ := grd hf
        refine sl_63 hr dX12_isNumber_108 (inB_in hi15) ?_
        refine rw_bipush (v := 48) dX12_isNumber_109 (by decide) ?_
        refine rw_icmp_lt (tgt := 130) dX12_isNumber_111 (by decide) (fun c16 => ?_) (fun c16 => ?_)
        · rw [if_pos c16] at hf
          refine rw_sub [0, 1, 2, 3, 4, 6, 7] rfl ?_
          exact t_jX12_isNumber_130 (ad := ad) (G := G) (lX12_isNumber_86 n) ih v1 v2 v3 v5 v8 v9 σ _ hr hf
        · rw [if_neg c16] at hf
          refine rw_aload_n dX12_isNumber_114 0 rfl rfl ?_
          refine sg_43_32 hr dX12_isNumber_115 fl1494 ?_
          refine rw_iload dX12_isNumber_118 7 rfl ?_
          obtain ⟨hi17, hf⟩ := grd hf
          refine sl_63 hr dX12_isNumber_120 (inB_in hi17) ?_
          refine rw_bipush (v := 57) dX12_isNumber_121 (by decide) ?_
          refine rw_icmp_gt (tgt := 130) dX12_isNumber_123 (by decide) (fun c18 => ?_) (fun c18 => ?_)
          · rw [if_pos c18] at hf
            refine rw_sub [0, 1, 2, 3, 4, 6, 7] rfl ?_
            exact t_jX12_isNumber_130 (ad := ad) (G := G) (lX12_isNumber_86 n) ih v1 v2 v3 v5 v8 v9 σ _ hr hf
          · rw [if_neg c18] at hf
            refine rw_iconst (v := 1) dX12_isNumber_126 (by decide) ?_
            refine rw_goto (tgt := 131) dX12_isNumber_127 (by decide) ?_
            refine rw_sub [0, 1, 2, 3, 4, 6, 7] rfl ?_
            exact t_jX12_isNumber_131 (ad := ad) (G := G) (lX12_isNumber_86 n) ih v1 v2 v3 v5 v8 v9 1 σ _ hr hf
def jX12_isNumber_83  (v1 : Int32) (v2 : Int32) (v3 : Int32) (v5 : Int32) (v7 : Int32) (v8 : Int32) (s0 : Int32) (s1 : Int32) (σ : rS) : Option (Int32 × rS) := vI (s1 + s0) fun x11 => lX12_isNumber_86 1000 v1 v2 v3 v5 v7 v8 x11 σ
set_option maxHeartbeats 4000000 in
theorem t_jX12_isNumber_83 {G : rG} {ad : Nat → Nat} {o : (Int32 × rS)}   (v1 : Int32) (v2 : Int32) (v3 : Int32) (v5 : Int32) (v7 : Int32) (v8 : Int32) (s0 : Int32) (s1 : Int32) (σ : rS) (h : rH) (hr : Rep G ad σ h) (hf : jX12_isNumber_83  v1 v2 v3 v5 v7 v8 s0 s1 σ = some o) : RW G mX12_isNumber (rm 1 0 0) (qI G ad o) xN 0 0 83 [(0, .ref (ad 43)), (1, .int v1), (2, .int v2), (3, .int v3), (5, .int v5), (7, .int v7), (8, .int v8)] [.int s0, .int s1] h := by
  unfold jX12_isNumber_83 at hf
  refine rw_iadd dX12_isNumber_83 ?_
  refine nmI hf (fun x11 hf => ?_)
  refine rw_istore (lv2 := [(9, .int x11), (0, .ref (ad 43)), (1, .int v1), (2, .int v2), (3, .int v3), (5, .int v5), (7, .int v7), (8, .int v8)]) dX12_isNumber_84 (by decide) rfl ?_
  refine rw_sub [1, 2, 3, 4, 5, 6, 7, 0] rfl ?_
  exact t_lX12_isNumber_86 (ad := ad) (G := G)  1000 v1 v2 v3 v5 v7 v8 x11 σ _ hr hf
def jX12_isNumber_66  (v1 : Int32) (v2 : Int32) (v3 : Int32) (v4 : Int32) (v5 : Int32) (s0 : Int32) (σ : rS) : Option (Int32 × rS) := if v5 = 0 then jX12_isNumber_83 v1 v2 v3 v5 s0 0 0 v4 σ else jX12_isNumber_83 v1 v2 v3 v5 s0 0 1 v4 σ
set_option maxHeartbeats 4000000 in
theorem t_jX12_isNumber_66 {G : rG} {ad : Nat → Nat} {o : (Int32 × rS)}   (v1 : Int32) (v2 : Int32) (v3 : Int32) (v4 : Int32) (v5 : Int32) (s0 : Int32) (σ : rS) (h : rH) (hr : Rep G ad σ h) (hf : jX12_isNumber_66  v1 v2 v3 v4 v5 s0 σ = some o) : RW G mX12_isNumber (rm 1 0 0) (qI G ad o) xN 0 0 66 [(0, .ref (ad 43)), (1, .int v1), (2, .int v2), (3, .int v3), (4, .int v4), (5, .int v5)] [.int s0] h := by
  unfold jX12_isNumber_66 at hf
  refine rw_istore (lv2 := [(7, .int s0), (0, .ref (ad 43)), (1, .int v1), (2, .int v2), (3, .int v3), (4, .int v4), (5, .int v5)]) dX12_isNumber_66 (by decide) rfl ?_
  refine rw_iconst (v := 0) dX12_isNumber_68 (by decide) ?_
  refine rw_istore (lv2 := [(8, .int 0), (7, .int s0), (0, .ref (ad 43)), (1, .int v1), (2, .int v2), (3, .int v3), (4, .int v4), (5, .int v5)]) dX12_isNumber_69 (by decide) rfl ?_
  refine rw_iload dX12_isNumber_71 6 rfl ?_
  refine rw_iload dX12_isNumber_73 7 rfl ?_
  refine rw_if_eq (tgt := 82) dX12_isNumber_75 (by decide) (fun c10 => ?_) (fun c10 => ?_)
  · rw [if_pos c10] at hf
    refine rw_iconst (v := 0) dX12_isNumber_82 (by decide) ?_
    refine rw_sub [2, 3, 4, 5, 7, 1, 0] rfl ?_
    exact t_jX12_isNumber_83 (ad := ad) (G := G)  v1 v2 v3 v5 s0 0 0 v4 σ _ hr hf
  · rw [if_neg c10] at hf
    refine rw_iconst (v := 1) dX12_isNumber_78 (by decide) ?_
    refine rw_goto (tgt := 83) dX12_isNumber_79 (by decide) ?_
    refine rw_sub [2, 3, 4, 5, 7, 1, 0] rfl ?_
    exact t_jX12_isNumber_83 (ad := ad) (G := G)  v1 v2 v3 v5 s0 0 1 v4 σ _ hr hf
def jX12_isNumber_65  (v1 : Int32) (v2 : Int32) (v3 : Int32) (v4 : Int32) (v5 : Int32) (σ : rS) : Option (Int32 × rS) := jX12_isNumber_66 v1 v2 v3 v4 v5 0 σ
set_option maxHeartbeats 4000000 in
theorem t_jX12_isNumber_65 {G : rG} {ad : Nat → Nat} {o : (Int32 × rS)}   (v1 : Int32) (v2 : Int32) (v3 : Int32) (v4 : Int32) (v5 : Int32) (σ : rS) (h : rH) (hr : Rep G ad σ h) (hf : jX12_isNumber_65  v1 v2 v3 v4 v5 σ = some o) : RW G mX12_isNumber (rm 1 0 0) (qI G ad o) xN 0 0 65 [(0, .ref (ad 43)), (1, .int v1), (2, .int v2), (3, .int v3), (4, .int v4), (5, .int v5)] [] h := by
  unfold jX12_isNumber_65 at hf
  refine rw_iconst (v := 0) dX12_isNumber_65 (by decide) ?_
  exact t_jX12_isNumber_66 (ad := ad) (G := G)  v1 v2 v3 v4 v5 0 σ _ hr hf
def jX12_isNumber_46  (v1 : Int32) (v2 : Int32) (v3 : Int32) (v4 : Int32) (v5 : Int32) (s0 : Int32) (s1 : Int32) (σ : rS) : Option (Int32 × rS) := vI (s1 - s0) fun x7 => if x7 ≤ 0 then jX12_isNumber_65 v1 v2 v3 v4 v5 σ else if 7 ≤ x7 then jX12_isNumber_65 v1 v2 v3 v4 v5 σ else jX12_isNumber_66 v1 v2 v3 v4 v5 1 σ
set_option maxHeartbeats 4000000 in
theorem t_jX12_isNumber_46 {G : rG} {ad : Nat → Nat} {o : (Int32 × rS)}   (v1 : Int32) (v2 : Int32) (v3 : Int32) (v4 : Int32) (v5 : Int32) (s0 : Int32) (s1 : Int32) (σ : rS) (h : rH) (hr : Rep G ad σ h) (hf : jX12_isNumber_46  v1 v2 v3 v4 v5 s0 s1 σ = some o) : RW G mX12_isNumber (rm 1 0 0) (qI G ad o) xN 0 0 46 [(0, .ref (ad 43)), (1, .int v1), (2, .int v2), (3, .int v3), (4, .int v4), (5, .int v5)] [.int s0, .int s1] h := by
  unfold jX12_isNumber_46 at hf
  refine rw_isub dX12_isNumber_46 ?_
  refine nmI hf (fun x7 hf => ?_)
  refine rw_istore (lv2 := [(6, .int x7), (0, .ref (ad 43)), (1, .int v1), (2, .int v2), (3, .int v3), (4, .int v4), (5, .int v5)]) dX12_isNumber_47 (by decide) rfl ?_
  refine rw_iload dX12_isNumber_49 0 rfl ?_
  refine rw_if_le (tgt := 65) dX12_isNumber_51 (by decide) (fun c8 => ?_) (fun c8 => ?_)
  · rw [if_pos c8] at hf
    refine rw_sub [1, 2, 3, 4, 5, 6] rfl ?_
    exact t_jX12_isNumber_65 (ad := ad) (G := G)  v1 v2 v3 v4 v5 σ _ hr hf
  · rw [if_neg c8] at hf
    refine rw_iload dX12_isNumber_54 0 rfl ?_
    refine rw_bipush (v := 7) dX12_isNumber_56 (by decide) ?_
    refine rw_icmp_ge (tgt := 65) dX12_isNumber_58 (by decide) (fun c9 => ?_) (fun c9 => ?_)
    · rw [if_pos c9] at hf
      refine rw_sub [1, 2, 3, 4, 5, 6] rfl ?_
      exact t_jX12_isNumber_65 (ad := ad) (G := G)  v1 v2 v3 v4 v5 σ _ hr hf
    · rw [if_neg c9] at hf
      refine rw_iconst (v := 1) dX12_isNumber_61 (by decide) ?_
      refine rw_goto (tgt := 66) dX12_isNumber_62 (by decide) ?_
      refine rw_sub [1, 2, 3, 4, 5, 6] rfl ?_
      exact t_jX12_isNumber_66 (ad := ad) (G := G)  v1 v2 v3 v4 v5 1 σ _ hr hf
def jX12_isNumber_25  (v1 : Int32) (v2 : Int32) (v3 : Int32) (v4 : Int32) (s0 : Int32) (σ : rS) : Option (Int32 × rS) := if inB v1 600 then (if s0 = 0 then jX12_isNumber_46 v1 v2 v3 v4 s0 0 ((σ.2.2.1 65 v1.toNatClampNeg) - v4) σ else jX12_isNumber_46 v1 v2 v3 v4 s0 1 ((σ.2.2.1 65 v1.toNatClampNeg) - v4) σ) else none
set_option maxHeartbeats 4000000 in
theorem t_jX12_isNumber_25 {G : rG} {ad : Nat → Nat} {o : (Int32 × rS)}   (v1 : Int32) (v2 : Int32) (v3 : Int32) (v4 : Int32) (s0 : Int32) (σ : rS) (h : rH) (hr : Rep G ad σ h) (hf : jX12_isNumber_25  v1 v2 v3 v4 s0 σ = some o) : RW G mX12_isNumber (rm 1 0 0) (qI G ad o) xN 0 0 25 [(0, .ref (ad 43)), (1, .int v1), (2, .int v2), (3, .int v3), (4, .int v4)] [.int s0] h := by
  unfold jX12_isNumber_25 at hf
  refine rw_istore (lv2 := [(5, .int s0), (0, .ref (ad 43)), (1, .int v1), (2, .int v2), (3, .int v3), (4, .int v4)]) dX12_isNumber_25 (by decide) rfl ?_
  refine rw_aload_n dX12_isNumber_27 1 rfl rfl ?_
  refine sg_43_35 hr dX12_isNumber_28 fl1497 ?_
  refine rw_iload_n dX12_isNumber_31 2 rfl rfl ?_
  obtain ⟨hi5, hf⟩ := grd hf
  refine sl_65 hr dX12_isNumber_32 (inB_in hi5) ?_
  refine rw_iload dX12_isNumber_33 5 rfl ?_
  refine rw_isub dX12_isNumber_35 ?_
  refine rw_iload dX12_isNumber_36 0 rfl ?_
  refine rw_if_eq (tgt := 45) dX12_isNumber_38 (by decide) (fun c6 => ?_) (fun c6 => ?_)
  · rw [if_pos c6] at hf
    refine rw_iconst (v := 0) dX12_isNumber_45 (by decide) ?_
    refine rw_sub [1, 2, 3, 4, 5, 0] rfl ?_
    exact t_jX12_isNumber_46 (ad := ad) (G := G)  v1 v2 v3 v4 s0 0 ((σ.2.2.1 65 v1.toNatClampNeg) - v4) σ _ hr hf
  · rw [if_neg c6] at hf
    refine rw_iconst (v := 1) dX12_isNumber_41 (by decide) ?_
    refine rw_goto (tgt := 46) dX12_isNumber_42 (by decide) ?_
    refine rw_sub [1, 2, 3, 4, 5, 0] rfl ?_
    exact t_jX12_isNumber_46 (ad := ad) (G := G)  v1 v2 v3 v4 s0 1 ((σ.2.2.1 65 v1.toNatClampNeg) - v4) σ _ hr hf
def fX12_isNumber (a0 : Int32) (a1 : Int32) (a2 : Int32) (σ : rS) : Option (Int32 × rS) := if inB a0 600 then vI (σ.2.2.1 64 a0.toNatClampNeg) fun x2 => if inB x2 600 then (if (σ.2.2.1 63 x2.toNatClampNeg) = 45 then jX12_isNumber_25 a0 a1 a2 x2 1 σ else jX12_isNumber_25 a0 a1 a2 x2 0 σ) else none else none
set_option maxHeartbeats 4000000 in
theorem cmX12_isNumber {G : rG} {ad : Nat → Nat} {a0 : Int32} {a1 : Int32} {a2 : Int32} {σ : rS} {h : rH} {o : (Int32 × rS)} (hr : Rep G ad σ h) (hf : fX12_isNumber a0 a1 a2 σ = some o) : rMT G mX12_isNumber (rm 1 0 0) [.ref (ad 43), .int a0, .int a1, .int a2] h (qI G ad o) xN := by
  unfold fX12_isNumber at hf
  refine rw_met (by decide +kernel) rfl (Nat.le_of_ble_eq_true rfl) ?_
  show RW G _ _ _ _ 0 0 0 [(0, .ref (ad 43)), (1, .int a0), (2, .int a1), (3, .int a2)] [] h
  refine rw_aload_n dX12_isNumber_0 0 rfl rfl ?_
  refine sg_43_34 hr dX12_isNumber_1 fl1496 ?_
  refine rw_iload_n dX12_isNumber_4 1 rfl rfl ?_
  obtain ⟨hi1, hf⟩ := grd hf
  refine sl_64 hr dX12_isNumber_5 (inB_in hi1) ?_
  refine nmI hf (fun x2 hf => ?_)
  refine rw_istore (lv2 := [(4, .int x2), (0, .ref (ad 43)), (1, .int a0), (2, .int a1), (3, .int a2)]) dX12_isNumber_6 (by decide) rfl ?_
  refine rw_aload_n dX12_isNumber_8 1 rfl rfl ?_
  refine sg_43_32 hr dX12_isNumber_9 fl1494 ?_
  refine rw_iload dX12_isNumber_12 0 rfl ?_
  obtain ⟨hi3, hf⟩ := grd hf
  refine sl_63 hr dX12_isNumber_14 (inB_in hi3) ?_
  refine rw_bipush (v := 45) dX12_isNumber_15 (by decide) ?_
  refine rw_icmp_ne (tgt := 24) dX12_isNumber_17 (by decide) (fun c4 => ?_) (fun c4 => ?_)
  · rw [if_neg c4] at hf
    refine rw_iconst (v := 0) dX12_isNumber_24 (by decide) ?_
    refine rw_sub [1, 2, 3, 4, 0] rfl ?_
    exact t_jX12_isNumber_25 (ad := ad) (G := G)  a0 a1 a2 x2 0 σ _ hr hf
  · rw [if_pos c4] at hf
    refine rw_iconst (v := 1) dX12_isNumber_20 (by decide) ?_
    refine rw_goto (tgt := 25) dX12_isNumber_21 (by decide) ?_
    refine rw_sub [1, 2, 3, 4, 0] rfl ?_
    exact t_jX12_isNumber_25 (ad := ad) (G := G)  a0 a1 a2 x2 1 σ _ hr hf
def jX12_isNewPlace_58 (k18 : Int32 → Int32 → Int32 → Int32 → rS → Option (Int32 × rS)) (v1 : Int32) (v2 : Int32) (v4 : Int32) (s0 : Int32) (σ : rS) : Option (Int32 × rS) := vI (v4 + 1) fun x10 => k18 v1 v2 s0 x10 σ
set_option maxHeartbeats 4000000 in
theorem t_jX12_isNewPlace_58 {G : rG} {ad : Nat → Nat} {o : (Int32 × rS)} (k18 : Int32 → Int32 → Int32 → Int32 → rS → Option (Int32 × rS)) (hk18 : ∀ (v1 : Int32) (v2 : Int32) (v3 : Int32) (v4 : Int32) (σ : rS) (h : rH), Rep G ad σ h → k18 v1 v2 v3 v4 σ = some o → RW G mX12_isNewPlace (rm 1 0 0) (qI G ad o) xN 0 0 18 [(0, .ref (ad 43)), (1, .int v1), (2, .int v2), (3, .int v3), (4, .int v4)] [] h) (v1 : Int32) (v2 : Int32) (v4 : Int32) (s0 : Int32) (σ : rS) (h : rH) (hr : Rep G ad σ h) (hf : jX12_isNewPlace_58 k18 v1 v2 v4 s0 σ = some o) : RW G mX12_isNewPlace (rm 1 0 0) (qI G ad o) xN 0 0 58 [(0, .ref (ad 43)), (1, .int v1), (2, .int v2), (4, .int v4)] [.int s0] h := by
  unfold jX12_isNewPlace_58 at hf
  refine rw_istore_n (lv2 := [(3, .int s0), (0, .ref (ad 43)), (1, .int v1), (2, .int v2), (4, .int v4)]) dX12_isNewPlace_58 rfl (by decide) rfl ?_
  refine rw_iinc (v := v4 + 1) (lv2 := [(4, .int (v4 + 1)), (3, .int s0), (0, .ref (ad 43)), (1, .int v1), (2, .int v2)]) dX12_isNewPlace_59 4 rfl rfl (by decide) rfl ?_
  refine nmL hf (fun x10 hf => ?_)
  refine rw_goto (tgt := 18) dX12_isNewPlace_62 (by decide) ?_
  refine rw_sub [2, 3, 4, 1, 0] rfl ?_
  exact hk18 v1 v2 s0 x10 σ _ hr hf
def jX12_isNewPlace_57 (k18 : Int32 → Int32 → Int32 → Int32 → rS → Option (Int32 × rS)) (v1 : Int32) (v2 : Int32) (v4 : Int32) (σ : rS) : Option (Int32 × rS) := jX12_isNewPlace_58 k18 v1 v2 v4 0 σ
set_option maxHeartbeats 4000000 in
theorem t_jX12_isNewPlace_57 {G : rG} {ad : Nat → Nat} {o : (Int32 × rS)} (k18 : Int32 → Int32 → Int32 → Int32 → rS → Option (Int32 × rS)) (hk18 : ∀ (v1 : Int32) (v2 : Int32) (v3 : Int32) (v4 : Int32) (σ : rS) (h : rH), Rep G ad σ h → k18 v1 v2 v3 v4 σ = some o → RW G mX12_isNewPlace (rm 1 0 0) (qI G ad o) xN 0 0 18 [(0, .ref (ad 43)), (1, .int v1), (2, .int v2), (3, .int v3), (4, .int v4)] [] h) (v1 : Int32) (v2 : Int32) (v4 : Int32) (σ : rS) (h : rH) (hr : Rep G ad σ h) (hf : jX12_isNewPlace_57 k18 v1 v2 v4 σ = some o) : RW G mX12_isNewPlace (rm 1 0 0) (qI G ad o) xN 0 0 57 [(0, .ref (ad 43)), (1, .int v1), (2, .int v2), (4, .int v4)] [] h := by
  unfold jX12_isNewPlace_57 at hf
  refine rw_iconst (v := 0) dX12_isNewPlace_57 (by decide) ?_
  exact t_jX12_isNewPlace_58 (ad := ad) (G := G) k18 hk18 v1 v2 v4 0 σ _ hr hf
def jX12_isNewPlace_53 (k18 : Int32 → Int32 → Int32 → Int32 → rS → Option (Int32 × rS)) (v1 : Int32) (v2 : Int32) (v4 : Int32) (σ : rS) : Option (Int32 × rS) := jX12_isNewPlace_58 k18 v1 v2 v4 1 σ
set_option maxHeartbeats 4000000 in
theorem t_jX12_isNewPlace_53 {G : rG} {ad : Nat → Nat} {o : (Int32 × rS)} (k18 : Int32 → Int32 → Int32 → Int32 → rS → Option (Int32 × rS)) (hk18 : ∀ (v1 : Int32) (v2 : Int32) (v3 : Int32) (v4 : Int32) (σ : rS) (h : rH), Rep G ad σ h → k18 v1 v2 v3 v4 σ = some o → RW G mX12_isNewPlace (rm 1 0 0) (qI G ad o) xN 0 0 18 [(0, .ref (ad 43)), (1, .int v1), (2, .int v2), (3, .int v3), (4, .int v4)] [] h) (v1 : Int32) (v2 : Int32) (v4 : Int32) (σ : rS) (h : rH) (hr : Rep G ad σ h) (hf : jX12_isNewPlace_53 k18 v1 v2 v4 σ = some o) : RW G mX12_isNewPlace (rm 1 0 0) (qI G ad o) xN 0 0 53 [(0, .ref (ad 43)), (1, .int v1), (2, .int v2), (4, .int v4)] [] h := by
  unfold jX12_isNewPlace_53 at hf
  refine rw_iconst (v := 1) dX12_isNewPlace_53 (by decide) ?_
  refine rw_goto (tgt := 58) dX12_isNewPlace_54 (by decide) ?_
  exact t_jX12_isNewPlace_58 (ad := ad) (G := G) k18 hk18 v1 v2 v4 1 σ _ hr hf
def lX12_isNewPlace_18  : Nat → Int32 → Int32 → Int32 → Int32 → rS → Option (Int32 × rS)
  | 0, _, _, _, _, _ => none
  | n + 1, v1, v2, v3, v4, σ => if (σ.1 43 39) ≤ v4 then if v3 = 0 ∨ v3 = 1 then some (v3, σ) else none else if v3 = 0 then jX12_isNewPlace_57 (lX12_isNewPlace_18 n) v1 v2 v4 σ else if inB v4 16 then (if (σ.2.2.1 68 v4.toNatClampNeg) = v1 then if inB v4 16 then (if (σ.2.2.1 69 v4.toNatClampNeg) = v2 then jX12_isNewPlace_57 (lX12_isNewPlace_18 n) v1 v2 v4 σ else jX12_isNewPlace_53 (lX12_isNewPlace_18 n) v1 v2 v4 σ) else none else jX12_isNewPlace_53 (lX12_isNewPlace_18 n) v1 v2 v4 σ) else none
set_option maxHeartbeats 4000000 in
theorem t_lX12_isNewPlace_18 {G : rG} {ad : Nat → Nat} {o : (Int32 × rS)}   : ∀ (n : Nat) (v1 : Int32) (v2 : Int32) (v3 : Int32) (v4 : Int32) (σ : rS) (h : rH), Rep G ad σ h → lX12_isNewPlace_18  n v1 v2 v3 v4 σ = some o → RW G mX12_isNewPlace (rm 1 0 0) (qI G ad o) xN 0 0 18 [(0, .ref (ad 43)), (1, .int v1), (2, .int v2), (3, .int v3), (4, .int v4)] [] h := by
  intro n
  induction n with
  | zero =>
    intro v1 v2 v3 v4 σ h hr hf
    rw [lX12_isNewPlace_18] at hf
    cases hf
  | succ n ih =>
    intro v1 v2 v3 v4 σ h hr hf
    rw [lX12_isNewPlace_18] at hf
    refine rw_iload dX12_isNewPlace_18 4 rfl ?_
    refine rw_aload_n dX12_isNewPlace_20 0 rfl rfl ?_
    refine sg_43_39 hr dX12_isNewPlace_21 fl1501 ?_
    refine rw_icmp_ge (tgt := 65) dX12_isNewPlace_24 (by decide) (fun c3 => ?_) (fun c3 => ?_)
    · rw [if_pos c3] at hf
      refine rw_iload_n dX12_isNewPlace_65 3 rfl rfl ?_
      obtain ⟨hz4, hf⟩ := grd hf
      replace hf := Option.some.inj hf
      subst hf
      exact rw_zreturn dX12_isNewPlace_66 rfl (nar_z hz4) ⟨rfl, hr⟩ (by decide) (by decide)
    · rw [if_neg c3] at hf
      refine rw_iload_n dX12_isNewPlace_27 3 rfl rfl ?_
      refine rw_if_eq (tgt := 57) dX12_isNewPlace_28 (by decide) (fun c5 => ?_) (fun c5 => ?_)
      · rw [if_pos c5] at hf
        refine rw_sub [0, 1, 2, 4] rfl ?_
        exact t_jX12_isNewPlace_57 (ad := ad) (G := G) (lX12_isNewPlace_18 n) ih v1 v2 v4 σ _ hr hf
      · rw [if_neg c5] at hf
        refine rw_aload_n dX12_isNewPlace_31 0 rfl rfl ?_
        refine sg_43_40 hr dX12_isNewPlace_32 fl1502 ?_
        refine rw_iload dX12_isNewPlace_35 4 rfl ?_
        obtain ⟨hi6, hf⟩ := grd hf
        refine sl_68 hr dX12_isNewPlace_37 (inB_in hi6) ?_
        refine rw_iload_n dX12_isNewPlace_38 1 rfl rfl ?_
        refine rw_icmp_ne (tgt := 53) dX12_isNewPlace_39 (by decide) (fun c7 => ?_) (fun c7 => ?_)
        · rw [if_neg c7] at hf
          refine rw_sub [0, 1, 2, 4] rfl ?_
          exact t_jX12_isNewPlace_53 (ad := ad) (G := G) (lX12_isNewPlace_18 n) ih v1 v2 v4 σ _ hr hf
        · rw [if_pos c7] at hf
          refine rw_aload_n dX12_isNewPlace_42 0 rfl rfl ?_
          refine sg_43_41 hr dX12_isNewPlace_43 fl1503 ?_
          refine rw_iload dX12_isNewPlace_46 4 rfl ?_
          obtain ⟨hi8, hf⟩ := grd hf
          refine sl_69 hr dX12_isNewPlace_48 (inB_in hi8) ?_
          refine rw_iload_n dX12_isNewPlace_49 2 rfl rfl ?_
          refine rw_icmp_eq (tgt := 57) dX12_isNewPlace_50 (by decide) (fun c9 => ?_) (fun c9 => ?_)
          · rw [if_pos c9] at hf
            refine rw_sub [0, 1, 2, 4] rfl ?_
            exact t_jX12_isNewPlace_57 (ad := ad) (G := G) (lX12_isNewPlace_18 n) ih v1 v2 v4 σ _ hr hf
          · rw [if_neg c9] at hf
            refine rw_sub [0, 1, 2, 4] rfl ?_
            exact t_jX12_isNewPlace_53 (ad := ad) (G := G) (lX12_isNewPlace_18 n) ih v1 v2 v4 σ _ hr hf
def jX12_isNewPlace_14  (v1 : Int32) (v2 : Int32) (s0 : Int32) (σ : rS) : Option (Int32 × rS) := lX12_isNewPlace_18 1000 v1 v2 s0 0 σ
set_option maxHeartbeats 4000000 in
theorem t_jX12_isNewPlace_14 {G : rG} {ad : Nat → Nat} {o : (Int32 × rS)}   (v1 : Int32) (v2 : Int32) (s0 : Int32) (σ : rS) (h : rH) (hr : Rep G ad σ h) (hf : jX12_isNewPlace_14  v1 v2 s0 σ = some o) : RW G mX12_isNewPlace (rm 1 0 0) (qI G ad o) xN 0 0 14 [(0, .ref (ad 43)), (1, .int v1), (2, .int v2)] [.int s0] h := by
  unfold jX12_isNewPlace_14 at hf
  refine rw_istore_n (lv2 := [(3, .int s0), (0, .ref (ad 43)), (1, .int v1), (2, .int v2)]) dX12_isNewPlace_14 rfl (by decide) rfl ?_
  refine rw_iconst (v := 0) dX12_isNewPlace_15 (by decide) ?_
  refine rw_istore (lv2 := [(4, .int 0), (3, .int s0), (0, .ref (ad 43)), (1, .int v1), (2, .int v2)]) dX12_isNewPlace_16 (by decide) rfl ?_
  refine rw_sub [2, 3, 4, 1, 0] rfl ?_
  exact t_lX12_isNewPlace_18 (ad := ad) (G := G)  1000 v1 v2 s0 0 σ _ hr hf
def fX12_isNewPlace (a0 : Int32) (a1 : Int32) (σ : rS) : Option (Int32 × rS) := (fX12_isTaken a0 a1 σ).bind fun q1 => if q1.1 = 0 then jX12_isNewPlace_14 a0 a1 1 q1.2 else jX12_isNewPlace_14 a0 a1 0 q1.2
set_option maxHeartbeats 4000000 in
theorem cmX12_isNewPlace {G : rG} {ad : Nat → Nat} {a0 : Int32} {a1 : Int32} {σ : rS} {h : rH} {o : (Int32 × rS)} (hr : Rep G ad σ h) (hf : fX12_isNewPlace a0 a1 σ = some o) : rMT G mX12_isNewPlace (rm 1 0 0) [.ref (ad 43), .int a0, .int a1] h (qI G ad o) xN := by
  unfold fX12_isNewPlace at hf
  refine rw_met (by decide +kernel) rfl (Nat.le_of_ble_eq_true rfl) ?_
  show RW G _ _ _ _ 0 0 0 [(0, .ref (ad 43)), (1, .int a0), (2, .int a1)] [] h
  refine rw_aload_n dX12_isNewPlace_0 0 rfl rfl ?_
  refine rw_iload_n dX12_isNewPlace_1 1 rfl rfl ?_
  refine rw_iload_n dX12_isNewPlace_2 2 rfl rfl ?_
  obtain ⟨q1, hq1, hf⟩ := bnd hf
  refine kV_I (ad := ad) (As := [.int a0, .int a1]) (st := []) dX12_isNewPlace_3 calX12_isTaken wm1617 wm1619 wm31 rfl rfl (rc_43 hr) (ci := 12) (by decide) rfl rfl (Nat.le_of_ble_eq_true rfl) ⟨⟨by decide, by decide⟩, by decide, by decide⟩ (cmX12_isTaken hr hq1) (fun h hr => ?_)
  refine rw_if_ne (tgt := 13) dX12_isNewPlace_6 (by decide) (fun c2 => ?_) (fun c2 => ?_)
  · rw [if_neg c2] at hf
    refine rw_iconst (v := 0) dX12_isNewPlace_13 (by decide) ?_
    exact t_jX12_isNewPlace_14 (ad := ad) (G := G)  a0 a1 0 q1.2 _ hr hf
  · rw [if_pos c2] at hf
    refine rw_iconst (v := 1) dX12_isNewPlace_9 (by decide) ?_
    refine rw_goto (tgt := 14) dX12_isNewPlace_10 (by decide) ?_
    exact t_jX12_isNewPlace_14 (ad := ad) (G := G)  a0 a1 1 q1.2 _ hr hf
def jX12_check_384  (s0 : Int32) (σ : rS) : Option (Int32 × rS) := some (s0, σ)
set_option maxHeartbeats 4000000 in
theorem t_jX12_check_384 {G : rG} {ad : Nat → Nat} {o : (Int32 × rS)}   (s0 : Int32) (σ : rS) (h : rH) (hr : Rep G ad σ h) (hf : jX12_check_384  s0 σ = some o) : RW G mX12_check (rm 2 0 0) (qI G ad o) xN 0 0 384 [] [.int s0] h := by
  unfold jX12_check_384 at hf
  replace hf := Option.some.inj hf
  subst hf
  exact rw_ireturn dX12_check_384 rfl ⟨rfl, hr⟩ (by decide) (by decide)
def jX12_check_365 (k9 : Int32 → Int32 → rS → Option (Int32 × rS)) (v2 : Int32) (s0 : Int32) (σ : rS) : Option (Int32 × rS) := vI (v2 + 1) fun x55 => k9 s0 x55 σ
set_option maxHeartbeats 4000000 in
theorem t_jX12_check_365 {G : rG} {ad : Nat → Nat} {o : (Int32 × rS)} (k9 : Int32 → Int32 → rS → Option (Int32 × rS)) (hk9 : ∀ (v1 : Int32) (v2 : Int32) (σ : rS) (h : rH), Rep G ad σ h → k9 v1 v2 σ = some o → RW G mX12_check (rm 2 0 0) (qI G ad o) xN 0 0 9 [(0, .ref (ad 43)), (1, .int v1), (2, .int v2)] [] h) (v2 : Int32) (s0 : Int32) (σ : rS) (h : rH) (hr : Rep G ad σ h) (hf : jX12_check_365 k9 v2 s0 σ = some o) : RW G mX12_check (rm 2 0 0) (qI G ad o) xN 0 0 365 [(0, .ref (ad 43)), (2, .int v2)] [.int s0] h := by
  unfold jX12_check_365 at hf
  refine rw_istore_n (lv2 := [(1, .int s0), (0, .ref (ad 43)), (2, .int v2)]) dX12_check_365 rfl (by decide) rfl ?_
  refine rw_iinc (v := v2 + 1) (lv2 := [(2, .int (v2 + 1)), (1, .int s0), (0, .ref (ad 43))]) dX12_check_366 2 rfl rfl (by decide) rfl ?_
  refine nmL hf (fun x55 hf => ?_)
  refine rw_goto (tgt := 9) dX12_check_369 (by decide) ?_
  refine rw_sub [2, 1, 0] rfl ?_
  exact hk9 s0 x55 σ _ hr hf
def jX12_check_347 (k9 : Int32 → Int32 → rS → Option (Int32 × rS)) (v1 : Int32) (v2 : Int32) (v3 : Int32) (σ : rS) : Option (Int32 × rS) := if v3 = 0 then some (v2, σ) else if v1 = 5 then jX12_check_365 k9 v2 4 σ else jX12_check_365 k9 v2 (v1 + 1) σ
set_option maxHeartbeats 4000000 in
theorem t_jX12_check_347 {G : rG} {ad : Nat → Nat} {o : (Int32 × rS)} (k9 : Int32 → Int32 → rS → Option (Int32 × rS)) (hk9 : ∀ (v1 : Int32) (v2 : Int32) (σ : rS) (h : rH), Rep G ad σ h → k9 v1 v2 σ = some o → RW G mX12_check (rm 2 0 0) (qI G ad o) xN 0 0 9 [(0, .ref (ad 43)), (1, .int v1), (2, .int v2)] [] h) (v1 : Int32) (v2 : Int32) (v3 : Int32) (σ : rS) (h : rH) (hr : Rep G ad σ h) (hf : jX12_check_347 k9 v1 v2 v3 σ = some o) : RW G mX12_check (rm 2 0 0) (qI G ad o) xN 0 0 347 [(0, .ref (ad 43)), (1, .int v1), (2, .int v2), (3, .int v3)] [] h := by
  unfold jX12_check_347 at hf
  refine rw_iload_n dX12_check_347 3 rfl rfl ?_
  refine rw_if_ne (tgt := 353) dX12_check_348 (by decide) (fun c53 => ?_) (fun c53 => ?_)
  · rw [if_neg c53] at hf
    refine rw_iload_n dX12_check_353 1 rfl rfl ?_
    refine rw_iconst (v := 5) dX12_check_354 (by decide) ?_
    refine rw_icmp_ne (tgt := 362) dX12_check_355 (by decide) (fun c54 => ?_) (fun c54 => ?_)
    · rw [if_neg c54] at hf
      refine rw_iload_n dX12_check_362 1 rfl rfl ?_
      refine rw_iconst (v := 1) dX12_check_363 (by decide) ?_
      refine rw_iadd dX12_check_364 ?_
      refine rw_sub [0, 2] rfl ?_
      exact t_jX12_check_365 (ad := ad) (G := G) k9 hk9 v2 (v1 + 1) σ _ hr hf
    · rw [if_pos c54] at hf
      refine rw_iconst (v := 4) dX12_check_358 (by decide) ?_
      refine rw_goto (tgt := 365) dX12_check_359 (by decide) ?_
      refine rw_sub [0, 2] rfl ?_
      exact t_jX12_check_365 (ad := ad) (G := G) k9 hk9 v2 4 σ _ hr hf
  · rw [if_pos c53] at hf
    refine rw_iload_n dX12_check_351 2 rfl rfl ?_
    replace hf := Option.some.inj hf
    subst hf
    exact rw_ireturn dX12_check_352 rfl ⟨rfl, hr⟩ (by decide) (by decide)
def jX12_check_346 (k9 : Int32 → Int32 → rS → Option (Int32 × rS)) (v1 : Int32) (v2 : Int32) (s0 : Int32) (σ : rS) : Option (Int32 × rS) := jX12_check_347 k9 v1 v2 s0 σ
set_option maxHeartbeats 4000000 in
theorem t_jX12_check_346 {G : rG} {ad : Nat → Nat} {o : (Int32 × rS)} (k9 : Int32 → Int32 → rS → Option (Int32 × rS)) (hk9 : ∀ (v1 : Int32) (v2 : Int32) (σ : rS) (h : rH), Rep G ad σ h → k9 v1 v2 σ = some o → RW G mX12_check (rm 2 0 0) (qI G ad o) xN 0 0 9 [(0, .ref (ad 43)), (1, .int v1), (2, .int v2)] [] h) (v1 : Int32) (v2 : Int32) (s0 : Int32) (σ : rS) (h : rH) (hr : Rep G ad σ h) (hf : jX12_check_346 k9 v1 v2 s0 σ = some o) : RW G mX12_check (rm 2 0 0) (qI G ad o) xN 0 0 346 [(0, .ref (ad 43)), (1, .int v1), (2, .int v2)] [.int s0] h := by
  unfold jX12_check_346 at hf
  refine rw_istore_n (lv2 := [(3, .int s0), (0, .ref (ad 43)), (1, .int v1), (2, .int v2)]) dX12_check_346 rfl (by decide) rfl ?_
  refine rw_sub [1, 2, 3, 0] rfl ?_
  exact t_jX12_check_347 (ad := ad) (G := G) k9 hk9 v1 v2 s0 σ _ hr hf
def jX12_check_345 (k9 : Int32 → Int32 → rS → Option (Int32 × rS)) (v1 : Int32) (v2 : Int32) (σ : rS) : Option (Int32 × rS) := jX12_check_346 k9 v1 v2 0 σ
set_option maxHeartbeats 4000000 in
theorem t_jX12_check_345 {G : rG} {ad : Nat → Nat} {o : (Int32 × rS)} (k9 : Int32 → Int32 → rS → Option (Int32 × rS)) (hk9 : ∀ (v1 : Int32) (v2 : Int32) (σ : rS) (h : rH), Rep G ad σ h → k9 v1 v2 σ = some o → RW G mX12_check (rm 2 0 0) (qI G ad o) xN 0 0 9 [(0, .ref (ad 43)), (1, .int v1), (2, .int v2)] [] h) (v1 : Int32) (v2 : Int32) (σ : rS) (h : rH) (hr : Rep G ad σ h) (hf : jX12_check_345 k9 v1 v2 σ = some o) : RW G mX12_check (rm 2 0 0) (qI G ad o) xN 0 0 345 [(0, .ref (ad 43)), (1, .int v1), (2, .int v2)] [] h := by
  unfold jX12_check_345 at hf
  refine rw_iconst (v := 0) dX12_check_345 (by decide) ?_
  exact t_jX12_check_346 (ad := ad) (G := G) k9 hk9 v1 v2 0 σ _ hr hf
def jX12_check_121 (k9 : Int32 → Int32 → rS → Option (Int32 × rS)) (v1 : Int32) (v2 : Int32) (s0 : Int32) (σ : rS) : Option (Int32 × rS) := jX12_check_347 k9 v1 v2 s0 σ
set_option maxHeartbeats 4000000 in
theorem t_jX12_check_121 {G : rG} {ad : Nat → Nat} {o : (Int32 × rS)} (k9 : Int32 → Int32 → rS → Option (Int32 × rS)) (hk9 : ∀ (v1 : Int32) (v2 : Int32) (σ : rS) (h : rH), Rep G ad σ h → k9 v1 v2 σ = some o → RW G mX12_check (rm 2 0 0) (qI G ad o) xN 0 0 9 [(0, .ref (ad 43)), (1, .int v1), (2, .int v2)] [] h) (v1 : Int32) (v2 : Int32) (s0 : Int32) (σ : rS) (h : rH) (hr : Rep G ad σ h) (hf : jX12_check_121 k9 v1 v2 s0 σ = some o) : RW G mX12_check (rm 2 0 0) (qI G ad o) xN 0 0 121 [(0, .ref (ad 43)), (1, .int v1), (2, .int v2)] [.int s0] h := by
  unfold jX12_check_121 at hf
  refine rw_istore_n (lv2 := [(3, .int s0), (0, .ref (ad 43)), (1, .int v1), (2, .int v2)]) dX12_check_121 rfl (by decide) rfl ?_
  refine rw_goto (tgt := 347) dX12_check_122 (by decide) ?_
  refine rw_sub [1, 2, 3, 0] rfl ?_
  exact t_jX12_check_347 (ad := ad) (G := G) k9 hk9 v1 v2 s0 σ _ hr hf
def jX12_check_120 (k9 : Int32 → Int32 → rS → Option (Int32 × rS)) (v1 : Int32) (v2 : Int32) (σ : rS) : Option (Int32 × rS) := jX12_check_121 k9 v1 v2 0 σ
set_option maxHeartbeats 4000000 in
theorem t_jX12_check_120 {G : rG} {ad : Nat → Nat} {o : (Int32 × rS)} (k9 : Int32 → Int32 → rS → Option (Int32 × rS)) (hk9 : ∀ (v1 : Int32) (v2 : Int32) (σ : rS) (h : rH), Rep G ad σ h → k9 v1 v2 σ = some o → RW G mX12_check (rm 2 0 0) (qI G ad o) xN 0 0 9 [(0, .ref (ad 43)), (1, .int v1), (2, .int v2)] [] h) (v1 : Int32) (v2 : Int32) (σ : rS) (h : rH) (hr : Rep G ad σ h) (hf : jX12_check_120 k9 v1 v2 σ = some o) : RW G mX12_check (rm 2 0 0) (qI G ad o) xN 0 0 120 [(0, .ref (ad 43)), (1, .int v1), (2, .int v2)] [] h := by
  unfold jX12_check_120 at hf
  refine rw_iconst (v := 0) dX12_check_120 (by decide) ?_
  exact t_jX12_check_121 (ad := ad) (G := G) k9 hk9 v1 v2 0 σ _ hr hf
def jX12_check_52 (k9 : Int32 → Int32 → rS → Option (Int32 × rS)) (v1 : Int32) (v2 : Int32) (s0 : Int32) (σ : rS) : Option (Int32 × rS) := jX12_check_347 k9 v1 v2 s0 σ
set_option maxHeartbeats 4000000 in
theorem t_jX12_check_52 {G : rG} {ad : Nat → Nat} {o : (Int32 × rS)} (k9 : Int32 → Int32 → rS → Option (Int32 × rS)) (hk9 : ∀ (v1 : Int32) (v2 : Int32) (σ : rS) (h : rH), Rep G ad σ h → k9 v1 v2 σ = some o → RW G mX12_check (rm 2 0 0) (qI G ad o) xN 0 0 9 [(0, .ref (ad 43)), (1, .int v1), (2, .int v2)] [] h) (v1 : Int32) (v2 : Int32) (s0 : Int32) (σ : rS) (h : rH) (hr : Rep G ad σ h) (hf : jX12_check_52 k9 v1 v2 s0 σ = some o) : RW G mX12_check (rm 2 0 0) (qI G ad o) xN 0 0 52 [(0, .ref (ad 43)), (1, .int v1), (2, .int v2)] [.int s0] h := by
  unfold jX12_check_52 at hf
  refine rw_istore_n (lv2 := [(3, .int s0), (0, .ref (ad 43)), (1, .int v1), (2, .int v2)]) dX12_check_52 rfl (by decide) rfl ?_
  refine rw_goto (tgt := 347) dX12_check_53 (by decide) ?_
  refine rw_sub [1, 2, 3, 0] rfl ?_
  exact t_jX12_check_347 (ad := ad) (G := G) k9 hk9 v1 v2 s0 σ _ hr hf
def jX12_check_51 (k9 : Int32 → Int32 → rS → Option (Int32 × rS)) (v1 : Int32) (v2 : Int32) (σ : rS) : Option (Int32 × rS) := jX12_check_52 k9 v1 v2 0 σ
set_option maxHeartbeats 4000000 in
theorem t_jX12_check_51 {G : rG} {ad : Nat → Nat} {o : (Int32 × rS)} (k9 : Int32 → Int32 → rS → Option (Int32 × rS)) (hk9 : ∀ (v1 : Int32) (v2 : Int32) (σ : rS) (h : rH), Rep G ad σ h → k9 v1 v2 σ = some o → RW G mX12_check (rm 2 0 0) (qI G ad o) xN 0 0 9 [(0, .ref (ad 43)), (1, .int v1), (2, .int v2)] [] h) (v1 : Int32) (v2 : Int32) (σ : rS) (h : rH) (hr : Rep G ad σ h) (hf : jX12_check_51 k9 v1 v2 σ = some o) : RW G mX12_check (rm 2 0 0) (qI G ad o) xN 0 0 51 [(0, .ref (ad 43)), (1, .int v1), (2, .int v2)] [] h := by
  unfold jX12_check_51 at hf
  refine rw_iconst (v := 0) dX12_check_51 (by decide) ?_
  exact t_jX12_check_52 (ad := ad) (G := G) k9 hk9 v1 v2 0 σ _ hr hf
def lX12_check_9  : Nat → Int32 → Int32 → rS → Option (Int32 × rS)
  | 0, _, _, _ => none
  | n + 1, v1, v2, σ => if (σ.1 43 33) ≤ v2 then if v1 = 0 then jX12_check_384 ((-1)) σ else jX12_check_384 (σ.1 43 33) σ else if v1 = 0 then (fX12_isWord v2 98 σ).bind fun q50 => if q50.1 = 0 then jX12_check_51 (lX12_check_9 n) v1 v2 q50.2 else if 16 ≤ ((q50.2.1 43 2) + (q50.2.1 43 39)) then jX12_check_51 (lX12_check_9 n) v1 v2 q50.2 else jX12_check_52 (lX12_check_9 n) v1 v2 1 q50.2 else if v1 = 1 then (fX12_isNumber v2 ((-1000)) 1000 σ).bind fun q48 => vI q48.1 fun x49 => jX12_check_347 (lX12_check_9 n) v1 v2 x49 q48.2 else if v1 = 2 then (fX12_isNumber v2 ((-1000)) 1000 σ).bind fun q42 => if q42.1 = 0 then jX12_check_120 (lX12_check_9 n) v1 v2 q42.2 else if inB (v2 - 1) 600 then if inB v2 600 then (fX12_isNewPlace (q42.2.2.2.1 66 (v2 - 1).toNatClampNeg) (q42.2.2.2.1 66 v2.toNatClampNeg) q42.2).bind fun q46 => (if q46.1 = 0 then jX12_check_120 (lX12_check_9 n) v1 v2 q46.2 else jX12_check_121 (lX12_check_9 n) v1 v2 1 q46.2) else none else none else if v1 = 3 then (fX12_isNumber v2 ((-100000)) 100000 σ).bind fun q29 => vI q29.1 fun x30 => if inB (v2 - 2) 600 then if inB (q29.2.1 43 39) 16 then vS (uA q29.2 68 (q29.2.1 43 39).toNatClampNeg (q29.2.2.2.1 66 (v2 - 2).toNatClampNeg)) fun σ33 => if inB (v2 - 1) 600 then if inB (σ33.1 43 39) 16 then vS (uA σ33 69 (σ33.1 43 39).toNatClampNeg (σ33.2.2.1 66 (v2 - 1).toNatClampNeg)) fun σ36 => if inB v2 600 then if inB (σ36.1 43 39) 16 then vS (uA σ36 70 (σ36.1 43 39).toNatClampNeg (σ36.2.2.1 66 v2.toNatClampNeg)) fun σ39 => if inB (σ39.1 43 39) 16 then vS (uA σ39 71 (σ39.1 43 39).toNatClampNeg 0) fun σ41 => jX12_check_347 (lX12_check_9 n) v1 v2 x30 σ41 else none else none else none else none else none else none else none else if v1 = 5 then (fX12_isNumber v2 1 10000 σ).bind fun q16 => vI q16.1 fun x17 => if inB (q16.2.1 43 39) 16 then if inB (v2 - 1) 600 then if inB ((12 * (q16.2.1 43 39)) + (q16.2.2.2.1 71 (q16.2.1 43 39).toNatClampNeg)) 192 then vS (uA q16.2 72 ((12 * (q16.2.1 43 39)) + (q16.2.2.2.1 71 (q16.2.1 43 39).toNatClampNeg)).toNatClampNeg (q16.2.2.2.1 66 (v2 - 1).toNatClampNeg)) fun σ21 => if inB (σ21.1 43 39) 16 then if inB v2 600 then if inB ((12 * (σ21.1 43 39)) + (σ21.2.2.1 71 (σ21.1 43 39).toNatClampNeg)) 192 then vS (uA σ21 73 ((12 * (σ21.1 43 39)) + (σ21.2.2.1 71 (σ21.1 43 39).toNatClampNeg)).toNatClampNeg (σ21.2.2.1 66 v2.toNatClampNeg)) fun σ25 => if inB (σ25.1 43 39) 16 then if inB (σ25.1 43 39) 16 then vS (uA σ25 71 (σ25.1 43 39).toNatClampNeg ((σ25.2.2.1 71 (σ25.1 43 39).toNatClampNeg) + 1)) fun σ28 => jX12_check_347 (lX12_check_9 n) v1 v2 x17 σ28 else none else none else none else none else none else none else none else none else (fX12_isWord v2 101 σ).bind fun q9 => if q9.1 = 0 then if inB (q9.2.1 43 39) 16 then (if 12 ≤ (q9.2.2.2.1 71 (q9.2.1 43 39).toNatClampNeg) then jX12_check_345 (lX12_check_9 n) v1 v2 q9.2 else (fX12_isNumber v2 0 7 q9.2).bind fun q13 => if q13.1 = 0 then jX12_check_345 (lX12_check_9 n) v1 v2 q13.2 else jX12_check_346 (lX12_check_9 n) v1 v2 1 q13.2) else none else vS (uI q9.2 43 39 ((q9.2.1 43 39) + 1)) fun σ15 => jX12_check_347 (lX12_check_9 n) ((-1)) v2 1 σ15
set_option maxHeartbeats 4000000 in
theorem t_lX12_check_9 {G : rG} {ad : Nat → Nat} {o : (Int32 × rS)}   : ∀ (n : Nat) (v1 : Int32) (v2 : Int32) (σ : rS) (h : rH), Rep G ad σ h → lX12_check_9  n v1 v2 σ = some o → RW G mX12_check (rm 2 0 0) (qI G ad o) xN 0 0 9 [(0, .ref (ad 43)), (1, .int v1), (2, .int v2)] [] h := by
  intro n
  induction n with
  | zero =>
    intro v1 v2 σ h hr hf
    rw [lX12_check_9] at hf
    cases hf
  | succ n ih =>
    intro v1 v2 σ h hr hf
    rw [lX12_check_9] at hf
    refine rw_iload_n dX12_check_9 2 rfl rfl ?_
    refine rw_aload_n dX12_check_10 0 rfl rfl ?_
    refine sg_43_33 hr dX12_check_11 fl1495 ?_
    refine rw_icmp_ge (tgt := 372) dX12_check_14 (by decide) (fun c2 => ?_) (fun c2 => ?_)
    · rw [if_pos c2] at hf
      refine rw_iload_n dX12_check_372 1 rfl rfl ?_
      refine rw_if_ne (tgt := 380) dX12_check_373 (by decide) (fun c3 => ?_) (fun c3 => ?_)
      · rw [if_neg c3] at hf
        refine rw_aload_n dX12_check_380 0 rfl rfl ?_
        refine sg_43_33 hr dX12_check_381 fl1495 ?_
        refine rw_sub [] rfl ?_
        exact t_jX12_check_384 (ad := ad) (G := G)  (σ.1 43 33) σ _ hr hf
      · rw [if_pos c3] at hf
        refine rw_iconst (v := (-1)) dX12_check_376 (by decide) ?_
        refine rw_goto (tgt := 384) dX12_check_377 (by decide) ?_
        refine rw_sub [] rfl ?_
        exact t_jX12_check_384 (ad := ad) (G := G)  ((-1)) σ _ hr hf
    · rw [if_neg c2] at hf
      refine rw_iconst (v := 1) dX12_check_17 (by decide) ?_
      refine rw_istore_n (lv2 := [(3, .int 1), (0, .ref (ad 43)), (1, .int v1), (2, .int v2)]) dX12_check_18 rfl (by decide) rfl ?_
      refine rw_iload_n dX12_check_19 2 rfl rfl ?_
      refine rw_if_ne (tgt := 56) dX12_check_20 (by decide) (fun c4 => ?_) (fun c4 => ?_)
      · rw [if_neg c4] at hf
        refine rw_iload_n dX12_check_56 2 rfl rfl ?_
        refine rw_iconst (v := 1) dX12_check_57 (by decide) ?_
        refine rw_icmp_ne (tgt := 76) dX12_check_58 (by decide) (fun c5 => ?_) (fun c5 => ?_)
        · rw [if_neg c5] at hf
          refine rw_iload_n dX12_check_76 2 rfl rfl ?_
          refine rw_iconst (v := 2) dX12_check_77 (by decide) ?_
          refine rw_icmp_ne (tgt := 125) dX12_check_78 (by decide) (fun c6 => ?_) (fun c6 => ?_)
          · rw [if_neg c6] at hf
            refine rw_iload_n dX12_check_125 2 rfl rfl ?_
            refine rw_iconst (v := 3) dX12_check_126 (by decide) ?_
            refine rw_icmp_ne (tgt := 202) dX12_check_127 (by decide) (fun c7 => ?_) (fun c7 => ?_)
            · rw [if_neg c7] at hf
              refine rw_iload_n dX12_check_202 2 rfl rfl ?_
              refine rw_iconst (v := 5) dX12_check_203 (by decide) ?_
              refine rw_icmp_ne (tgt := 291) dX12_check_204 (by decide) (fun c8 => ?_) (fun c8 => ?_)
              · rw [if_neg c8] at hf
                refine rw_aload_n dX12_check_291 1 rfl rfl ?_
                refine rw_iload_n dX12_check_292 3 rfl rfl ?_
                refine rw_bipush (v := 101) dX12_check_293 (by decide) ?_
                obtain ⟨q9, hq9, hf⟩ := bnd hf
                refine kV_I (ad := ad) (As := [.int v2, .int 101]) (st := []) dX12_check_295 calX12_isWord wm1831 wm1833 wm56 rfl rfl (rc_43 hr) (ci := 12) (by decide) rfl rfl (Nat.le_of_ble_eq_true rfl) ⟨⟨by decide, by decide⟩, by decide, by decide⟩ (cmX12_isWord hr hq9) (fun h hr => ?_)
                refine rw_if_eq (tgt := 316) dX12_check_298 (by decide) (fun c10 => ?_) (fun c10 => ?_)
                · rw [if_pos c10] at hf
                  refine rw_aload_n dX12_check_316 1 rfl rfl ?_
                  refine sg_43_43 hr dX12_check_317 fl1505 ?_
                  refine rw_aload_n dX12_check_320 1 rfl rfl ?_
                  refine sg_43_39 hr dX12_check_321 fl1501 ?_
                  obtain ⟨hi11, hf⟩ := grd hf
                  refine sl_71 hr dX12_check_324 (inB_in hi11) ?_
                  refine rw_bipush (v := 12) dX12_check_325 (by decide) ?_
                  refine rw_icmp_ge (tgt := 345) dX12_check_327 (by decide) (fun c12 => ?_) (fun c12 => ?_)
                  · rw [if_pos c12] at hf
                    refine rw_sub [1, 2, 3] rfl ?_
                    exact t_jX12_check_345 (ad := ad) (G := G) (lX12_check_9 n) ih v1 v2 q9.2 _ hr hf
                  · rw [if_neg c12] at hf
                    refine rw_aload_n dX12_check_330 1 rfl rfl ?_
                    refine rw_iload_n dX12_check_331 3 rfl rfl ?_
                    refine rw_iconst (v := 0) dX12_check_332 (by decide) ?_
                    refine rw_bipush (v := 7) dX12_check_333 (by decide) ?_
                    obtain ⟨q13, hq13, hf⟩ := bnd hf
                    refine kV_I (ad := ad) (As := [.int v2, .int 0, .int 7]) (st := []) dX12_check_335 calX12_isNumber wm1835 wm1837 wm57 rfl rfl (rc_43 hr) (ci := 12) (by decide) rfl rfl (Nat.le_of_ble_eq_true rfl) ⟨⟨by decide, by decide⟩, by decide, by decide⟩ (cmX12_isNumber hr hq13) (fun h hr => ?_)
                    refine rw_if_eq (tgt := 345) dX12_check_338 (by decide) (fun c14 => ?_) (fun c14 => ?_)
                    · rw [if_pos c14] at hf
                      refine rw_sub [1, 2, 3] rfl ?_
                      exact t_jX12_check_345 (ad := ad) (G := G) (lX12_check_9 n) ih v1 v2 q13.2 _ hr hf
                    · rw [if_neg c14] at hf
                      refine rw_iconst (v := 1) dX12_check_341 (by decide) ?_
                      refine rw_goto (tgt := 346) dX12_check_342 (by decide) ?_
                      refine rw_sub [1, 2, 3] rfl ?_
                      exact t_jX12_check_346 (ad := ad) (G := G) (lX12_check_9 n) ih v1 v2 1 q13.2 _ hr hf
                · rw [if_neg c10] at hf
                  refine rw_aload_n dX12_check_301 1 rfl rfl ?_
                  refine rw_dup dX12_check_302 rfl ?_
                  refine sg_43_39 hr dX12_check_303 fl1501 ?_
                  refine rw_iconst (v := 1) dX12_check_306 (by decide) ?_
                  refine rw_iadd dX12_check_307 ?_
                  refine sp_43_39 hr dX12_check_308 fl1501 (fun h hr => ?_)
                  refine nmS hf hr (fun σ15 hr hf => ?_)
                  refine rw_iconst (v := (-1)) dX12_check_311 (by decide) ?_
                  refine rw_istore_n (lv2 := [(1, .int ((-1))), (3, .int 1), (0, .ref (ad 43)), (2, .int v2)]) dX12_check_312 rfl (by decide) rfl ?_
                  refine rw_goto (tgt := 347) dX12_check_313 (by decide) ?_
                  refine rw_sub [2, 0, 3, 1] rfl ?_
                  exact t_jX12_check_347 (ad := ad) (G := G) (lX12_check_9 n) ih ((-1)) v2 1 σ15 _ hr hf
              · rw [if_pos c8] at hf
                refine rw_aload_n dX12_check_207 1 rfl rfl ?_
                refine rw_iload_n dX12_check_208 3 rfl rfl ?_
                refine rw_iconst (v := 1) dX12_check_209 (by decide) ?_
                refine rw_sipush (v := 10000) dX12_check_210 (by decide) ?_
                obtain ⟨q16, hq16, hf⟩ := bnd hf
                refine kV_I (ad := ad) (As := [.int v2, .int 1, .int 10000]) (st := []) dX12_check_213 calX12_isNumber wm1835 wm1837 wm57 rfl rfl (rc_43 hr) (ci := 12) (by decide) rfl rfl (Nat.le_of_ble_eq_true rfl) ⟨⟨by decide, by decide⟩, by decide, by decide⟩ (cmX12_isNumber hr hq16) (fun h hr => ?_)
                refine nmI hf (fun x17 hf => ?_)
                refine rw_istore_n (lv2 := [(3, .int x17), (0, .ref (ad 43)), (1, .int v1), (2, .int v2)]) dX12_check_216 rfl (by decide) rfl ?_
                refine rw_aload_n dX12_check_217 1 rfl rfl ?_
                refine sg_43_44 hr dX12_check_218 fl1506 ?_
                refine rw_bipush (v := 12) dX12_check_221 (by decide) ?_
                refine rw_aload_n dX12_check_223 1 rfl rfl ?_
                refine sg_43_39 hr dX12_check_224 fl1501 ?_
                refine rw_imul dX12_check_227 ?_
                refine rw_aload_n dX12_check_228 1 rfl rfl ?_
                refine sg_43_43 hr dX12_check_229 fl1505 ?_
                refine rw_aload_n dX12_check_232 1 rfl rfl ?_
                refine sg_43_39 hr dX12_check_233 fl1501 ?_
                obtain ⟨hi18, hf⟩ := grd hf
                refine sl_71 hr dX12_check_236 (inB_in hi18) ?_
                refine rw_iadd dX12_check_237 ?_
                refine rw_aload_n dX12_check_238 1 rfl rfl ?_
                refine sg_43_36 hr dX12_check_239 fl1498 ?_
                refine rw_iload_n dX12_check_242 3 rfl rfl ?_
                refine rw_iconst (v := 1) dX12_check_243 (by decide) ?_
                refine rw_isub dX12_check_244 ?_
                obtain ⟨hi19, hf⟩ := grd hf
                refine sl_66 hr dX12_check_245 (inB_in hi19) ?_
                obtain ⟨hi20, hf⟩ := grd hf
                refine ss_72 hr dX12_check_246 (inB_in hi20) (fun h hr => ?_)
                refine nmS hf hr (fun σ21 hr hf => ?_)
                refine rw_aload_n dX12_check_247 1 rfl rfl ?_
                refine sg_43_45 hr dX12_check_248 fl1507 ?_
                refine rw_bipush (v := 12) dX12_check_251 (by decide) ?_
                refine rw_aload_n dX12_check_253 1 rfl rfl ?_
                refine sg_43_39 hr dX12_check_254 fl1501 ?_
                refine rw_imul dX12_check_257 ?_
                refine rw_aload_n dX12_check_258 1 rfl rfl ?_
                refine sg_43_43 hr dX12_check_259 fl1505 ?_
                refine rw_aload_n dX12_check_262 1 rfl rfl ?_
                refine sg_43_39 hr dX12_check_263 fl1501 ?_
                obtain ⟨hi22, hf⟩ := grd hf
                refine sl_71 hr dX12_check_266 (inB_in hi22) ?_
                refine rw_iadd dX12_check_267 ?_
                refine rw_aload_n dX12_check_268 1 rfl rfl ?_
                refine sg_43_36 hr dX12_check_269 fl1498 ?_
                refine rw_iload_n dX12_check_272 3 rfl rfl ?_
                obtain ⟨hi23, hf⟩ := grd hf
                refine sl_66 hr dX12_check_273 (inB_in hi23) ?_
                obtain ⟨hi24, hf⟩ := grd hf
                refine ss_73 hr dX12_check_274 (inB_in hi24) (fun h hr => ?_)
                refine nmS hf hr (fun σ25 hr hf => ?_)
                refine rw_aload_n dX12_check_275 1 rfl rfl ?_
                refine sg_43_43 hr dX12_check_276 fl1505 ?_
                refine rw_aload_n dX12_check_279 1 rfl rfl ?_
                refine sg_43_39 hr dX12_check_280 fl1501 ?_
                refine rw_dup2 dX12_check_283 rfl rfl ?_
                obtain ⟨hi26, hf⟩ := grd hf
                refine sl_71 hr dX12_check_284 (inB_in hi26) ?_
                refine rw_iconst (v := 1) dX12_check_285 (by decide) ?_
                refine rw_iadd dX12_check_286 ?_
                obtain ⟨hi27, hf⟩ := grd hf
                refine ss_71 hr dX12_check_287 (inB_in hi27) (fun h hr => ?_)
                refine nmS hf hr (fun σ28 hr hf => ?_)
                refine rw_goto (tgt := 347) dX12_check_288 (by decide) ?_
                refine rw_sub [1, 2, 3, 0] rfl ?_
                exact t_jX12_check_347 (ad := ad) (G := G) (lX12_check_9 n) ih v1 v2 x17 σ28 _ hr hf
            · rw [if_pos c7] at hf
              refine rw_aload_n dX12_check_130 1 rfl rfl ?_
              refine rw_iload_n dX12_check_131 3 rfl rfl ?_
              refine rw_ldc (v := (-100000)) dX12_check_132 wm1615 ?_
              refine rw_ldc (v := 100000) dX12_check_134 wm1616 ?_
              obtain ⟨q29, hq29, hf⟩ := bnd hf
              refine kV_I (ad := ad) (As := [.int v2, .int ((-100000)), .int 100000]) (st := []) dX12_check_136 calX12_isNumber wm1835 wm1837 wm57 rfl rfl (rc_43 hr) (ci := 12) (by decide) rfl rfl (Nat.le_of_ble_eq_true rfl) ⟨⟨by decide, by decide⟩, by decide, by decide⟩ (cmX12_isNumber hr hq29) (fun h hr => ?_)
              refine nmI hf (fun x30 hf => ?_)
              refine rw_istore_n (lv2 := [(3, .int x30), (0, .ref (ad 43)), (1, .int v1), (2, .int v2)]) dX12_check_139 rfl (by decide) rfl ?_
              refine rw_aload_n dX12_check_140 1 rfl rfl ?_
              refine sg_43_40 hr dX12_check_141 fl1502 ?_
              refine rw_aload_n dX12_check_144 1 rfl rfl ?_
              refine sg_43_39 hr dX12_check_145 fl1501 ?_
              refine rw_aload_n dX12_check_148 1 rfl rfl ?_
              refine sg_43_36 hr dX12_check_149 fl1498 ?_
              refine rw_iload_n dX12_check_152 3 rfl rfl ?_
              refine rw_iconst (v := 2) dX12_check_153 (by decide) ?_
              refine rw_isub dX12_check_154 ?_
              obtain ⟨hi31, hf⟩ := grd hf
              refine sl_66 hr dX12_check_155 (inB_in hi31) ?_
              obtain ⟨hi32, hf⟩ := grd hf
              refine ss_68 hr dX12_check_156 (inB_in hi32) (fun h hr => ?_)
              refine nmS hf hr (fun σ33 hr hf => ?_)
              refine rw_aload_n dX12_check_157 1 rfl rfl ?_
              refine sg_43_41 hr dX12_check_158 fl1503 ?_
              refine rw_aload_n dX12_check_161 1 rfl rfl ?_
              refine sg_43_39 hr dX12_check_162 fl1501 ?_
              refine rw_aload_n dX12_check_165 1 rfl rfl ?_
              refine sg_43_36 hr dX12_check_166 fl1498 ?_
              refine rw_iload_n dX12_check_169 3 rfl rfl ?_
              refine rw_iconst (v := 1) dX12_check_170 (by decide) ?_
              refine rw_isub dX12_check_171 ?_
              obtain ⟨hi34, hf⟩ := grd hf
              refine sl_66 hr dX12_check_172 (inB_in hi34) ?_
              obtain ⟨hi35, hf⟩ := grd hf
              refine ss_69 hr dX12_check_173 (inB_in hi35) (fun h hr => ?_)
              refine nmS hf hr (fun σ36 hr hf => ?_)
              refine rw_aload_n dX12_check_174 1 rfl rfl ?_
              refine sg_43_42 hr dX12_check_175 fl1504 ?_
              refine rw_aload_n dX12_check_178 1 rfl rfl ?_
              refine sg_43_39 hr dX12_check_179 fl1501 ?_
              refine rw_aload_n dX12_check_182 1 rfl rfl ?_
              refine sg_43_36 hr dX12_check_183 fl1498 ?_
              refine rw_iload_n dX12_check_186 3 rfl rfl ?_
              obtain ⟨hi37, hf⟩ := grd hf
              refine sl_66 hr dX12_check_187 (inB_in hi37) ?_
              obtain ⟨hi38, hf⟩ := grd hf
              refine ss_70 hr dX12_check_188 (inB_in hi38) (fun h hr => ?_)
              refine nmS hf hr (fun σ39 hr hf => ?_)
              refine rw_aload_n dX12_check_189 1 rfl rfl ?_
              refine sg_43_43 hr dX12_check_190 fl1505 ?_
              refine rw_aload_n dX12_check_193 1 rfl rfl ?_
              refine sg_43_39 hr dX12_check_194 fl1501 ?_
              refine rw_iconst (v := 0) dX12_check_197 (by decide) ?_
              obtain ⟨hi40, hf⟩ := grd hf
              refine ss_71 hr dX12_check_198 (inB_in hi40) (fun h hr => ?_)
              refine nmS hf hr (fun σ41 hr hf => ?_)
              refine rw_goto (tgt := 347) dX12_check_199 (by decide) ?_
              refine rw_sub [1, 2, 3, 0] rfl ?_
              exact t_jX12_check_347 (ad := ad) (G := G) (lX12_check_9 n) ih v1 v2 x30 σ41 _ hr hf
          · rw [if_pos c6] at hf
            refine rw_aload_n dX12_check_81 1 rfl rfl ?_
            refine rw_iload_n dX12_check_82 3 rfl rfl ?_
            refine rw_sipush (v := (-1000)) dX12_check_83 (by decide) ?_
            refine rw_sipush (v := 1000) dX12_check_86 (by decide) ?_
            obtain ⟨q42, hq42, hf⟩ := bnd hf
            refine kV_I (ad := ad) (As := [.int v2, .int ((-1000)), .int 1000]) (st := []) dX12_check_89 calX12_isNumber wm1835 wm1837 wm57 rfl rfl (rc_43 hr) (ci := 12) (by decide) rfl rfl (Nat.le_of_ble_eq_true rfl) ⟨⟨by decide, by decide⟩, by decide, by decide⟩ (cmX12_isNumber hr hq42) (fun h hr => ?_)
            refine rw_if_eq (tgt := 120) dX12_check_92 (by decide) (fun c43 => ?_) (fun c43 => ?_)
            · rw [if_pos c43] at hf
              refine rw_sub [1, 2, 3] rfl ?_
              exact t_jX12_check_120 (ad := ad) (G := G) (lX12_check_9 n) ih v1 v2 q42.2 _ hr hf
            · rw [if_neg c43] at hf
              refine rw_aload_n dX12_check_95 1 rfl rfl ?_
              refine rw_aload_n dX12_check_96 1 rfl rfl ?_
              refine sg_43_36 hr dX12_check_97 fl1498 ?_
              refine rw_iload_n dX12_check_100 3 rfl rfl ?_
              refine rw_iconst (v := 1) dX12_check_101 (by decide) ?_
              refine rw_isub dX12_check_102 ?_
              obtain ⟨hi44, hf⟩ := grd hf
              refine sl_66 hr dX12_check_103 (inB_in hi44) ?_
              refine rw_aload_n dX12_check_104 1 rfl rfl ?_
              refine sg_43_36 hr dX12_check_105 fl1498 ?_
              refine rw_iload_n dX12_check_108 3 rfl rfl ?_
              obtain ⟨hi45, hf⟩ := grd hf
              refine sl_66 hr dX12_check_109 (inB_in hi45) ?_
              obtain ⟨q46, hq46, hf⟩ := bnd hf
              refine kV_I (ad := ad) (As := [.int (q42.2.2.2.1 66 (v2 - 1).toNatClampNeg), .int (q42.2.2.2.1 66 v2.toNatClampNeg)]) (st := []) dX12_check_110 calX12_isNewPlace wm1839 wm1841 wm58 rfl rfl (rc_43 hr) (ci := 12) (by decide) rfl rfl (Nat.le_of_ble_eq_true rfl) ⟨⟨by decide, by decide⟩, by decide, by decide⟩ (cmX12_isNewPlace hr hq46) (fun h hr => ?_)
              refine rw_if_eq (tgt := 120) dX12_check_113 (by decide) (fun c47 => ?_) (fun c47 => ?_)
              · rw [if_pos c47] at hf
                refine rw_sub [1, 2, 3] rfl ?_
                exact t_jX12_check_120 (ad := ad) (G := G) (lX12_check_9 n) ih v1 v2 q46.2 _ hr hf
              · rw [if_neg c47] at hf
                refine rw_iconst (v := 1) dX12_check_116 (by decide) ?_
                refine rw_goto (tgt := 121) dX12_check_117 (by decide) ?_
                refine rw_sub [1, 2, 3] rfl ?_
                exact t_jX12_check_121 (ad := ad) (G := G) (lX12_check_9 n) ih v1 v2 1 q46.2 _ hr hf
        · rw [if_pos c5] at hf
          refine rw_aload_n dX12_check_61 1 rfl rfl ?_
          refine rw_iload_n dX12_check_62 3 rfl rfl ?_
          refine rw_sipush (v := (-1000)) dX12_check_63 (by decide) ?_
          refine rw_sipush (v := 1000) dX12_check_66 (by decide) ?_
          obtain ⟨q48, hq48, hf⟩ := bnd hf
          refine kV_I (ad := ad) (As := [.int v2, .int ((-1000)), .int 1000]) (st := []) dX12_check_69 calX12_isNumber wm1835 wm1837 wm57 rfl rfl (rc_43 hr) (ci := 12) (by decide) rfl rfl (Nat.le_of_ble_eq_true rfl) ⟨⟨by decide, by decide⟩, by decide, by decide⟩ (cmX12_isNumber hr hq48) (fun h hr => ?_)
          refine nmI hf (fun x49 hf => ?_)
          refine rw_istore_n (lv2 := [(3, .int x49), (0, .ref (ad 43)), (1, .int v1), (2, .int v2)]) dX12_check_72 rfl (by decide) rfl ?_
          refine rw_goto (tgt := 347) dX12_check_73 (by decide) ?_
          refine rw_sub [1, 2, 3, 0] rfl ?_
          exact t_jX12_check_347 (ad := ad) (G := G) (lX12_check_9 n) ih v1 v2 x49 q48.2 _ hr hf
      · rw [if_pos c4] at hf
        refine rw_aload_n dX12_check_23 1 rfl rfl ?_
        refine rw_iload_n dX12_check_24 3 rfl rfl ?_
        refine rw_bipush (v := 98) dX12_check_25 (by decide) ?_
        obtain ⟨q50, hq50, hf⟩ := bnd hf
        refine kV_I (ad := ad) (As := [.int v2, .int 98]) (st := []) dX12_check_27 calX12_isWord wm1831 wm1833 wm56 rfl rfl (rc_43 hr) (ci := 12) (by decide) rfl rfl (Nat.le_of_ble_eq_true rfl) ⟨⟨by decide, by decide⟩, by decide, by decide⟩ (cmX12_isWord hr hq50) (fun h hr => ?_)
        refine rw_if_eq (tgt := 51) dX12_check_30 (by decide) (fun c51 => ?_) (fun c51 => ?_)
        · rw [if_pos c51] at hf
          refine rw_sub [1, 2, 3] rfl ?_
          exact t_jX12_check_51 (ad := ad) (G := G) (lX12_check_9 n) ih v1 v2 q50.2 _ hr hf
        · rw [if_neg c51] at hf
          refine rw_aload_n dX12_check_33 1 rfl rfl ?_
          refine sg_43_2 hr dX12_check_34 fl1464 ?_
          refine rw_aload_n dX12_check_37 1 rfl rfl ?_
          refine sg_43_39 hr dX12_check_38 fl1501 ?_
          refine rw_iadd dX12_check_41 ?_
          refine rw_bipush (v := 16) dX12_check_42 (by decide) ?_
          refine rw_icmp_ge (tgt := 51) dX12_check_44 (by decide) (fun c52 => ?_) (fun c52 => ?_)
          · rw [if_pos c52] at hf
            refine rw_sub [1, 2, 3] rfl ?_
            exact t_jX12_check_51 (ad := ad) (G := G) (lX12_check_9 n) ih v1 v2 q50.2 _ hr hf
          · rw [if_neg c52] at hf
            refine rw_iconst (v := 1) dX12_check_47 (by decide) ?_
            refine rw_goto (tgt := 52) dX12_check_48 (by decide) ?_
            refine rw_sub [1, 2, 3] rfl ?_
            exact t_jX12_check_52 (ad := ad) (G := G) (lX12_check_9 n) ih v1 v2 1 q50.2 _ hr hf
def fX12_check  (σ : rS) : Option (Int32 × rS) := vS (uI σ 43 39 0) fun σ1 => lX12_check_9 1000 0 0 σ1
set_option maxHeartbeats 4000000 in
theorem cmX12_check {G : rG} {ad : Nat → Nat}  {σ : rS} {h : rH} {o : (Int32 × rS)} (hr : Rep G ad σ h) (hf : fX12_check  σ = some o) : rMT G mX12_check (rm 2 0 0) [.ref (ad 43)] h (qI G ad o) xN := by
  unfold fX12_check at hf
  refine rw_met (by decide +kernel) rfl (Nat.le_of_ble_eq_true rfl) ?_
  show RW G _ _ _ _ 0 0 0 [(0, .ref (ad 43))] [] h
  refine rw_aload_n dX12_check_0 0 rfl rfl ?_
  refine rw_iconst (v := 0) dX12_check_1 (by decide) ?_
  refine sp_43_39 hr dX12_check_2 fl1501 (fun h hr => ?_)
  refine nmS hf hr (fun σ1 hr hf => ?_)
  refine rw_iconst (v := 0) dX12_check_5 (by decide) ?_
  refine rw_istore_n (lv2 := [(1, .int 0), (0, .ref (ad 43))]) dX12_check_6 rfl (by decide) rfl ?_
  refine rw_iconst (v := 0) dX12_check_7 (by decide) ?_
  refine rw_istore_n (lv2 := [(2, .int 0), (1, .int 0), (0, .ref (ad 43))]) dX12_check_8 rfl (by decide) rfl ?_
  refine rw_sub [2, 1, 0] rfl ?_
  exact t_lX12_check_9 (ad := ad) (G := G)  1000 0 0 σ1 _ hr hf
def lX12_read_100 (k30 : Int32 → rS → Option (Int32 × rS)) : Nat → Int32 → Int32 → rS → Option (Int32 × rS)
  | 0, _, _, _ => none
  | n + 1, v2, v3, σ => if inB v2 16 then (if (σ.2.2.1 71 v2.toNatClampNeg) ≤ v3 then vS (uI σ 43 2 ((σ.1 43 2) + 1)) fun σ22 => vS (uI σ22 43 1 0) fun σ23 => vI (v2 + 1) fun x24 => k30 x24 σ23 else if inB ((12 * v2) + v3) 192 then if inB ((12 * (σ.1 43 2)) + v3) 192 then vS (uA σ 48 ((12 * (σ.1 43 2)) + v3).toNatClampNeg (σ.2.2.1 72 ((12 * v2) + v3).toNatClampNeg)) fun σ27 => if inB ((12 * v2) + v3) 192 then if inB ((12 * (σ27.1 43 2)) + v3) 192 then vS (uA σ27 49 ((12 * (σ27.1 43 2)) + v3).toNatClampNeg (σ27.2.2.1 73 ((12 * v2) + v3).toNatClampNeg)) fun σ30 => vI (v3 + 1) fun x31 => (lX12_read_100 k30 n) v2 x31 σ30 else none else none else none else none) else none
set_option maxHeartbeats 4000000 in
theorem t_lX12_read_100 {G : rG} {ad : Nat → Nat} {o : (Int32 × rS)} (k30 : Int32 → rS → Option (Int32 × rS)) (hk30 : ∀ (v2 : Int32) (σ : rS) (h : rH), Rep G ad σ h → k30 v2 σ = some o → RW G mX12_read (rm 3 0 0) (qI G ad o) xN 0 0 30 [(0, .ref (ad 43)), (2, .int v2)] [] h) : ∀ (n : Nat) (v2 : Int32) (v3 : Int32) (σ : rS) (h : rH), Rep G ad σ h → lX12_read_100 k30 n v2 v3 σ = some o → RW G mX12_read (rm 3 0 0) (qI G ad o) xN 0 0 100 [(0, .ref (ad 43)), (2, .int v2), (3, .int v3)] [] h := by
  intro n
  induction n with
  | zero =>
    intro v2 v3 σ h hr hf
    rw [lX12_read_100] at hf
    cases hf
  | succ n ih =>
    intro v2 v3 σ h hr hf
    rw [lX12_read_100] at hf
    refine rw_iload_n dX12_read_100 2 rfl rfl ?_
    refine rw_aload_n dX12_read_101 0 rfl rfl ?_
    refine sg_43_43 hr dX12_read_102 fl1505 ?_
    refine rw_iload_n dX12_read_105 1 rfl rfl ?_
    obtain ⟨hi20, hf⟩ := grd hf
    refine sl_71 hr dX12_read_106 (inB_in hi20) ?_
    refine rw_icmp_ge (tgt := 166) dX12_read_107 (by decide) (fun c21 => ?_) (fun c21 => ?_)
    · rw [if_pos c21] at hf
      refine rw_aload_n dX12_read_166 0 rfl rfl ?_
      refine rw_dup dX12_read_167 rfl ?_
      refine sg_43_2 hr dX12_read_168 fl1464 ?_
      refine rw_iconst (v := 1) dX12_read_171 (by decide) ?_
      refine rw_iadd dX12_read_172 ?_
      refine sp_43_2 hr dX12_read_173 fl1464 (fun h hr => ?_)
      refine nmS hf hr (fun σ22 hr hf => ?_)
      refine rw_aload_n dX12_read_176 0 rfl rfl ?_
      refine rw_iconst (v := 0) dX12_read_177 (by decide) ?_
      refine sp_43_1 hr dX12_read_178 fl1463 (by decide) (by decide) (fun h hr => ?_)
      refine nmS hf hr (fun σ23 hr hf => ?_)
      refine rw_iinc (v := v2 + 1) (lv2 := [(2, .int (v2 + 1)), (0, .ref (ad 43)), (3, .int v3)]) dX12_read_181 1 rfl rfl (by decide) rfl ?_
      refine nmL hf (fun x24 hf => ?_)
      refine rw_goto (tgt := 30) dX12_read_184 (by decide) ?_
      refine rw_sub [1, 0] rfl ?_
      exact hk30 x24 σ23 _ hr hf
    · rw [if_neg c21] at hf
      refine rw_aload_n dX12_read_110 0 rfl rfl ?_
      refine sg_43_7 hr dX12_read_111 fl1469 ?_
      refine rw_bipush (v := 12) dX12_read_114 (by decide) ?_
      refine rw_aload_n dX12_read_116 0 rfl rfl ?_
      refine sg_43_2 hr dX12_read_117 fl1464 ?_
      refine rw_imul dX12_read_120 ?_
      refine rw_iload_n dX12_read_121 2 rfl rfl ?_
      refine rw_iadd dX12_read_122 ?_
      refine rw_aload_n dX12_read_123 0 rfl rfl ?_
      refine sg_43_44 hr dX12_read_124 fl1506 ?_
      refine rw_bipush (v := 12) dX12_read_127 (by decide) ?_
      refine rw_iload_n dX12_read_129 1 rfl rfl ?_
      refine rw_imul dX12_read_130 ?_
      refine rw_iload_n dX12_read_131 2 rfl rfl ?_
      refine rw_iadd dX12_read_132 ?_
      obtain ⟨hi25, hf⟩ := grd hf
      refine sl_72 hr dX12_read_133 (inB_in hi25) ?_
      obtain ⟨hi26, hf⟩ := grd hf
      refine ss_48 hr dX12_read_134 (inB_in hi26) (fun h hr => ?_)
      refine nmS hf hr (fun σ27 hr hf => ?_)
      refine rw_aload_n dX12_read_135 0 rfl rfl ?_
      refine sg_43_8 hr dX12_read_136 fl1470 ?_
      refine rw_bipush (v := 12) dX12_read_139 (by decide) ?_
      refine rw_aload_n dX12_read_141 0 rfl rfl ?_
      refine sg_43_2 hr dX12_read_142 fl1464 ?_
      refine rw_imul dX12_read_145 ?_
      refine rw_iload_n dX12_read_146 2 rfl rfl ?_
      refine rw_iadd dX12_read_147 ?_
      refine rw_aload_n dX12_read_148 0 rfl rfl ?_
      refine sg_43_45 hr dX12_read_149 fl1507 ?_
      refine rw_bipush (v := 12) dX12_read_152 (by decide) ?_
      refine rw_iload_n dX12_read_154 1 rfl rfl ?_
      refine rw_imul dX12_read_155 ?_
      refine rw_iload_n dX12_read_156 2 rfl rfl ?_
      refine rw_iadd dX12_read_157 ?_
      obtain ⟨hi28, hf⟩ := grd hf
      refine sl_73 hr dX12_read_158 (inB_in hi28) ?_
      obtain ⟨hi29, hf⟩ := grd hf
      refine ss_49 hr dX12_read_159 (inB_in hi29) (fun h hr => ?_)
      refine nmS hf hr (fun σ30 hr hf => ?_)
      refine rw_iinc (v := v3 + 1) (lv2 := [(3, .int (v3 + 1)), (0, .ref (ad 43)), (2, .int v2)]) dX12_read_160 2 rfl rfl (by decide) rfl ?_
      refine nmL hf (fun x31 hf => ?_)
      refine rw_goto (tgt := 100) dX12_read_163 (by decide) ?_
      refine rw_sub [1, 2, 0] rfl ?_
      exact ih v2 x31 σ30 _ hr hf
def lX12_read_30  : Nat → Int32 → rS → Option (Int32 × rS)
  | 0, _, _ => none
  | n + 1, v2, σ => if (σ.1 43 39) ≤ v2 then some ((σ.1 43 39), σ) else if inB v2 16 then if inB (σ.1 43 2) 16 then vS (uA σ 44 (σ.1 43 2).toNatClampNeg (σ.2.2.1 68 v2.toNatClampNeg)) fun σ10 => if inB v2 16 then if inB (σ10.1 43 2) 16 then vS (uA σ10 45 (σ10.1 43 2).toNatClampNeg (σ10.2.2.1 69 v2.toNatClampNeg)) fun σ13 => if inB v2 16 then if inB (σ13.1 43 2) 16 then vS (uA σ13 46 (σ13.1 43 2).toNatClampNeg (σ13.2.2.1 70 v2.toNatClampNeg)) fun σ16 => if inB v2 16 then if inB (σ16.1 43 2) 16 then vS (uA σ16 47 (σ16.1 43 2).toNatClampNeg (σ16.2.2.1 71 v2.toNatClampNeg)) fun σ19 => lX12_read_100 (lX12_read_30 n) 1000 v2 0 σ19 else none else none else none else none else none else none else none else none
set_option maxHeartbeats 4000000 in
theorem t_lX12_read_30 {G : rG} {ad : Nat → Nat} {o : (Int32 × rS)}   : ∀ (n : Nat) (v2 : Int32) (σ : rS) (h : rH), Rep G ad σ h → lX12_read_30  n v2 σ = some o → RW G mX12_read (rm 3 0 0) (qI G ad o) xN 0 0 30 [(0, .ref (ad 43)), (2, .int v2)] [] h := by
  intro n
  induction n with
  | zero =>
    intro v2 σ h hr hf
    rw [lX12_read_30] at hf
    cases hf
  | succ n ih =>
    intro v2 σ h hr hf
    rw [lX12_read_30] at hf
    refine rw_iload_n dX12_read_30 1 rfl rfl ?_
    refine rw_aload_n dX12_read_31 0 rfl rfl ?_
    refine sg_43_39 hr dX12_read_32 fl1501 ?_
    refine rw_icmp_ge (tgt := 187) dX12_read_35 (by decide) (fun c7 => ?_) (fun c7 => ?_)
    · rw [if_pos c7] at hf
      refine rw_aload_n dX12_read_187 0 rfl rfl ?_
      refine sg_43_39 hr dX12_read_188 fl1501 ?_
      replace hf := Option.some.inj hf
      subst hf
      exact rw_ireturn dX12_read_191 rfl ⟨rfl, hr⟩ (by decide) (by decide)
    · rw [if_neg c7] at hf
      refine rw_aload_n dX12_read_38 0 rfl rfl ?_
      refine sg_43_3 hr dX12_read_39 fl1465 ?_
      refine rw_aload_n dX12_read_42 0 rfl rfl ?_
      refine sg_43_2 hr dX12_read_43 fl1464 ?_
      refine rw_aload_n dX12_read_46 0 rfl rfl ?_
      refine sg_43_40 hr dX12_read_47 fl1502 ?_
      refine rw_iload_n dX12_read_50 1 rfl rfl ?_
      obtain ⟨hi8, hf⟩ := grd hf
      refine sl_68 hr dX12_read_51 (inB_in hi8) ?_
      obtain ⟨hi9, hf⟩ := grd hf
      refine ss_44 hr dX12_read_52 (inB_in hi9) (fun h hr => ?_)
      refine nmS hf hr (fun σ10 hr hf => ?_)
      refine rw_aload_n dX12_read_53 0 rfl rfl ?_
      refine sg_43_4 hr dX12_read_54 fl1466 ?_
      refine rw_aload_n dX12_read_57 0 rfl rfl ?_
      refine sg_43_2 hr dX12_read_58 fl1464 ?_
      refine rw_aload_n dX12_read_61 0 rfl rfl ?_
      refine sg_43_41 hr dX12_read_62 fl1503 ?_
      refine rw_iload_n dX12_read_65 1 rfl rfl ?_
      obtain ⟨hi11, hf⟩ := grd hf
      refine sl_69 hr dX12_read_66 (inB_in hi11) ?_
      obtain ⟨hi12, hf⟩ := grd hf
      refine ss_45 hr dX12_read_67 (inB_in hi12) (fun h hr => ?_)
      refine nmS hf hr (fun σ13 hr hf => ?_)
      refine rw_aload_n dX12_read_68 0 rfl rfl ?_
      refine sg_43_5 hr dX12_read_69 fl1467 ?_
      refine rw_aload_n dX12_read_72 0 rfl rfl ?_
      refine sg_43_2 hr dX12_read_73 fl1464 ?_
      refine rw_aload_n dX12_read_76 0 rfl rfl ?_
      refine sg_43_42 hr dX12_read_77 fl1504 ?_
      refine rw_iload_n dX12_read_80 1 rfl rfl ?_
      obtain ⟨hi14, hf⟩ := grd hf
      refine sl_70 hr dX12_read_81 (inB_in hi14) ?_
      obtain ⟨hi15, hf⟩ := grd hf
      refine ss_46 hr dX12_read_82 (inB_in hi15) (fun h hr => ?_)
      refine nmS hf hr (fun σ16 hr hf => ?_)
      refine rw_aload_n dX12_read_83 0 rfl rfl ?_
      refine sg_43_6 hr dX12_read_84 fl1468 ?_
      refine rw_aload_n dX12_read_87 0 rfl rfl ?_
      refine sg_43_2 hr dX12_read_88 fl1464 ?_
      refine rw_aload_n dX12_read_91 0 rfl rfl ?_
      refine sg_43_43 hr dX12_read_92 fl1505 ?_
      refine rw_iload_n dX12_read_95 1 rfl rfl ?_
      obtain ⟨hi17, hf⟩ := grd hf
      refine sl_71 hr dX12_read_96 (inB_in hi17) ?_
      obtain ⟨hi18, hf⟩ := grd hf
      refine ss_47 hr dX12_read_97 (inB_in hi18) (fun h hr => ?_)
      refine nmS hf hr (fun σ19 hr hf => ?_)
      refine rw_iconst (v := 0) dX12_read_98 (by decide) ?_
      refine rw_istore_n (lv2 := [(3, .int 0), (0, .ref (ad 43)), (2, .int v2)]) dX12_read_99 rfl (by decide) rfl ?_
      refine rw_sub [1, 2, 0] rfl ?_
      exact t_lX12_read_100 (ad := ad) (G := G) (lX12_read_30 n) ih 1000 v2 0 σ19 _ hr hf
def fX12_read  (σ : rS) : Option (Int32 × rS) := vS (uI σ 43 0 0) fun σ1 => (fX12_findWords σ1).bind fun q2 => (fX12_check q2.2).bind fun q3 => vI q3.1 fun x4 => vS (uI q3.2 43 31 0) fun σ5 => if x4 = ((-1)) then lX12_read_30 1000 0 σ5 else some ((((-1)) - x4), σ5)
set_option maxHeartbeats 4000000 in
theorem cmX12_read {G : rG} {ad : Nat → Nat}  {σ : rS} {h : rH} {o : (Int32 × rS)} (hr : Rep G ad σ h) (hf : fX12_read  σ = some o) : rMT G mX12_read (rm 3 0 0) [.ref (ad 43)] h (qI G ad o) xN := by
  unfold fX12_read at hf
  refine rw_met (by decide +kernel) rfl (Nat.le_of_ble_eq_true rfl) ?_
  show RW G _ _ _ _ 0 0 0 [(0, .ref (ad 43))] [] h
  refine rw_aload_n dX12_read_0 0 rfl rfl ?_
  refine rw_iconst (v := 0) dX12_read_1 (by decide) ?_
  refine sp_43_0 hr dX12_read_2 fl1462 (fun h hr => ?_)
  refine nmS hf hr (fun σ1 hr hf => ?_)
  refine rw_aload_n dX12_read_5 0 rfl rfl ?_
  obtain ⟨q2, hq2, hf⟩ := bnd hf
  refine kV_V (ad := ad) (As := []) (st := []) dX12_read_6 calX12_findWords wm1823 wm1825 wm54 rfl rfl (rc_43 hr) (ci := 12) (by decide) rfl rfl (Nat.le_of_ble_eq_true rfl) ⟨⟨by decide, by decide⟩, by decide, by decide⟩ (cmX12_findWords hr hq2) (fun h hr => ?_)
  refine rw_aload_n dX12_read_9 0 rfl rfl ?_
  obtain ⟨q3, hq3, hf⟩ := bnd hf
  refine kV_I (ad := ad) (As := []) (st := []) dX12_read_10 calX12_check wm1827 wm1829 wm55 rfl rfl (rc_43 hr) (ci := 12) (by decide) rfl rfl (Nat.le_of_ble_eq_true rfl) ⟨⟨by decide, by decide⟩, by decide, by decide⟩ (cmX12_check hr hq3) (fun h hr => ?_)
  refine nmI hf (fun x4 hf => ?_)
  refine rw_istore_n (lv2 := [(1, .int x4), (0, .ref (ad 43))]) dX12_read_13 rfl (by decide) rfl ?_
  refine rw_aload_n dX12_read_14 1 rfl rfl ?_
  refine rw_iconst (v := 0) dX12_read_15 (by decide) ?_
  refine sp_43_31 hr dX12_read_16 fl1493 (fun h hr => ?_)
  refine nmS hf hr (fun σ5 hr hf => ?_)
  refine rw_iload_n dX12_read_19 0 rfl rfl ?_
  refine rw_iconst (v := (-1)) dX12_read_20 (by decide) ?_
  refine rw_icmp_eq (tgt := 28) dX12_read_21 (by decide) (fun c6 => ?_) (fun c6 => ?_)
  · rw [if_pos c6] at hf
    refine rw_iconst (v := 0) dX12_read_28 (by decide) ?_
    refine rw_istore_n (lv2 := [(2, .int 0), (1, .int x4), (0, .ref (ad 43))]) dX12_read_29 rfl (by decide) rfl ?_
    refine rw_sub [2, 0] rfl ?_
    exact t_lX12_read_30 (ad := ad) (G := G)  1000 0 σ5 _ hr hf
  · rw [if_neg c6] at hf
    refine rw_iconst (v := (-1)) dX12_read_24 (by decide) ?_
    refine rw_iload_n dX12_read_25 0 rfl rfl ?_
    refine rw_isub dX12_read_26 ?_
    replace hf := Option.some.inj hf
    subst hf
    exact rw_ireturn dX12_read_27 rfl ⟨rfl, hr⟩ (by decide) (by decide)
def fX12_say (a0 : Int32) (σ : rS) : Option (Unit × rS) := if inB (σ.1 43 37) 200 then vS (uA σ 67 (σ.1 43 37).toNatClampNeg (vp_nar .char ((a0.toUInt32 % 65536).toInt32))) fun σ2 => vS (uI σ2 43 37 ((σ2.1 43 37) + 1)) fun σ3 => some ((), σ3) else none
set_option maxHeartbeats 4000000 in
theorem cmX12_say {G : rG} {ad : Nat → Nat} {a0 : Int32} {σ : rS} {h : rH} {o : (Unit × rS)} (hr : Rep G ad σ h) (hf : fX12_say a0 σ = some o) : rMT G mX12_say (rm 0 0 0) [.ref (ad 43), .int a0] h (qV G ad o) xN := by
  unfold fX12_say at hf
  refine rw_met (by decide +kernel) rfl (Nat.le_of_ble_eq_true rfl) ?_
  show RW G _ _ _ _ 0 0 0 [(0, .ref (ad 43)), (1, .int a0)] [] h
  refine rw_aload_n dX12_say_0 0 rfl rfl ?_
  refine sg_43_38 hr dX12_say_1 fl1500 ?_
  refine rw_aload_n dX12_say_4 0 rfl rfl ?_
  refine sg_43_37 hr dX12_say_5 fl1499 ?_
  refine rw_iload_n dX12_say_8 1 rfl rfl ?_
  refine rw_i2c dX12_say_9 ?_
  obtain ⟨hi1, hf⟩ := grd hf
  refine ss_67 hr dX12_say_10 (inB_in hi1) (fun h hr => ?_)
  refine nmS hf hr (fun σ2 hr hf => ?_)
  refine rw_aload_n dX12_say_11 0 rfl rfl ?_
  refine rw_dup dX12_say_12 rfl ?_
  refine sg_43_37 hr dX12_say_13 fl1499 ?_
  refine rw_iconst (v := 1) dX12_say_16 (by decide) ?_
  refine rw_iadd dX12_say_17 ?_
  refine sp_43_37 hr dX12_say_18 fl1499 (fun h hr => ?_)
  refine nmS hf hr (fun σ3 hr hf => ?_)
  replace hf := Option.some.inj hf
  subst hf
  exact rw_return dX12_say_21 rfl ⟨rfl, hr⟩ (by decide) (by decide)
def lX12_sayNumber_45  : Nat → Int32 → Int32 → rS → Option (Unit × rS)
  | 0, _, _, _ => none
  | n + 1, v2, v3, σ => if v3 ≤ 0 then some ((), σ) else if ¬ v3 = 0 then (fX12_say (48 + ((v2 / v3) - (v2 / v3) / 10 * 10)) σ).bind fun q11 => vI (v3 / 10) fun x13 => (lX12_sayNumber_45 n) v2 x13 q11.2 else none
set_option maxHeartbeats 4000000 in
theorem t_lX12_sayNumber_45 {G : rG} {ad : Nat → Nat} {o : (Unit × rS)}   : ∀ (n : Nat) (v2 : Int32) (v3 : Int32) (σ : rS) (h : rH), Rep G ad σ h → lX12_sayNumber_45  n v2 v3 σ = some o → RW G mX12_sayNumber (rm 1 0 0) (qV G ad o) xN 0 0 45 [(0, .ref (ad 43)), (2, .int v2), (3, .int v3)] [] h := by
  intro n
  induction n with
  | zero =>
    intro v2 v3 σ h hr hf
    rw [lX12_sayNumber_45] at hf
    cases hf
  | succ n ih =>
    intro v2 v3 σ h hr hf
    rw [lX12_sayNumber_45] at hf
    refine rw_iload_n dX12_sayNumber_45 2 rfl rfl ?_
    refine rw_if_le (tgt := 70) dX12_sayNumber_46 (by decide) (fun c8 => ?_) (fun c8 => ?_)
    · rw [if_pos c8] at hf
      replace hf := Option.some.inj hf
      subst hf
      exact rw_return dX12_sayNumber_70 rfl ⟨rfl, hr⟩ (by decide) (by decide)
    · rw [if_neg c8] at hf
      refine rw_aload_n dX12_sayNumber_49 0 rfl rfl ?_
      refine rw_bipush (v := 48) dX12_sayNumber_50 (by decide) ?_
      refine rw_iload_n dX12_sayNumber_52 1 rfl rfl ?_
      refine rw_iload_n dX12_sayNumber_53 2 rfl rfl ?_
      obtain ⟨hz9, hf⟩ := grd hf
      refine rw_idiv dX12_sayNumber_54 hz9 ?_
      refine rw_bipush (v := 10) dX12_sayNumber_55 (by decide) ?_
      refine rw_irem dX12_sayNumber_57 (by decide) ?_
      refine rw_iadd dX12_sayNumber_58 ?_
      obtain ⟨q11, hq11, hf⟩ := bnd hf
      refine kV_V (ad := ad) (As := [.int (48 + ((v2 / v3) - (v2 / v3) / 10 * 10))]) (st := []) dX12_sayNumber_59 calX12_say wm1847 wm1849 wm59 rfl rfl (rc_43 hr) (ci := 12) (by decide) rfl rfl (Nat.le_of_ble_eq_true rfl) ⟨⟨by decide, by decide⟩, by decide, by decide⟩ (cmX12_say hr hq11) (fun h hr => ?_)
      refine rw_iload_n dX12_sayNumber_62 2 rfl rfl ?_
      refine rw_bipush (v := 10) dX12_sayNumber_63 (by decide) ?_
      refine rw_idiv dX12_sayNumber_65 (by decide) ?_
      refine nmI hf (fun x13 hf => ?_)
      refine rw_istore_n (lv2 := [(3, .int x13), (0, .ref (ad 43)), (2, .int v2)]) dX12_sayNumber_66 rfl (by decide) rfl ?_
      refine rw_goto (tgt := 45) dX12_sayNumber_67 (by decide) ?_
      refine rw_sub [1, 2, 0] rfl ?_
      exact ih v2 x13 q11.2 _ hr hf
def lX12_sayNumber_29  : Nat → Int32 → Int32 → rS → Option (Unit × rS)
  | 0, _, _, _ => none
  | n + 1, v2, v3, σ => if ¬ v3 = 0 then (if (v2 / v3) ≤ 9 then lX12_sayNumber_45 1000 v2 v3 σ else vI (v3 * 10) fun x7 => (lX12_sayNumber_29 n) v2 x7 σ) else none
set_option maxHeartbeats 4000000 in
theorem t_lX12_sayNumber_29 {G : rG} {ad : Nat → Nat} {o : (Unit × rS)}   : ∀ (n : Nat) (v2 : Int32) (v3 : Int32) (σ : rS) (h : rH), Rep G ad σ h → lX12_sayNumber_29  n v2 v3 σ = some o → RW G mX12_sayNumber (rm 1 0 0) (qV G ad o) xN 0 0 29 [(0, .ref (ad 43)), (2, .int v2), (3, .int v3)] [] h := by
  intro n
  induction n with
  | zero =>
    intro v2 v3 σ h hr hf
    rw [lX12_sayNumber_29] at hf
    cases hf
  | succ n ih =>
    intro v2 v3 σ h hr hf
    rw [lX12_sayNumber_29] at hf
    refine rw_iload_n dX12_sayNumber_29 1 rfl rfl ?_
    refine rw_iload_n dX12_sayNumber_30 2 rfl rfl ?_
    obtain ⟨hz5, hf⟩ := grd hf
    refine rw_idiv dX12_sayNumber_31 hz5 ?_
    refine rw_bipush (v := 9) dX12_sayNumber_32 (by decide) ?_
    refine rw_icmp_le (tgt := 45) dX12_sayNumber_34 (by decide) (fun c6 => ?_) (fun c6 => ?_)
    · rw [if_pos c6] at hf
      exact t_lX12_sayNumber_45 (ad := ad) (G := G)  1000 v2 v3 σ _ hr hf
    · rw [if_neg c6] at hf
      refine rw_iload_n dX12_sayNumber_37 2 rfl rfl ?_
      refine rw_bipush (v := 10) dX12_sayNumber_38 (by decide) ?_
      refine rw_imul dX12_sayNumber_40 ?_
      refine nmI hf (fun x7 hf => ?_)
      refine rw_istore_n (lv2 := [(3, .int x7), (0, .ref (ad 43)), (2, .int v2)]) dX12_sayNumber_41 rfl (by decide) rfl ?_
      refine rw_goto (tgt := 29) dX12_sayNumber_42 (by decide) ?_
      refine rw_sub [1, 2, 0] rfl ?_
      exact ih v2 x7 σ _ hr hf
def jX12_sayNumber_26  (s0 : Int32) (σ : rS) : Option (Unit × rS) := lX12_sayNumber_29 1000 s0 1 σ
set_option maxHeartbeats 4000000 in
theorem t_jX12_sayNumber_26 {G : rG} {ad : Nat → Nat} {o : (Unit × rS)}   (s0 : Int32) (σ : rS) (h : rH) (hr : Rep G ad σ h) (hf : jX12_sayNumber_26  s0 σ = some o) : RW G mX12_sayNumber (rm 1 0 0) (qV G ad o) xN 0 0 26 [(0, .ref (ad 43))] [.int s0] h := by
  unfold jX12_sayNumber_26 at hf
  refine rw_istore_n (lv2 := [(2, .int s0), (0, .ref (ad 43))]) dX12_sayNumber_26 rfl (by decide) rfl ?_
  refine rw_iconst (v := 1) dX12_sayNumber_27 (by decide) ?_
  refine rw_istore_n (lv2 := [(3, .int 1), (2, .int s0), (0, .ref (ad 43))]) dX12_sayNumber_28 rfl (by decide) rfl ?_
  refine rw_sub [2, 1, 0] rfl ?_
  exact t_lX12_sayNumber_29 (ad := ad) (G := G)  1000 s0 1 σ _ hr hf
def jX12_sayNumber_16  (v1 : Int32) (σ : rS) : Option (Unit × rS) := if 0 ≤ v1 then jX12_sayNumber_26 v1 σ else jX12_sayNumber_26 (-v1) σ
set_option maxHeartbeats 4000000 in
theorem t_jX12_sayNumber_16 {G : rG} {ad : Nat → Nat} {o : (Unit × rS)}   (v1 : Int32) (σ : rS) (h : rH) (hr : Rep G ad σ h) (hf : jX12_sayNumber_16  v1 σ = some o) : RW G mX12_sayNumber (rm 1 0 0) (qV G ad o) xN 0 0 16 [(0, .ref (ad 43)), (1, .int v1)] [] h := by
  unfold jX12_sayNumber_16 at hf
  refine rw_iload_n dX12_sayNumber_16 1 rfl rfl ?_
  refine rw_if_ge (tgt := 25) dX12_sayNumber_17 (by decide) (fun c4 => ?_) (fun c4 => ?_)
  · rw [if_pos c4] at hf
    refine rw_iload_n dX12_sayNumber_25 1 rfl rfl ?_
    refine rw_sub [0] rfl ?_
    exact t_jX12_sayNumber_26 (ad := ad) (G := G)  v1 σ _ hr hf
  · rw [if_neg c4] at hf
    refine rw_iload_n dX12_sayNumber_20 1 rfl rfl ?_
    refine rw_ineg dX12_sayNumber_21 ?_
    refine rw_goto (tgt := 26) dX12_sayNumber_22 (by decide) ?_
    refine rw_sub [0] rfl ?_
    exact t_jX12_sayNumber_26 (ad := ad) (G := G)  (-v1) σ _ hr hf
def fX12_sayNumber (a0 : Int32) (σ : rS) : Option (Unit × rS) := (fX12_say 32 σ).bind fun q1 => if 0 ≤ a0 then jX12_sayNumber_16 a0 q1.2 else (fX12_say 45 q1.2).bind fun q3 => jX12_sayNumber_16 a0 q3.2
set_option maxHeartbeats 4000000 in
theorem cmX12_sayNumber {G : rG} {ad : Nat → Nat} {a0 : Int32} {σ : rS} {h : rH} {o : (Unit × rS)} (hr : Rep G ad σ h) (hf : fX12_sayNumber a0 σ = some o) : rMT G mX12_sayNumber (rm 1 0 0) [.ref (ad 43), .int a0] h (qV G ad o) xN := by
  unfold fX12_sayNumber at hf
  refine rw_met (by decide +kernel) rfl (Nat.le_of_ble_eq_true rfl) ?_
  show RW G _ _ _ _ 0 0 0 [(0, .ref (ad 43)), (1, .int a0)] [] h
  refine rw_aload_n dX12_sayNumber_0 0 rfl rfl ?_
  refine rw_bipush (v := 32) dX12_sayNumber_1 (by decide) ?_
  obtain ⟨q1, hq1, hf⟩ := bnd hf
  refine kV_V (ad := ad) (As := [.int 32]) (st := []) dX12_sayNumber_3 calX12_say wm1847 wm1849 wm59 rfl rfl (rc_43 hr) (ci := 12) (by decide) rfl rfl (Nat.le_of_ble_eq_true rfl) ⟨⟨by decide, by decide⟩, by decide, by decide⟩ (cmX12_say hr hq1) (fun h hr => ?_)
  refine rw_iload_n dX12_sayNumber_6 1 rfl rfl ?_
  refine rw_if_ge (tgt := 16) dX12_sayNumber_7 (by decide) (fun c2 => ?_) (fun c2 => ?_)
  · rw [if_pos c2] at hf
    exact t_jX12_sayNumber_16 (ad := ad) (G := G)  a0 q1.2 _ hr hf
  · rw [if_neg c2] at hf
    refine rw_aload_n dX12_sayNumber_10 0 rfl rfl ?_
    refine rw_bipush (v := 45) dX12_sayNumber_11 (by decide) ?_
    obtain ⟨q3, hq3, hf⟩ := bnd hf
    refine kV_V (ad := ad) (As := [.int 45]) (st := []) dX12_sayNumber_13 calX12_say wm1847 wm1849 wm59 rfl rfl (rc_43 hr) (ci := 12) (by decide) rfl rfl (Nat.le_of_ble_eq_true rfl) ⟨⟨by decide, by decide⟩, by decide, by decide⟩ (cmX12_say hr hq3) (fun h hr => ?_)
    exact t_jX12_sayNumber_16 (ad := ad) (G := G)  a0 q3.2 _ hr hf
def lX12_write_69  : Nat → Int32 → Int32 → rS → Option (Int32 × rS)
  | 0, _, _, _ => none
  | n + 1, v1, v2, σ => if inB v1 16 then (if (σ.2.2.1 47 v1.toNatClampNeg) ≤ v2 then (fX12_say 32 σ).bind fun q15 => (fX12_say 101 q15.2).bind fun q16 => some ((q16.2.1 43 37), q16.2) else if inB ((12 * v1) + v2) 192 then (fX12_sayNumber (σ.2.2.1 48 ((12 * v1) + v2).toNatClampNeg) σ).bind fun q18 => if inB ((12 * v1) + v2) 192 then (fX12_sayNumber (q18.2.2.2.1 49 ((12 * v1) + v2).toNatClampNeg) q18.2).bind fun q20 => vI (v2 + 1) fun x21 => (lX12_write_69 n) v1 x21 q20.2 else none else none) else none
set_option maxHeartbeats 4000000 in
theorem t_lX12_write_69 {G : rG} {ad : Nat → Nat} {o : (Int32 × rS)}   : ∀ (n : Nat) (v1 : Int32) (v2 : Int32) (σ : rS) (h : rH), Rep G ad σ h → lX12_write_69  n v1 v2 σ = some o → RW G mX12_write (rm 2 0 0) (qI G ad o) xN 0 0 69 [(0, .ref (ad 43)), (1, .int v1), (2, .int v2)] [] h := by
  intro n
  induction n with
  | zero =>
    intro v1 v2 σ h hr hf
    rw [lX12_write_69] at hf
    cases hf
  | succ n ih =>
    intro v1 v2 σ h hr hf
    rw [lX12_write_69] at hf
    refine rw_iload_n dX12_write_69 2 rfl rfl ?_
    refine rw_aload_n dX12_write_70 0 rfl rfl ?_
    refine sg_43_6 hr dX12_write_71 fl1468 ?_
    refine rw_iload_n dX12_write_74 1 rfl rfl ?_
    obtain ⟨hi13, hf⟩ := grd hf
    refine sl_47 hr dX12_write_75 (inB_in hi13) ?_
    refine rw_icmp_ge (tgt := 115) dX12_write_76 (by decide) (fun c14 => ?_) (fun c14 => ?_)
    · rw [if_pos c14] at hf
      refine rw_aload_n dX12_write_115 0 rfl rfl ?_
      refine rw_bipush (v := 32) dX12_write_116 (by decide) ?_
      obtain ⟨q15, hq15, hf⟩ := bnd hf
      refine kV_V (ad := ad) (As := [.int 32]) (st := []) dX12_write_118 calX12_say wm1847 wm1849 wm59 rfl rfl (rc_43 hr) (ci := 12) (by decide) rfl rfl (Nat.le_of_ble_eq_true rfl) ⟨⟨by decide, by decide⟩, by decide, by decide⟩ (cmX12_say hr hq15) (fun h hr => ?_)
      refine rw_aload_n dX12_write_121 0 rfl rfl ?_
      refine rw_bipush (v := 101) dX12_write_122 (by decide) ?_
      obtain ⟨q16, hq16, hf⟩ := bnd hf
      refine kV_V (ad := ad) (As := [.int 101]) (st := []) dX12_write_124 calX12_say wm1847 wm1849 wm59 rfl rfl (rc_43 hr) (ci := 12) (by decide) rfl rfl (Nat.le_of_ble_eq_true rfl) ⟨⟨by decide, by decide⟩, by decide, by decide⟩ (cmX12_say hr hq16) (fun h hr => ?_)
      refine rw_aload_n dX12_write_127 0 rfl rfl ?_
      refine sg_43_37 hr dX12_write_128 fl1499 ?_
      replace hf := Option.some.inj hf
      subst hf
      exact rw_ireturn dX12_write_131 rfl ⟨rfl, hr⟩ (by decide) (by decide)
    · rw [if_neg c14] at hf
      refine rw_aload_n dX12_write_79 0 rfl rfl ?_
      refine rw_aload_n dX12_write_80 0 rfl rfl ?_
      refine sg_43_7 hr dX12_write_81 fl1469 ?_
      refine rw_bipush (v := 12) dX12_write_84 (by decide) ?_
      refine rw_iload_n dX12_write_86 1 rfl rfl ?_
      refine rw_imul dX12_write_87 ?_
      refine rw_iload_n dX12_write_88 2 rfl rfl ?_
      refine rw_iadd dX12_write_89 ?_
      obtain ⟨hi17, hf⟩ := grd hf
      refine sl_48 hr dX12_write_90 (inB_in hi17) ?_
      obtain ⟨q18, hq18, hf⟩ := bnd hf
      refine kV_V (ad := ad) (As := [.int (σ.2.2.1 48 ((12 * v1) + v2).toNatClampNeg)]) (st := []) dX12_write_91 calX12_sayNumber wm1851 wm1853 wm60 rfl rfl (rc_43 hr) (ci := 12) (by decide) rfl rfl (Nat.le_of_ble_eq_true rfl) ⟨⟨by decide, by decide⟩, by decide, by decide⟩ (cmX12_sayNumber hr hq18) (fun h hr => ?_)
      refine rw_aload_n dX12_write_94 0 rfl rfl ?_
      refine rw_aload_n dX12_write_95 0 rfl rfl ?_
      refine sg_43_8 hr dX12_write_96 fl1470 ?_
      refine rw_bipush (v := 12) dX12_write_99 (by decide) ?_
      refine rw_iload_n dX12_write_101 1 rfl rfl ?_
      refine rw_imul dX12_write_102 ?_
      refine rw_iload_n dX12_write_103 2 rfl rfl ?_
      refine rw_iadd dX12_write_104 ?_
      obtain ⟨hi19, hf⟩ := grd hf
      refine sl_49 hr dX12_write_105 (inB_in hi19) ?_
      obtain ⟨q20, hq20, hf⟩ := bnd hf
      refine kV_V (ad := ad) (As := [.int (q18.2.2.2.1 49 ((12 * v1) + v2).toNatClampNeg)]) (st := []) dX12_write_106 calX12_sayNumber wm1851 wm1853 wm60 rfl rfl (rc_43 hr) (ci := 12) (by decide) rfl rfl (Nat.le_of_ble_eq_true rfl) ⟨⟨by decide, by decide⟩, by decide, by decide⟩ (cmX12_sayNumber hr hq20) (fun h hr => ?_)
      refine rw_iinc (v := v2 + 1) (lv2 := [(2, .int (v2 + 1)), (0, .ref (ad 43)), (1, .int v1)]) dX12_write_109 2 rfl rfl (by decide) rfl ?_
      refine nmL hf (fun x21 hf => ?_)
      refine rw_goto (tgt := 69) dX12_write_112 (by decide) ?_
      refine rw_sub [1, 2, 0] rfl ?_
      exact ih v1 x21 q20.2 _ hr hf
def jX12_write_14  (v1 : Int32) (s0 : Int32) (σ : rS) : Option (Int32 × rS) := vS (uI σ 43 0 s0) fun σ3 => if (σ3.1 43 0) ≤ 0 then vS (uI σ3 43 37 0) fun σ5 => (fX12_say 98 σ5).bind fun q6 => if inB v1 16 then (fX12_sayNumber (q6.2.2.2.1 44 v1.toNatClampNeg) q6.2).bind fun q8 => if inB v1 16 then (fX12_sayNumber (q8.2.2.2.1 45 v1.toNatClampNeg) q8.2).bind fun q10 => if inB v1 16 then (fX12_sayNumber (q10.2.2.2.1 46 v1.toNatClampNeg) q10.2).bind fun q12 => lX12_write_69 1000 v1 0 q12.2 else none else none else none else some (0, σ3)
set_option maxHeartbeats 4000000 in
theorem t_jX12_write_14 {G : rG} {ad : Nat → Nat} {o : (Int32 × rS)}   (v1 : Int32) (s0 : Int32) (σ : rS) (h : rH) (hr : Rep G ad σ h) (hf : jX12_write_14  v1 s0 σ = some o) : RW G mX12_write (rm 2 0 0) (qI G ad o) xN 0 0 14 [(0, .ref (ad 43)), (1, .int v1)] [.int s0, .ref (ad 43)] h := by
  unfold jX12_write_14 at hf
  refine sp_43_0 hr dX12_write_14 fl1462 (fun h hr => ?_)
  refine nmS hf hr (fun σ3 hr hf => ?_)
  refine rw_aload_n dX12_write_17 0 rfl rfl ?_
  refine sg_43_0 hr dX12_write_18 fl1462 ?_
  refine rw_if_le (tgt := 26) dX12_write_21 (by decide) (fun c4 => ?_) (fun c4 => ?_)
  · rw [if_pos c4] at hf
    refine rw_aload_n dX12_write_26 0 rfl rfl ?_
    refine rw_iconst (v := 0) dX12_write_27 (by decide) ?_
    refine sp_43_37 hr dX12_write_28 fl1499 (fun h hr => ?_)
    refine nmS hf hr (fun σ5 hr hf => ?_)
    refine rw_aload_n dX12_write_31 0 rfl rfl ?_
    refine rw_bipush (v := 98) dX12_write_32 (by decide) ?_
    obtain ⟨q6, hq6, hf⟩ := bnd hf
    refine kV_V (ad := ad) (As := [.int 98]) (st := []) dX12_write_34 calX12_say wm1847 wm1849 wm59 rfl rfl (rc_43 hr) (ci := 12) (by decide) rfl rfl (Nat.le_of_ble_eq_true rfl) ⟨⟨by decide, by decide⟩, by decide, by decide⟩ (cmX12_say hr hq6) (fun h hr => ?_)
    refine rw_aload_n dX12_write_37 0 rfl rfl ?_
    refine rw_aload_n dX12_write_38 0 rfl rfl ?_
    refine sg_43_3 hr dX12_write_39 fl1465 ?_
    refine rw_iload_n dX12_write_42 1 rfl rfl ?_
    obtain ⟨hi7, hf⟩ := grd hf
    refine sl_44 hr dX12_write_43 (inB_in hi7) ?_
    obtain ⟨q8, hq8, hf⟩ := bnd hf
    refine kV_V (ad := ad) (As := [.int (q6.2.2.2.1 44 v1.toNatClampNeg)]) (st := []) dX12_write_44 calX12_sayNumber wm1851 wm1853 wm60 rfl rfl (rc_43 hr) (ci := 12) (by decide) rfl rfl (Nat.le_of_ble_eq_true rfl) ⟨⟨by decide, by decide⟩, by decide, by decide⟩ (cmX12_sayNumber hr hq8) (fun h hr => ?_)
    refine rw_aload_n dX12_write_47 0 rfl rfl ?_
    refine rw_aload_n dX12_write_48 0 rfl rfl ?_
    refine sg_43_4 hr dX12_write_49 fl1466 ?_
    refine rw_iload_n dX12_write_52 1 rfl rfl ?_
    obtain ⟨hi9, hf⟩ := grd hf
    refine sl_45 hr dX12_write_53 (inB_in hi9) ?_
    obtain ⟨q10, hq10, hf⟩ := bnd hf
    refine kV_V (ad := ad) (As := [.int (q8.2.2.2.1 45 v1.toNatClampNeg)]) (st := []) dX12_write_54 calX12_sayNumber wm1851 wm1853 wm60 rfl rfl (rc_43 hr) (ci := 12) (by decide) rfl rfl (Nat.le_of_ble_eq_true rfl) ⟨⟨by decide, by decide⟩, by decide, by decide⟩ (cmX12_sayNumber hr hq10) (fun h hr => ?_)
    refine rw_aload_n dX12_write_57 0 rfl rfl ?_
    refine rw_aload_n dX12_write_58 0 rfl rfl ?_
    refine sg_43_5 hr dX12_write_59 fl1467 ?_
    refine rw_iload_n dX12_write_62 1 rfl rfl ?_
    obtain ⟨hi11, hf⟩ := grd hf
    refine sl_46 hr dX12_write_63 (inB_in hi11) ?_
    obtain ⟨q12, hq12, hf⟩ := bnd hf
    refine kV_V (ad := ad) (As := [.int (q10.2.2.2.1 46 v1.toNatClampNeg)]) (st := []) dX12_write_64 calX12_sayNumber wm1851 wm1853 wm60 rfl rfl (rc_43 hr) (ci := 12) (by decide) rfl rfl (Nat.le_of_ble_eq_true rfl) ⟨⟨by decide, by decide⟩, by decide, by decide⟩ (cmX12_sayNumber hr hq12) (fun h hr => ?_)
    refine rw_iconst (v := 0) dX12_write_67 (by decide) ?_
    refine rw_istore_n (lv2 := [(2, .int 0), (0, .ref (ad 43)), (1, .int v1)]) dX12_write_68 rfl (by decide) rfl ?_
    refine rw_sub [1, 2, 0] rfl ?_
    exact t_lX12_write_69 (ad := ad) (G := G)  1000 v1 0 q12.2 _ hr hf
  · rw [if_neg c4] at hf
    refine rw_iconst (v := 0) dX12_write_24 (by decide) ?_
    replace hf := Option.some.inj hf
    subst hf
    exact rw_ireturn dX12_write_25 rfl ⟨rfl, hr⟩ (by decide) (by decide)
def fX12_write (a0 : Int32) (σ : rS) : Option (Int32 × rS) := (fX12_isBoring a0 σ).bind fun q1 => if q1.1 = 0 then jX12_write_14 a0 1 q1.2 else jX12_write_14 a0 0 q1.2
set_option maxHeartbeats 4000000 in
theorem cmX12_write {G : rG} {ad : Nat → Nat} {a0 : Int32} {σ : rS} {h : rH} {o : (Int32 × rS)} (hr : Rep G ad σ h) (hf : fX12_write a0 σ = some o) : rMT G mX12_write (rm 2 0 0) [.ref (ad 43), .int a0] h (qI G ad o) xN := by
  unfold fX12_write at hf
  refine rw_met (by decide +kernel) rfl (Nat.le_of_ble_eq_true rfl) ?_
  show RW G _ _ _ _ 0 0 0 [(0, .ref (ad 43)), (1, .int a0)] [] h
  refine rw_aload_n dX12_write_0 0 rfl rfl ?_
  refine rw_aload_n dX12_write_1 0 rfl rfl ?_
  refine rw_iload_n dX12_write_2 1 rfl rfl ?_
  obtain ⟨q1, hq1, hf⟩ := bnd hf
  refine kV_I (ad := ad) (As := [.int a0]) (st := [.ref (ad 43)]) dX12_write_3 calX12_isBoring wm1625 wm1627 wm32 rfl rfl (rc_43 hr) (ci := 12) (by decide) rfl rfl (Nat.le_of_ble_eq_true rfl) ⟨⟨by decide, by decide⟩, by decide, by decide⟩ (cmX12_isBoring hr hq1) (fun h hr => ?_)
  refine rw_if_eq (tgt := 13) dX12_write_6 (by decide) (fun c2 => ?_) (fun c2 => ?_)
  · rw [if_pos c2] at hf
    refine rw_iconst (v := 1) dX12_write_13 (by decide) ?_
    exact t_jX12_write_14 (ad := ad) (G := G)  a0 1 q1.2 _ hr hf
  · rw [if_neg c2] at hf
    refine rw_iconst (v := 0) dX12_write_9 (by decide) ?_
    refine rw_goto (tgt := 14) dX12_write_10 (by decide) ?_
    exact t_jX12_write_14 (ad := ad) (G := G)  a0 0 q1.2 _ hr hf
def jX12_letter_27  (s0 : Int32) (σ : rS) : Option (Int32 × rS) := if narrow .char (.int s0) = .int s0 then some (s0, σ) else none
set_option maxHeartbeats 4000000 in
theorem t_jX12_letter_27 {G : rG} {ad : Nat → Nat} {o : (Int32 × rS)}   (s0 : Int32) (σ : rS) (h : rH) (hr : Rep G ad σ h) (hf : jX12_letter_27  s0 σ = some o) : RW G mX12_letter (rm 0 0 0) (qI G ad o) xN 0 0 27 [] [.int s0] h := by
  unfold jX12_letter_27 at hf
  obtain ⟨hz5, hf⟩ := grd hf
  replace hf := Option.some.inj hf
  subst hf
  exact rw_zreturn dX12_letter_27 rfl hz5 ⟨rfl, hr⟩ (by decide) (by decide)
def jX12_letter_26   (σ : rS) : Option (Int32 × rS) := jX12_letter_27 0 σ
set_option maxHeartbeats 4000000 in
theorem t_jX12_letter_26 {G : rG} {ad : Nat → Nat} {o : (Int32 × rS)}    (σ : rS) (h : rH) (hr : Rep G ad σ h) (hf : jX12_letter_26   σ = some o) : RW G mX12_letter (rm 0 0 0) (qI G ad o) xN 0 0 26 [] [] h := by
  unfold jX12_letter_26 at hf
  refine rw_iconst (v := 0) dX12_letter_26 (by decide) ?_
  exact t_jX12_letter_27 (ad := ad) (G := G)  0 σ _ hr hf
def fX12_letter (a0 : Int32) (σ : rS) : Option (Int32 × rS) := vS (uI σ 43 0 0) fun σ1 => if a0 < 0 then jX12_letter_26 σ1 else if (σ1.1 43 37) ≤ a0 then jX12_letter_26 σ1 else if inB a0 200 then jX12_letter_27 (σ1.2.2.1 67 a0.toNatClampNeg) σ1 else none
set_option maxHeartbeats 4000000 in
theorem cmX12_letter {G : rG} {ad : Nat → Nat} {a0 : Int32} {σ : rS} {h : rH} {o : (Int32 × rS)} (hr : Rep G ad σ h) (hf : fX12_letter a0 σ = some o) : rMT G mX12_letter (rm 0 0 0) [.ref (ad 43), .int a0] h (qI G ad o) xN := by
  unfold fX12_letter at hf
  refine rw_met (by decide +kernel) rfl (Nat.le_of_ble_eq_true rfl) ?_
  show RW G _ _ _ _ 0 0 0 [(0, .ref (ad 43)), (1, .int a0)] [] h
  refine rw_aload_n dX12_letter_0 0 rfl rfl ?_
  refine rw_iconst (v := 0) dX12_letter_1 (by decide) ?_
  refine sp_43_0 hr dX12_letter_2 fl1462 (fun h hr => ?_)
  refine nmS hf hr (fun σ1 hr hf => ?_)
  refine rw_iload_n dX12_letter_5 1 rfl rfl ?_
  refine rw_if_lt (tgt := 26) dX12_letter_6 (by decide) (fun c2 => ?_) (fun c2 => ?_)
  · rw [if_pos c2] at hf
    refine rw_sub [] rfl ?_
    exact t_jX12_letter_26 (ad := ad) (G := G)  σ1 _ hr hf
  · rw [if_neg c2] at hf
    refine rw_iload_n dX12_letter_9 1 rfl rfl ?_
    refine rw_aload_n dX12_letter_10 0 rfl rfl ?_
    refine sg_43_37 hr dX12_letter_11 fl1499 ?_
    refine rw_icmp_ge (tgt := 26) dX12_letter_14 (by decide) (fun c3 => ?_) (fun c3 => ?_)
    · rw [if_pos c3] at hf
      refine rw_sub [] rfl ?_
      exact t_jX12_letter_26 (ad := ad) (G := G)  σ1 _ hr hf
    · rw [if_neg c3] at hf
      refine rw_aload_n dX12_letter_17 0 rfl rfl ?_
      refine sg_43_38 hr dX12_letter_18 fl1500 ?_
      refine rw_iload_n dX12_letter_21 1 rfl rfl ?_
      obtain ⟨hi4, hf⟩ := grd hf
      refine sl_67 hr dX12_letter_22 (inB_in hi4) ?_
      refine rw_goto (tgt := 27) dX12_letter_23 (by decide) ?_
      refine rw_sub [] rfl ?_
      exact t_jX12_letter_27 (ad := ad) (G := G)  (σ1.2.2.1 67 a0.toNatClampNeg) σ1 _ hr hf
