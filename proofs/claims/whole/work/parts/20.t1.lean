def jX11_isFrom_15  (s0 : Int32) (σ : rS) : Option (Int32 × rS) := if s0 = 0 ∨ s0 = 1 then some (s0, σ) else none
set_option maxHeartbeats 4000000 in
theorem t_jX11_isFrom_15 {G : rG} {ad : Nat → Nat} {o : (Int32 × rS)}   (s0 : Int32) (σ : rS) (h : rH) (hr : Rep G ad σ h) (hf : jX11_isFrom_15  s0 σ = some o) : RW G mX11_isFrom (rm 0 0 0) (qI G ad o) xN 0 0 15 [] [.int s0] h := by
  unfold jX11_isFrom_15 at hf
  obtain ⟨hz3, hf⟩ := grd hf
  cases hf
  exact rw_zreturn dX11_isFrom_15 rfl (nar_z hz3) ⟨rfl, hr⟩ (by decide) (by decide)
def jX11_isFrom_14   (σ : rS) : Option (Int32 × rS) := jX11_isFrom_15 0 σ
set_option maxHeartbeats 4000000 in
theorem t_jX11_isFrom_14 {G : rG} {ad : Nat → Nat} {o : (Int32 × rS)}    (σ : rS) (h : rH) (hr : Rep G ad σ h) (hf : jX11_isFrom_14   σ = some o) : RW G mX11_isFrom (rm 0 0 0) (qI G ad o) xN 0 0 14 [] [] h := by
  unfold jX11_isFrom_14 at hf
  refine rw_iconst (v := 0) dX11_isFrom_14 (by decide) ?_
  exact t_jX11_isFrom_15 (ad := ad) (G := G)  0 σ _ hr hf
def fX11_isFrom (a0 : Int32) (a1 : Int32) (a2 : Int32) (σ : rS) : Option (Int32 × rS) := if a2 < a0 then jX11_isFrom_14 σ else if a1 < a2 then jX11_isFrom_14 σ else jX11_isFrom_15 1 σ
set_option maxHeartbeats 4000000 in
theorem cmX11_isFrom {G : rG} {ad : Nat → Nat} {a0 : Int32} {a1 : Int32} {a2 : Int32} {σ : rS} {h : rH} {o : (Int32 × rS)} (hr : Rep G ad σ h) (hf : fX11_isFrom a0 a1 a2 σ = some o) : rMT G mX11_isFrom (rm 0 0 0) [.int a0, .int a1, .int a2] h (qI G ad o) xN := by
  unfold fX11_isFrom at hf
  refine rw_met (by decide +kernel) rfl (Nat.le_of_ble_eq_true rfl) ?_
  show RW G _ _ _ _ 0 0 0 [(0, .int a0), (1, .int a1), (2, .int a2)] [] h
  refine rw_iload_n dX11_isFrom_0 0 rfl rfl ?_
  refine rw_iload_n dX11_isFrom_1 2 rfl rfl ?_
  refine rw_icmp_gt (tgt := 14) dX11_isFrom_2 (by decide) (fun c1 => ?_) (fun c1 => ?_)
  · rw [if_pos c1] at hf
    refine rw_sub [] rfl ?_
    exact t_jX11_isFrom_14 (ad := ad) (G := G)  σ _ hr hf
  · rw [if_neg c1] at hf
    refine rw_iload_n dX11_isFrom_5 2 rfl rfl ?_
    refine rw_iload_n dX11_isFrom_6 1 rfl rfl ?_
    refine rw_icmp_gt (tgt := 14) dX11_isFrom_7 (by decide) (fun c2 => ?_) (fun c2 => ?_)
    · rw [if_pos c2] at hf
      refine rw_sub [] rfl ?_
      exact t_jX11_isFrom_14 (ad := ad) (G := G)  σ _ hr hf
    · rw [if_neg c2] at hf
      refine rw_iconst (v := 1) dX11_isFrom_10 (by decide) ?_
      refine rw_goto (tgt := 15) dX11_isFrom_11 (by decide) ?_
      refine rw_sub [] rfl ?_
      exact t_jX11_isFrom_15 (ad := ad) (G := G)  1 σ _ hr hf
def jX12_in_15  (s0 : Int32) (σ : rS) : Option (Int32 × rS) := if s0 = 0 ∨ s0 = 1 then some (s0, σ) else none
set_option maxHeartbeats 4000000 in
theorem t_jX12_in_15 {G : rG} {ad : Nat → Nat} {o : (Int32 × rS)}   (s0 : Int32) (σ : rS) (h : rH) (hr : Rep G ad σ h) (hf : jX12_in_15  s0 σ = some o) : RW G mX12_in (rm 0 0 0) (qI G ad o) xN 0 0 15 [] [.int s0] h := by
  unfold jX12_in_15 at hf
  obtain ⟨hz3, hf⟩ := grd hf
  cases hf
  exact rw_zreturn dX12_in_15 rfl (nar_z hz3) ⟨rfl, hr⟩ (by decide) (by decide)
def jX12_in_14   (σ : rS) : Option (Int32 × rS) := jX12_in_15 0 σ
set_option maxHeartbeats 4000000 in
theorem t_jX12_in_14 {G : rG} {ad : Nat → Nat} {o : (Int32 × rS)}    (σ : rS) (h : rH) (hr : Rep G ad σ h) (hf : jX12_in_14   σ = some o) : RW G mX12_in (rm 0 0 0) (qI G ad o) xN 0 0 14 [] [] h := by
  unfold jX12_in_14 at hf
  refine rw_iconst (v := 0) dX12_in_14 (by decide) ?_
  exact t_jX12_in_15 (ad := ad) (G := G)  0 σ _ hr hf
def fX12_in (a0 : Int32) (a1 : Int32) (a2 : Int32) (σ : rS) : Option (Int32 × rS) := if a0 < a1 then jX12_in_14 σ else if a2 < a0 then jX12_in_14 σ else jX12_in_15 1 σ
set_option maxHeartbeats 4000000 in
theorem cmX12_in {G : rG} {ad : Nat → Nat} {a0 : Int32} {a1 : Int32} {a2 : Int32} {σ : rS} {h : rH} {o : (Int32 × rS)} (hr : Rep G ad σ h) (hf : fX12_in a0 a1 a2 σ = some o) : rMT G mX12_in (rm 0 0 0) [.int a0, .int a1, .int a2] h (qI G ad o) xN := by
  unfold fX12_in at hf
  refine rw_met (by decide +kernel) rfl (Nat.le_of_ble_eq_true rfl) ?_
  show RW G _ _ _ _ 0 0 0 [(0, .int a0), (1, .int a1), (2, .int a2)] [] h
  refine rw_iload_n dX12_in_0 0 rfl rfl ?_
  refine rw_iload_n dX12_in_1 1 rfl rfl ?_
  refine rw_icmp_lt (tgt := 14) dX12_in_2 (by decide) (fun c1 => ?_) (fun c1 => ?_)
  · rw [if_pos c1] at hf
    refine rw_sub [] rfl ?_
    exact t_jX12_in_14 (ad := ad) (G := G)  σ _ hr hf
  · rw [if_neg c1] at hf
    refine rw_iload_n dX12_in_5 0 rfl rfl ?_
    refine rw_iload_n dX12_in_6 2 rfl rfl ?_
    refine rw_icmp_gt (tgt := 14) dX12_in_7 (by decide) (fun c2 => ?_) (fun c2 => ?_)
    · rw [if_pos c2] at hf
      refine rw_sub [] rfl ?_
      exact t_jX12_in_14 (ad := ad) (G := G)  σ _ hr hf
    · rw [if_neg c2] at hf
      refine rw_iconst (v := 1) dX12_in_10 (by decide) ?_
      refine rw_goto (tgt := 15) dX12_in_11 (by decide) ?_
      refine rw_sub [] rfl ?_
      exact t_jX12_in_15 (ad := ad) (G := G)  1 σ _ hr hf
def jX12_isPlace_31  (s0 : Int32) (σ : rS) : Option (Int32 × rS) := if s0 = 0 ∨ s0 = 1 then some (s0, σ) else none
set_option maxHeartbeats 4000000 in
theorem t_jX12_isPlace_31 {G : rG} {ad : Nat → Nat} {o : (Int32 × rS)}   (s0 : Int32) (σ : rS) (h : rH) (hr : Rep G ad σ h) (hf : jX12_isPlace_31  s0 σ = some o) : RW G mX12_isPlace (rm 1 0 0) (qI G ad o) xN 0 0 31 [] [.int s0] h := by
  unfold jX12_isPlace_31 at hf
  obtain ⟨hz5, hf⟩ := grd hf
  cases hf
  exact rw_zreturn dX12_isPlace_31 rfl (nar_z hz5) ⟨rfl, hr⟩ (by decide) (by decide)
def jX12_isPlace_30   (σ : rS) : Option (Int32 × rS) := jX12_isPlace_31 0 σ
set_option maxHeartbeats 4000000 in
theorem t_jX12_isPlace_30 {G : rG} {ad : Nat → Nat} {o : (Int32 × rS)}    (σ : rS) (h : rH) (hr : Rep G ad σ h) (hf : jX12_isPlace_30   σ = some o) : RW G mX12_isPlace (rm 1 0 0) (qI G ad o) xN 0 0 30 [] [] h := by
  unfold jX12_isPlace_30 at hf
  refine rw_iconst (v := 0) dX12_isPlace_30 (by decide) ?_
  exact t_jX12_isPlace_31 (ad := ad) (G := G)  0 σ _ hr hf
def fX12_isPlace (a0 : Int32) (a1 : Int32) (σ : rS) : Option (Int32 × rS) := (fX12_in a0 ((-1000)) 1000 σ).bind fun q1 => if q1.1 = 0 then jX12_isPlace_30 q1.2 else (fX12_in a1 ((-1000)) 1000 q1.2).bind fun q3 => if q3.1 = 0 then jX12_isPlace_30 q3.2 else jX12_isPlace_31 1 q3.2
set_option maxHeartbeats 4000000 in
theorem cmX12_isPlace {G : rG} {ad : Nat → Nat} {a0 : Int32} {a1 : Int32} {σ : rS} {h : rH} {o : (Int32 × rS)} (hr : Rep G ad σ h) (hf : fX12_isPlace a0 a1 σ = some o) : rMT G mX12_isPlace (rm 1 0 0) [.int a0, .int a1] h (qI G ad o) xN := by
  unfold fX12_isPlace at hf
  refine rw_met (by decide +kernel) rfl (Nat.le_of_ble_eq_true rfl) ?_
  show RW G _ _ _ _ 0 0 0 [(0, .int a0), (1, .int a1)] [] h
  refine rw_iload_n dX12_isPlace_0 0 rfl rfl ?_
  refine rw_sipush (v := (-1000)) dX12_isPlace_1 (by decide) ?_
  refine rw_sipush (v := 1000) dX12_isPlace_4 (by decide) ?_
  obtain ⟨q1, hq1, hf⟩ := bnd hf
  refine kS_I (ad := ad) (As := [.int a0, .int ((-1000)), .int 1000]) (st := []) dX12_isPlace_7 calX12_in wm1612 wm1613 rfl rfl (by decide) ⟨⟨by decide, by decide⟩, by decide, by decide⟩ (cmX12_in hr hq1) (fun h hr => ?_)
  refine rw_if_eq (tgt := 30) dX12_isPlace_10 (by decide) (fun c2 => ?_) (fun c2 => ?_)
  · rw [if_pos c2] at hf
    refine rw_sub [] rfl ?_
    exact t_jX12_isPlace_30 (ad := ad) (G := G)  q1.2 _ hr hf
  · rw [if_neg c2] at hf
    refine rw_iload_n dX12_isPlace_13 1 rfl rfl ?_
    refine rw_sipush (v := (-1000)) dX12_isPlace_14 (by decide) ?_
    refine rw_sipush (v := 1000) dX12_isPlace_17 (by decide) ?_
    obtain ⟨q3, hq3, hf⟩ := bnd hf
    refine kS_I (ad := ad) (As := [.int a1, .int ((-1000)), .int 1000]) (st := []) dX12_isPlace_20 calX12_in wm1612 wm1613 rfl rfl (by decide) ⟨⟨by decide, by decide⟩, by decide, by decide⟩ (cmX12_in hr hq3) (fun h hr => ?_)
    refine rw_if_eq (tgt := 30) dX12_isPlace_23 (by decide) (fun c4 => ?_) (fun c4 => ?_)
    · rw [if_pos c4] at hf
      refine rw_sub [] rfl ?_
      exact t_jX12_isPlace_30 (ad := ad) (G := G)  q3.2 _ hr hf
    · rw [if_neg c4] at hf
      refine rw_iconst (v := 1) dX12_isPlace_26 (by decide) ?_
      refine rw_goto (tgt := 31) dX12_isPlace_27 (by decide) ?_
      refine rw_sub [] rfl ?_
      exact t_jX12_isPlace_31 (ad := ad) (G := G)  1 q3.2 _ hr hf
def fX12_isBoring (a0 : Int32) (σ : rS) : Option (Int32 × rS) := (fX12_in a0 0 ((σ.1 43 2) - 1) σ).bind fun q1 => if q1.1 = 0 ∨ q1.1 = 1 then some (q1.1, q1.2) else none
set_option maxHeartbeats 4000000 in
theorem cmX12_isBoring {G : rG} {ad : Nat → Nat} {a0 : Int32} {σ : rS} {h : rH} {o : (Int32 × rS)} (hr : Rep G ad σ h) (hf : fX12_isBoring a0 σ = some o) : rMT G mX12_isBoring (rm 1 0 0) [.ref (ad 43), .int a0] h (qI G ad o) xN := by
  unfold fX12_isBoring at hf
  refine rw_met (by decide +kernel) rfl (Nat.le_of_ble_eq_true rfl) ?_
  show RW G _ _ _ _ 0 0 0 [(0, .ref (ad 43)), (1, .int a0)] [] h
  refine rw_iload_n dX12_isBoring_0 1 rfl rfl ?_
  refine rw_iconst (v := 0) dX12_isBoring_1 (by decide) ?_
  refine rw_aload_n dX12_isBoring_2 0 rfl rfl ?_
  refine sg_43_2 hr dX12_isBoring_3 fl1464 ?_
  refine rw_iconst (v := 1) dX12_isBoring_6 (by decide) ?_
  refine rw_isub dX12_isBoring_7 ?_
  obtain ⟨q1, hq1, hf⟩ := bnd hf
  refine kS_I (ad := ad) (As := [.int a0, .int 0, .int ((σ.1 43 2) - 1)]) (st := []) dX12_isBoring_8 calX12_in wm1612 wm1613 rfl rfl (by decide) ⟨⟨by decide, by decide⟩, by decide, by decide⟩ (cmX12_in hr hq1) (fun h hr => ?_)
  obtain ⟨hz2, hf⟩ := grd hf
  cases hf
  exact rw_zreturn dX12_isBoring_11 rfl (nar_z hz2) ⟨rfl, hr⟩ (by decide) (by decide)
def jX12_isTaken_45 (k5 : Int32 → Int32 → Int32 → Int32 → rS → Option (Int32 × rS)) (v1 : Int32) (v2 : Int32) (v4 : Int32) (s0 : Int32) (σ : rS) : Option (Int32 × rS) := vI (v4 + 1) fun x8 => k5 v1 v2 s0 x8 σ
set_option maxHeartbeats 4000000 in
theorem t_jX12_isTaken_45 {G : rG} {ad : Nat → Nat} {o : (Int32 × rS)} (k5 : Int32 → Int32 → Int32 → Int32 → rS → Option (Int32 × rS)) (hk5 : ∀ (v1 : Int32) (v2 : Int32) (v3 : Int32) (v4 : Int32) (σ : rS) (h : rH), Rep G ad σ h → k5 v1 v2 v3 v4 σ = some o → RW G mX12_isTaken (rm 0 0 0) (qI G ad o) xN 0 0 5 [(0, .ref (ad 43)), (1, .int v1), (2, .int v2), (3, .int v3), (4, .int v4)] [] h) (v1 : Int32) (v2 : Int32) (v4 : Int32) (s0 : Int32) (σ : rS) (h : rH) (hr : Rep G ad σ h) (hf : jX12_isTaken_45 k5 v1 v2 v4 s0 σ = some o) : RW G mX12_isTaken (rm 0 0 0) (qI G ad o) xN 0 0 45 [(0, .ref (ad 43)), (1, .int v1), (2, .int v2), (4, .int v4)] [.int s0] h := by
  unfold jX12_isTaken_45 at hf
  refine rw_istore_n (lv2 := [(3, .int s0), (0, .ref (ad 43)), (1, .int v1), (2, .int v2), (4, .int v4)]) dX12_isTaken_45 rfl (by decide) rfl ?_
  refine rw_iinc (v := v4 + 1) (lv2 := [(4, .int (v4 + 1)), (3, .int s0), (0, .ref (ad 43)), (1, .int v1), (2, .int v2)]) dX12_isTaken_46 4 rfl rfl (by decide) rfl ?_
  generalize v4 + 1 = x8 at hf ⊢
  replace hf := vI_e hf
  refine rw_goto (tgt := 5) dX12_isTaken_49 (by decide) ?_
  refine rw_sub [2, 3, 4, 1, 0] rfl ?_
  exact hk5 v1 v2 s0 x8 σ _ hr hf
def jX12_isTaken_44 (k5 : Int32 → Int32 → Int32 → Int32 → rS → Option (Int32 × rS)) (v1 : Int32) (v2 : Int32) (v4 : Int32) (σ : rS) : Option (Int32 × rS) := jX12_isTaken_45 k5 v1 v2 v4 0 σ
set_option maxHeartbeats 4000000 in
theorem t_jX12_isTaken_44 {G : rG} {ad : Nat → Nat} {o : (Int32 × rS)} (k5 : Int32 → Int32 → Int32 → Int32 → rS → Option (Int32 × rS)) (hk5 : ∀ (v1 : Int32) (v2 : Int32) (v3 : Int32) (v4 : Int32) (σ : rS) (h : rH), Rep G ad σ h → k5 v1 v2 v3 v4 σ = some o → RW G mX12_isTaken (rm 0 0 0) (qI G ad o) xN 0 0 5 [(0, .ref (ad 43)), (1, .int v1), (2, .int v2), (3, .int v3), (4, .int v4)] [] h) (v1 : Int32) (v2 : Int32) (v4 : Int32) (σ : rS) (h : rH) (hr : Rep G ad σ h) (hf : jX12_isTaken_44 k5 v1 v2 v4 σ = some o) : RW G mX12_isTaken (rm 0 0 0) (qI G ad o) xN 0 0 44 [(0, .ref (ad 43)), (1, .int v1), (2, .int v2), (4, .int v4)] [] h := by
  unfold jX12_isTaken_44 at hf
  refine rw_iconst (v := 0) dX12_isTaken_44 (by decide) ?_
  exact t_jX12_isTaken_45 (ad := ad) (G := G) k5 hk5 v1 v2 v4 0 σ _ hr hf
def jX12_isTaken_40 (k5 : Int32 → Int32 → Int32 → Int32 → rS → Option (Int32 × rS)) (v1 : Int32) (v2 : Int32) (v4 : Int32) (σ : rS) : Option (Int32 × rS) := jX12_isTaken_45 k5 v1 v2 v4 1 σ
set_option maxHeartbeats 4000000 in
theorem t_jX12_isTaken_40 {G : rG} {ad : Nat → Nat} {o : (Int32 × rS)} (k5 : Int32 → Int32 → Int32 → Int32 → rS → Option (Int32 × rS)) (hk5 : ∀ (v1 : Int32) (v2 : Int32) (v3 : Int32) (v4 : Int32) (σ : rS) (h : rH), Rep G ad σ h → k5 v1 v2 v3 v4 σ = some o → RW G mX12_isTaken (rm 0 0 0) (qI G ad o) xN 0 0 5 [(0, .ref (ad 43)), (1, .int v1), (2, .int v2), (3, .int v3), (4, .int v4)] [] h) (v1 : Int32) (v2 : Int32) (v4 : Int32) (σ : rS) (h : rH) (hr : Rep G ad σ h) (hf : jX12_isTaken_40 k5 v1 v2 v4 σ = some o) : RW G mX12_isTaken (rm 0 0 0) (qI G ad o) xN 0 0 40 [(0, .ref (ad 43)), (1, .int v1), (2, .int v2), (4, .int v4)] [] h := by
  unfold jX12_isTaken_40 at hf
  refine rw_iconst (v := 1) dX12_isTaken_40 (by decide) ?_
  refine rw_goto (tgt := 45) dX12_isTaken_41 (by decide) ?_
  exact t_jX12_isTaken_45 (ad := ad) (G := G) k5 hk5 v1 v2 v4 1 σ _ hr hf
def lX12_isTaken_5  : Nat → Int32 → Int32 → Int32 → Int32 → rS → Option (Int32 × rS)
  | 0, _, _, _, _, _ => none
  | n + 1, v1, v2, v3, v4, σ => if (σ.1 43 2) ≤ v4 then if v3 = 0 ∨ v3 = 1 then some (v3, σ) else none else if v3 = 0 then if inB v4 16 then (if (σ.2.2.1 44 v4.toNatClampNeg) = v1 then if inB v4 16 then (if (σ.2.2.1 45 v4.toNatClampNeg) = v2 then jX12_isTaken_40 (lX12_isTaken_5 n) v1 v2 v4 σ else jX12_isTaken_44 (lX12_isTaken_5 n) v1 v2 v4 σ) else none else jX12_isTaken_44 (lX12_isTaken_5 n) v1 v2 v4 σ) else none else jX12_isTaken_40 (lX12_isTaken_5 n) v1 v2 v4 σ
set_option maxHeartbeats 4000000 in
theorem t_lX12_isTaken_5 {G : rG} {ad : Nat → Nat} {o : (Int32 × rS)}   : ∀ (n : Nat) (v1 : Int32) (v2 : Int32) (v3 : Int32) (v4 : Int32) (σ : rS) (h : rH), Rep G ad σ h → lX12_isTaken_5  n v1 v2 v3 v4 σ = some o → RW G mX12_isTaken (rm 0 0 0) (qI G ad o) xN 0 0 5 [(0, .ref (ad 43)), (1, .int v1), (2, .int v2), (3, .int v3), (4, .int v4)] [] h := by
  intro n
  induction n with
  | zero =>
    intro v1 v2 v3 v4 σ h hr hf
    cases hf
  | succ n ih =>
    intro v1 v2 v3 v4 σ h hr hf
    rw [lX12_isTaken_5] at hf
    refine rw_iload dX12_isTaken_5 4 rfl ?_
    refine rw_aload_n dX12_isTaken_7 0 rfl rfl ?_
    refine sg_43_2 hr dX12_isTaken_8 fl1464 ?_
    refine rw_icmp_ge (tgt := 52) dX12_isTaken_11 (by decide) (fun c1 => ?_) (fun c1 => ?_)
    · rw [if_pos c1] at hf
      refine rw_iload_n dX12_isTaken_52 3 rfl rfl ?_
      obtain ⟨hz2, hf⟩ := grd hf
      cases hf
      exact rw_zreturn dX12_isTaken_53 rfl (nar_z hz2) ⟨rfl, hr⟩ (by decide) (by decide)
    · rw [if_neg c1] at hf
      refine rw_iload_n dX12_isTaken_14 3 rfl rfl ?_
      refine rw_if_ne (tgt := 40) dX12_isTaken_15 (by decide) (fun c3 => ?_) (fun c3 => ?_)
      · rw [if_neg c3] at hf
        refine rw_sub [0, 1, 2, 4] rfl ?_
        exact t_jX12_isTaken_40 (ad := ad) (G := G) (lX12_isTaken_5 n) ih v1 v2 v4 σ _ hr hf
      · rw [if_pos c3] at hf
        refine rw_aload_n dX12_isTaken_18 0 rfl rfl ?_
        refine sg_43_3 hr dX12_isTaken_19 fl1465 ?_
        refine rw_iload dX12_isTaken_22 4 rfl ?_
        obtain ⟨hi4, hf⟩ := grd hf
        refine sl_44 hr dX12_isTaken_24 (inB_in hi4) ?_
        refine rw_iload_n dX12_isTaken_25 1 rfl rfl ?_
        refine rw_icmp_ne (tgt := 44) dX12_isTaken_26 (by decide) (fun c5 => ?_) (fun c5 => ?_)
        · rw [if_neg c5] at hf
          refine rw_sub [0, 1, 2, 4] rfl ?_
          exact t_jX12_isTaken_44 (ad := ad) (G := G) (lX12_isTaken_5 n) ih v1 v2 v4 σ _ hr hf
        · rw [if_pos c5] at hf
          refine rw_aload_n dX12_isTaken_29 0 rfl rfl ?_
          refine sg_43_4 hr dX12_isTaken_30 fl1466 ?_
          refine rw_iload dX12_isTaken_33 4 rfl ?_
          obtain ⟨hi6, hf⟩ := grd hf
          refine sl_45 hr dX12_isTaken_35 (inB_in hi6) ?_
          refine rw_iload_n dX12_isTaken_36 2 rfl rfl ?_
          refine rw_icmp_ne (tgt := 44) dX12_isTaken_37 (by decide) (fun c7 => ?_) (fun c7 => ?_)
          · rw [if_neg c7] at hf
            refine rw_sub [0, 1, 2, 4] rfl ?_
            exact t_jX12_isTaken_44 (ad := ad) (G := G) (lX12_isTaken_5 n) ih v1 v2 v4 σ _ hr hf
          · rw [if_pos c7] at hf
            refine rw_sub [0, 1, 2, 4] rfl ?_
            exact t_jX12_isTaken_40 (ad := ad) (G := G) (lX12_isTaken_5 n) ih v1 v2 v4 σ _ hr hf
def fX12_isTaken (a0 : Int32) (a1 : Int32) (σ : rS) : Option (Int32 × rS) := lX12_isTaken_5 1000 a0 a1 0 0 σ
set_option maxHeartbeats 4000000 in
theorem cmX12_isTaken {G : rG} {ad : Nat → Nat} {a0 : Int32} {a1 : Int32} {σ : rS} {h : rH} {o : (Int32 × rS)} (hr : Rep G ad σ h) (hf : fX12_isTaken a0 a1 σ = some o) : rMT G mX12_isTaken (rm 0 0 0) [.ref (ad 43), .int a0, .int a1] h (qI G ad o) xN := by
  unfold fX12_isTaken at hf
  refine rw_met (by decide +kernel) rfl (Nat.le_of_ble_eq_true rfl) ?_
  show RW G _ _ _ _ 0 0 0 [(0, .ref (ad 43)), (1, .int a0), (2, .int a1)] [] h
  refine rw_iconst (v := 0) dX12_isTaken_0 (by decide) ?_
  refine rw_istore_n (lv2 := [(3, .int 0), (0, .ref (ad 43)), (1, .int a0), (2, .int a1)]) dX12_isTaken_1 rfl (by decide) rfl ?_
  refine rw_iconst (v := 0) dX12_isTaken_2 (by decide) ?_
  refine rw_istore (lv2 := [(4, .int 0), (3, .int 0), (0, .ref (ad 43)), (1, .int a0), (2, .int a1)]) dX12_isTaken_3 (by decide) rfl ?_
  refine rw_sub [2, 3, 4, 1, 0] rfl ?_
  exact t_lX12_isTaken_5 (ad := ad) (G := G)  1000 a0 a1 0 0 σ _ hr hf
def jX12_boring_59  (v1 : Int32) (v2 : Int32) (v3 : Int32) (s0 : Int32) (σ : rS) : Option (Int32 × rS) := vS (uI σ 43 0 s0) fun σ9 => if (σ9.1 43 0) ≤ 0 then if inB (σ9.1 43 2) 16 then vS (uA σ9 44 (σ9.1 43 2).toNatClampNeg v1) fun σ12 => if inB (σ12.1 43 2) 16 then vS (uA σ12 45 (σ12.1 43 2).toNatClampNeg v2) fun σ14 => if inB (σ14.1 43 2) 16 then vS (uA σ14 46 (σ14.1 43 2).toNatClampNeg v3) fun σ16 => if inB (σ16.1 43 2) 16 then vS (uA σ16 47 (σ16.1 43 2).toNatClampNeg 0) fun σ18 => vS (uI σ18 43 2 ((σ18.1 43 2) + 1)) fun σ19 => vS (uI σ19 43 1 0) fun σ20 => some (((σ20.1 43 2) - 1), σ20) else none else none else none else none else some (0, σ9)
set_option maxHeartbeats 4000000 in
theorem t_jX12_boring_59 {G : rG} {ad : Nat → Nat} {o : (Int32 × rS)}   (v1 : Int32) (v2 : Int32) (v3 : Int32) (s0 : Int32) (σ : rS) (h : rH) (hr : Rep G ad σ h) (hf : jX12_boring_59  v1 v2 v3 s0 σ = some o) : RW G mX12_boring (rm 2 0 0) (qI G ad o) xN 0 0 59 [(0, .ref (ad 43)), (1, .int v1), (2, .int v2), (3, .int v3)] [.int s0, .ref (ad 43)] h := by
  unfold jX12_boring_59 at hf
  refine sp_43_0 hr dX12_boring_59 fl1462 (fun h hr => ?_)
  generalize uI σ 43 0 s0 = σ9 at hf hr
  replace hf := vS_e hf
  refine rw_aload_n dX12_boring_62 0 rfl rfl ?_
  refine sg_43_0 hr dX12_boring_63 fl1462 ?_
  refine rw_if_le (tgt := 71) dX12_boring_66 (by decide) (fun c10 => ?_) (fun c10 => ?_)
  · rw [if_pos c10] at hf
    refine rw_aload_n dX12_boring_71 0 rfl rfl ?_
    refine sg_43_3 hr dX12_boring_72 fl1465 ?_
    refine rw_aload_n dX12_boring_75 0 rfl rfl ?_
    refine sg_43_2 hr dX12_boring_76 fl1464 ?_
    refine rw_iload_n dX12_boring_79 1 rfl rfl ?_
    obtain ⟨hi11, hf⟩ := grd hf
    refine ss_44 hr dX12_boring_80 (inB_in hi11) (fun h hr => ?_)
    generalize uA σ9 44 (σ9.1 43 2).toNatClampNeg v1 = σ12 at hf hr
    replace hf := vS_e hf
    refine rw_aload_n dX12_boring_81 0 rfl rfl ?_
    refine sg_43_4 hr dX12_boring_82 fl1466 ?_
    refine rw_aload_n dX12_boring_85 0 rfl rfl ?_
    refine sg_43_2 hr dX12_boring_86 fl1464 ?_
    refine rw_iload_n dX12_boring_89 2 rfl rfl ?_
    obtain ⟨hi13, hf⟩ := grd hf
    refine ss_45 hr dX12_boring_90 (inB_in hi13) (fun h hr => ?_)
    generalize uA σ12 45 (σ12.1 43 2).toNatClampNeg v2 = σ14 at hf hr
    replace hf := vS_e hf
    refine rw_aload_n dX12_boring_91 0 rfl rfl ?_
    refine sg_43_5 hr dX12_boring_92 fl1467 ?_
    refine rw_aload_n dX12_boring_95 0 rfl rfl ?_
    refine sg_43_2 hr dX12_boring_96 fl1464 ?_
    refine rw_iload_n dX12_boring_99 3 rfl rfl ?_
    obtain ⟨hi15, hf⟩ := grd hf
    refine ss_46 hr dX12_boring_100 (inB_in hi15) (fun h hr => ?_)
    generalize uA σ14 46 (σ14.1 43 2).toNatClampNeg v3 = σ16 at hf hr
    replace hf := vS_e hf
    refine rw_aload_n dX12_boring_101 0 rfl rfl ?_
    refine sg_43_6 hr dX12_boring_102 fl1468 ?_
    refine rw_aload_n dX12_boring_105 0 rfl rfl ?_
    refine sg_43_2 hr dX12_boring_106 fl1464 ?_
    refine rw_iconst (v := 0) dX12_boring_109 (by decide) ?_
    obtain ⟨hi17, hf⟩ := grd hf
    refine ss_47 hr dX12_boring_110 (inB_in hi17) (fun h hr => ?_)
    generalize uA σ16 47 (σ16.1 43 2).toNatClampNeg 0 = σ18 at hf hr
    replace hf := vS_e hf
    refine rw_aload_n dX12_boring_111 0 rfl rfl ?_
    refine rw_dup dX12_boring_112 rfl ?_
    refine sg_43_2 hr dX12_boring_113 fl1464 ?_
    refine rw_iconst (v := 1) dX12_boring_116 (by decide) ?_
    refine rw_iadd dX12_boring_117 ?_
    refine sp_43_2 hr dX12_boring_118 fl1464 (fun h hr => ?_)
    generalize uI σ18 43 2 ((σ18.1 43 2) + 1) = σ19 at hf hr
    replace hf := vS_e hf
    refine rw_aload_n dX12_boring_121 0 rfl rfl ?_
    refine rw_iconst (v := 0) dX12_boring_122 (by decide) ?_
    refine sp_43_1 hr dX12_boring_123 fl1463 (by decide) (by decide) (fun h hr => ?_)
    generalize uI σ19 43 1 0 = σ20 at hf hr
    replace hf := vS_e hf
    refine rw_aload_n dX12_boring_126 0 rfl rfl ?_
    refine sg_43_2 hr dX12_boring_127 fl1464 ?_
    refine rw_iconst (v := 1) dX12_boring_130 (by decide) ?_
    refine rw_isub dX12_boring_131 ?_
    cases hf
    exact rw_ireturn dX12_boring_132 rfl ⟨rfl, hr⟩ (by decide) (by decide)
  · rw [if_neg c10] at hf
    refine rw_iconst (v := 0) dX12_boring_69 (by decide) ?_
    cases hf
    exact rw_ireturn dX12_boring_70 rfl ⟨rfl, hr⟩ (by decide) (by decide)
def jX12_boring_33  (v1 : Int32) (v2 : Int32) (v3 : Int32) (s0 : Int32) (σ : rS) : Option (Int32 × rS) := if s0 = 0 then jX12_boring_59 v1 v2 v3 1 σ else if (σ.1 43 2) = 16 then jX12_boring_59 v1 v2 v3 2 σ else jX12_boring_59 v1 v2 v3 0 σ
set_option maxHeartbeats 4000000 in
theorem t_jX12_boring_33 {G : rG} {ad : Nat → Nat} {o : (Int32 × rS)}   (v1 : Int32) (v2 : Int32) (v3 : Int32) (s0 : Int32) (σ : rS) (h : rH) (hr : Rep G ad σ h) (hf : jX12_boring_33  v1 v2 v3 s0 σ = some o) : RW G mX12_boring (rm 2 0 0) (qI G ad o) xN 0 0 33 [(0, .ref (ad 43)), (1, .int v1), (2, .int v2), (3, .int v3)] [.int s0] h := by
  unfold jX12_boring_33 at hf
  refine rw_istore (lv2 := [(4, .int s0), (0, .ref (ad 43)), (1, .int v1), (2, .int v2), (3, .int v3)]) dX12_boring_33 (by decide) rfl ?_
  refine rw_aload_n dX12_boring_35 1 rfl rfl ?_
  refine rw_iload dX12_boring_36 0 rfl ?_
  refine rw_if_ne (tgt := 45) dX12_boring_38 (by decide) (fun c7 => ?_) (fun c7 => ?_)
  · rw [if_neg c7] at hf
    refine rw_aload_n dX12_boring_45 1 rfl rfl ?_
    refine sg_43_2 hr dX12_boring_46 fl1464 ?_
    refine rw_bipush (v := 16) dX12_boring_49 (by decide) ?_
    refine rw_icmp_ne (tgt := 58) dX12_boring_51 (by decide) (fun c8 => ?_) (fun c8 => ?_)
    · rw [if_neg c8] at hf
      refine rw_iconst (v := 0) dX12_boring_58 (by decide) ?_
      refine rw_sub [1, 2, 3, 4] rfl ?_
      exact t_jX12_boring_59 (ad := ad) (G := G)  v1 v2 v3 0 σ _ hr hf
    · rw [if_pos c8] at hf
      refine rw_iconst (v := 2) dX12_boring_54 (by decide) ?_
      refine rw_goto (tgt := 59) dX12_boring_55 (by decide) ?_
      refine rw_sub [1, 2, 3, 4] rfl ?_
      exact t_jX12_boring_59 (ad := ad) (G := G)  v1 v2 v3 2 σ _ hr hf
  · rw [if_pos c7] at hf
    refine rw_iconst (v := 1) dX12_boring_41 (by decide) ?_
    refine rw_goto (tgt := 59) dX12_boring_42 (by decide) ?_
    refine rw_sub [1, 2, 3, 4] rfl ?_
    exact t_jX12_boring_59 (ad := ad) (G := G)  v1 v2 v3 1 σ _ hr hf
def jX12_boring_32  (v1 : Int32) (v2 : Int32) (v3 : Int32) (σ : rS) : Option (Int32 × rS) := jX12_boring_33 v1 v2 v3 0 σ
set_option maxHeartbeats 4000000 in
theorem t_jX12_boring_32 {G : rG} {ad : Nat → Nat} {o : (Int32 × rS)}   (v1 : Int32) (v2 : Int32) (v3 : Int32) (σ : rS) (h : rH) (hr : Rep G ad σ h) (hf : jX12_boring_32  v1 v2 v3 σ = some o) : RW G mX12_boring (rm 2 0 0) (qI G ad o) xN 0 0 32 [(0, .ref (ad 43)), (1, .int v1), (2, .int v2), (3, .int v3)] [] h := by
  unfold jX12_boring_32 at hf
  refine rw_iconst (v := 0) dX12_boring_32 (by decide) ?_
  exact t_jX12_boring_33 (ad := ad) (G := G)  v1 v2 v3 0 σ _ hr hf
def fX12_boring (a0 : Int32) (a1 : Int32) (a2 : Int32) (σ : rS) : Option (Int32 × rS) := (fX12_isPlace a0 a1 σ).bind fun q1 => if q1.1 = 0 then jX12_boring_32 a0 a1 a2 q1.2 else (fX12_in a2 ((-100000)) 100000 q1.2).bind fun q3 => if q3.1 = 0 then jX12_boring_32 a0 a1 a2 q3.2 else (fX12_isTaken a0 a1 q3.2).bind fun q5 => if q5.1 = 0 then jX12_boring_33 a0 a1 a2 1 q5.2 else jX12_boring_32 a0 a1 a2 q5.2
set_option maxHeartbeats 4000000 in
theorem cmX12_boring {G : rG} {ad : Nat → Nat} {a0 : Int32} {a1 : Int32} {a2 : Int32} {σ : rS} {h : rH} {o : (Int32 × rS)} (hr : Rep G ad σ h) (hf : fX12_boring a0 a1 a2 σ = some o) : rMT G mX12_boring (rm 2 0 0) [.ref (ad 43), .int a0, .int a1, .int a2] h (qI G ad o) xN := by
  unfold fX12_boring at hf
  refine rw_met (by decide +kernel) rfl (Nat.le_of_ble_eq_true rfl) ?_
  show RW G _ _ _ _ 0 0 0 [(0, .ref (ad 43)), (1, .int a0), (2, .int a1), (3, .int a2)] [] h
  refine rw_iload_n dX12_boring_0 1 rfl rfl ?_
  refine rw_iload_n dX12_boring_1 2 rfl rfl ?_
  obtain ⟨q1, hq1, hf⟩ := bnd hf
  refine kS_I (ad := ad) (As := [.int a0, .int a1]) (st := []) dX12_boring_2 calX12_isPlace wm1609 wm1610 rfl rfl (by decide) ⟨⟨by decide, by decide⟩, by decide, by decide⟩ (cmX12_isPlace hr hq1) (fun h hr => ?_)
  refine rw_if_eq (tgt := 32) dX12_boring_5 (by decide) (fun c2 => ?_) (fun c2 => ?_)
  · rw [if_pos c2] at hf
    exact t_jX12_boring_32 (ad := ad) (G := G)  a0 a1 a2 q1.2 _ hr hf
  · rw [if_neg c2] at hf
    refine rw_iload_n dX12_boring_8 3 rfl rfl ?_
    refine rw_ldc (v := (-100000)) dX12_boring_9 wm1615 ?_
    refine rw_ldc (v := 100000) dX12_boring_11 wm1616 ?_
    obtain ⟨q3, hq3, hf⟩ := bnd hf
    refine kS_I (ad := ad) (As := [.int a2, .int ((-100000)), .int 100000]) (st := []) dX12_boring_13 calX12_in wm1612 wm1613 rfl rfl (by decide) ⟨⟨by decide, by decide⟩, by decide, by decide⟩ (cmX12_in hr hq3) (fun h hr => ?_)
    refine rw_if_eq (tgt := 32) dX12_boring_16 (by decide) (fun c4 => ?_) (fun c4 => ?_)
    · rw [if_pos c4] at hf
      exact t_jX12_boring_32 (ad := ad) (G := G)  a0 a1 a2 q3.2 _ hr hf
    · rw [if_neg c4] at hf
      refine rw_aload_n dX12_boring_19 0 rfl rfl ?_
      refine rw_iload_n dX12_boring_20 1 rfl rfl ?_
      refine rw_iload_n dX12_boring_21 2 rfl rfl ?_
      obtain ⟨q5, hq5, hf⟩ := bnd hf
      refine kV_I (ad := ad) (As := [.int a0, .int a1]) (st := []) dX12_boring_22 calX12_isTaken wm1617 wm1619 wm31 rfl rfl (hr.1 43 (by decide)) (ci := 12) (by decide) rfl rfl (by decide) ⟨⟨by decide, by decide⟩, by decide, by decide⟩ (cmX12_isTaken hr hq5) (fun h hr => ?_)
      refine rw_if_ne (tgt := 32) dX12_boring_25 (by decide) (fun c6 => ?_) (fun c6 => ?_)
      · rw [if_neg c6] at hf
        exact t_jX12_boring_32 (ad := ad) (G := G)  a0 a1 a2 q5.2 _ hr hf
      · rw [if_pos c6] at hf
        refine rw_iconst (v := 1) dX12_boring_28 (by decide) ?_
        refine rw_goto (tgt := 33) dX12_boring_29 (by decide) ?_
        exact t_jX12_boring_33 (ad := ad) (G := G)  a0 a1 a2 1 q5.2 _ hr hf
