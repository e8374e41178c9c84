/-! outcomes by type; guards; calls by type; places and borings by their numbers -/
def rm (d mc ms : Nat) : Room := { frames := d, cells := mc, slots := ms, locals := 100 * d }
def qI (G : rG) (ad : Nat → Nat) (o : Int32 × rS) : Option Value → rH → Prop := fun v h => v = some (.int o.1) ∧ Rep G ad o.2 h
def qJ (G : rG) (ad : Nat → Nat) (o : Int64 × rS) : Option Value → rH → Prop := fun v h => v = some (.long o.1) ∧ Rep G ad o.2 h
def qV (G : rG) (ad : Nat → Nat) (o : Unit × rS) : Option Value → rH → Prop := fun v h => v = none ∧ Rep G ad o.2 h
def qA (G : rG) (ad : Nat → Nat) (o : Nat × rS) : Option Value → rH → Prop := fun v h => v = some (.ref (ad o.1)) ∧ Rep G ad o.2 h
abbrev xN : String → rH → Prop := fun _ _ => False
def tI (G : rG) (ad : Nat → Nat) (o : Except String Int32 × rS) : Option Value → rH → Prop := fun v h => ∃ r, o.1 = .ok r ∧ v = some (.int r) ∧ Rep G ad o.2 h
def tJ (G : rG) (ad : Nat → Nat) (o : Except String Int64 × rS) : Option Value → rH → Prop := fun v h => ∃ r, o.1 = .ok r ∧ v = some (.long r) ∧ Rep G ad o.2 h
def tV (G : rG) (ad : Nat → Nat) (o : Except String Unit × rS) : Option Value → rH → Prop := fun v h => ∃ r, o.1 = .ok r ∧ v = none ∧ Rep G ad o.2 h
def xT {α : Type} (G : rG) (ad : Nat → Nat) (o : Except String α × rS) : String → rH → Prop := fun E h => o.1 = .error E ∧ Rep G ad o.2 h
theorem grd {c : Prop} [Decidable c] {β : Type} {x : Option β} {o : β} (h : (if c then x else none) = some o) : c ∧ x = some o := by
  by_cases hc : c
  · rw [if_pos hc] at h; exact ⟨hc, h⟩
  · rw [if_neg hc] at h; cases h
theorem bnd {α β : Type} {x : Option α} {f : α → Option β} {o : β} (h : x.bind f = some o) : ∃ a, x = some a ∧ f a = some o := by
  cases x with
  | none => cases h
  | some a => exact ⟨a, rfl, h⟩
def vS {β : Type} (σ : rS) (k : rS → Option β) : Option β := k σ
def vI {β : Type} (x : Int32) (k : Int32 → Option β) : Option β := k x
def vJ {β : Type} (x : Int64) (k : Int64 → Option β) : Option β := k x
def vN {β : Type} (x : Nat) (k : Nat → Option β) : Option β := k x
theorem vS_e {β : Type} {σ : rS} {k : rS → Option β} {o : β} (h : vS σ k = some o) : k σ = some o := h
theorem vI_e {β : Type} {x : Int32} {k : Int32 → Option β} {o : β} (h : vI x k = some o) : k x = some o := h
theorem vJ_e {β : Type} {x : Int64} {k : Int64 → Option β} {o : β} (h : vJ x k = some o) : k x = some o := h
def inB (i : Int32) (n : Nat) : Bool := decide (¬ (i < 0 ∨ n ≤ i.toNatClampNeg))
theorem inB_in {i : Int32} {n : Nat} (h : inB i n = true) : vp_in i n := of_decide_eq_true (p := ¬ (i < 0 ∨ n ≤ i.toNatClampNeg)) h
theorem inB_lt {i : Int32} {n : Nat} (h : inB i n = true) : i.toNatClampNeg < n := Nat.not_le.mp fun q => inB_in h (Or.inr q)
abbrev isPl (n : Nat) : Prop := n = 35 ∨ (80 ≤ n ∧ n < 144 ∧ n % 4 = 1) ∨ (144 ≤ n ∧ n < 160)
abbrev isBo (n : Nat) : Prop := 80 ≤ n ∧ n < 144 ∧ n % 4 = 0
abbrev isKi (n : Nat) : Prop := 80 ≤ n ∧ n < 144 ∧ n % 4 = 2
abbrev isTh (n : Nat) : Prop := 80 ≤ n ∧ n < 144 ∧ n % 4 = 3
theorem dom_Pl {n : Nat} (h : isPl n) : dom n := by unfold dom; omega
theorem dom_Bo {n : Nat} (h : isBo n) : dom n := by unfold dom; omega
theorem dom_Ki {n : Nat} (h : isKi n) : dom n := by unfold dom; omega
theorem dom_Th {n : Nat} (h : isTh n) : dom n := by unfold dom; omega
theorem caPl (G : rG) (ad : Nat → Nat) (i : Nat → Int32) (l : Nat → Int64) (a : Nat → Int32) (ot : Nat → Int64) (sb : Nat) {n : Nat} (h : isPl n) : cellAt G ad i l a ot sb n = .inr (7, [.int (i 0), .int (i 1)]) := by
  rcases h with rfl | ⟨h1, h2, h3⟩ | ⟨h1, h2⟩
  · rfl
  · obtain ⟨k, rfl⟩ : ∃ k, n = 81 + 4 * k := ⟨(n - 81) / 4, by omega⟩
    exact caP G ad i l a ot sb (by omega)
  · rcases Nat.mod_two_eq_zero_or_one n with h3 | h3
    · obtain ⟨k, rfl⟩ : ∃ k, n = 144 + 2 * k := ⟨(n - 144) / 2, by omega⟩
      exact caF G ad i l a ot sb (by omega)
    · obtain ⟨k, rfl⟩ : ∃ k, n = 145 + 2 * k := ⟨(n - 145) / 2, by omega⟩
      exact caE G ad i l a ot sb (by omega)
theorem caBo (G : rG) (ad : Nat → Nat) (i : Nat → Int32) (l : Nat → Int64) (a : Nat → Int32) (ot : Nat → Int64) (sb : Nat) {n : Nat} (h : isBo n) : cellAt G ad i l a ot sb n = .inr (2, [.ref (ad (n + 1)), .ref (ad (n + 2)), .ref (ad (n + 3)), .int (i 3), .int (i 4)]) := by
  obtain ⟨h1, h2, h3⟩ := h
  obtain ⟨k, rfl⟩ : ∃ k, n = 80 + 4 * k := ⟨(n - 80) / 4, by omega⟩
  rw [caB G ad i l a ot sb (by omega)]
  rw [show 80 + 4 * k + 1 = 81 + 4 * k by omega, show 80 + 4 * k + 2 = 82 + 4 * k by omega, show 80 + 4 * k + 3 = 83 + 4 * k by omega]
theorem caKi (G : rG) (ad : Nat → Nat) (i : Nat → Int32) (l : Nat → Int64) (a : Nat → Int32) (ot : Nat → Int64) (sb : Nat) {n : Nat} (h : isKi n) : cellAt G ad i l a ot sb n = .inl (G.2.1 0, 12, .inl a) := by
  obtain ⟨h1, h2, h3⟩ := h
  obtain ⟨k, rfl⟩ : ∃ k, n = 82 + 4 * k := ⟨(n - 82) / 4, by omega⟩
  exact caK G ad i l a ot sb (by omega)
theorem caTh (G : rG) (ad : Nat → Nat) (i : Nat → Int32) (l : Nat → Int64) (a : Nat → Int32) (ot : Nat → Int64) (sb : Nat) {n : Nat} (h : isTh n) : cellAt G ad i l a ot sb n = .inl (G.2.1 0, 12, .inl a) := by
  obtain ⟨h1, h2, h3⟩ := h
  obtain ⟨k, rfl⟩ : ∃ k, n = 83 + 4 * k := ⟨(n - 83) / 4, by omega⟩
  exact caT G ad i l a ot sb (by omega)
section RwTyped
variable {G : rG} {ad : Nat → Nat} {σ : rS} {mi : rMI} {R : Room} {Q : Option Value → rH → Prop} {X : String → rH → Prop} {cells slots pc : Nat} {lv : List (Nat × Value)} {st : List Value} {h : rH}
theorem sg_Pl_0 {idx n : Nat} (hr : Rep G ad σ h) (hd : decode mi.2.1 pc = .ok (.getfield idx, 3)) (hf : rFld mi.1.cls idx 7 0 .int false) (hn : isPl n) (kk : RW G mi R Q X cells slots (pc + 3) lv (.int (σ.1 n 0) :: st) h) : RW G mi R Q X cells slots pc lv (.ref (ad n) :: st) h := rw_get hd hf ((hr.1 _ (dom_Pl hn)).trans (caPl G ad _ _ _ _ _ hn)) rfl kk
theorem sp_Pl_0 {idx n : Nat} {v : Int32} (hr : Rep G ad σ h) (hd : decode mi.2.1 pc = .ok (.putfield idx, 3)) (hf : rFld mi.1.cls idx 7 0 .int false) (hn : isPl n) (kk : ∀ h2, Rep G ad (uI σ n 0 v) h2 → RW G mi R Q X cells slots (pc + 3) lv st h2) : RW G mi R Q X cells slots pc lv (.int v :: .ref (ad n) :: st) h := rw_put hd hf ((hr.1 _ (dom_Pl hn)).trans (caPl G ad _ _ _ _ _ hn)) rfl rfl (Nat.le_of_ble_eq_true rfl) (kk _ (hr.putI (dom_Pl hn) (caPl G ad _ _ _ _ _ hn)))
theorem sg_Pl_1 {idx n : Nat} (hr : Rep G ad σ h) (hd : decode mi.2.1 pc = .ok (.getfield idx, 3)) (hf : rFld mi.1.cls idx 7 1 .int false) (hn : isPl n) (kk : RW G mi R Q X cells slots (pc + 3) lv (.int (σ.1 n 1) :: st) h) : RW G mi R Q X cells slots pc lv (.ref (ad n) :: st) h := rw_get hd hf ((hr.1 _ (dom_Pl hn)).trans (caPl G ad _ _ _ _ _ hn)) rfl kk
theorem sp_Pl_1 {idx n : Nat} {v : Int32} (hr : Rep G ad σ h) (hd : decode mi.2.1 pc = .ok (.putfield idx, 3)) (hf : rFld mi.1.cls idx 7 1 .int false) (hn : isPl n) (kk : ∀ h2, Rep G ad (uI σ n 1 v) h2 → RW G mi R Q X cells slots (pc + 3) lv st h2) : RW G mi R Q X cells slots pc lv (.int v :: .ref (ad n) :: st) h := rw_put hd hf ((hr.1 _ (dom_Pl hn)).trans (caPl G ad _ _ _ _ _ hn)) rfl rfl (Nat.le_of_ble_eq_true rfl) (kk _ (hr.putI (dom_Pl hn) (caPl G ad _ _ _ _ _ hn)))
theorem sg_Bo_0 {idx n : Nat} (hr : Rep G ad σ h) (hd : decode mi.2.1 pc = .ok (.getfield idx, 3)) (hf : rFld mi.1.cls idx 2 0 (.object "LayerJoins$Place") true) (hn : isBo n) (kk : RW G mi R Q X cells slots (pc + 3) lv (.ref (ad (n + 1)) :: st) h) : RW G mi R Q X cells slots pc lv (.ref (ad n) :: st) h := rw_get hd hf ((hr.1 _ (dom_Bo hn)).trans (caBo G ad _ _ _ _ _ hn)) rfl kk
theorem sg_Bo_1 {idx n : Nat} (hr : Rep G ad σ h) (hd : decode mi.2.1 pc = .ok (.getfield idx, 3)) (hf : rFld mi.1.cls idx 2 1 (.array .int) true) (hn : isBo n) (kk : RW G mi R Q X cells slots (pc + 3) lv (.ref (ad (n + 2)) :: st) h) : RW G mi R Q X cells slots pc lv (.ref (ad n) :: st) h := rw_get hd hf ((hr.1 _ (dom_Bo hn)).trans (caBo G ad _ _ _ _ _ hn)) rfl kk
theorem sg_Bo_2 {idx n : Nat} (hr : Rep G ad σ h) (hd : decode mi.2.1 pc = .ok (.getfield idx, 3)) (hf : rFld mi.1.cls idx 2 2 (.array .int) true) (hn : isBo n) (kk : RW G mi R Q X cells slots (pc + 3) lv (.ref (ad (n + 3)) :: st) h) : RW G mi R Q X cells slots pc lv (.ref (ad n) :: st) h := rw_get hd hf ((hr.1 _ (dom_Bo hn)).trans (caBo G ad _ _ _ _ _ hn)) rfl kk
theorem sg_Bo_3 {idx n : Nat} (hr : Rep G ad σ h) (hd : decode mi.2.1 pc = .ok (.getfield idx, 3)) (hf : rFld mi.1.cls idx 2 3 .int false) (hn : isBo n) (kk : RW G mi R Q X cells slots (pc + 3) lv (.int (σ.1 n 3) :: st) h) : RW G mi R Q X cells slots pc lv (.ref (ad n) :: st) h := rw_get hd hf ((hr.1 _ (dom_Bo hn)).trans (caBo G ad _ _ _ _ _ hn)) rfl kk
theorem sp_Bo_3 {idx n : Nat} {v : Int32} (hr : Rep G ad σ h) (hd : decode mi.2.1 pc = .ok (.putfield idx, 3)) (hf : rFld mi.1.cls idx 2 3 .int false) (hn : isBo n) (kk : ∀ h2, Rep G ad (uI σ n 3 v) h2 → RW G mi R Q X cells slots (pc + 3) lv st h2) : RW G mi R Q X cells slots pc lv (.int v :: .ref (ad n) :: st) h := rw_put hd hf ((hr.1 _ (dom_Bo hn)).trans (caBo G ad _ _ _ _ _ hn)) rfl rfl (Nat.le_of_ble_eq_true rfl) (kk _ (hr.putI (dom_Bo hn) (caBo G ad _ _ _ _ _ hn)))
theorem sg_Bo_4 {idx n : Nat} (hr : Rep G ad σ h) (hd : decode mi.2.1 pc = .ok (.getfield idx, 3)) (hf : rFld mi.1.cls idx 2 4 .int false) (hn : isBo n) (kk : RW G mi R Q X cells slots (pc + 3) lv (.int (σ.1 n 4) :: st) h) : RW G mi R Q X cells slots pc lv (.ref (ad n) :: st) h := rw_get hd hf ((hr.1 _ (dom_Bo hn)).trans (caBo G ad _ _ _ _ _ hn)) rfl kk
theorem sp_Bo_4 {idx n : Nat} {v : Int32} (hr : Rep G ad σ h) (hd : decode mi.2.1 pc = .ok (.putfield idx, 3)) (hf : rFld mi.1.cls idx 2 4 .int false) (hn : isBo n) (kk : ∀ h2, Rep G ad (uI σ n 4 v) h2 → RW G mi R Q X cells slots (pc + 3) lv st h2) : RW G mi R Q X cells slots pc lv (.int v :: .ref (ad n) :: st) h := rw_put hd hf ((hr.1 _ (dom_Bo hn)).trans (caBo G ad _ _ _ _ _ hn)) rfl rfl (Nat.le_of_ble_eq_true rfl) (kk _ (hr.putI (dom_Bo hn) (caBo G ad _ _ _ _ _ hn)))
theorem sl_Ki {i : Int32} {n : Nat} (hr : Rep G ad σ h) (hd : decode mi.2.1 pc = .ok (.iaload, 1)) (hn : isKi n) (hin : vp_in i 12) (kk : RW G mi R Q X cells slots (pc + 1) lv (.int (σ.2.2.1 n i.toNatClampNeg) :: st) h) : RW G mi R Q X cells slots pc lv (.int i :: .ref (ad n) :: st) h := rw_iaload hd ((hr.1 _ (dom_Ki hn)).trans (caKi G ad _ _ _ _ _ hn)) hin kk
theorem ss_Ki {i x : Int32} {n : Nat} (hr : Rep G ad σ h) (hd : decode mi.2.1 pc = .ok (.iastore, 1)) (hn : isKi n) (hin : vp_in i 12) (kk : ∀ h2, Rep G ad (uA σ n i.toNatClampNeg x) h2 → RW G mi R Q X cells slots (pc + 1) lv st h2) : RW G mi R Q X cells slots pc lv (.int x :: .int i :: .ref (ad n) :: st) h := rw_iastore hd ((hr.1 _ (dom_Ki hn)).trans (caKi G ad _ _ _ _ _ hn)) hin (kk _ (hr.putA (dom_Ki hn) (caKi G ad _ _ _ _ _ hn)))
theorem sl_Th {i : Int32} {n : Nat} (hr : Rep G ad σ h) (hd : decode mi.2.1 pc = .ok (.iaload, 1)) (hn : isTh n) (hin : vp_in i 12) (kk : RW G mi R Q X cells slots (pc + 1) lv (.int (σ.2.2.1 n i.toNatClampNeg) :: st) h) : RW G mi R Q X cells slots pc lv (.int i :: .ref (ad n) :: st) h := rw_iaload hd ((hr.1 _ (dom_Th hn)).trans (caTh G ad _ _ _ _ _ hn)) hin kk
theorem ss_Th {i x : Int32} {n : Nat} (hr : Rep G ad σ h) (hd : decode mi.2.1 pc = .ok (.iastore, 1)) (hn : isTh n) (hin : vp_in i 12) (kk : ∀ h2, Rep G ad (uA σ n i.toNatClampNeg x) h2 → RW G mi R Q X cells slots (pc + 1) lv st h2) : RW G mi R Q X cells slots pc lv (.int x :: .int i :: .ref (ad n) :: st) h := rw_iastore hd ((hr.1 _ (dom_Th hn)).trans (caTh G ad _ _ _ _ _ hn)) hin (kk _ (hr.putA (dom_Th hn) (caTh G ad _ _ _ _ _ hn)))
theorem sa_2 {i : Int32} (hr : Rep G ad σ h) (hd : decode mi.2.1 pc = .ok (.aaload, 1)) (hin : vp_in i 16) (kk : RW G mi R Q X cells slots (pc + 1) lv (.ref (ad (80 + 4 * i.toNatClampNeg)) :: st) h) : RW G mi R Q X cells slots pc lv (.int i :: .ref (ad 2) :: st) h := rw_aaloadBoring hd (hr.1 2 (by decide)) hin kk
theorem sa_4 {i : Int32} (hr : Rep G ad σ h) (hd : decode mi.2.1 pc = .ok (.aaload, 1)) (hin : vp_in i 8) (kk : RW G mi R Q X cells slots (pc + 1) lv (.ref (ad (144 + 2 * i.toNatClampNeg)) :: st) h) : RW G mi R Q X cells slots pc lv (.int i :: .ref (ad 4) :: st) h := rw_aaloadPlace hd (hr.1 4 (by decide)) hin kk
theorem sa_5 {i : Int32} (hr : Rep G ad σ h) (hd : decode mi.2.1 pc = .ok (.aaload, 1)) (hin : vp_in i 8) (kk : RW G mi R Q X cells slots (pc + 1) lv (.ref (ad (145 + 2 * i.toNatClampNeg)) :: st) h) : RW G mi R Q X cells slots pc lv (.int i :: .ref (ad 5) :: st) h := rw_aaloadPlace hd (hr.1 5 (by decide)) hin kk
theorem Rep.putO {i : Nat} {v : Int64} (hr : Rep G ad σ h) : Rep G ad (uO σ i v) (hput h (ad 42) (.inl (G.2.1 4, 1, .inr (.inl (vp_updL σ.2.2.2.1 i v))))) := hr.put (by decide) rfl (fun k hk => by
    simp only [cellOf, uO]
    unfold cellAt
    split <;> first | rfl | exact absurd rfl hk) rfl
theorem ss_42 {i : Int32} {x : Int64} (hr : Rep G ad σ h) (hd : decode mi.2.1 pc = .ok (.lastore, 1)) (hin : vp_in i 1) (kk : ∀ h2, Rep G ad (uO σ i.toNatClampNeg x) h2 → RW G mi R Q X cells slots (pc + 1) lv st h2) : RW G mi R Q X cells slots pc lv (.long x :: .int i :: .ref (ad 42) :: st) h := rw_lastore hd (hr.1 42 (by decide)) hin (kk _ hr.putO)
theorem kS_I {mj : rMI} {R2 : Room} {idx n : Nat} {As st0 : List Value} {o : Int32 × rS} (hd : decode mi.2.1 pc = .ok (.invokestatic idx, 3)) (hcal : rCal mj n) (hw1 : Cond.methodLink mi.1.cls idx mj.1 ∈ rTB) (hw2 : Cond.static mj.1 ∈ rTB) (hst : st0 = As.reverse ++ st) (hn : As.length = n) (hsum : (st.map fun v => v.category).sum ≤ 8) (hR : rFit R R2 mj.2.2.1 cells slots) (hM : rMT G mj R2 As h (qI G ad o) xN) (kk : ∀ h2, Rep G ad o.2 h2 → RW G mi R Q X (cells + R2.cells) (slots + R2.slots) (pc + 3) lv (.int o.1 :: st) h2) : RW G mi R Q X cells slots pc lv st0 h := rw_callS hd hcal hw1 hw2 hst hn hsum hR hM (fun _ _ z => z.elim) (fun v h2 z => by obtain ⟨rfl, hr⟩ := z; exact kk h2 hr)
theorem kS_Ix {mj : rMI} {R2 : Room} {idx n : Nat} {As st0 : List Value} {o : Except String Int32 × rS} (hd : decode mi.2.1 pc = .ok (.invokestatic idx, 3)) (hcal : rCal mj n) (hw1 : Cond.methodLink mi.1.cls idx mj.1 ∈ rTB) (hw2 : Cond.static mj.1 ∈ rTB) (hst : st0 = As.reverse ++ st) (hn : As.length = n) (hsum : (st.map fun v => v.category).sum ≤ 8) (hR : rFit R R2 mj.2.2.1 cells slots) (hM : rMT G mj R2 As h (tI G ad o) (xT G ad o)) (kx : ∀ (E : String) (h2 : rH), o.1 = .error E → Rep G ad o.2 h2 → RX G mi R Q X (cells + R2.cells) (slots + R2.slots) pc lv st h2 E) (kk : ∀ (r : Int32) (h2 : rH), o.1 = .ok r → Rep G ad o.2 h2 → RW G mi R Q X (cells + R2.cells) (slots + R2.slots) (pc + 3) lv (.int r :: st) h2) : RW G mi R Q X cells slots pc lv st0 h := rw_callS hd hcal hw1 hw2 hst hn hsum hR hM (fun E h2 z => kx E h2 z.1 z.2) (fun v h2 z => by obtain ⟨r, hr1, rfl, hr⟩ := z; exact kk r h2 hr1 hr)
theorem kS_J {mj : rMI} {R2 : Room} {idx n : Nat} {As st0 : List Value} {o : Int64 × rS} (hd : decode mi.2.1 pc = .ok (.invokestatic idx, 3)) (hcal : rCal mj n) (hw1 : Cond.methodLink mi.1.cls idx mj.1 ∈ rTB) (hw2 : Cond.static mj.1 ∈ rTB) (hst : st0 = As.reverse ++ st) (hn : As.length = n) (hsum : (st.map fun v => v.category).sum ≤ 8) (hR : rFit R R2 mj.2.2.1 cells slots) (hM : rMT G mj R2 As h (qJ G ad o) xN) (kk : ∀ h2, Rep G ad o.2 h2 → RW G mi R Q X (cells + R2.cells) (slots + R2.slots) (pc + 3) lv (.long o.1 :: st) h2) : RW G mi R Q X cells slots pc lv st0 h := rw_callS hd hcal hw1 hw2 hst hn hsum hR hM (fun _ _ z => z.elim) (fun v h2 z => by obtain ⟨rfl, hr⟩ := z; exact kk h2 hr)
theorem kS_Jx {mj : rMI} {R2 : Room} {idx n : Nat} {As st0 : List Value} {o : Except String Int64 × rS} (hd : decode mi.2.1 pc = .ok (.invokestatic idx, 3)) (hcal : rCal mj n) (hw1 : Cond.methodLink mi.1.cls idx mj.1 ∈ rTB) (hw2 : Cond.static mj.1 ∈ rTB) (hst : st0 = As.reverse ++ st) (hn : As.length = n) (hsum : (st.map fun v => v.category).sum ≤ 8) (hR : rFit R R2 mj.2.2.1 cells slots) (hM : rMT G mj R2 As h (tJ G ad o) (xT G ad o)) (kx : ∀ (E : String) (h2 : rH), o.1 = .error E → Rep G ad o.2 h2 → RX G mi R Q X (cells + R2.cells) (slots + R2.slots) pc lv st h2 E) (kk : ∀ (r : Int64) (h2 : rH), o.1 = .ok r → Rep G ad o.2 h2 → RW G mi R Q X (cells + R2.cells) (slots + R2.slots) (pc + 3) lv (.long r :: st) h2) : RW G mi R Q X cells slots pc lv st0 h := rw_callS hd hcal hw1 hw2 hst hn hsum hR hM (fun E h2 z => kx E h2 z.1 z.2) (fun v h2 z => by obtain ⟨r, hr1, rfl, hr⟩ := z; exact kk r h2 hr1 hr)
theorem kS_V {mj : rMI} {R2 : Room} {idx n : Nat} {As st0 : List Value} {o : Unit × rS} (hd : decode mi.2.1 pc = .ok (.invokestatic idx, 3)) (hcal : rCal mj n) (hw1 : Cond.methodLink mi.1.cls idx mj.1 ∈ rTB) (hw2 : Cond.static mj.1 ∈ rTB) (hst : st0 = As.reverse ++ st) (hn : As.length = n) (hsum : (st.map fun v => v.category).sum ≤ 8) (hR : rFit R R2 mj.2.2.1 cells slots) (hM : rMT G mj R2 As h (qV G ad o) xN) (kk : ∀ h2, Rep G ad o.2 h2 → RW G mi R Q X (cells + R2.cells) (slots + R2.slots) (pc + 3) lv (st) h2) : RW G mi R Q X cells slots pc lv st0 h := rw_callS hd hcal hw1 hw2 hst hn hsum hR hM (fun _ _ z => z.elim) (fun v h2 z => by obtain ⟨rfl, hr⟩ := z; exact kk h2 hr)
theorem kS_Vx {mj : rMI} {R2 : Room} {idx n : Nat} {As st0 : List Value} {o : Except String Unit × rS} (hd : decode mi.2.1 pc = .ok (.invokestatic idx, 3)) (hcal : rCal mj n) (hw1 : Cond.methodLink mi.1.cls idx mj.1 ∈ rTB) (hw2 : Cond.static mj.1 ∈ rTB) (hst : st0 = As.reverse ++ st) (hn : As.length = n) (hsum : (st.map fun v => v.category).sum ≤ 8) (hR : rFit R R2 mj.2.2.1 cells slots) (hM : rMT G mj R2 As h (tV G ad o) (xT G ad o)) (kx : ∀ (E : String) (h2 : rH), o.1 = .error E → Rep G ad o.2 h2 → RX G mi R Q X (cells + R2.cells) (slots + R2.slots) pc lv st h2 E) (kk : ∀ (r : Unit) (h2 : rH), o.1 = .ok r → Rep G ad o.2 h2 → RW G mi R Q X (cells + R2.cells) (slots + R2.slots) (pc + 3) lv (st) h2) : RW G mi R Q X cells slots pc lv st0 h := rw_callS hd hcal hw1 hw2 hst hn hsum hR hM (fun E h2 z => kx E h2 z.1 z.2) (fun v h2 z => by obtain ⟨r, hr1, rfl, hr⟩ := z; exact kk r h2 hr1 hr)
theorem kS_A {mj : rMI} {R2 : Room} {idx n : Nat} {As st0 : List Value} {o : Nat × rS} (hd : decode mi.2.1 pc = .ok (.invokestatic idx, 3)) (hcal : rCal mj n) (hw1 : Cond.methodLink mi.1.cls idx mj.1 ∈ rTB) (hw2 : Cond.static mj.1 ∈ rTB) (hst : st0 = As.reverse ++ st) (hn : As.length = n) (hsum : (st.map fun v => v.category).sum ≤ 8) (hR : rFit R R2 mj.2.2.1 cells slots) (hM : rMT G mj R2 As h (qA G ad o) xN) (kk : ∀ h2, Rep G ad o.2 h2 → RW G mi R Q X (cells + R2.cells) (slots + R2.slots) (pc + 3) lv (.ref (ad o.1) :: st) h2) : RW G mi R Q X cells slots pc lv st0 h := rw_callS hd hcal hw1 hw2 hst hn hsum hR hM (fun _ _ z => z.elim) (fun v h2 z => by obtain ⟨rfl, hr⟩ := z; exact kk h2 hr)
theorem kSN_I {mj : rMI} {R2 : Room} {idx n : Nat} {As st0 : List Value} {o : Int32 × rS} (hd : decode mi.2.1 pc = .ok (.invokestatic idx, 3)) (hcal : rCal mj n) (hw1 : Cond.methodLinkNest mi.1.cls idx mj.1 "LayerJoins" ∈ rNest) (hw2 : Cond.static mj.1 ∈ rTB) (hst : st0 = As.reverse ++ st) (hn : As.length = n) (hsum : (st.map fun v => v.category).sum ≤ 8) (hR : rFit R R2 mj.2.2.1 cells slots) (hM : rMT G mj R2 As h (qI G ad o) xN) (kk : ∀ h2, Rep G ad o.2 h2 → RW G mi R Q X (cells + R2.cells) (slots + R2.slots) (pc + 3) lv (.int o.1 :: st) h2) : RW G mi R Q X cells slots pc lv st0 h := rw_callSN hd hcal hw1 hw2 hst hn hsum hR hM (fun v h2 z => by obtain ⟨rfl, hr⟩ := z; exact kk h2 hr)
theorem kSN_J {mj : rMI} {R2 : Room} {idx n : Nat} {As st0 : List Value} {o : Int64 × rS} (hd : decode mi.2.1 pc = .ok (.invokestatic idx, 3)) (hcal : rCal mj n) (hw1 : Cond.methodLinkNest mi.1.cls idx mj.1 "LayerJoins" ∈ rNest) (hw2 : Cond.static mj.1 ∈ rTB) (hst : st0 = As.reverse ++ st) (hn : As.length = n) (hsum : (st.map fun v => v.category).sum ≤ 8) (hR : rFit R R2 mj.2.2.1 cells slots) (hM : rMT G mj R2 As h (qJ G ad o) xN) (kk : ∀ h2, Rep G ad o.2 h2 → RW G mi R Q X (cells + R2.cells) (slots + R2.slots) (pc + 3) lv (.long o.1 :: st) h2) : RW G mi R Q X cells slots pc lv st0 h := rw_callSN hd hcal hw1 hw2 hst hn hsum hR hM (fun v h2 z => by obtain ⟨rfl, hr⟩ := z; exact kk h2 hr)
theorem kSN_V {mj : rMI} {R2 : Room} {idx n : Nat} {As st0 : List Value} {o : Unit × rS} (hd : decode mi.2.1 pc = .ok (.invokestatic idx, 3)) (hcal : rCal mj n) (hw1 : Cond.methodLinkNest mi.1.cls idx mj.1 "LayerJoins" ∈ rNest) (hw2 : Cond.static mj.1 ∈ rTB) (hst : st0 = As.reverse ++ st) (hn : As.length = n) (hsum : (st.map fun v => v.category).sum ≤ 8) (hR : rFit R R2 mj.2.2.1 cells slots) (hM : rMT G mj R2 As h (qV G ad o) xN) (kk : ∀ h2, Rep G ad o.2 h2 → RW G mi R Q X (cells + R2.cells) (slots + R2.slots) (pc + 3) lv (st) h2) : RW G mi R Q X cells slots pc lv st0 h := rw_callSN hd hcal hw1 hw2 hst hn hsum hR hM (fun v h2 z => by obtain ⟨rfl, hr⟩ := z; exact kk h2 hr)
theorem kSN_A {mj : rMI} {R2 : Room} {idx n : Nat} {As st0 : List Value} {o : Nat × rS} (hd : decode mi.2.1 pc = .ok (.invokestatic idx, 3)) (hcal : rCal mj n) (hw1 : Cond.methodLinkNest mi.1.cls idx mj.1 "LayerJoins" ∈ rNest) (hw2 : Cond.static mj.1 ∈ rTB) (hst : st0 = As.reverse ++ st) (hn : As.length = n) (hsum : (st.map fun v => v.category).sum ≤ 8) (hR : rFit R R2 mj.2.2.1 cells slots) (hM : rMT G mj R2 As h (qA G ad o) xN) (kk : ∀ h2, Rep G ad o.2 h2 → RW G mi R Q X (cells + R2.cells) (slots + R2.slots) (pc + 3) lv (.ref (ad o.1) :: st) h2) : RW G mi R Q X cells slots pc lv st0 h := rw_callSN hd hcal hw1 hw2 hst hn hsum hR hM (fun v h2 z => by obtain ⟨rfl, hr⟩ := z; exact kk h2 hr)
theorem kV_I {mj : rMI} {R2 : Room} {idx n : Nat} {As st0 : List Value} {b ci : Nat} {q : vw_C} {fs : List Value} {o : Int32 × rS} (hd : decode mi.2.1 pc = .ok (.invokevirtual idx, 3)) (hcal : rCal mj n) (hw1 : Cond.methodLink mi.1.cls idx mj.1 ∈ rTB) (hw2 : Cond.instanceMethod mj.1 ∈ rTB) (hw3 : Cond.selects mj.1.cls mj.1 mj.1 ∈ rTB) (hst : st0 = As.reverse ++ .ref b :: st) (hn : As.length = n) (hc : h b = .inr (ci, fs)) (hci : ci < 13) (hq : rCl[ci]? = some q) (hqn : q.1 = mj.1.cls) (hsum : (st.map fun v => v.category).sum ≤ 8) (hR : rFit R R2 mj.2.2.1 cells slots) (hM : rMT G mj R2 (.ref b :: As) h (qI G ad o) xN) (kk : ∀ h2, Rep G ad o.2 h2 → RW G mi R Q X (cells + R2.cells) (slots + R2.slots) (pc + 3) lv (.int o.1 :: st) h2) : RW G mi R Q X cells slots pc lv st0 h := rw_callV hd hcal hw1 hw2 hw3 hst hn hc hci hq hqn hsum hR hM (fun _ _ z => z.elim) (fun v h2 z => by obtain ⟨rfl, hr⟩ := z; exact kk h2 hr)
theorem kV_Ix {mj : rMI} {R2 : Room} {idx n : Nat} {As st0 : List Value} {b ci : Nat} {q : vw_C} {fs : List Value} {o : Except String Int32 × rS} (hd : decode mi.2.1 pc = .ok (.invokevirtual idx, 3)) (hcal : rCal mj n) (hw1 : Cond.methodLink mi.1.cls idx mj.1 ∈ rTB) (hw2 : Cond.instanceMethod mj.1 ∈ rTB) (hw3 : Cond.selects mj.1.cls mj.1 mj.1 ∈ rTB) (hst : st0 = As.reverse ++ .ref b :: st) (hn : As.length = n) (hc : h b = .inr (ci, fs)) (hci : ci < 13) (hq : rCl[ci]? = some q) (hqn : q.1 = mj.1.cls) (hsum : (st.map fun v => v.category).sum ≤ 8) (hR : rFit R R2 mj.2.2.1 cells slots) (hM : rMT G mj R2 (.ref b :: As) h (tI G ad o) (xT G ad o)) (kx : ∀ (E : String) (h2 : rH), o.1 = .error E → Rep G ad o.2 h2 → RX G mi R Q X (cells + R2.cells) (slots + R2.slots) pc lv st h2 E) (kk : ∀ (r : Int32) (h2 : rH), o.1 = .ok r → Rep G ad o.2 h2 → RW G mi R Q X (cells + R2.cells) (slots + R2.slots) (pc + 3) lv (.int r :: st) h2) : RW G mi R Q X cells slots pc lv st0 h := rw_callV hd hcal hw1 hw2 hw3 hst hn hc hci hq hqn hsum hR hM (fun E h2 z => kx E h2 z.1 z.2) (fun v h2 z => by obtain ⟨r, hr1, rfl, hr⟩ := z; exact kk r h2 hr1 hr)
theorem kV_J {mj : rMI} {R2 : Room} {idx n : Nat} {As st0 : List Value} {b ci : Nat} {q : vw_C} {fs : List Value} {o : Int64 × rS} (hd : decode mi.2.1 pc = .ok (.invokevirtual idx, 3)) (hcal : rCal mj n) (hw1 : Cond.methodLink mi.1.cls idx mj.1 ∈ rTB) (hw2 : Cond.instanceMethod mj.1 ∈ rTB) (hw3 : Cond.selects mj.1.cls mj.1 mj.1 ∈ rTB) (hst : st0 = As.reverse ++ .ref b :: st) (hn : As.length = n) (hc : h b = .inr (ci, fs)) (hci : ci < 13) (hq : rCl[ci]? = some q) (hqn : q.1 = mj.1.cls) (hsum : (st.map fun v => v.category).sum ≤ 8) (hR : rFit R R2 mj.2.2.1 cells slots) (hM : rMT G mj R2 (.ref b :: As) h (qJ G ad o) xN) (kk : ∀ h2, Rep G ad o.2 h2 → RW G mi R Q X (cells + R2.cells) (slots + R2.slots) (pc + 3) lv (.long o.1 :: st) h2) : RW G mi R Q X cells slots pc lv st0 h := rw_callV hd hcal hw1 hw2 hw3 hst hn hc hci hq hqn hsum hR hM (fun _ _ z => z.elim) (fun v h2 z => by obtain ⟨rfl, hr⟩ := z; exact kk h2 hr)
theorem kV_Jx {mj : rMI} {R2 : Room} {idx n : Nat} {As st0 : List Value} {b ci : Nat} {q : vw_C} {fs : List Value} {o : Except String Int64 × rS} (hd : decode mi.2.1 pc = .ok (.invokevirtual idx, 3)) (hcal : rCal mj n) (hw1 : Cond.methodLink mi.1.cls idx mj.1 ∈ rTB) (hw2 : Cond.instanceMethod mj.1 ∈ rTB) (hw3 : Cond.selects mj.1.cls mj.1 mj.1 ∈ rTB) (hst : st0 = As.reverse ++ .ref b :: st) (hn : As.length = n) (hc : h b = .inr (ci, fs)) (hci : ci < 13) (hq : rCl[ci]? = some q) (hqn : q.1 = mj.1.cls) (hsum : (st.map fun v => v.category).sum ≤ 8) (hR : rFit R R2 mj.2.2.1 cells slots) (hM : rMT G mj R2 (.ref b :: As) h (tJ G ad o) (xT G ad o)) (kx : ∀ (E : String) (h2 : rH), o.1 = .error E → Rep G ad o.2 h2 → RX G mi R Q X (cells + R2.cells) (slots + R2.slots) pc lv st h2 E) (kk : ∀ (r : Int64) (h2 : rH), o.1 = .ok r → Rep G ad o.2 h2 → RW G mi R Q X (cells + R2.cells) (slots + R2.slots) (pc + 3) lv (.long r :: st) h2) : RW G mi R Q X cells slots pc lv st0 h := rw_callV hd hcal hw1 hw2 hw3 hst hn hc hci hq hqn hsum hR hM (fun E h2 z => kx E h2 z.1 z.2) (fun v h2 z => by obtain ⟨r, hr1, rfl, hr⟩ := z; exact kk r h2 hr1 hr)
theorem kV_V {mj : rMI} {R2 : Room} {idx n : Nat} {As st0 : List Value} {b ci : Nat} {q : vw_C} {fs : List Value} {o : Unit × rS} (hd : decode mi.2.1 pc = .ok (.invokevirtual idx, 3)) (hcal : rCal mj n) (hw1 : Cond.methodLink mi.1.cls idx mj.1 ∈ rTB) (hw2 : Cond.instanceMethod mj.1 ∈ rTB) (hw3 : Cond.selects mj.1.cls mj.1 mj.1 ∈ rTB) (hst : st0 = As.reverse ++ .ref b :: st) (hn : As.length = n) (hc : h b = .inr (ci, fs)) (hci : ci < 13) (hq : rCl[ci]? = some q) (hqn : q.1 = mj.1.cls) (hsum : (st.map fun v => v.category).sum ≤ 8) (hR : rFit R R2 mj.2.2.1 cells slots) (hM : rMT G mj R2 (.ref b :: As) h (qV G ad o) xN) (kk : ∀ h2, Rep G ad o.2 h2 → RW G mi R Q X (cells + R2.cells) (slots + R2.slots) (pc + 3) lv (st) h2) : RW G mi R Q X cells slots pc lv st0 h := rw_callV hd hcal hw1 hw2 hw3 hst hn hc hci hq hqn hsum hR hM (fun _ _ z => z.elim) (fun v h2 z => by obtain ⟨rfl, hr⟩ := z; exact kk h2 hr)
theorem kV_Vx {mj : rMI} {R2 : Room} {idx n : Nat} {As st0 : List Value} {b ci : Nat} {q : vw_C} {fs : List Value} {o : Except String Unit × rS} (hd : decode mi.2.1 pc = .ok (.invokevirtual idx, 3)) (hcal : rCal mj n) (hw1 : Cond.methodLink mi.1.cls idx mj.1 ∈ rTB) (hw2 : Cond.instanceMethod mj.1 ∈ rTB) (hw3 : Cond.selects mj.1.cls mj.1 mj.1 ∈ rTB) (hst : st0 = As.reverse ++ .ref b :: st) (hn : As.length = n) (hc : h b = .inr (ci, fs)) (hci : ci < 13) (hq : rCl[ci]? = some q) (hqn : q.1 = mj.1.cls) (hsum : (st.map fun v => v.category).sum ≤ 8) (hR : rFit R R2 mj.2.2.1 cells slots) (hM : rMT G mj R2 (.ref b :: As) h (tV G ad o) (xT G ad o)) (kx : ∀ (E : String) (h2 : rH), o.1 = .error E → Rep G ad o.2 h2 → RX G mi R Q X (cells + R2.cells) (slots + R2.slots) pc lv st h2 E) (kk : ∀ (r : Unit) (h2 : rH), o.1 = .ok r → Rep G ad o.2 h2 → RW G mi R Q X (cells + R2.cells) (slots + R2.slots) (pc + 3) lv (st) h2) : RW G mi R Q X cells slots pc lv st0 h := rw_callV hd hcal hw1 hw2 hw3 hst hn hc hci hq hqn hsum hR hM (fun E h2 z => kx E h2 z.1 z.2) (fun v h2 z => by obtain ⟨r, hr1, rfl, hr⟩ := z; exact kk r h2 hr1 hr)
theorem kV_A {mj : rMI} {R2 : Room} {idx n : Nat} {As st0 : List Value} {b ci : Nat} {q : vw_C} {fs : List Value} {o : Nat × rS} (hd : decode mi.2.1 pc = .ok (.invokevirtual idx, 3)) (hcal : rCal mj n) (hw1 : Cond.methodLink mi.1.cls idx mj.1 ∈ rTB) (hw2 : Cond.instanceMethod mj.1 ∈ rTB) (hw3 : Cond.selects mj.1.cls mj.1 mj.1 ∈ rTB) (hst : st0 = As.reverse ++ .ref b :: st) (hn : As.length = n) (hc : h b = .inr (ci, fs)) (hci : ci < 13) (hq : rCl[ci]? = some q) (hqn : q.1 = mj.1.cls) (hsum : (st.map fun v => v.category).sum ≤ 8) (hR : rFit R R2 mj.2.2.1 cells slots) (hM : rMT G mj R2 (.ref b :: As) h (qA G ad o) xN) (kk : ∀ h2, Rep G ad o.2 h2 → RW G mi R Q X (cells + R2.cells) (slots + R2.slots) (pc + 3) lv (.ref (ad o.1) :: st) h2) : RW G mi R Q X cells slots pc lv st0 h := rw_callV hd hcal hw1 hw2 hw3 hst hn hc hci hq hqn hsum hR hM (fun _ _ z => z.elim) (fun v h2 z => by obtain ⟨rfl, hr⟩ := z; exact kk h2 hr)
theorem nmI {β : Type} {x : Int32} {k : Int32 → Option β} {o : β} (hf : vI x k = some o) (kk : ∀ y, k y = some o → RW G mi R Q X cells slots pc lv (.int y :: st) h) : RW G mi R Q X cells slots pc lv (.int x :: st) h := kk x hf
theorem nmJ {β : Type} {x : Int64} {k : Int64 → Option β} {o : β} (hf : vJ x k = some o) (kk : ∀ y, k y = some o → RW G mi R Q X cells slots pc lv (.long y :: st) h) : RW G mi R Q X cells slots pc lv (.long x :: st) h := kk x hf
theorem nmL {β : Type} {x : Int32} {i : Nat} {k : Int32 → Option β} {o : β} (hf : vI x k = some o) (kk : ∀ y, k y = some o → RW G mi R Q X cells slots pc ((i, .int y) :: lv) st h) : RW G mi R Q X cells slots pc ((i, .int x) :: lv) st h := kk x hf
theorem nmS {β : Type} {τ : rS} {k : rS → Option β} {o : β} (hf : vS τ k = some o) (hr : Rep G ad τ h) (kk : ∀ σ, Rep G ad σ h → k σ = some o → RW G mi R Q X cells slots pc lv st h) : RW G mi R Q X cells slots pc lv st h := kk τ hr hf
end RwTyped
theorem nar_z {v : Int32} (h : v = 0 ∨ v = 1) : narrow .boolean (.int v) = .int v := by rcases h with rfl | rfl <;> decide
theorem fit_z {v : Int32} (h : v = 0 ∨ v = 1) : fits .boolean (.int v) = true := by rcases h with rfl | rfl <;> decide
theorem i32_ext {x y : Int32} (h : x.toInt = y.toInt) : x = y := Int32.toInt_inj.mp h
theorem tb_out3_1 {x : Int32} (c0 : ¬ x = 1) (c1 : ¬ x = 2) (c2 : ¬ x = 3) : x.toInt < 1 ∨ 3 < x.toInt := by
  refine Classical.byContradiction fun z => ?_
  have h1 : (1 : Int) ≤ x.toInt := by omega
  have h2 : x.toInt ≤ 3 := by omega
  have h3 : x.toInt = 1 ∨ x.toInt = 2 ∨ x.toInt = 3 := by omega
  rcases h3 with h | h | h
  · exact c0 (i32_ext h)
  · exact c1 (i32_ext h)
  · exact c2 (i32_ext h)
theorem tb_out7_0 {x : Int32} (c0 : ¬ x = 0) (c1 : ¬ x = 1) (c2 : ¬ x = 2) (c3 : ¬ x = 3) (c4 : ¬ x = 4) (c5 : ¬ x = 5) (c6 : ¬ x = 6) : x.toInt < 0 ∨ 6 < x.toInt := by
  refine Classical.byContradiction fun z => ?_
  have h1 : (0 : Int) ≤ x.toInt := by omega
  have h2 : x.toInt ≤ 6 := by omega
  have h3 : x.toInt = 0 ∨ x.toInt = 1 ∨ x.toInt = 2 ∨ x.toInt = 3 ∨ x.toInt = 4 ∨ x.toInt = 5 ∨ x.toInt = 6 := by omega
  rcases h3 with h | h | h | h | h | h | h
  · exact c0 (i32_ext h)
  · exact c1 (i32_ext h)
  · exact c2 (i32_ext h)
  · exact c3 (i32_ext h)
  · exact c4 (i32_ext h)
  · exact c5 (i32_ext h)
  · exact c6 (i32_ext h)
theorem tb_out3_0 {x : Int32} (c0 : ¬ x = 0) (c1 : ¬ x = 1) (c2 : ¬ x = 2) : x.toInt < 0 ∨ 2 < x.toInt := by
  refine Classical.byContradiction fun z => ?_
  have h1 : (0 : Int) ≤ x.toInt := by omega
  have h2 : x.toInt ≤ 2 := by omega
  have h3 : x.toInt = 0 ∨ x.toInt = 1 ∨ x.toInt = 2 := by omega
  rcases h3 with h | h | h
  · exact c0 (i32_ext h)
  · exact c1 (i32_ext h)
  · exact c2 (i32_ext h)
theorem tb_out5_0 {x : Int32} (c0 : ¬ x = 0) (c1 : ¬ x = 1) (c2 : ¬ x = 2) (c3 : ¬ x = 3) (c4 : ¬ x = 4) : x.toInt < 0 ∨ 4 < x.toInt := by
  refine Classical.byContradiction fun z => ?_
  have h1 : (0 : Int) ≤ x.toInt := by omega
  have h2 : x.toInt ≤ 4 := by omega
  have h3 : x.toInt = 0 ∨ x.toInt = 1 ∨ x.toInt = 2 ∨ x.toInt = 3 ∨ x.toInt = 4 := by omega
  rcases h3 with h | h | h | h | h
  · exact c0 (i32_ext h)
  · exact c1 (i32_ext h)
  · exact c2 (i32_ext h)
  · exact c3 (i32_ext h)
  · exact c4 (i32_ext h)
theorem tb_out26_0 {x : Int32} (c0 : ¬ x = 0) (c1 : ¬ x = 1) (c2 : ¬ x = 2) (c3 : ¬ x = 3) (c4 : ¬ x = 4) (c5 : ¬ x = 5) (c6 : ¬ x = 6) (c7 : ¬ x = 7) (c8 : ¬ x = 8) (c9 : ¬ x = 9) (c10 : ¬ x = 10) (c11 : ¬ x = 11) (c12 : ¬ x = 12) (c13 : ¬ x = 13) (c14 : ¬ x = 14) (c15 : ¬ x = 15) (c16 : ¬ x = 16) (c17 : ¬ x = 17) (c18 : ¬ x = 18) (c19 : ¬ x = 19) (c20 : ¬ x = 20) (c21 : ¬ x = 21) (c22 : ¬ x = 22) (c23 : ¬ x = 23) (c24 : ¬ x = 24) (c25 : ¬ x = 25) : x.toInt < 0 ∨ 25 < x.toInt := by
  refine Classical.byContradiction fun z => ?_
  have h1 : (0 : Int) ≤ x.toInt := by omega
  have h2 : x.toInt ≤ 25 := by omega
  have h3 : x.toInt = 0 ∨ x.toInt = 1 ∨ x.toInt = 2 ∨ x.toInt = 3 ∨ x.toInt = 4 ∨ x.toInt = 5 ∨ x.toInt = 6 ∨ x.toInt = 7 ∨ x.toInt = 8 ∨ x.toInt = 9 ∨ x.toInt = 10 ∨ x.toInt = 11 ∨ x.toInt = 12 ∨ x.toInt = 13 ∨ x.toInt = 14 ∨ x.toInt = 15 ∨ x.toInt = 16 ∨ x.toInt = 17 ∨ x.toInt = 18 ∨ x.toInt = 19 ∨ x.toInt = 20 ∨ x.toInt = 21 ∨ x.toInt = 22 ∨ x.toInt = 23 ∨ x.toInt = 24 ∨ x.toInt = 25 := by omega
  rcases h3 with h | h | h | h | h | h | h | h | h | h | h | h | h | h | h | h | h | h | h | h | h | h | h | h | h | h
  · exact c0 (i32_ext h)
  · exact c1 (i32_ext h)
  · exact c2 (i32_ext h)
  · exact c3 (i32_ext h)
  · exact c4 (i32_ext h)
  · exact c5 (i32_ext h)
  · exact c6 (i32_ext h)
  · exact c7 (i32_ext h)
  · exact c8 (i32_ext h)
  · exact c9 (i32_ext h)
  · exact c10 (i32_ext h)
  · exact c11 (i32_ext h)
  · exact c12 (i32_ext h)
  · exact c13 (i32_ext h)
  · exact c14 (i32_ext h)
  · exact c15 (i32_ext h)
  · exact c16 (i32_ext h)
  · exact c17 (i32_ext h)
  · exact c18 (i32_ext h)
  · exact c19 (i32_ext h)
  · exact c20 (i32_ext h)
  · exact c21 (i32_ext h)
  · exact c22 (i32_ext h)
  · exact c23 (i32_ext h)
  · exact c24 (i32_ext h)
  · exact c25 (i32_ext h)
