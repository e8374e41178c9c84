def qIq (G : rG) (ad : Nat → Nat) (q : Nat) (o : Int32 × rS) : Option Value → rH → Prop := fun v h => v = some (.int o.1) ∧ RepQ G ad q o.2 h
theorem RepQ.putB {G : rG} {ad : Nat → Nat} {q : Nat} {σ : rS} {h : rH} {n : Nat} {f : Nat → Int32} (hr : RepQ G ad q σ h) : RepQ G ad q (uB σ n f) (hput h q (.inl (G.2.1 1, n, .inl f))) := by
  obtain ⟨r1, r2, r3, r4⟩ := hr
  exact ⟨fun k hk => (va_up_ne _ _ (r4 k hk)).trans (r1 k hk), r2, va_up_self _ _ _, r4⟩
/-- a new array takes the place of the old one -/
theorem RepQ.grow {G : rG} {ad : Nat → Nat} {q q2 : Nat} {σ : rS} {h : rH} {n : Nat} {f : Nat → Int32} (hr : RepQ G ad q σ h) (hq : h q2 = rDead) : RepQ G ad q2 (uB σ n f) (hput (hput h q2 (.inl (G.2.1 1, n, .inl f))) (ad 40) (.inr (0, [.ref q2, .int (σ.1 40 1), .int (σ.1 40 2), .int (σ.1 40 3)]))) := by
  obtain ⟨r1, r2, r3, r4⟩ := hr
  have hd : ∀ k, dom k → ad k ≠ q2 := fun k hk z => by
    have := r1 k hk
    rw [z, hq] at this
    revert this
    unfold cellOf cellAt
    rcases hk with hk | hk
    · match k, hk with
      | 0, _ => intro z; cases z
      | 1, _ => intro z; cases z
      | 2, _ => intro z; cases z
      | 3, _ => intro z; cases z
      | 4, _ => intro z; cases z
      | 5, _ => intro z; cases z
      | 6, _ => intro z; cases z
      | 7, _ => intro z; cases z
      | 8, _ => intro z; cases z
      | 9, _ => intro z; cases z
      | 10, _ => intro z; cases z
      | 11, _ => intro z; cases z
      | 12, _ => intro z; cases z
      | 13, _ => intro z; cases z
      | 14, _ => intro z; cases z
      | 15, _ => intro z; cases z
      | 16, _ => intro z; cases z
      | 17, _ => intro z; cases z
      | 18, _ => intro z; cases z
      | 19, _ => intro z; cases z
      | 20, _ => intro z; cases z
      | 21, _ => intro z; cases z
      | 22, _ => intro z; cases z
      | 23, _ => intro z; cases z
      | 24, _ => intro z; cases z
      | 25, _ => intro z; cases z
      | 26, _ => intro z; cases z
      | 27, _ => intro z; cases z
      | 28, _ => intro z; cases z
      | 29, _ => intro z; cases z
      | 30, _ => intro z; cases z
      | 31, _ => intro z; cases z
      | 32, _ => intro z; cases z
      | 33, _ => intro z; cases z
      | 34, _ => intro z; cases z
      | 35, _ => intro z; cases z
      | 36, _ => intro z; cases z
      | 37, _ => intro z; cases z
      | 38, _ => intro z; cases z
      | 39, _ => intro z; cases z
      | 40, _ => intro z; cases z
      | 41, _ => intro z; cases z
      | 42, _ => intro z; cases z
      | 43, _ => intro z; cases z
      | 44, _ => intro z; cases z
      | 45, _ => intro z; cases z
      | 46, _ => intro z; cases z
      | 47, _ => intro z; cases z
      | 48, _ => intro z; cases z
      | 49, _ => intro z; cases z
      | 50, _ => intro z; cases z
      | 51, _ => intro z; cases z
      | 52, _ => intro z; cases z
      | 53, _ => intro z; cases z
      | 54, _ => intro z; cases z
      | 55, _ => intro z; cases z
      | 56, _ => intro z; cases z
      | 57, _ => intro z; cases z
      | 58, _ => intro z; cases z
      | 59, _ => intro z; cases z
      | 60, _ => intro z; cases z
      | 61, _ => intro z; cases z
      | 62, _ => intro z; cases z
      | 63, _ => intro z; cases z
      | 64, _ => intro z; cases z
      | 65, _ => intro z; cases z
      | 66, _ => intro z; cases z
      | 67, _ => intro z; cases z
      | 68, _ => intro z; cases z
      | 69, _ => intro z; cases z
      | 70, _ => intro z; cases z
      | 71, _ => intro z; cases z
      | 72, _ => intro z; cases z
      | 73, _ => intro z; cases z
      | k + 74, hk => exact absurd hk (by omega)
    · obtain ⟨hk1, hk2⟩ := hk
      match k, hk1, hk2 with
      | 80, _, _ => intro z; cases z
      | 81, _, _ => intro z; cases z
      | 82, _, _ => intro z; cases z
      | 83, _, _ => intro z; cases z
      | 84, _, _ => intro z; cases z
      | 85, _, _ => intro z; cases z
      | 86, _, _ => intro z; cases z
      | 87, _, _ => intro z; cases z
      | 88, _, _ => intro z; cases z
      | 89, _, _ => intro z; cases z
      | 90, _, _ => intro z; cases z
      | 91, _, _ => intro z; cases z
      | 92, _, _ => intro z; cases z
      | 93, _, _ => intro z; cases z
      | 94, _, _ => intro z; cases z
      | 95, _, _ => intro z; cases z
      | 96, _, _ => intro z; cases z
      | 97, _, _ => intro z; cases z
      | 98, _, _ => intro z; cases z
      | 99, _, _ => intro z; cases z
      | 100, _, _ => intro z; cases z
      | 101, _, _ => intro z; cases z
      | 102, _, _ => intro z; cases z
      | 103, _, _ => intro z; cases z
      | 104, _, _ => intro z; cases z
      | 105, _, _ => intro z; cases z
      | 106, _, _ => intro z; cases z
      | 107, _, _ => intro z; cases z
      | 108, _, _ => intro z; cases z
      | 109, _, _ => intro z; cases z
      | 110, _, _ => intro z; cases z
      | 111, _, _ => intro z; cases z
      | 112, _, _ => intro z; cases z
      | 113, _, _ => intro z; cases z
      | 114, _, _ => intro z; cases z
      | 115, _, _ => intro z; cases z
      | 116, _, _ => intro z; cases z
      | 117, _, _ => intro z; cases z
      | 118, _, _ => intro z; cases z
      | 119, _, _ => intro z; cases z
      | 120, _, _ => intro z; cases z
      | 121, _, _ => intro z; cases z
      | 122, _, _ => intro z; cases z
      | 123, _, _ => intro z; cases z
      | 124, _, _ => intro z; cases z
      | 125, _, _ => intro z; cases z
      | 126, _, _ => intro z; cases z
      | 127, _, _ => intro z; cases z
      | 128, _, _ => intro z; cases z
      | 129, _, _ => intro z; cases z
      | 130, _, _ => intro z; cases z
      | 131, _, _ => intro z; cases z
      | 132, _, _ => intro z; cases z
      | 133, _, _ => intro z; cases z
      | 134, _, _ => intro z; cases z
      | 135, _, _ => intro z; cases z
      | 136, _, _ => intro z; cases z
      | 137, _, _ => intro z; cases z
      | 138, _, _ => intro z; cases z
      | 139, _, _ => intro z; cases z
      | 140, _, _ => intro z; cases z
      | 141, _, _ => intro z; cases z
      | 142, _, _ => intro z; cases z
      | 143, _, _ => intro z; cases z
      | 144, _, _ => intro z; cases z
      | 145, _, _ => intro z; cases z
      | 146, _, _ => intro z; cases z
      | 147, _, _ => intro z; cases z
      | 148, _, _ => intro z; cases z
      | 149, _, _ => intro z; cases z
      | 150, _, _ => intro z; cases z
      | 151, _, _ => intro z; cases z
      | 152, _, _ => intro z; cases z
      | 153, _, _ => intro z; cases z
      | 154, _, _ => intro z; cases z
      | 155, _, _ => intro z; cases z
      | 156, _, _ => intro z; cases z
      | 157, _, _ => intro z; cases z
      | 158, _, _ => intro z; cases z
      | 159, _, _ => intro z; cases z
      | k + 160, _, hk => exact absurd hk (by omega)
      | 0, hk, _ => exact absurd hk (by omega)
      | 1, hk, _ => exact absurd hk (by omega)
      | 2, hk, _ => exact absurd hk (by omega)
      | 3, hk, _ => exact absurd hk (by omega)
      | 4, hk, _ => exact absurd hk (by omega)
      | 5, hk, _ => exact absurd hk (by omega)
      | 6, hk, _ => exact absurd hk (by omega)
      | 7, hk, _ => exact absurd hk (by omega)
      | 8, hk, _ => exact absurd hk (by omega)
      | 9, hk, _ => exact absurd hk (by omega)
      | 10, hk, _ => exact absurd hk (by omega)
      | 11, hk, _ => exact absurd hk (by omega)
      | 12, hk, _ => exact absurd hk (by omega)
      | 13, hk, _ => exact absurd hk (by omega)
      | 14, hk, _ => exact absurd hk (by omega)
      | 15, hk, _ => exact absurd hk (by omega)
      | 16, hk, _ => exact absurd hk (by omega)
      | 17, hk, _ => exact absurd hk (by omega)
      | 18, hk, _ => exact absurd hk (by omega)
      | 19, hk, _ => exact absurd hk (by omega)
      | 20, hk, _ => exact absurd hk (by omega)
      | 21, hk, _ => exact absurd hk (by omega)
      | 22, hk, _ => exact absurd hk (by omega)
      | 23, hk, _ => exact absurd hk (by omega)
      | 24, hk, _ => exact absurd hk (by omega)
      | 25, hk, _ => exact absurd hk (by omega)
      | 26, hk, _ => exact absurd hk (by omega)
      | 27, hk, _ => exact absurd hk (by omega)
      | 28, hk, _ => exact absurd hk (by omega)
      | 29, hk, _ => exact absurd hk (by omega)
      | 30, hk, _ => exact absurd hk (by omega)
      | 31, hk, _ => exact absurd hk (by omega)
      | 32, hk, _ => exact absurd hk (by omega)
      | 33, hk, _ => exact absurd hk (by omega)
      | 34, hk, _ => exact absurd hk (by omega)
      | 35, hk, _ => exact absurd hk (by omega)
      | 36, hk, _ => exact absurd hk (by omega)
      | 37, hk, _ => exact absurd hk (by omega)
      | 38, hk, _ => exact absurd hk (by omega)
      | 39, hk, _ => exact absurd hk (by omega)
      | 40, hk, _ => exact absurd hk (by omega)
      | 41, hk, _ => exact absurd hk (by omega)
      | 42, hk, _ => exact absurd hk (by omega)
      | 43, hk, _ => exact absurd hk (by omega)
      | 44, hk, _ => exact absurd hk (by omega)
      | 45, hk, _ => exact absurd hk (by omega)
      | 46, hk, _ => exact absurd hk (by omega)
      | 47, hk, _ => exact absurd hk (by omega)
      | 48, hk, _ => exact absurd hk (by omega)
      | 49, hk, _ => exact absurd hk (by omega)
      | 50, hk, _ => exact absurd hk (by omega)
      | 51, hk, _ => exact absurd hk (by omega)
      | 52, hk, _ => exact absurd hk (by omega)
      | 53, hk, _ => exact absurd hk (by omega)
      | 54, hk, _ => exact absurd hk (by omega)
      | 55, hk, _ => exact absurd hk (by omega)
      | 56, hk, _ => exact absurd hk (by omega)
      | 57, hk, _ => exact absurd hk (by omega)
      | 58, hk, _ => exact absurd hk (by omega)
      | 59, hk, _ => exact absurd hk (by omega)
      | 60, hk, _ => exact absurd hk (by omega)
      | 61, hk, _ => exact absurd hk (by omega)
      | 62, hk, _ => exact absurd hk (by omega)
      | 63, hk, _ => exact absurd hk (by omega)
      | 64, hk, _ => exact absurd hk (by omega)
      | 65, hk, _ => exact absurd hk (by omega)
      | 66, hk, _ => exact absurd hk (by omega)
      | 67, hk, _ => exact absurd hk (by omega)
      | 68, hk, _ => exact absurd hk (by omega)
      | 69, hk, _ => exact absurd hk (by omega)
      | 70, hk, _ => exact absurd hk (by omega)
      | 71, hk, _ => exact absurd hk (by omega)
      | 72, hk, _ => exact absurd hk (by omega)
      | 73, hk, _ => exact absurd hk (by omega)
      | 74, hk, _ => exact absurd hk (by omega)
      | 75, hk, _ => exact absurd hk (by omega)
      | 76, hk, _ => exact absurd hk (by omega)
      | 77, hk, _ => exact absurd hk (by omega)
      | 78, hk, _ => exact absurd hk (by omega)
      | 79, hk, _ => exact absurd hk (by omega)
  refine ⟨fun k hk => ?_, r2, ?_, hd⟩
  · by_cases h4 : k = 40
    · subst h4
      exact va_up_self _ _ _
    · have e1 : hput (hput h q2 (.inl (G.2.1 1, n, .inl f))) (ad 40) (.inr (0, [.ref q2, .int (σ.1 40 1), .int (σ.1 40 2), .int (σ.1 40 3)])) (ad k) = h (ad k) := (va_up_ne _ _ (fun z => h4 (r2 k 40 hk (by decide) z))).trans (va_up_ne _ _ (hd k hk))
      rw [e1, r1 k hk]
      show cellAt G ad _ _ _ _ q k = cellAt G ad _ _ _ _ q2 k
      unfold cellAt
      split <;> first | rfl | exact absurd rfl h4
  · exact (va_up_ne _ _ (fun z => hd 40 (by decide) z.symm)).trans (va_up_self _ _ _)
section RwSb
variable {G : rG} {ad : Nat → Nat} {q : Nat} {σ : rS} {mi : rMI} {R : Room} {Q : Option Value → rH → Prop} {X : String → rH → Prop} {cells slots pc : Nat} {lv : List (Nat × Value)} {st : List Value} {h : rH}
theorem nmSq {β : Type} {τ : rS} {k : rS → Option β} {o : β} (hf : vS τ k = some o) (hr : RepQ G ad q τ h) (kk : ∀ σ, RepQ G ad q σ h → k σ = some o → RW G mi R Q X cells slots pc lv st h) : RW G mi R Q X cells slots pc lv st h := kk τ hr hf
theorem sgq_40_0 {idx : Nat} (hr : RepQ G ad q σ h) (hd : decode mi.2.1 pc = .ok (.getfield idx, 3)) (hf : rFld mi.1.cls idx 0 0 (.array .byte) false) (kk : RW G mi R Q X cells slots (pc + 3) lv (.ref q :: st) h) : RW G mi R Q X cells slots pc lv (.ref (ad 40) :: st) h := rw_get hd hf (hr.1 40 (by decide)) rfl kk
theorem sgq_40_1 {idx : Nat} (hr : RepQ G ad q σ h) (hd : decode mi.2.1 pc = .ok (.getfield idx, 3)) (hf : rFld mi.1.cls idx 0 1 .byte false) (kk : RW G mi R Q X cells slots (pc + 3) lv (.int (σ.1 40 1) :: st) h) : RW G mi R Q X cells slots pc lv (.ref (ad 40) :: st) h := rw_get hd hf (hr.1 40 (by decide)) rfl kk
theorem spq_40_1 {idx : Nat} {v : Int32} (hr : RepQ G ad q σ h) (hd : decode mi.2.1 pc = .ok (.putfield idx, 3)) (hf : rFld mi.1.cls idx 0 1 .byte false) (hn : narrow .byte (.int v) = .int v) (hfit : fits .byte (.int v) = true) (kk : ∀ h2, RepQ G ad q (uI σ 40 1 v) h2 → RW G mi R Q X cells slots (pc + 3) lv st h2) : RW G mi R Q X cells slots pc lv (.int v :: .ref (ad 40) :: st) h := rw_put hd hf (hr.1 40 (by decide)) hn hfit (Nat.le_of_ble_eq_true rfl) (kk _ (hr.putI (by decide) rfl))
theorem sgq_40_2 {idx : Nat} (hr : RepQ G ad q σ h) (hd : decode mi.2.1 pc = .ok (.getfield idx, 3)) (hf : rFld mi.1.cls idx 0 2 .boolean false) (kk : RW G mi R Q X cells slots (pc + 3) lv (.int (σ.1 40 2) :: st) h) : RW G mi R Q X cells slots pc lv (.ref (ad 40) :: st) h := rw_get hd hf (hr.1 40 (by decide)) rfl kk
theorem spq_40_2 {idx : Nat} {v : Int32} (hr : RepQ G ad q σ h) (hd : decode mi.2.1 pc = .ok (.putfield idx, 3)) (hf : rFld mi.1.cls idx 0 2 .boolean false) (hn : narrow .boolean (.int v) = .int v) (hfit : fits .boolean (.int v) = true) (kk : ∀ h2, RepQ G ad q (uI σ 40 2 v) h2 → RW G mi R Q X cells slots (pc + 3) lv st h2) : RW G mi R Q X cells slots pc lv (.int v :: .ref (ad 40) :: st) h := rw_put hd hf (hr.1 40 (by decide)) hn hfit (Nat.le_of_ble_eq_true rfl) (kk _ (hr.putI (by decide) rfl))
theorem sgq_40_3 {idx : Nat} (hr : RepQ G ad q σ h) (hd : decode mi.2.1 pc = .ok (.getfield idx, 3)) (hf : rFld mi.1.cls idx 0 3 .int false) (kk : RW G mi R Q X cells slots (pc + 3) lv (.int (σ.1 40 3) :: st) h) : RW G mi R Q X cells slots pc lv (.ref (ad 40) :: st) h := rw_get hd hf (hr.1 40 (by decide)) rfl kk
theorem spq_40_3 {idx : Nat} {v : Int32} (hr : RepQ G ad q σ h) (hd : decode mi.2.1 pc = .ok (.putfield idx, 3)) (hf : rFld mi.1.cls idx 0 3 .int false) (kk : ∀ h2, RepQ G ad q (uI σ 40 3 v) h2 → RW G mi R Q X cells slots (pc + 3) lv st h2) : RW G mi R Q X cells slots pc lv (.int v :: .ref (ad 40) :: st) h := rw_put hd hf (hr.1 40 (by decide)) rfl rfl (Nat.le_of_ble_eq_true rfl) (kk _ (hr.putI (by decide) rfl))
theorem alenq (hr : RepQ G ad q σ h) (hd : decode mi.2.1 pc = .ok (.arraylength, 1)) (kk : RW G mi R Q X cells slots (pc + 1) lv (.int (Int32.ofNat σ.2.2.2.2.1) :: st) h) : RW G mi R Q X cells slots pc lv (.ref q :: st) h := rw_alen (ti := 1) hd hr.2.2.1 rfl kk
theorem slq {i : Int32} (hr : RepQ G ad q σ h) (hd : decode mi.2.1 pc = .ok (.baload, 1)) (hin : vp_in i σ.2.2.2.2.1) (kk : RW G mi R Q X cells slots (pc + 1) lv (.int (σ.2.2.2.2.2 i.toNatClampNeg) :: st) h) : RW G mi R Q X cells slots pc lv (.int i :: .ref q :: st) h := rw_baload hd hr.2.2.1 hin kk
theorem ssq {i x : Int32} (hr : RepQ G ad q σ h) (hd : decode mi.2.1 pc = .ok (.bastore, 1)) (hin : vp_in i σ.2.2.2.2.1) (kk : ∀ h2, RepQ G ad q (uB σ σ.2.2.2.2.1 (upd σ.2.2.2.2.2 i.toNatClampNeg (vp_nar .byte x))) h2 → RW G mi R Q X cells slots (pc + 1) lv st h2) : RW G mi R Q X cells slots pc lv (.int x :: .int i :: .ref q :: st) h := rw_bastore hd hr.2.2.1 hin (kk _ hr.putB)
theorem rw_dT {i : Int32} (hd : decode mi.2.1 pc = .ok (.baload, 1)) (hin : vp_in i 100) (kk : RW G mi R Q X cells slots (pc + 1) lv (.int (nI (48 + i.toNatClampNeg / 10)) :: st) h) : RW G mi R Q X cells slots pc lv (.int i :: .ref G.2.2.2.2.1.1 :: st) h := fun p l e s m args below meth c H locs ls C hl hH hS => va_tb C.1 C.2.1 C.2.2.2.2.2.2.2.2.2.2.2.2.2.2.2.1.2.2.2.2.2.2.1 hS hin rfl hd (kk p l e s m args below meth c H locs ls C hl hH hS)
theorem rw_dO {i : Int32} (hd : decode mi.2.1 pc = .ok (.baload, 1)) (hin : vp_in i 100) (kk : RW G mi R Q X cells slots (pc + 1) lv (.int (nI (48 + i.toNatClampNeg % 10)) :: st) h) : RW G mi R Q X cells slots pc lv (.int i :: .ref G.2.2.2.2.1.2 :: st) h := fun p l e s m args below meth c H locs ls C hl hH hS => va_tb C.1 C.2.1 C.2.2.2.2.2.2.2.2.2.2.2.2.2.2.2.1.2.2.2.2.2.2.2.2.1 hS hin rfl hd (kk p l e s m args below meth c H locs ls C hl hH hS)
theorem rw_acopy {a0 a n0 n1 idx : Nat} {f g : Nat → Int32} {sp dp n : Int32} (hd : decode mi.2.1 pc = .ok (.invokestatic idx, 3)) (hw : Cond.methodLink mi.1.cls idx arraycopyName ∈ rTB) (h0 : h a0 = .inl (G.2.1 1, n0, .inl f)) (h1 : h a = .inl (G.2.1 1, n1, .inl g)) (k1 : ¬ sp < 0) (k2 : ¬ dp < 0) (k3 : ¬ n < 0) (k4 : sp.toNatClampNeg + n.toNatClampNeg ≤ n0) (k5 : dp.toNatClampNeg + n.toNatClampNeg ≤ n1) (hfit : ∀ i, i < n.toNatClampNeg → fits .byte (.int (f (sp.toNatClampNeg + i))) = true)
    (hfr : 1 ≤ R.frames) (hlo : (st.map fun v => v.category).sum + (nativeFrameWords "java/lang/System" "arraycopy" 5 + 11) ≤ R.locals) (kk : RW G mi R Q X cells slots (pc + 3) lv st (hput h a (.inl (G.2.1 1, n1, .inl (va_cpy f g sp.toNatClampNeg dp.toNatClampNeg n.toNatClampNeg))))) : RW G mi R Q X cells slots pc lv (.int n :: .int dp :: .ref a :: .int sp :: .ref a0 :: st) h := fun p l e s m args below meth c H locs ls C hl hH hS => by
  obtain ⟨LP, q1, g1, hP, hD, ha, hq⟩ := hH.live (a := a) (by rw [h1]; exact inl_live)
  obtain ⟨q0, hq0⟩ := va_pl_get (X := []) (f := h) ((g1 a0).mpr (by rw [h0]; exact inl_live))
  have hq0 : (va_pl LP h)[q0]? = some (a0, .inl (G.2.1 1, n0, .inl f)) := by rw [← h0]; simpa using hq0
  have hq' := hq
  rw [h1] at hq
  exact va_copyi (D := G.1) (cl := rCl) (tys := rTys G) (ty := .byte) C.1 C.2.1 (by rw [C.2.2.2.1]; exact hl.1.symm) C.2.2.2.2.1 (C.2.2.2.2.2.1 _ hw) (C.2.2.2.2.2.1 _ wm1226) (C.2.2.2.2.2.1 _ wm1225) (C.2.2.2.2.2.1 _ wm90) C.2.2.2.2.2.2.2.2.2.2.1 hP hD hS q0 q1 1 1 hq0 hq rfl rfl rfl k1 k2 k3 k4 k5 hfit hfr hlo hd
    (fun H1 locs1 hP1 hD1 hS1 => kk p l e s m args below meth c H1 locs1 ls C hl (rHR.put g1 hD ha hq' inl_live hP1 hD1) hS1)

theorem rw_callU {mj : rMI} {R2 : Room} {idx n : Nat} {b : Nat} {As st0 : List Value} {fs : List Value} {Q2 : Option Value → rH → Prop} (hd : decode mi.2.1 pc = .ok (.invokevirtual idx, 3)) (hcal : rCal mj n) (hw1 : Cond.methodLink mi.1.cls idx mj.1 ∈ rTB) (hw2 : Cond.sameMethod mj.1.cls mj.1.cls mj.1.name mj.1.desc ∈ rTB) (hw3 : Cond.selects RJ4 mj.1 mj.1 ∈ rTB) (hw4 : Cond.instanceMethod mj.1 ∈ rTB) (hst : st0 = As.reverse ++ .ref b :: st) (hn : As.length = n) (hc : h b = .inr (0, fs)) (hsum : (st.map fun v => v.category).sum ≤ 8) (hR : rFit R R2 mj.2.2.1 cells slots)
    (hM : rMT G mj R2 (.ref b :: As) h Q2 (fun _ _ => False))
    (kk : ∀ (v : Option Value) (h2 : rH), Q2 v h2 → RW G mi R Q X (cells + R2.cells) (slots + R2.slots) (pc + 3) lv (v.toList ++ st) h2) : RW G mi R Q X cells slots pc lv st0 h := fun p l e s m args below meth c H locs ls C hl hH hS => by
  have hrecv := rP.recv C hH hc (by decide) (q := (RJ4, TJ4, 4)) rfl
  have hat := (C.2.2.2.2.2.2.2.2.2.2.1.1 0 (RJ4, TJ4, 4) rfl).2
  have hr := va_runU (C := RJ4) (owner := mj.1.cls) (x := mj.1) (l := l) (below := below) (meth := meth) (e := e) (locs := locs) (cells := cells) (slots := slots) (rest := st) (As := As) (g := F0 m pc ls st0) (R := R) (n := n) (index := idx) (bytes := mj.2.1) (maxL := mj.2.2.1) (ret := mj.2.2.2.1) ⟨C.1, C.2.1, C.2.2.2.1, C.2.2.2.2.1, C.2.2.2.2.2.1⟩ (rMT.met hM C.2.2.2.2.2.2.2.2.2.1)
    (va_cwU n C.2.2.2.2.2.1 (good_in (fun w z => by
      rcases List.mem_append.mp z with z | z
      · simp only [List.mem_cons, List.not_mem_nil, or_false] at z
        rcases z with rfl | rfl | rfl | rfl | rfl
        · exact hw1
        · exact hw2
        · exact hw3
        · exact hw4
        · exact hcal.2.2.2
      · exact rWs.in hcal.2.1 w z)) (rWs.code hcal.1) rfl rfl rfl hcal.2.2.1 hR.1)
    ⟨rP.blind, hrecv, fun U hU hW => rP.at C hH hS hU hW⟩ rfl hn hl.1 hst (lv_room hsum) hd hR.2
  exact rw_run (X2 := fun _ _ => False) (rw_vx hr) hS (fun E h2 H1 locs1 q9 ce z1 => z1.elim) (fun v h2 H1 locs1 z1 z2 z3 => kk v h2 z1 p l e s m args below meth c H1 locs1 ls C hl z2 z3)
theorem kU_I {mj : rMI} {R2 : Room} {idx n : Nat} {b : Nat} {As st0 : List Value} {o : Int32 × rS} (hd : decode mi.2.1 pc = .ok (.invokevirtual idx, 3)) (hcal : rCal mj n) (hw1 : Cond.methodLink mi.1.cls idx mj.1 ∈ rTB) (hw2 : Cond.sameMethod mj.1.cls mj.1.cls mj.1.name mj.1.desc ∈ rTB) (hw3 : Cond.selects RJ4 mj.1 mj.1 ∈ rTB) (hw4 : Cond.instanceMethod mj.1 ∈ rTB) (hst : st0 = As.reverse ++ .ref b :: st) (hn : As.length = n) (hc : ∃ fs, h b = .inr (0, fs)) (hsum : (st.map fun v => v.category).sum ≤ 8) (hR : rFit R R2 mj.2.2.1 cells slots) (hM : rMT G mj R2 (.ref b :: As) h (qI G ad o) xN) (kk : ∀ h2, Rep G ad o.2 h2 → RW G mi R Q X (cells + R2.cells) (slots + R2.slots) (pc + 3) lv (.int o.1 :: st) h2) : RW G mi R Q X cells slots pc lv st0 h := hc.elim fun fs hc => rw_callU hd hcal hw1 hw2 hw3 hw4 hst hn hc hsum hR hM (fun v h2 z => by obtain ⟨rfl, hr⟩ := z; exact kk h2 hr)
theorem kU_V {mj : rMI} {R2 : Room} {idx n : Nat} {b : Nat} {As st0 : List Value} {o : Unit × rS} (hd : decode mi.2.1 pc = .ok (.invokevirtual idx, 3)) (hcal : rCal mj n) (hw1 : Cond.methodLink mi.1.cls idx mj.1 ∈ rTB) (hw2 : Cond.sameMethod mj.1.cls mj.1.cls mj.1.name mj.1.desc ∈ rTB) (hw3 : Cond.selects RJ4 mj.1 mj.1 ∈ rTB) (hw4 : Cond.instanceMethod mj.1 ∈ rTB) (hst : st0 = As.reverse ++ .ref b :: st) (hn : As.length = n) (hc : ∃ fs, h b = .inr (0, fs)) (hsum : (st.map fun v => v.category).sum ≤ 8) (hR : rFit R R2 mj.2.2.1 cells slots) (hM : rMT G mj R2 (.ref b :: As) h (qV G ad o) xN) (kk : ∀ h2, Rep G ad o.2 h2 → RW G mi R Q X (cells + R2.cells) (slots + R2.slots) (pc + 3) lv (st) h2) : RW G mi R Q X cells slots pc lv st0 h := hc.elim fun fs hc => rw_callU hd hcal hw1 hw2 hw3 hw4 hst hn hc hsum hR hM (fun v h2 z => by obtain ⟨rfl, hr⟩ := z; exact kk h2 hr)
theorem kU_A {mj : rMI} {R2 : Room} {idx n : Nat} {b : Nat} {As st0 : List Value} {o : Nat × rS} (hd : decode mi.2.1 pc = .ok (.invokevirtual idx, 3)) (hcal : rCal mj n) (hw1 : Cond.methodLink mi.1.cls idx mj.1 ∈ rTB) (hw2 : Cond.sameMethod mj.1.cls mj.1.cls mj.1.name mj.1.desc ∈ rTB) (hw3 : Cond.selects RJ4 mj.1 mj.1 ∈ rTB) (hw4 : Cond.instanceMethod mj.1 ∈ rTB) (hst : st0 = As.reverse ++ .ref b :: st) (hn : As.length = n) (hc : ∃ fs, h b = .inr (0, fs)) (hsum : (st.map fun v => v.category).sum ≤ 8) (hR : rFit R R2 mj.2.2.1 cells slots) (hM : rMT G mj R2 (.ref b :: As) h (qA G ad o) xN) (kk : ∀ h2, Rep G ad o.2 h2 → RW G mi R Q X (cells + R2.cells) (slots + R2.slots) (pc + 3) lv (.ref (ad o.1) :: st) h2) : RW G mi R Q X cells slots pc lv st0 h := hc.elim fun fs hc => rw_callU hd hcal hw1 hw2 hw3 hw4 hst hn hc hsum hR hM (fun v h2 z => by obtain ⟨rfl, hr⟩ := z; exact kk h2 hr)
theorem rw_callSU {mj : rMI} {R2 : Room} {idx n : Nat} {b : Nat} {As st0 : List Value} {fs : List Value} {Q2 : Option Value → rH → Prop} (hd : decode mi.2.1 pc = .ok (.invokespecial idx, 3)) (hcal : rCal mj n) (hni : mj.1.name ≠ "<init>") (hw1 : Cond.methodLink mi.1.cls idx mj.1 ∈ rTB) (hw2 : Cond.sameMethod mj.1.cls mj.1.cls mj.1.name mj.1.desc ∈ rTB) (hw3 : Cond.superclass mi.1.cls mj.1.cls ∈ rTB) (hw4 : Cond.instanceMethod mj.1 ∈ rTB) (hst : st0 = As.reverse ++ .ref b :: st) (hn : As.length = n) (hc : h b = .inr (0, fs)) (hsum : (st.map fun v => v.category).sum ≤ 8) (hR : rFit R R2 mj.2.2.1 cells slots)
    (hM : rMT G mj R2 (.ref b :: As) h Q2 (fun _ _ => False))
    (kk : ∀ (v : Option Value) (h2 : rH), Q2 v h2 → RW G mi R Q X (cells + R2.cells) (slots + R2.slots) (pc + 3) lv (v.toList ++ st) h2) : RW G mi R Q X cells slots pc lv st0 h := fun p l e s m args below meth c H locs ls C hl hH hS => by
  have hrecv := rP.recv C hH hc (by decide) (q := (RJ4, TJ4, 4)) rfl
  have hat := (C.2.2.2.2.2.2.2.2.2.2.1.1 0 (RJ4, TJ4, 4) rfl).2
  have hr := va_runSU (C := RJ4) hat (l := l) (below := below) (meth := meth) (e := e) (locs := locs) (cells := cells) (slots := slots) (rest := st) (As := As) (g := F0 m pc ls st0) (R := R) (n := n) (index := idx) (bytes := mj.2.1) (maxL := mj.2.2.1) (ret := mj.2.2.2.1) ⟨C.1, C.2.1, C.2.2.2.1, C.2.2.2.2.1, C.2.2.2.2.2.1⟩ (rMT.met hM C.2.2.2.2.2.2.2.2.2.1)
    (va_cwSU n C.2.2.2.2.2.1 (good_in (fun w z => by
      rcases List.mem_append.mp z with z | z
      · simp only [List.mem_cons, List.not_mem_nil, or_false] at z
        rcases z with rfl | rfl | rfl | rfl | rfl
        · exact hw1
        · exact hw2
        · exact hw3
        · exact hw4
        · exact hcal.2.2.2
      · exact rWs.in hcal.2.1 w z)) (rWs.code hcal.1) rfl rfl ⟨hni, hcal.2.2.1.2.2⟩ hR.1)
    ⟨rP.blind, hrecv, fun U hU hW => rP.at C hH hS hU hW⟩ rfl hn hl.1 hst (lv_room hsum) hd hR.2
  exact rw_run (X2 := fun _ _ => False) (rw_vx hr) hS (fun E h2 H1 locs1 q9 ce z1 => z1.elim) (fun v h2 H1 locs1 z1 z2 z3 => kk v h2 z1 p l e s m args below meth c H1 locs1 ls C hl z2 z3)
theorem kSU_I {mj : rMI} {R2 : Room} {idx n : Nat} {b : Nat} {As st0 : List Value} {o : Int32 × rS} (hd : decode mi.2.1 pc = .ok (.invokespecial idx, 3)) (hcal : rCal mj n) (hni : mj.1.name ≠ "<init>") (hw1 : Cond.methodLink mi.1.cls idx mj.1 ∈ rTB) (hw2 : Cond.sameMethod mj.1.cls mj.1.cls mj.1.name mj.1.desc ∈ rTB) (hw3 : Cond.superclass mi.1.cls mj.1.cls ∈ rTB) (hw4 : Cond.instanceMethod mj.1 ∈ rTB) (hst : st0 = As.reverse ++ .ref b :: st) (hn : As.length = n) (hc : ∃ fs, h b = .inr (0, fs)) (hsum : (st.map fun v => v.category).sum ≤ 8) (hR : rFit R R2 mj.2.2.1 cells slots) (hM : rMT G mj R2 (.ref b :: As) h (qI G ad o) xN) (kk : ∀ h2, Rep G ad o.2 h2 → RW G mi R Q X (cells + R2.cells) (slots + R2.slots) (pc + 3) lv (.int o.1 :: st) h2) : RW G mi R Q X cells slots pc lv st0 h := hc.elim fun fs hc => rw_callSU hd hcal hni hw1 hw2 hw3 hw4 hst hn hc hsum hR hM (fun v h2 z => by obtain ⟨rfl, hr⟩ := z; exact kk h2 hr)
theorem kSU_V {mj : rMI} {R2 : Room} {idx n : Nat} {b : Nat} {As st0 : List Value} {o : Unit × rS} (hd : decode mi.2.1 pc = .ok (.invokespecial idx, 3)) (hcal : rCal mj n) (hni : mj.1.name ≠ "<init>") (hw1 : Cond.methodLink mi.1.cls idx mj.1 ∈ rTB) (hw2 : Cond.sameMethod mj.1.cls mj.1.cls mj.1.name mj.1.desc ∈ rTB) (hw3 : Cond.superclass mi.1.cls mj.1.cls ∈ rTB) (hw4 : Cond.instanceMethod mj.1 ∈ rTB) (hst : st0 = As.reverse ++ .ref b :: st) (hn : As.length = n) (hc : ∃ fs, h b = .inr (0, fs)) (hsum : (st.map fun v => v.category).sum ≤ 8) (hR : rFit R R2 mj.2.2.1 cells slots) (hM : rMT G mj R2 (.ref b :: As) h (qV G ad o) xN) (kk : ∀ h2, Rep G ad o.2 h2 → RW G mi R Q X (cells + R2.cells) (slots + R2.slots) (pc + 3) lv (st) h2) : RW G mi R Q X cells slots pc lv st0 h := hc.elim fun fs hc => rw_callSU hd hcal hni hw1 hw2 hw3 hw4 hst hn hc hsum hR hM (fun v h2 z => by obtain ⟨rfl, hr⟩ := z; exact kk h2 hr)
theorem kSU_A {mj : rMI} {R2 : Room} {idx n : Nat} {b : Nat} {As st0 : List Value} {o : Nat × rS} (hd : decode mi.2.1 pc = .ok (.invokespecial idx, 3)) (hcal : rCal mj n) (hni : mj.1.name ≠ "<init>") (hw1 : Cond.methodLink mi.1.cls idx mj.1 ∈ rTB) (hw2 : Cond.sameMethod mj.1.cls mj.1.cls mj.1.name mj.1.desc ∈ rTB) (hw3 : Cond.superclass mi.1.cls mj.1.cls ∈ rTB) (hw4 : Cond.instanceMethod mj.1 ∈ rTB) (hst : st0 = As.reverse ++ .ref b :: st) (hn : As.length = n) (hc : ∃ fs, h b = .inr (0, fs)) (hsum : (st.map fun v => v.category).sum ≤ 8) (hR : rFit R R2 mj.2.2.1 cells slots) (hM : rMT G mj R2 (.ref b :: As) h (qA G ad o) xN) (kk : ∀ h2, Rep G ad o.2 h2 → RW G mi R Q X (cells + R2.cells) (slots + R2.slots) (pc + 3) lv (.ref (ad o.1) :: st) h2) : RW G mi R Q X cells slots pc lv st0 h := hc.elim fun fs hc => rw_callSU hd hcal hni hw1 hw2 hw3 hw4 hst hn hc hsum hR hM (fun v h2 z => by obtain ⟨rfl, hr⟩ := z; exact kk h2 hr)
theorem kS_Iq {mj : rMI} {R2 : Room} {idx n : Nat} {As st0 : List Value} {o : Int32 × rS} (hd : decode mi.2.1 pc = .ok (.invokestatic idx, 3)) (hcal : rCal mj n) (hw1 : Cond.methodLink mi.1.cls idx mj.1 ∈ rTB) (hw2 : Cond.static mj.1 ∈ rTB) (hst : st0 = As.reverse ++ st) (hn : As.length = n) (hsum : (st.map fun v => v.category).sum ≤ 8) (hR : rFit R R2 mj.2.2.1 cells slots) (hM : rMT G mj R2 As h (qIq G ad q o) xN) (kk : ∀ h2, RepQ G ad q o.2 h2 → RW G mi R Q X (cells + R2.cells) (slots + R2.slots) (pc + 3) lv (.int o.1 :: st) h2) : RW G mi R Q X cells slots pc lv st0 h := rw_callS hd hcal hw1 hw2 hst hn hsum hR hM (fun _ _ z => z.elim) (fun v h2 z => by obtain ⟨rfl, hr⟩ := z; exact kk h2 hr)
end RwSb
/-- may the builder's array be taken over into one of n bytes -/
def growB (n : Int32) (σ : rS) : Bool := decide (¬ n < 0 ∧ σ.2.2.2.2.1 < n.toNatClampNeg ∧ n.toNatClampNeg ≤ 142) && (List.range σ.2.2.2.2.1).all (fun i => fits .byte (.int (σ.2.2.2.2.2 i)))
/-- Arrays.copyOf of the builder's array -/
theorem cm_copyOf {G : rG} {ad : Nat → Nat} {q : Nat} {σ : rS} {h : rH} {n : Int32} (hr : RepQ G ad q σ h) (hg : growB n σ = true) : rMT G mJ7_copyOf_9075b (rm 1 1 142) [.ref q, .int n] h (fun v h2 => ∃ q2, v = some (.ref q2) ∧ h q2 = rDead ∧ h2 = hput h q2 (.inl (G.2.1 1, n.toNatClampNeg, .inl (va_cpy σ.2.2.2.2.2 (fun _ => 0) 0 0 σ.2.2.2.2.1)))) xN := by
  unfold growB at hg
  rw [Bool.and_eq_true, decide_eq_true_eq] at hg
  obtain ⟨⟨k1, k2, k3⟩, k4⟩ := hg
  have hcl : (Int32.ofNat σ.2.2.2.2.1).toNatClampNeg = σ.2.2.2.2.1 := nI_clamp (by omega)
  have hcI : (Int32.ofNat σ.2.2.2.2.1).toInt = (σ.2.2.2.2.1 : Int) := nI_toInt (by omega)
  have hn0 : (0 : Int) ≤ n.toInt := by
    refine Classical.byContradiction fun z => k1 ?_
    rw [Int32.lt_iff_toInt_lt]
    show n.toInt < 0
    omega
  have hnN : (n.toNatClampNeg : Int) = n.toInt := by
    show ((n.toInt.toNat : Nat) : Int) = n.toInt
    omega
  have hlt : Int32.ofNat σ.2.2.2.2.1 < n := by
    rw [Int32.lt_iff_toInt_lt, hcI, ← hnN]
    omega
  refine rw_met (by decide +kernel) rfl (Nat.le_of_ble_eq_true rfl) ?_
  show RW G _ _ _ _ 0 0 0 [(0, .ref q), (1, .int n)] [] h
  refine rw_iload_n dJ7_copyOf_9075b_0 1 rfl rfl ?_
  refine rw_aload_n dJ7_copyOf_9075b_1 0 rfl rfl ?_
  refine alenq hr dJ7_copyOf_9075b_2 ?_
  refine rw_icmp_ne (tgt := 14) dJ7_copyOf_9075b_3 (by decide) (fun _ => ?_) (fun z => ?_)
  · refine rw_iload_n dJ7_copyOf_9075b_14 1 rfl rfl ?_
    refine rw_widen (c2 := 0) (s2 := 142 - n.toNatClampNeg) (Nat.zero_le _) (Nat.zero_le _) ?_
    refine rw_newarray (ti := 1) (ty := .byte) (N := n.toNatClampNeg) (a0 := (n.toNatClampNeg, .inl (fun _ => 0))) dJ7_copyOf_9075b_15 rfl rfl wm441 (fun _ => rfl) k1 rfl (by show n.toNatClampNeg * 1 ≤ _; omega) (by decide) (by show 142 - n.toNatClampNeg + n.toNatClampNeg ≤ 142; omega) (fun q2 hq2 _ => ?_)
    refine rw_astore_n (lv2 := [(2, .ref q2), (0, .ref q), (1, .int n)]) dJ7_copyOf_9075b_17 rfl (by decide) rfl ?_
    have hqne : q ≠ q2 := fun z => by
      have := hr.2.2.1
      rw [z, hq2] at this
      cases this
    refine rw_aload_n dJ7_copyOf_9075b_18 1 rfl rfl ?_
    refine rw_iconst (v := 0) dJ7_copyOf_9075b_19 (by decide) ?_
    refine rw_aload_n dJ7_copyOf_9075b_20 0 rfl rfl ?_
    refine rw_iconst (v := 0) dJ7_copyOf_9075b_21 (by decide) ?_
    refine rw_aload_n dJ7_copyOf_9075b_22 1 rfl rfl ?_
    have h0 : (hput h q2 (.inl (G.2.1 1, n.toNatClampNeg, .inl (fun _ => 0)))) q = .inl (G.2.1 1, σ.2.2.2.2.1, .inl σ.2.2.2.2.2) := (va_up_ne _ _ hqne).trans hr.2.2.1
    refine rw_alen (ti := 1) dJ7_copyOf_9075b_23 h0 rfl ?_
    refine rw_iload_n dJ7_copyOf_9075b_24 2 rfl rfl ?_
    refine rw_mmin dJ7_copyOf_9075b_25 wm1223 (by decide) (Nat.le_of_ble_eq_true rfl) (by decide) (by show _ ≤ 142; omega) ?_
    have hmin : (if n < Int32.ofNat σ.2.2.2.2.1 then n else Int32.ofNat σ.2.2.2.2.1) = Int32.ofNat σ.2.2.2.2.1 := if_neg (fun z => by
      rw [Int32.lt_iff_toInt_lt] at z hlt
      omega)
    refine rw_top hmin ?_
    refine rw_acopy (f := σ.2.2.2.2.2) (g := fun _ => 0) dJ7_copyOf_9075b_28 wm1224 h0 (va_up_self _ _ _) (by decide) (by decide) (fun z => by
      rw [Int32.lt_iff_toInt_lt, hcI] at z
      have : (0 : Int32).toInt = 0 := rfl
      omega) (by rw [hcl]; show 0 + _ ≤ _; omega) (by rw [hcl]; show 0 + _ ≤ _; omega) (fun i hi => by
      rw [hcl] at hi
      show fits .byte (.int (σ.2.2.2.2.2 (0 + i))) = true
      rw [Nat.zero_add]
      exact List.all_eq_true.mp k4 i (List.mem_range.mpr hi)) (by decide) (Nat.le_of_ble_eq_true rfl) ?_
    refine rw_aload_n dJ7_copyOf_9075b_31 0 rfl rfl ?_
    refine rw_areturn dJ7_copyOf_9075b_32 rfl (Or.inr ⟨_, rfl⟩) ⟨q2, rfl, hq2, ?_⟩ (by decide) (by show _ ≤ 142; omega)
    rw [hcl]
    funext b
    by_cases hb : b = q2
    · subst hb; simp [hput, va_up]
    · simp [hput, va_up, hb]
  · exact absurd z (fun z => by
      rw [← z] at hlt
      exact Int32.lt_irrefl hlt)
section RwSb2
variable {G : rG} {ad : Nat → Nat} {q : Nat} {σ : rS} {mi : rMI} {R : Room} {Q : Option Value → rH → Prop} {X : String → rH → Prop} {cells slots pc : Nat} {lv : List (Nat × Value)} {st : List Value} {h : rH}
theorem kCopy {idx i2 : Nat} {n : Int32} (hr : RepQ G ad q σ h) (hd : decode mi.2.1 pc = .ok (.invokestatic idx, 3)) (hd2 : decode mi.2.1 (pc + 3) = .ok (.putfield i2, 3)) (hw1 : Cond.methodLink mi.1.cls idx yJ7_copyOf_9075b ∈ rTB) (hf : rFld mi.1.cls i2 0 0 (.array .byte) false) (hg : growB n σ = true) (hsum : (st.map fun v => v.category).sum + 1 ≤ 8) (hR : rFit R (rm 1 1 142) 3 cells slots)
    (kk : ∀ (q2 : Nat) (h2 : rH), RepQ G ad q2 (uB σ n.toNatClampNeg (va_cpy σ.2.2.2.2.2 (fun _ => 0) 0 0 σ.2.2.2.2.1)) h2 → RW G mi R Q X (cells + 1) (slots + 142) (pc + 6) lv st h2) : RW G mi R Q X cells slots pc lv (.int n :: .ref q :: .ref (ad 40) :: st) h := by
  refine rw_callS (As := [.ref q, .int n]) (st := .ref (ad 40) :: st) hd calJ7_copyOf_9075b hw1 wm1214 rfl rfl (by show 1 + (st.map fun v => v.category).sum ≤ 8; omega) hR (cm_copyOf hr hg) (fun _ _ z => z.elim) (fun v h2 z => ?_)
  obtain ⟨q2, rfl, hq2, rfl⟩ := z
  have hne : ad 40 ≠ q2 := fun z => by
    have := hr.1 40 (by decide)
    rw [z, hq2] at this
    cases this
  exact rw_put (v := .ref q2) hd2 hf ((va_up_ne _ _ hne).trans (hr.1 40 (by decide))) rfl rfl (Nat.le_of_ble_eq_true rfl) (kk q2 _ (hr.grow hq2))
end RwSb2
