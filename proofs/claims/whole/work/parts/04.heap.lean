/-! fields, arrays, making: over the one heap picture -/
def hput (h : rH) (a : Nat) (e : va_E) : rH := va_up h a e
theorem rHR.live {G : rG} {h : rH} {H : Heap} (hH : rHR G h H) {a : Nat} (ha : h a ≠ rDead) : ∃ (LP : List Nat) (k : Nat), (∀ b, b ∈ LP ↔ h b ≠ rDead) ∧ va_P G.1 rCl (va_pl LP h) H ∧ va_D (rA G) (va_pl LP h) ∧ a ∈ LP ∧ (va_pl LP h)[k]? = some (a, h a) := by
  obtain ⟨LP, h1, h2, h3⟩ := hH
  obtain ⟨k, hk⟩ := va_pl_get (X := []) (f := h) ((h1 a).mpr ha)
  exact ⟨LP, k, h1, h2, h3, (h1 a).mpr ha, by simpa using hk⟩
theorem rHR.put {G : rG} {h : rH} {H1 : Heap} {LP : List Nat} {k a : Nat} {e : va_E} (h1 : ∀ b, b ∈ LP ↔ h b ≠ rDead) (hD0 : va_D (rA G) (va_pl LP h)) (ha : a ∈ LP) (hk : (va_pl LP h)[k]? = some (a, h a)) (he : e ≠ rDead)
    (hP : va_P G.1 rCl ((va_pl LP h).set k (a, e)) H1) (hD : va_D (rA G) ((va_pl LP h).set k (a, e))) : rHR G (hput h a e) H1 := by
  have hs := va_pl_set (X := []) (e := e) (by simpa using hD0) ha (by simpa using hk)
  rw [List.nil_append, List.nil_append] at hs
  rw [hs] at hP hD
  refine ⟨LP, fun b => ?_, hP, hD⟩
  by_cases hb : b = a
  · subst hb
    simp only [hput, va_up_self]
    exact ⟨fun _ => he, fun _ => ha⟩
  · simp only [hput, va_up_ne _ _ hb]
    exact h1 b
theorem rHR.new {G : rG} {h : rH} {H1 : Heap} {LP : List Nat} {q : Nat} {e : va_E} (h1 : ∀ b, b ∈ LP ↔ h b ≠ rDead) (he : e ≠ rDead) (hP : va_P G.1 rCl (va_pl LP h ++ [(q, e)]) H1) (hD : va_D (rA G) (va_pl LP h ++ [(q, e)])) : rHR G (hput h q e) H1 ∧ h q = rDead := by
  have hq : q ∉ LP := by
    intro hm
    obtain ⟨k, hk⟩ := va_pl_get (X := []) (f := h) hm
    have hk : (va_pl LP h)[k]? = some (q, h q) := by simpa using hk
    have hl := (List.getElem?_eq_some_iff.mp hk).1
    have e1 : (va_pl LP h ++ [(q, e)])[k]? = some (q, h q) := by rw [List.getElem?_append_left hl]; exact hk
    have e2 : (va_pl LP h ++ [(q, e)])[(va_pl LP h).length]? = some (q, e) := by simp
    have := hD.1 _ _ _ _ e1 e2 rfl
    omega
  rw [va_pl_push hq] at hP hD
  refine ⟨⟨LP ++ [q], fun b => ?_, hP, hD⟩, ?_⟩
  · by_cases hb : b = q
    · subst hb
      simp only [hput, va_up_self]
      exact ⟨fun _ => he, fun _ => by simp⟩
    · simp only [hput, va_up_ne _ _ hb, List.mem_append, List.mem_singleton, hb, or_false]
      exact h1 b
  · exact Classical.byContradiction fun z => hq ((h1 q).mpr z)
theorem inl_live {x : ClassId × vp_A} : (Sum.inl x : va_E) ≠ rDead := fun z => by cases z
theorem inr_live {ci : Nat} {fs : List Value} (hc : ci < 13) : (Sum.inr (ci, fs) : va_E) ≠ rDead := fun z => by cases z; omega
/-- what a class of the worlds owes: its words, its types, different names -/
def rCls (ci : Nat) (C : String) (T : u_T) (N : Nat) (ty : Nat → FieldType) : Prop := ci < 13 ∧ rCl[ci]? = some (C, T, N) ∧ (∀ w ∈ u_ws C T N, w ∈ rTB) ∧ (∀ k, k < N → parseFieldDescriptor (T k).2.2.1 = some (ty k)) ∧ (∀ a, a < N → ∀ b, b < N → a ≠ b → (T a).2.1 ≠ (T b).2.1)
/-- a field by its link: entry idx of 'own' is field k of class ci, of type t, final or not -/
def rFld (own : String) (idx ci k : Nat) (t : FieldType) (fin : Bool) : Prop := ∃ (C : String) (T : u_T) (N : Nat) (ty : Nat → FieldType), rCls ci C T N ty ∧ k < N ∧ Cond.fieldLink own idx (T k).1 (T k).2.1 (T k).2.2.1 ∈ rTB ∧ ty k = t ∧ (T k).2.2.2 = fin
section RwHeap
variable {G : rG} {mi : rMI} {R : Room} {Q : Option Value → rH → Prop} {X : String → rH → Prop} {cells slots pc : Nat} {lv : List (Nat × Value)} {st : List Value} {h : rH}
theorem rw_get {a idx ci k : Nat} {t : FieldType} {fin : Bool} {fs : List Value} {v : Value} (hd : decode mi.2.1 pc = .ok (.getfield idx, 3)) (hf : rFld mi.1.cls idx ci k t fin) (hc : h a = .inr (ci, fs)) (hv : fs[k]? = some v)
    (kk : RW G mi R Q X cells slots (pc + 3) lv (v :: st) h) : RW G mi R Q X cells slots pc lv (.ref a :: st) h := fun p l e s m args below meth c H locs ls C hl hH hS => by
  obtain ⟨Cn, T, N, ty, ⟨hci, hcl, hin, hty, hnm⟩, hk, hlk, rfl, hfin⟩ := hf
  obtain ⟨LP, q0, h1, hP, hD, ha, hq⟩ := hH.live (a := a) (by rw [hc]; exact inr_live hci)
  rw [hc] at hq
  exact va_get (D := G.1) (cl := rCl) (tys := rTys G) C.1 C.2.1 C.2.2.2.2.2.1 hin C.2.2.2.2.1 C.2.2.2.2.2.2.2.2.2.2.1 hP q0 hq hcl k hk (C.2.2.2.2.2.1 _ hlk) (fun _ z => z) hv hd (kk p l e s m args below meth c H locs ls C hl hH hS)
theorem rw_put {a idx ci k : Nat} {t : FieldType} {fs : List Value} {v : Value} (hd : decode mi.2.1 pc = .ok (.putfield idx, 3)) (hf : rFld mi.1.cls idx ci k t false) (hc : h a = .inr (ci, fs)) (hn : narrow t v = v) (hfit : fits t v = true) (hlen : k < fs.length)
    (kk : RW G mi R Q X cells slots (pc + 3) lv st (hput h a (.inr (ci, fs.set k v)))) : RW G mi R Q X cells slots pc lv (v :: .ref a :: st) h := fun p l e s m args below meth c H locs ls C hl hH hS => by
  obtain ⟨Cn, T, N, ty, ⟨hci, hcl, hin, hty, hnm⟩, hk, hlk, rfl, hfin⟩ := hf
  obtain ⟨LP, q0, h1, hP, hD, ha, hq⟩ := hH.live (a := a) (by rw [hc]; exact inr_live hci)
  have hq' := hq
  rw [hc] at hq
  exact va_put (D := G.1) (cl := rCl) (tys := rTys G) C.1 C.2.1 C.2.2.2.2.2.1 hin ty hty hnm C.2.2.2.2.1 C.2.2.2.2.2.2.2.2.2.2.1 hP hD hS q0 hq hcl k hk (C.2.2.2.2.2.1 _ hlk) (fun _ z => z) hfin (hty k hk) hn hfit hlen hd
    (fun H1 locs1 hP1 hD1 hS1 => kk p l e s m args below meth c H1 locs1 ls C hl (rHR.put h1 hD ha hq' (inr_live hci) hP1 hD1) hS1)
theorem rw_putF {a idx ci k : Nat} {t : FieldType} {fs : List Value} {v : Value} (hd : decode mi.2.1 pc = .ok (.putfield idx, 3)) (hf : rFld mi.1.cls idx ci k t true) (hi : mi.1.name = "<init>") (ho : ∃ T : u_T, (∃ q, rCl[ci]? = some q ∧ q.2.1 = T) ∧ (T k).1 = mi.1.cls) (hc : h a = .inr (ci, fs)) (hn : narrow t v = v) (hfit : fits t v = true) (hlen : k < fs.length)
    (kk : RW G mi R Q X cells slots (pc + 3) lv st (hput h a (.inr (ci, fs.set k v)))) : RW G mi R Q X cells slots pc lv (v :: .ref a :: st) h := fun p l e s m args below meth c H locs ls C hl hH hS => by
  obtain ⟨Cn, T, N, ty, ⟨hci, hcl, hin, hty, hnm⟩, hk, hlk, rfl, hfin⟩ := hf
  obtain ⟨T2, ⟨q2, hq2, rfl⟩, ho⟩ := ho
  cases Option.some.inj (hcl.symm.trans hq2)
  obtain ⟨LP, q0, h1, hP, hD, ha, hq⟩ := hH.live (a := a) (by rw [hc]; exact inr_live hci)
  have hq' := hq
  rw [hc] at hq
  exact va_putF (D := G.1) (cl := rCl) (tys := rTys G) C.1 C.2.1 C.2.2.2.2.2.1 hin ty hty hnm C.2.2.2.2.1 C.2.2.2.2.2.2.2.2.2.2.1 hP hD hS q0 hq hcl k hk (C.2.2.2.2.2.1 _ hlk) (fun _ z => z) hfin (C.2.2.2.2.2.2.2.1.trans hi) ho (hty k hk) hn hfit hlen hd
    (fun H1 locs1 hP1 hD1 hS1 => kk p l e s m args below meth c H1 locs1 ls C hl (rHR.put h1 hD ha hq' (inr_live hci) hP1 hD1) hS1)
theorem rw_new {idx ci : Nat} {Cn : String} {T : u_T} {N : Nat} {ty : Nat → FieldType} {fs : List Value} (hd : decode mi.2.1 pc = .ok (.new idx, 3)) (hC : rCls ci Cn T N ty) (hw1 : Cond.classLink mi.1.cls idx Cn ∈ rTB) (hw2 : Cond.instantiable Cn N ∈ rTB) (hw3 : Cond.initialized Cn ∈ rTB) (hfs : ∀ j, j < N → defaultValue (ty j) = vp_V fs j) (hcells : cells + 1 ≤ R.cells) (hslots : slots + N ≤ R.slots)
    (kk : ∀ q : Nat, h q = rDead → rA G q → RW G mi R Q X (cells + 1) (slots + N) (pc + 3) lv (.ref q :: st) (hput h q (.inr (ci, fs)))) : RW G mi R Q X cells slots pc lv st h := fun p l e s m args below meth c H locs ls C hl hH hS => by
  obtain ⟨hci, hcl, hin, hty, hnm⟩ := hC
  obtain ⟨LP, h1, hP, hD⟩ := hH
  exact va_new (D := G.1) (cl := rCl) (tys := rTys G) C.1 C.2.1 C.2.2.2.2.2.1 hin ty hty C.2.2.2.2.1 (C.2.2.2.2.2.1 _ hw1) (C.2.2.2.2.2.1 _ hw2) (C.2.2.2.2.2.1 _ hw3) C.2.2.2.2.2.2.2.2.2.2.1 hP hD hS (fun q z => Nat.le_trans C.2.2.2.2.2.2.2.2.2.2.2.2.2.2.2.2.1 z) hcl hfs hcells hslots hd
    (fun q H1 hP1 hD1 hS1 => by
      obtain ⟨g1, g2⟩ := rHR.new h1 (inr_live hci) hP1 hD1
      exact kk q g2 (hD1.2 (va_pl LP h).length (q, .inr (ci, fs)) (by simp)) p l e s m args below meth c H1 locs ls C hl g1 hS1)

theorem rw_iaload {a n : Nat} {f : Nat → Int32} {i : Int32} (hd : decode mi.2.1 pc = .ok (.iaload, 1)) (hc : h a = .inl (G.2.1 0, n, .inl f)) (hin : vp_in i n)
    (kk : RW G mi R Q X cells slots (pc + 1) lv (.int (f i.toNatClampNeg) :: st) h) : RW G mi R Q X cells slots pc lv (.int i :: .ref a :: st) h := fun p l e s m args below meth c H locs ls C hl hH hS => by
  obtain ⟨LP, q0, h1, hP, hD, ha, hq⟩ := hH.live (a := a) (by rw [hc]; exact inl_live)
  rw [hc] at hq
  exact va_iald (D := G.1) (cl := rCl) (tys := rTys G) C.1 C.2.1 C.2.2.2.2.2.2.2.2.2.2.1 hP q0 0 hq rfl hin hd (kk p l e s m args below meth c H locs ls C hl hH hS)
theorem rw_iastore {a n : Nat} {f : Nat → Int32} {i : Int32} {x : Int32} (hd : decode mi.2.1 pc = .ok (.iastore, 1)) (hc : h a = .inl (G.2.1 0, n, .inl f)) (hin : vp_in i n)
    (kk : RW G mi R Q X cells slots (pc + 1) lv st (hput h a (.inl (G.2.1 0, n, .inl (upd f i.toNatClampNeg x))))) : RW G mi R Q X cells slots pc lv (.int x :: .int i :: .ref a :: st) h := fun p l e s m args below meth c H locs ls C hl hH hS => by
  obtain ⟨LP, q0, h1, hP, hD, ha, hq⟩ := hH.live (a := a) (by rw [hc]; exact inl_live)
  have hq' := hq
  rw [hc] at hq
  exact va_iast (D := G.1) (cl := rCl) (tys := rTys G) C.1 C.2.1 C.2.2.2.2.2.2.2.2.2.2.1 hP hD hS q0 0 hq rfl hin hd (fun H1 locs1 hP1 hD1 hS1 => kk p l e s m args below meth c H1 locs1 ls C hl (rHR.put h1 hD ha hq' inl_live hP1 hD1) hS1)
theorem rw_baload {a n : Nat} {f : Nat → Int32} {i : Int32} (hd : decode mi.2.1 pc = .ok (.baload, 1)) (hc : h a = .inl (G.2.1 1, n, .inl f)) (hin : vp_in i n)
    (kk : RW G mi R Q X cells slots (pc + 1) lv (.int (f i.toNatClampNeg) :: st) h) : RW G mi R Q X cells slots pc lv (.int i :: .ref a :: st) h := fun p l e s m args below meth c H locs ls C hl hH hS => by
  obtain ⟨LP, q0, h1, hP, hD, ha, hq⟩ := hH.live (a := a) (by rw [hc]; exact inl_live)
  rw [hc] at hq
  exact va_bald (D := G.1) (cl := rCl) (tys := rTys G) C.1 C.2.1 C.2.2.2.2.2.2.2.2.2.2.1 hP q0 1 hq rfl hin hd (kk p l e s m args below meth c H locs ls C hl hH hS)
theorem rw_bastore {a n : Nat} {f : Nat → Int32} {i : Int32} {x : Int32} (hd : decode mi.2.1 pc = .ok (.bastore, 1)) (hc : h a = .inl (G.2.1 1, n, .inl f)) (hin : vp_in i n)
    (kk : RW G mi R Q X cells slots (pc + 1) lv st (hput h a (.inl (G.2.1 1, n, .inl (upd f i.toNatClampNeg (vp_nar .byte x)))))) : RW G mi R Q X cells slots pc lv (.int x :: .int i :: .ref a :: st) h := fun p l e s m args below meth c H locs ls C hl hH hS => by
  obtain ⟨LP, q0, h1, hP, hD, ha, hq⟩ := hH.live (a := a) (by rw [hc]; exact inl_live)
  have hq' := hq
  rw [hc] at hq
  exact va_bast (D := G.1) (cl := rCl) (tys := rTys G) C.1 C.2.1 C.2.2.2.2.2.2.2.2.2.2.1 hP hD hS q0 1 hq rfl hin hd (fun H1 locs1 hP1 hD1 hS1 => kk p l e s m args below meth c H1 locs1 ls C hl (rHR.put h1 hD ha hq' inl_live hP1 hD1) hS1)
theorem rw_caload {a n : Nat} {f : Nat → Int32} {i : Int32} (hd : decode mi.2.1 pc = .ok (.caload, 1)) (hc : h a = .inl (G.2.1 2, n, .inl f)) (hin : vp_in i n)
    (kk : RW G mi R Q X cells slots (pc + 1) lv (.int (f i.toNatClampNeg) :: st) h) : RW G mi R Q X cells slots pc lv (.int i :: .ref a :: st) h := fun p l e s m args below meth c H locs ls C hl hH hS => by
  obtain ⟨LP, q0, h1, hP, hD, ha, hq⟩ := hH.live (a := a) (by rw [hc]; exact inl_live)
  rw [hc] at hq
  exact va_cald (D := G.1) (cl := rCl) (tys := rTys G) C.1 C.2.1 C.2.2.2.2.2.2.2.2.2.2.1 hP q0 2 hq rfl hin hd (kk p l e s m args below meth c H locs ls C hl hH hS)
theorem rw_castore {a n : Nat} {f : Nat → Int32} {i : Int32} {x : Int32} (hd : decode mi.2.1 pc = .ok (.castore, 1)) (hc : h a = .inl (G.2.1 2, n, .inl f)) (hin : vp_in i n)
    (kk : RW G mi R Q X cells slots (pc + 1) lv st (hput h a (.inl (G.2.1 2, n, .inl (upd f i.toNatClampNeg (vp_nar .char x)))))) : RW G mi R Q X cells slots pc lv (.int x :: .int i :: .ref a :: st) h := fun p l e s m args below meth c H locs ls C hl hH hS => by
  obtain ⟨LP, q0, h1, hP, hD, ha, hq⟩ := hH.live (a := a) (by rw [hc]; exact inl_live)
  have hq' := hq
  rw [hc] at hq
  exact va_cast (D := G.1) (cl := rCl) (tys := rTys G) C.1 C.2.1 C.2.2.2.2.2.2.2.2.2.2.1 hP hD hS q0 2 hq rfl hin hd (fun H1 locs1 hP1 hD1 hS1 => kk p l e s m args below meth c H1 locs1 ls C hl (rHR.put h1 hD ha hq' inl_live hP1 hD1) hS1)
theorem rw_zaload {a n : Nat} {f : Nat → Int32} {i : Int32} (hd : decode mi.2.1 pc = .ok (.baload, 1)) (hc : h a = .inl (G.2.1 3, n, .inl f)) (hin : vp_in i n)
    (kk : RW G mi R Q X cells slots (pc + 1) lv (.int (f i.toNatClampNeg) :: st) h) : RW G mi R Q X cells slots pc lv (.int i :: .ref a :: st) h := fun p l e s m args below meth c H locs ls C hl hH hS => by
  obtain ⟨LP, q0, h1, hP, hD, ha, hq⟩ := hH.live (a := a) (by rw [hc]; exact inl_live)
  rw [hc] at hq
  exact va_zald (D := G.1) (cl := rCl) (tys := rTys G) C.1 C.2.1 C.2.2.2.2.2.2.2.2.2.2.1 hP q0 3 hq rfl hin hd (kk p l e s m args below meth c H locs ls C hl hH hS)
theorem rw_zastore {a n : Nat} {f : Nat → Int32} {i : Int32} {x : Int32} (hd : decode mi.2.1 pc = .ok (.bastore, 1)) (hc : h a = .inl (G.2.1 3, n, .inl f)) (hin : vp_in i n)
    (kk : RW G mi R Q X cells slots (pc + 1) lv st (hput h a (.inl (G.2.1 3, n, .inl (upd f i.toNatClampNeg (vp_nar .boolean x)))))) : RW G mi R Q X cells slots pc lv (.int x :: .int i :: .ref a :: st) h := fun p l e s m args below meth c H locs ls C hl hH hS => by
  obtain ⟨LP, q0, h1, hP, hD, ha, hq⟩ := hH.live (a := a) (by rw [hc]; exact inl_live)
  have hq' := hq
  rw [hc] at hq
  exact va_zast (D := G.1) (cl := rCl) (tys := rTys G) C.1 C.2.1 C.2.2.2.2.2.2.2.2.2.2.1 hP hD hS q0 3 hq rfl hin hd (fun H1 locs1 hP1 hD1 hS1 => kk p l e s m args below meth c H1 locs1 ls C hl (rHR.put h1 hD ha hq' inl_live hP1 hD1) hS1)
theorem rw_laload {a n : Nat} {f : Nat → Int64} {i : Int32} (hd : decode mi.2.1 pc = .ok (.laload, 1)) (hc : h a = .inl (G.2.1 4, n, .inr (.inl f))) (hin : vp_in i n)
    (kk : RW G mi R Q X cells slots (pc + 1) lv (.long (f i.toNatClampNeg) :: st) h) : RW G mi R Q X cells slots pc lv (.int i :: .ref a :: st) h := fun p l e s m args below meth c H locs ls C hl hH hS => by
  obtain ⟨LP, q0, h1, hP, hD, ha, hq⟩ := hH.live (a := a) (by rw [hc]; exact inl_live)
  rw [hc] at hq
  exact va_lald (D := G.1) (cl := rCl) (tys := rTys G) C.1 C.2.1 C.2.2.2.2.2.2.2.2.2.2.1 hP q0 4 hq rfl hin hd (kk p l e s m args below meth c H locs ls C hl hH hS)
theorem rw_lastore {a n : Nat} {f : Nat → Int64} {i : Int32} {x : Int64} (hd : decode mi.2.1 pc = .ok (.lastore, 1)) (hc : h a = .inl (G.2.1 4, n, .inr (.inl f))) (hin : vp_in i n)
    (kk : RW G mi R Q X cells slots (pc + 1) lv st (hput h a (.inl (G.2.1 4, n, .inr (.inl (vp_updL f i.toNatClampNeg x)))))) : RW G mi R Q X cells slots pc lv (.long x :: .int i :: .ref a :: st) h := fun p l e s m args below meth c H locs ls C hl hH hS => by
  obtain ⟨LP, q0, h1, hP, hD, ha, hq⟩ := hH.live (a := a) (by rw [hc]; exact inl_live)
  have hq' := hq
  rw [hc] at hq
  exact va_last (D := G.1) (cl := rCl) (tys := rTys G) C.1 C.2.1 C.2.2.2.2.2.2.2.2.2.2.1 hP hD hS q0 4 hq rfl hin hd (fun H1 locs1 hP1 hD1 hS1 => kk p l e s m args below meth c H1 locs1 ls C hl (rHR.put h1 hD ha hq' inl_live hP1 hD1) hS1)
theorem rw_aaloadBoring {a n : Nat} {f : Nat → Option Nat} {i : Int32} (hd : decode mi.2.1 pc = .ok (.aaload, 1)) (hc : h a = .inl (G.2.1 5, n, .inr (.inr (.inr (.inr f))))) (hin : vp_in i n)
    (kk : RW G mi R Q X cells slots (pc + 1) lv (va_rf (f i.toNatClampNeg) :: st) h) : RW G mi R Q X cells slots pc lv (.int i :: .ref a :: st) h := fun p l e s m args below meth c H locs ls C hl hH hS => by
  obtain ⟨LP, q0, h1, hP, hD, ha, hq⟩ := hH.live (a := a) (by rw [hc]; exact inl_live)
  rw [hc] at hq
  exact va_aldq (D := G.1) (cl := rCl) (tys := rTys G) (C := "LayerJoins$Boring") C.1 C.2.1 C.2.2.2.2.2.2.2.2.2.2.1 hP q0 5 hq rfl hin hd (kk p l e s m args below meth c H locs ls C hl hH hS)
theorem rw_aastoreBoring {a n v ci : Nat} {r : vw_C} {vs : List Value} {f : Nat → Option Nat} {i : Int32} (hd : decode mi.2.1 pc = .ok (.aastore, 1)) (hc : h a = .inl (G.2.1 5, n, .inr (.inr (.inr (.inr f))))) (hv : h v = .inr (ci, vs)) (hci : ci < 13) (hr : rCl[ci]? = some r) (hrn : r.1 = "LayerJoins$Boring") (hin : vp_in i n)
    (kk : RW G mi R Q X cells slots (pc + 1) lv st (hput h a (.inl (G.2.1 5, n, .inr (.inr (.inr (.inr (va_up f i.toNatClampNeg (some v))))))))) : RW G mi R Q X cells slots pc lv (.ref v :: .int i :: .ref a :: st) h := fun p l e s m args below meth c H locs ls C hl hH hS => by
  obtain ⟨LP, q0, h1, hP, hD, ha, hq⟩ := hH.live (a := a) (by rw [hc]; exact inl_live)
  obtain ⟨k2, hk2⟩ := va_pl_get (X := []) (f := h) ((h1 v).mpr (by rw [hv]; exact inr_live hci))
  have hk2 : (va_pl LP h)[k2]? = some (v, .inr (ci, vs)) := by rw [← hv]; simpa using hk2
  have hq' := hq
  rw [hc] at hq
  exact va_astq (D := G.1) (cl := rCl) (tys := rTys G) (r := r) C.1 C.2.1 C.2.2.2.2.2.2.2.2.2.2.1 hP hD hS q0 5 k2 ci hq (by rw [hrn]; rfl) hk2 hr hin hd (fun H1 locs1 hP1 hD1 hS1 => kk p l e s m args below meth c H1 locs1 ls C hl (rHR.put h1 hD ha hq' inl_live hP1 hD1) hS1)
theorem rw_aaloadPlace {a n : Nat} {f : Nat → Option Nat} {i : Int32} (hd : decode mi.2.1 pc = .ok (.aaload, 1)) (hc : h a = .inl (G.2.1 6, n, .inr (.inr (.inr (.inr f))))) (hin : vp_in i n)
    (kk : RW G mi R Q X cells slots (pc + 1) lv (va_rf (f i.toNatClampNeg) :: st) h) : RW G mi R Q X cells slots pc lv (.int i :: .ref a :: st) h := fun p l e s m args below meth c H locs ls C hl hH hS => by
  obtain ⟨LP, q0, h1, hP, hD, ha, hq⟩ := hH.live (a := a) (by rw [hc]; exact inl_live)
  rw [hc] at hq
  exact va_aldq (D := G.1) (cl := rCl) (tys := rTys G) (C := "LayerJoins$Place") C.1 C.2.1 C.2.2.2.2.2.2.2.2.2.2.1 hP q0 6 hq rfl hin hd (kk p l e s m args below meth c H locs ls C hl hH hS)
theorem rw_aastorePlace {a n v ci : Nat} {r : vw_C} {vs : List Value} {f : Nat → Option Nat} {i : Int32} (hd : decode mi.2.1 pc = .ok (.aastore, 1)) (hc : h a = .inl (G.2.1 6, n, .inr (.inr (.inr (.inr f))))) (hv : h v = .inr (ci, vs)) (hci : ci < 13) (hr : rCl[ci]? = some r) (hrn : r.1 = "LayerJoins$Place") (hin : vp_in i n)
    (kk : RW G mi R Q X cells slots (pc + 1) lv st (hput h a (.inl (G.2.1 6, n, .inr (.inr (.inr (.inr (va_up f i.toNatClampNeg (some v))))))))) : RW G mi R Q X cells slots pc lv (.ref v :: .int i :: .ref a :: st) h := fun p l e s m args below meth c H locs ls C hl hH hS => by
  obtain ⟨LP, q0, h1, hP, hD, ha, hq⟩ := hH.live (a := a) (by rw [hc]; exact inl_live)
  obtain ⟨k2, hk2⟩ := va_pl_get (X := []) (f := h) ((h1 v).mpr (by rw [hv]; exact inr_live hci))
  have hk2 : (va_pl LP h)[k2]? = some (v, .inr (ci, vs)) := by rw [← hv]; simpa using hk2
  have hq' := hq
  rw [hc] at hq
  exact va_astq (D := G.1) (cl := rCl) (tys := rTys G) (r := r) C.1 C.2.1 C.2.2.2.2.2.2.2.2.2.2.1 hP hD hS q0 6 k2 ci hq (by rw [hrn]; rfl) hk2 hr hin hd (fun H1 locs1 hP1 hD1 hS1 => kk p l e s m args below meth c H1 locs1 ls C hl (rHR.put h1 hD ha hq' inl_live hP1 hD1) hS1)
theorem rw_alen {a ti : Nat} {x : vp_A} {ty : FieldType} (hd : decode mi.2.1 pc = .ok (.arraylength, 1)) (hc : h a = .inl (G.2.1 ti, x)) (ht : (rTys G)[ti]? = some (G.2.1 ti, ty))
    (kk : RW G mi R Q X cells slots (pc + 1) lv (.int (Int32.ofNat x.1) :: st) h) : RW G mi R Q X cells slots pc lv (.ref a :: st) h := fun p l e s m args below meth c H locs ls C hl hH hS => by
  obtain ⟨LP, q0, h1, hP, hD, ha, hq⟩ := hH.live (a := a) (by rw [hc]; exact inl_live)
  rw [hc] at hq
  exact va_alen (D := G.1) (cl := rCl) (tys := rTys G) C.1 C.2.1 C.2.2.2.2.2.2.2.2.2.2.1 hP q0 ti hq ht rfl hd (kk p l e s m args below meth c H locs ls C hl hH hS)
theorem rw_script {i : Int32} (hd : decode mi.2.1 pc = .ok (.iaload, 1)) (hin : vp_in i G.2.2.2.1.2.1) (kk : RW G mi R Q X cells slots (pc + 1) lv (.int (G.2.2.2.1.2.2 i.toNatClampNeg) :: st) h) : RW G mi R Q X cells slots pc lv (.int i :: .ref G.2.2.2.1.1 :: st) h := fun p l e s m args below meth c H locs ls C hl hH hS => by
  have hK := C.2.2.2.2.2.2.2.2.2.2
  have hX := hK.2.2.2.2.2.1.2.1
  have hb := hK.2.2.2.2.2.1.2.2.1
  exact va_sld C.1 C.2.1 hX (Nat.lt_of_lt_of_le hb hK.2.2.2.2.2.2.1) (fun z => absurd hb (Nat.not_lt.mpr z)) hS hin hd (kk p l e s m args below meth c H locs ls C hl hH hS)
theorem rw_scriptLen (hd : decode mi.2.1 pc = .ok (.arraylength, 1)) (kk : RW G mi R Q X cells slots (pc + 1) lv (.int (Int32.ofNat G.2.2.2.1.2.1) :: st) h) : RW G mi R Q X cells slots pc lv (.ref G.2.2.2.1.1 :: st) h := fun p l e s m args below meth c H locs ls C hl hH hS => by
  have hK := C.2.2.2.2.2.2.2.2.2.2
  have hX := hK.2.2.2.2.2.1.2.1
  have hb := hK.2.2.2.2.2.1.2.2.1
  exact va_slen C.1 C.2.1 hX (Nat.lt_of_lt_of_le hb hK.2.2.2.2.2.2.1) (fun z => absurd hb (Nat.not_lt.mpr z)) hS hd (kk p l e s m args below meth c H locs ls C hl hH hS)
theorem rw_objInit {a idx : Nat} (hd : decode mi.2.1 pc = .ok (.invokespecial idx, 3)) (hw : Cond.methodLink mi.1.cls idx objectInit ∈ rTB) (hw2 : Cond.instanceMethod objectInit ∈ rTB) (hw3 : Cond.code objectInit ⟨#[0xb1]⟩ 1 none ∈ rTB) (hfr : 1 ≤ R.frames) (hlo : (st.map fun v => v.category).sum + 12 ≤ R.locals)
    (kk : RW G mi R Q X cells slots (pc + 3) lv st h) : RW G mi R Q X cells slots pc lv (.ref a :: st) h := fun p l e s m args below meth c H locs ls C hl hH hS =>
  W.objInit C.1 C.2.1 C.2.2.2.2.1 (C.2.2.2.2.2.1 _ hw) (C.2.2.2.2.2.1 _ hw2) (C.2.2.2.2.2.1 _ hw3) rfl (by rw [C.2.2.2.1]; exact hl.1) rfl hd hfr (by show 2 * 0 + _ + 12 ≤ _; omega) (kk p l e s m args below meth c H locs ls C hl hH hS)
end RwHeap

