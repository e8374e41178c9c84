/-! A thrown object is caught by a row of this method's own table, behind rows that it passes: the search, row by row, each row's class found by its link. -/
section CX
/-- the search over one row that takes the object -/
theorem cx_take {e : Env} {S : State} {f : JFrame} {a : Addr} {r : ExceptionTableEntry} {rs : List ExceptionTableEntry} {k : ClassId} {ce : Cell} (hr : covers r f.pc = true) (h0 : r.catchType ≠ 0)
    (hl : S.vm.ClassLinks e.platform f.method.cls r.catchType k) (hce : S.heap[a]? = some ce) (ho : ∀ j, ce.vm ≠ .statics j) (h1 : ∃ j, S.vm.classes[ce.cls]? = some j) (h2 : ∃ j, S.vm.classes[k]? = some j)
    (hy : S.vm.assignable ce.cls k = true) (Q : Handler → Pre) (E : CtlPost) (d : Bool) (acts : List Action) :
    wp (findHandler.go f a (r :: rs)) Q E e d acts S ↔ Q (.found r.handlerPc) d acts (S.setVm (S.vm.noted f.method.cls r.catchType (.cls k))) := by
  simp only [covers] at hr
  obtain ⟨q1, q2⟩ := (resolveClass_links e.toSetting hl).op (op := VmOp.resolveClass f.method.cls r.catchType) rfl
  have hal : S.vm.Alike (S.vm.noted f.method.cls r.catchType (.cls k)) := (Vm.Alike.refl S.vm).noted _ _ _
  obtain ⟨j1, h1⟩ := h1
  obtain ⟨j2, h2⟩ := h2
  obtain ⟨i1, g1, -⟩ := hal.2.2 _ _ h1
  obtain ⟨i2, g2, -⟩ := hal.2.2 _ _ h2
  have hy2 : (S.vm.noted f.method.cls r.catchType (.cls k)).assignable ce.cls k = true := by rw [hal.assignable]; exact hy
  simp [findHandler.go, hr, h0, q1, q2, hce, ho, g1, g2, hy2, VmOp.dirties, VmOp.acts]
/-- the search over one row that covers the place but names another class -/
theorem cx_pass {e : Env} {S : State} {f : JFrame} {a : Addr} {r : ExceptionTableEntry} {rs : List ExceptionTableEntry} {k : ClassId} {ce : Cell} (hr : covers r f.pc = true) (h0 : r.catchType ≠ 0)
    (hl : S.vm.ClassLinks e.platform f.method.cls r.catchType k) (hce : S.heap[a]? = some ce) (ho : ∀ j, ce.vm ≠ .statics j) (h1 : ∃ j, S.vm.classes[ce.cls]? = some j) (h2 : ∃ j, S.vm.classes[k]? = some j)
    (hy : S.vm.assignable ce.cls k = false) (Q : Handler → Pre) (E : CtlPost) (d : Bool) (acts : List Action) :
    wp (findHandler.go f a (r :: rs)) Q E e d acts S ↔ wp (findHandler.go f a rs) Q E e d acts (S.setVm (S.vm.noted f.method.cls r.catchType (.cls k))) := by
  simp only [covers] at hr
  obtain ⟨q1, q2⟩ := (resolveClass_links e.toSetting hl).op (op := VmOp.resolveClass f.method.cls r.catchType) rfl
  have hal : S.vm.Alike (S.vm.noted f.method.cls r.catchType (.cls k)) := (Vm.Alike.refl S.vm).noted _ _ _
  obtain ⟨j1, h1⟩ := h1
  obtain ⟨j2, h2⟩ := h2
  obtain ⟨i1, g1, -⟩ := hal.2.2 _ _ h1
  obtain ⟨i2, g2, -⟩ := hal.2.2 _ _ h2
  have hy2 : (S.vm.noted f.method.cls r.catchType (.cls k)).assignable ce.cls k = false := by rw [hal.assignable]; exact hy
  simp [findHandler.go, hr, h0, q1, q2, hce, ho, g1, g2, hy2, VmOp.dirties, VmOp.acts]
def cx_ok (pl : Platform) (s : State) (d : ClassId) (pc : Nat) (th : ClassId) (y : ExceptionTableEntry) : Prop := covers y pc = false ∨ (y.catchType ≠ 0 ∧ ∃ c, s.vm.ClassLinks pl d y.catchType c ∧ s.vm.assignable th c = false)
/-- the whole search -/
theorem cx_go {e : Env} {s : State} {f : JFrame} {a : Addr} {ce : Cell} (ho : ∀ j, ce.vm ≠ .statics j) (hk : ∃ j, s.vm.classes[ce.cls]? = some j) (r : ExceptionTableEntry) (rs : List ExceptionTableEntry) (hr : covers r f.pc = true) (h0 : r.catchType ≠ 0)
    {k : ClassId} (hl : s.vm.ClassLinks e.platform f.method.cls r.catchType k) (hy : s.vm.assignable ce.cls k = true) :
    ∀ (ps : List ExceptionTableEntry) (S : State), s.WarmedH S.vm → S.heap[a]? = some ce → (∀ y ∈ ps, cx_ok e.platform s f.method.cls f.pc ce.cls y) →
      ∃ v, s.WarmedH v ∧ ∀ (Q : Handler → Pre) (E : CtlPost) (d : Bool) (acts : List Action), wp (findHandler.go f a (ps ++ r :: rs)) Q E e d acts S ↔ Q (.found r.handlerPc) d acts (S.setVm v) := by
  obtain ⟨j0, hk⟩ := hk
  intro ps
  induction ps with
  | nil =>
    intro S hW hce _
    obtain ⟨i0, g0, -⟩ := hW.alike.2.2 _ _ hk
    obtain ⟨_, _, _, kt, hd, _, _, _, _, hkt, _, hopen⟩ := hl.here
    obtain ⟨i1, g1, -⟩ := hW.alike.2.2 _ _ hkt
    exact ⟨_, hW.noted hd hopen (State.rightAt_cls hl), fun Q E d acts => by
      rw [List.nil_append]
      exact cx_take hr h0 (hW.classLinks hl) hce ho ⟨i0, g0⟩ ⟨i1, g1⟩ (by rw [hW.alike.assignable]; exact hy) Q E d acts⟩
  | cons y ys ih =>
    intro S hW hce hp
    have hps : ∀ z ∈ ys, cx_ok e.platform s f.method.cls f.pc ce.cls z := fun z hz => hp z (List.mem_cons_of_mem _ hz)
    obtain ⟨i0, g0, -⟩ := hW.alike.2.2 _ _ hk
    by_cases hc : covers y f.pc = true
    · rcases hp y List.mem_cons_self with h | ⟨z0, c, zl, zn⟩
      · rw [h] at hc; cases hc
      · obtain ⟨_, _, _, kt, hd, _, _, _, _, hkt, _, hopen⟩ := zl.here
        obtain ⟨i1, g1, -⟩ := hW.alike.2.2 _ _ hkt
        obtain ⟨v, hv, hq⟩ := ih (S.setVm (S.vm.noted f.method.cls y.catchType (.cls c))) (hW.noted hd hopen (State.rightAt_cls zl)) hce hps
        exact ⟨v, hv, fun Q E d acts => by
          rw [List.cons_append, cx_pass hc z0 (hW.classLinks zl) hce ho ⟨i0, g0⟩ ⟨i1, g1⟩ (by rw [hW.alike.assignable]; exact zn)]
          exact hq Q E d acts⟩
    · obtain ⟨v, hv, hq⟩ := ih S hW hce hps
      exact ⟨v, hv, fun Q E d acts => by
        rw [List.cons_append, Jvm.W.findHandler_go_skip (by simpa using hc)]
        exact hq Q E d acts⟩
section
variable {p : Program} {l : Launch} {e : Env} {R : Room} {s : State} {m : MethodId} {args : Array Value} {below : List Frame} {meth : Method} {c : Code} {H : Heap} {locs : List Loc} {cells slots : Nat} {Q : State → Prop} {pc : Nat} {ls : Array Slot} {rest : List Value}
/-- caught by the row r of this method's table; the rows ahead of it don't take it -/
theorem cx_catch {own name : String} {E : String} {ce : Cell} {q : Addr} (hown : s.vm.findClass own = some m.cls) (ps : List ExceptionTableEntry) (r : ExceptionTableEntry) (rs : List ExceptionTableEntry) (hsplit : c.exceptionTable.toList = ps ++ r :: rs)
    (hpass : ∀ z ∈ ps, covers z pc = false ∨ (z.catchType ≠ 0 ∧ ∃ nm : String, (Cond.classLink own z.catchType nm).before args s = true ∧ va_Nc E nm s)) (hr : covers r pc = true) (h0 : r.catchType ≠ 0)
    (hlink : (Cond.classLink own r.catchType name).before args s = true) (hcast : (Cond.castable E name).before args s = true) (hcell : H[q]? = some ce) (hv : ce.vm = .none) (hcl : s.vm.findClass E = some ce.cls)
    (kk : W p l e R s m args below meth c H locs cells slots Q (F0 m r.handlerPc ls [.ref q])) : vx_W p l e R s m args below meth c H locs cells slots Q (F0 m pc ls rest) q := by
  intro T hT X
  have hpl : e.platform.magicAccessors = ({} : Platform).magicAccessors := by rw [X.admits.platform]
  obtain ⟨c3, c4, hc3, hc4, hasg⟩ := Cond.castable_spec hcast
  cases Option.some.inj (hc3.symm.trans hcl)
  obtain ⟨c5, hc5, hcl5⟩ := Cond.classLink_spec hown hlink e.platform hpl
  cases Option.some.inj (hc4.symm.trans hc5)
  have hkk : ∃ j, s.vm.classes[ce.cls]? = some j := by obtain ⟨k9, h9, -⟩ := Vm.findClass_spec hcl; exact ⟨k9, h9⟩
  obtain ⟨v, hW, hq⟩ := cx_go (e := e) (s := s) (f := F0 m pc ls rest) (a := q) (ce := ce) (fun j h => by rw [hv] at h; cases h) hkk r rs hr h0 hcl5 hasg ps ((T.setTop (F0 m pc ls rest)).pushFrame (.throwing q)) X.warmed (by show T.heap[q]? = some ce; rw [hT]; exact hcell)
    (fun z hz => by
      rcases hpass z hz with h | ⟨hz0, nm, hl1, hn1⟩
      · exact Or.inl h
      · obtain ⟨c6, hc6, hcl6⟩ := Cond.classLink_spec hown hl1 e.platform hpl
        obtain ⟨a8, b8, h1, h2, h3⟩ := hn1
        cases Option.some.inj (h1.symm.trans hcl)
        cases Option.some.inj (h2.symm.trans hc6)
        exact Or.inr ⟨hz0, _, hcl6, h3⟩)
  have X' := X.noted hW
  obtain ⟨t, a1, b1⟩ := kk (T.setVm v) hT X'
  refine ⟨t, ?_, b1⟩
  have hm : ((T.setTop (F0 m pc ls rest)).pushFrame (.throwing q)).vm.method? m = some meth := X.method'
  obtain ⟨hgo, hw⟩ := X.here.throwing (g := F0 m pc ls rest) q
  refine Steps.head hgo hw ?_
  rw [stepThread_throwing (frames_entered X.here.top _)]
  have hfind : ∀ (Q : Handler → Pre) (E : CtlPost) (d : Bool) (acts : List Action), wp (findHandler (F0 m pc ls rest) q) Q E e d acts ((T.setTop (F0 m pc ls rest)).pushFrame (.throwing q)) ↔ Q (.found r.handlerPc) d acts (((T.setTop (F0 m pc ls rest)).pushFrame (.throwing q)).setVm v) := fun Q E d acts => by
    rw [Jvm.W.findHandler_eq hm X.code, hsplit]
    exact hq Q E d acts
  have hst : (stepThrowing e ((T.setTop (F0 m pc ls rest)).pushFrame (.throwing q)) q (.java (F0 m pc ls rest) :: T.frames.tail)).1 = (((T.setTop (F0 m pc ls rest)).pushFrame (.throwing q)).setVm v).setFrames (.java (F0 m r.handlerPc ls [.ref q]) :: T.frames.tail) := by
    simp only [stepThrowing, searchFrame, vmDo]
    generalize hr9 : Sem.go _ e false [] _ = res
    obtain ⟨as, rfl, -⟩ := Sem.eq_ok_of hr9 (a := Handler.found r.handlerPc) (s' := ((T.setTop (F0 m pc ls rest)).pushFrame (.throwing q)).setVm v) (acts' := []) (by simp [hfind _ _ _ _])
    rfl
  rw [hst]
  obtain ⟨g₀, hg⟩ := Option.isSome_iff_exists.mp X.here.top
  obtain ⟨rr, hrr⟩ := State.topJava?_eq_some.mp hg
  have hr' : (T.setVm v).frames = .java g₀ :: rr := hrr
  rw [State.setTop_of_frames _ hr'] at a1
  have hfin : (((T.setTop (F0 m pc ls rest)).pushFrame (.throwing q)).setVm v).setFrames (.java (F0 m r.handlerPc ls [.ref q]) :: T.frames.tail) = (T.setVm v).setFrames (.java (F0 m r.handlerPc ls [.ref q]) :: rr) := by
    have e1 : ∀ (u : State) (F G : List Frame), ((u.setFrames F).setVm v).setFrames G = (u.setVm v).setFrames G := fun u F G => by
      have h1 : (u.setFrames F).setVm v = (u.setVm v).setFrames F := rfl
      rw [h1, State.setFrames_setFrames]
    rw [hrr, List.tail_cons, State.pushFrame, e1, State.setTop_of_frames _ hrr, e1]
  rw [hfin]
  exact a1
end
end CX
