/-! a throw that is caught: the search through the rows of the method's own table, their classes resolved or not yet -/
section Found
variable {e : Env} {s S : State} {f : JFrame} {q : Addr} {ce : Cell} {x : ExceptionTableEntry}
/-- one row that covers the place and links to the class k: k is noted, and then it matters alone whether k takes the thrown object -/
theorem ct_row {t : List ExceptionTableEntry} {k : ClassId} (hx : covers x f.pc = true) (h0 : x.catchType ≠ 0)
    (hl : S.vm.ClassLinks e.platform f.method.cls x.catchType k) (hq : S.heap[q]? = some ce) (hv : ∀ n, ce.vm ≠ .statics n)
    (h1 : ∃ y, S.vm.classes[ce.cls]? = some y) (h2 : ∃ y, S.vm.classes[k]? = some y) (Q : Handler → Pre) (E : CtlPost) (d : Bool) (acts : List Action) :
    wp (findHandler.go f q (x :: t)) Q E e d acts S ↔
      (bif S.vm.assignable ce.cls k then Q (.found x.handlerPc) d acts (S.setVm (S.vm.noted f.method.cls x.catchType (.cls k)))
        else wp (findHandler.go f q t) Q E e d acts (S.setVm (S.vm.noted f.method.cls x.catchType (.cls k)))) := by
  obtain ⟨hop, hst⟩ := (resolveClass_links e.toSetting hl).op (op := VmOp.resolveClass f.method.cls x.catchType) rfl
  have al : S.vm.Alike (S.vm.noted f.method.cls x.catchType (.cls k)) := (Vm.Alike.refl S.vm).noted _ _ _
  obtain ⟨y1, hy1⟩ := h1
  obtain ⟨y2, hy2⟩ := h2
  obtain ⟨z1, hz1, -⟩ := al.2.2 _ _ hy1
  obtain ⟨z2, hz2, -⟩ := al.2.2 _ _ hy2
  have hc : (decide (x.startPc ≤ f.pc) && decide (f.pc < x.endPc)) = true := by simpa only [covers] using hx
  rw [← al.assignable]
  cases hb : (S.vm.noted f.method.cls x.catchType (.cls k)).assignable ce.cls k <;>
    simp [findHandler.go, covers, hx, hc, h0, hop, hst, hq, hv, hz1, hz2, hb, VmOp.dirties, VmOp.acts]
/-- what a row ahead of the one that catches is like -/
def ct_By (e : Env) (s : State) (f : JFrame) (ce : Cell) (z : ExceptionTableEntry) : Prop :=
  covers z f.pc = false ∨ (z.catchType ≠ 0 ∧ ∃ k, s.vm.ClassLinks e.platform f.method.cls z.catchType k ∧ s.vm.assignable ce.cls k = false)
theorem ct_rows {k : ClassId} {suf : List ExceptionTableEntry} (hv : ∀ n, ce.vm ≠ .statics n) (h1 : ∃ y, s.vm.classes[ce.cls]? = some y) (hx : covers x f.pc = true) (h0 : x.catchType ≠ 0)
    (hl : s.vm.ClassLinks e.platform f.method.cls x.catchType k) (ht : s.vm.assignable ce.cls k = true) (pre : List ExceptionTableEntry) :
    ∀ S : State, s.WarmedH S.vm → S.heap[q]? = some ce → (∀ z ∈ pre, ct_By e s f ce z) →
      ∃ v, s.WarmedH v ∧ ∀ (Q : Handler → Pre) (E : CtlPost) (d : Bool) (acts : List Action), wp (findHandler.go f q (pre ++ x :: suf)) Q E e d acts S ↔ Q (.found x.handlerPc) d acts (S.setVm v) := by
  have one : ∀ (S : State) (z : ExceptionTableEntry) (j : ClassId) (t : List ExceptionTableEntry), s.WarmedH S.vm → S.heap[q]? = some ce → covers z f.pc = true → z.catchType ≠ 0 → s.vm.ClassLinks e.platform f.method.cls z.catchType j →
      s.WarmedH (S.vm.noted f.method.cls z.catchType (.cls j)) ∧ ∀ (Q : Handler → Pre) (E : CtlPost) (d : Bool) (acts : List Action), wp (findHandler.go f q (z :: t)) Q E e d acts S ↔
        (bif s.vm.assignable ce.cls j then Q (.found z.handlerPc) d acts (S.setVm (S.vm.noted f.method.cls z.catchType (.cls j)))
          else wp (findHandler.go f q t) Q E e d acts (S.setVm (S.vm.noted f.method.cls z.catchType (.cls j)))) := by
    intro S z j t hW hq hc hn hj
    obtain ⟨_, _, _, w2, hd, _, _, _, _, hw2, _, ho⟩ := hj.here
    obtain ⟨w1, hw1⟩ := h1
    obtain ⟨u1, hu1, -⟩ := hW.alike.2.2 _ _ hw1
    obtain ⟨u2, hu2, -⟩ := hW.alike.2.2 _ _ hw2
    refine ⟨hW.noted hd ho (State.rightAt_cls hj), fun Q E d acts => ?_⟩
    rw [ct_row hc hn (hW.classLinks hj) hq hv ⟨u1, hu1⟩ ⟨u2, hu2⟩, hW.alike.assignable]
  induction pre with
  | nil =>
    intro S hW hq _
    obtain ⟨hw, r⟩ := one S x k suf hW hq hx h0 hl
    exact ⟨_, hw, fun Q E d acts => (r Q E d acts).trans (by rw [ht]; exact Iff.rfl)⟩
  | cons z zs ih =>
    intro S hW hq hby
    cases hc : covers z f.pc with
    | false =>
      obtain ⟨v, hw, r⟩ := ih S hW hq fun y hy => hby y (List.mem_cons_of_mem _ hy)
      exact ⟨v, hw, fun Q E d acts => by rw [List.cons_append, W.findHandler_go_skip hc]; exact r Q E d acts⟩
    | true =>
      rcases hby z List.mem_cons_self with h | ⟨hn, j, hj, hno⟩
      · exact absurd (hc.symm.trans h) (by decide)
      · obtain ⟨hw, r⟩ := one S z j (zs ++ x :: suf) hW hq hc hn hj
        obtain ⟨v, hw', r'⟩ := ih (S.setVm (S.vm.noted f.method.cls z.catchType (.cls j))) hw hq fun y hy => hby y (List.mem_cons_of_mem _ hy)
        exact ⟨v, hw', fun Q E d acts => (r Q E d acts).trans (by rw [hno]; exact r' Q E d acts)⟩
end Found
section Rows
variable {p : Program} {l : Launch} {e : Env} {R : Room} {s : State} {m : MethodId} {args : Array Value} {below : List Frame} {meth : Method} {c : Code} {H : Heap} {locs : List Loc} {cells slots : Nat} {Q : State → Prop}
variable {mc ms : Nat} {free : Addr → Prop} {A0 A1 : Nat → Prop} {H0 : Heap} {a : Array Value} {pc : Nat} {ls : Array Slot} {st0 rest : List Value}
/-- the step from the throw to the handler that the search has found, the tables noted on the way -/
theorem ct_step {T : State} {g : JFrame} {q : Addr} {v : Vm} {at9 : Nat} (X : Stand p l e R s m args below meth c T locs cells slots) (hg : g.method = m)
    (hf : ∀ (Q : Handler → Pre) (E : CtlPost) (d : Bool) (acts : List Action), wp (findHandler g q) Q E e d acts ((T.setTop g).pushFrame (.throwing q)) ↔ Q (.found at9) d acts (((T.setTop g).pushFrame (.throwing q)).setVm v)) :
    Steps p.tables e below ((T.setTop g).pushFrame (.throwing q)) ((T.setVm v).setTop { g with pc := at9, stack := [.ref q] }) := by
  have hat : At T g.method c below := hg ▸ X.here
  obtain ⟨hgo, hw⟩ := hat.throwing q
  obtain ⟨g0, hg0⟩ := Option.isSome_iff_exists.mp hat.top
  obtain ⟨r, hr⟩ := State.topJava?_eq_some.mp hg0
  have hstep : ∀ r9 : List Frame, (stepThrowing e ((T.setTop g).pushFrame (.throwing q)) q (.java g :: r9)).Is ((((T.setTop g).pushFrame (.throwing q)).setVm v).setFrames (.java { g with pc := at9, stack := [.ref q] } :: r9)) [] := by
    intro r9
    simp only [stepThrowing, searchFrame, vmDo]
    generalize h9 : Sem.go _ e false [] ((T.setTop g).pushFrame (.throwing q)) = o
    obtain ⟨as, rfl, ha⟩ := Sem.eq_ok_of h9 (a := Handler.found at9) (s' := ((T.setTop g).pushFrame (.throwing q)).setVm v) (acts' := []) (by simp [hf _ _ _ _])
    exact ⟨rfl, ha⟩
  refine Steps.head hgo hw ?_
  rw [stepThread_throwing (frames_entered hat.top _), (hstep _).1]
  have hr' : (T.setVm v).frames = .java g0 :: r := hr
  have same : ∀ F : List Frame, (((T.setTop g).pushFrame (.throwing q)).setVm v).setFrames F = (T.setVm v).setFrames F := by
    intro F
    rw [State.pushFrame, State.setTop_of_frames _ hr, State.setFrames_setFrames]
    exact State.setFrames_setFrames (T.setVm v) _ F
  rw [State.setTop_of_frames _ hr', hr, List.tail_cons, same]
  exact Steps.refl _
/-- caught by the row x of this method's table; the rows ahead don't take it -/
theorem vx_catch {own name : String} {E : String} {ce : Cell} {q : Addr} (hown : s.vm.findClass own = some m.cls) (pre : List ExceptionTableEntry) (x : ExceptionTableEntry) (suf : List ExceptionTableEntry) (hsplit : c.exceptionTable.toList = pre ++ x :: suf)
    (hpass : ∀ z ∈ pre, covers z pc = false ∨ (z.catchType ≠ 0 ∧ ∃ nm : String, (Cond.classLink own z.catchType nm).before args s = true ∧ va_Nc E nm s)) (hx : covers x pc = true) (h0 : x.catchType ≠ 0)
    (hlink : (Cond.classLink own x.catchType name).before args s = true) (hcast : (Cond.castable E name).before args s = true) (hcell : H[q]? = some ce) (hv : ce.vm = .none) (hcl : s.vm.findClass E = some ce.cls)
    (kk : W p l e R s m args below meth c H locs cells slots Q (F0 m x.handlerPc ls [.ref q])) : vx_W p l e R s m args below meth c H locs cells slots Q (F0 m pc ls rest) q := by
  intro T hT X
  have hpl : e.platform.magicAccessors = ({} : Platform).magicAccessors := by rw [X.admits.platform]
  obtain ⟨c3, c4, hc3, hc4, hasg⟩ := Cond.castable_spec hcast
  cases Option.some.inj (hc3.symm.trans hcl)
  obtain ⟨c5, hc5, hcl5⟩ := Cond.classLink_spec hown hlink e.platform hpl
  cases Option.some.inj (hc4.symm.trans hc5)
  obtain ⟨k9, hk9, -⟩ := Vm.findClass_spec hcl
  obtain ⟨vm', hw, hf⟩ := ct_rows (e := e) (s := s) (f := F0 m pc ls rest) (q := q) (ce := ce) (x := x) (k := c4) (suf := suf) (by rw [hv]; exact fun n h => nomatch h) ⟨k9, hk9⟩ hx h0 hcl5 hasg pre ((T.setTop (F0 m pc ls rest)).pushFrame (.throwing q))
    (by rw [Stand.throwing_vm]; exact X.warmed) (by rw [Stand.throwing_heap, hT]; exact hcell)
    (fun z hz => by
      rcases hpass z hz with h | ⟨hz0, nm, hl1, hn1⟩
      · exact Or.inl h
      · obtain ⟨c6, hc6, hcl6⟩ := Cond.classLink_spec hown hl1 e.platform hpl
        obtain ⟨a8, b8, h1, h2, h3⟩ := hn1
        cases Option.some.inj (h1.symm.trans hcl)
        cases Option.some.inj (h2.symm.trans hc6)
        exact Or.inr ⟨hz0, _, hcl6, h3⟩)
  have X' := X.noted hw
  have st := ct_step (v := vm') (at9 := x.handlerPc) X (g := F0 m pc ls rest) (q := q) rfl (fun Q E d acts => by
    rw [W.findHandler_eq (meth := meth) (code := c) (by rw [Stand.throwing_vm]; exact X.method') X.code, hsplit]
    exact hf Q E d acts)
  obtain ⟨t, a1, b1⟩ := kk (T.setVm vm') hT X'
  exact ⟨t, st.trans a1, b1⟩
end Rows
