/-! where a jump may go: constraints and target, for each way -/
def tgtOf (pc : Nat) (off : Int) : Option Nat := if 0 ≤ (pc : Int) + off then some ((pc : Int) + off).toNat else none
theorem tgtOf_ok {pc t : Nat} {off : Int} (h : tgtOf pc off = some t) : (pc : Int) + off = (t : Int) := by
  unfold tgtOf at h
  split at h
  next h0 => cases h; omega
  next => cases h
def swC (pc : Nat) (e : LE) (lo : Int) : List Int → Option (List (List LE × Nat))
  | [] => some []
  | o :: r => match tgtOf pc o, swC pc e (lo + 1) r with
    | some t, some q => some (([ePlus e (-lo), ePlus (eSc (-1) e) lo], t) :: q)
    | _, _ => none
theorem swC_ok {pc : Nat} {e : LE} : ∀ {os : List Int} {lo : Int} {q : List (List LE × Nat)} {j : Nat} {o : Int}, swC pc e lo os = some q → os[j]? = some o → ∃ t : Nat, (pc : Int) + o = (t : Int) ∧ ([ePlus e (-(lo + j)), ePlus (eSc (-1) e) (lo + j)], t) ∈ q
  | o' :: os, lo, q, j, o, h, hj => by
    unfold swC at h
    split at h
    next t q' h1 h2 =>
      cases h
      cases j with
      | zero =>
        rw [List.getElem?_cons_zero] at hj
        cases hj
        refine ⟨t, tgtOf_ok h1, ?_⟩
        simp
      | succ j =>
        rw [List.getElem?_cons_succ] at hj
        obtain ⟨t', a, b⟩ := swC_ok h2 hj
        refine ⟨t', a, List.mem_cons_of_mem _ ?_⟩
        rw [show lo + ((j + 1 : Nat) : Int) = lo + 1 + (j : Int) by omega]
        exact b
    next => cases h
  | [], lo, q, j, o, h, hj => by simp at hj
def alts (pc : Nat) (i : Instr) (len : Nat) (g : Ctx) (st : List SV) : Option (List (List LE × Nat) × List SV) := match i with
  | .goto off => if len = 3 then (tgtOf pc off).map fun t => ([([], t)], st) else none
  | .tableswitch d lo hi offs => match st with
    | some (.inr (.inl e)) :: r => match tgtOf pc d, swC pc e lo offs.toList with
      | some t, some q => if (hi : Int) - lo + 1 = (offs.size : Int) then some (q ++ [([ePlus (eSc (-1) e) (lo - 1)], t), ([ePlus e (-hi - 1)], t)], r) else none
      | _, _ => none
    | _ => none
  | i => match brk i, st with
    | some (op, false, off), some (.inr (.inl e)) :: r => match tgtOf pc off with
      | some t => if len = 3 then some ([((brC op g e).1, t), ((brC op g e).2, pc + 3)], r) else none
      | none => none
    | some (op, true, off), some (.inr (.inl e2)) :: some (.inr (.inl e1)) :: r => match tgtOf pc off with
      | some t => if len = 3 then some ([((brC op g (eSub e1 e2)).1, t), ((brC op g (eSub e1 e2)).2, pc + 3)], r) else none
      | none => none
    | _, _ => none
section Rows
variable {p : Program} {l : Launch} {e : Env} {R : Room} {s : State} {m : MethodId} {args : Array Value} {below : List Frame} {meth : Method} {c : Code} {H : Heap} {locs : List Loc} {cells slots : Nat} {Q : State → Prop}
variable {cc : ByteArray} {pc : Nat} {ads : List Nat} {v : List Int} {ls : Array Slot} {nL : Nat} {stk : List Value}
theorem alts_ok (hexec : p.tables.exec = Jvm.exec) (hb : c.code = cc) {i : Instr} {len : Nat} {g : Ctx} {st st' : List SV} {al : List (List LE × Nat)} (h : alts pc i len g st = some (al, st')) (hdg : decode cc pc = .ok (i, len)) (hx : SX v g) (hS : FS ads v st stk)
    (kk : ∀ stk', FS ads v st' stk' → ∀ q ∈ al, SC v q.1 → W p l e R s m args below meth c H locs cells slots Q (F0 m q.2 ls stk')) : W p l e R s m args below meth c H locs cells slots Q (F0 m pc ls stk) := by
  unfold alts at h
  split at h
  · split at h
    next hl =>
      subst hl
      obtain ⟨t, ht, e1⟩ := Option.map_eq_some_iff.mp h
      cases e1
      exact lv_goto hexec hb hdg (tgtOf_ok ht) (kk _ hS ([], t) List.mem_cons_self (fun _ h => by cases h))
    next => cases h
  · rename_i d lo hi offs
    split at h
    next le r =>
      split at h
      next t q h1 h2 =>
        split at h
        next hsz =>
          cases h
          obtain ⟨x, rest, rfl, ⟨n, rfl, hv⟩, hr⟩ := hS.cons_inv
          by_cases ha : n.toInt < lo
          · refine lv_tableOut hexec hb hdg (Or.inl ha) (tgtOf_ok h1) (kk _ hr ([ePlus (eSc (-1) le) (lo - 1)], t) (by simp) (SC.mk1 (EV.plus (EV.sc hv)) (by omega)))
          · by_cases hb2 : hi < n.toInt
            · refine lv_tableOut hexec hb hdg (Or.inr hb2) (tgtOf_ok h1) (kk _ hr ([ePlus le (-hi - 1)], t) (by simp) (SC.mk1 (EV.plus hv) (by omega)))
            · have hj : (n.toInt - lo).toNat < offs.toList.length := by rw [Array.length_toList]; omega
              obtain ⟨o, ho⟩ : ∃ o, offs.toList[(n.toInt - lo).toNat]? = some o := ⟨_, List.getElem?_eq_getElem hj⟩
              obtain ⟨t', a1, a2⟩ := swC_ok h2 ho
              refine lv_tableIn hexec hb hdg ha hb2 (by rw [← Array.getElem?_toList]; exact ho) a1 (kk _ hr _ (List.mem_append_left _ a2) ?_)
              exact SC.mk2 (EV.plus hv) (by omega) (EV.plus (EV.sc hv)) (by omega)
        next => cases h
      next => cases h
    next => cases h
  · split at h
    next op off le r hk =>
      split at h
      next t ht =>
        split at h
        next hl =>
          subst hl
          cases h
          obtain ⟨x, rest, rfl, ⟨n, rfl, hv⟩, hr⟩ := hS.cons_inv
          exact br1_ok hexec hb hk hdg (tgtOf_ok ht) (fun hp => kk _ hr ((brC op g le).1, t) List.mem_cons_self ((brC_ok hx hv).1 hp)) (fun hp => kk _ hr ((brC op g le).2, pc + 3) (List.mem_cons_of_mem _ List.mem_cons_self) ((brC_ok hx hv).2 hp))
        next => cases h
      next => cases h
    next op off e2 e1 r hk =>
      split at h
      next t ht =>
        split at h
        next hl =>
          subst hl
          cases h
          obtain ⟨x, rest, rfl, ⟨n, rfl, hv⟩, hr⟩ := hS.cons_inv
          obtain ⟨x2, rest2, rfl, ⟨n2, rfl, hv2⟩, hr2⟩ := hr.cons_inv
          exact br2_ok hexec hb hk hdg (tgtOf_ok ht) (fun hp => kk _ hr2 ((brC op g (eSub e1 e2)).1, t) List.mem_cons_self ((brC_ok hx (hv2.sub hv)).1 hp)) (fun hp => kk _ hr2 ((brC op g (eSub e1 e2)).2, pc + 3) (List.mem_cons_of_mem _ List.mem_cons_self) ((brC_ok hx (hv2.sub hv)).2 hp))
        next => cases h
      next => cases h
    next => cases h
end Rows
/-! fields and arrays -/
def CLok (TB : List Cond) (cl : List vw_C) (ty : Nat → Nat → FieldType) : Prop := ∀ (ci : Nat) (r : vw_C), cl[ci]? = some r → (∀ w ∈ u_ws r.1 r.2.1 r.2.2, w ∈ TB) ∧ (∀ k, k < r.2.2 → parseFieldDescriptor (r.2.1 k).2.2.1 = some (ty ci k)) ∧ (∀ a, a < r.2.2 → ∀ b, b < r.2.2 → a ≠ b → (r.2.1 a).2.1 ≠ (r.2.1 b).2.1)
/-- field links of a class: (index, class, field, final) -/
def FLok (TB : List Cond) (own : String) (cl : List vw_C) (FL : List (Nat × Nat × Nat × Bool)) : Prop := ∀ q ∈ FL, ∃ r : vw_C, cl[q.2.1]? = some r ∧ q.2.2.1 < r.2.2 ∧ Cond.fieldLink own q.1 r.1 (r.2.1 q.2.2.1).2.1 (r.2.1 q.2.2.1).2.2.1 ∈ TB ∧ (r.2.1 q.2.2.1).1 = r.1 ∧ (r.2.1 q.2.2.1).2.2.2 = q.2.2.2 ∧ (q.2.2.2 = true → r.1 = own)
def fnd {α : Type} (ix : Nat) : List (Nat × α) → Option α
  | [] => none
  | (j, x) :: r => if j = ix then some x else fnd ix r
theorem fnd_mem {α : Type} {ix : Nat} {x : α} : ∀ {t : List (Nat × α)}, fnd ix t = some x → (ix, x) ∈ t
  | (j, y) :: r, h => by
    unfold fnd at h
    split at h
    next hj => cases h; subst hj; exact List.mem_cons_self
    next => exact List.mem_cons_of_mem _ (fnd_mem h)
def getF (FL : List (Nat × Nat × Nat × Bool)) (ix : Nat) (st : List SV) (sh : SH) : Option (List SV) := match st with
  | some (.inl k) :: r => match fnd ix FL, sh[k]? with
    | some (ci, fk, _), some (some (.inr (ci', fs))) => if ci = ci' then (fs[fk]?).map fun x => x :: r else none
    | _, _ => none
  | _ => none
def ptOk (g : Ctx) (ty : FieldType) (sv : SV) : Bool := match ty, sv with
  | .int, some (.inr (.inl _)) => true
  | .boolean, some (.inr (.inl e)) => decide (0 ≤ (ivn g e).1) && decide ((ivn g e).2 ≤ 1)
  | .object _, some (.inl _) => true
  | .array _, some (.inl _) => true
  | _, _ => false
theorem i32_01 {n : Int32} (h1 : 0 ≤ n.toInt) (h2 : n.toInt ≤ 1) : n = 0 ∨ n = 1 := by
  rcases (show n.toInt = 0 ∨ n.toInt = 1 by omega) with h | h
  · left; exact i32_eq0.mpr h
  · right; exact Int32.toInt_inj.mp h
theorem ptOk_ok {v : List Int} {g : Ctx} (hx : SX v g) {ty : FieldType} {sv : SV} (h : ptOk g ty sv = true) {ads : List Nat} {x : Value} (hv : VS ads v sv x) : narrow ty x = x ∧ fits ty x = true := by
  unfold ptOk at h
  split at h
  · obtain ⟨n, rfl, -⟩ := hv
    exact ⟨rfl, rfl⟩
  · obtain ⟨n, rfl, hn⟩ := hv
    simp only [Bool.and_eq_true, decide_eq_true_eq] at h
    have := ivn_ok hx hn
    rcases i32_01 (n := n) (by omega) (by omega) with rfl | rfl
    · exact ⟨narrow_b0, rfl⟩
    · exact ⟨narrow_b1, rfl⟩
  · obtain ⟨a, -, rfl⟩ := hv
    exact ⟨rfl, rfl⟩
  · obtain ⟨a, -, rfl⟩ := hv
    exact ⟨rfl, rfl⟩
  · cases h
def putF (FL : List (Nat × Nat × Nat × Bool)) (ty : Nat → Nat → FieldType) (ini : Bool) (ix : Nat) (g : Ctx) (st : List SV) (sh : SH) : Option (List SV × SH) := match st with
  | sv :: some (.inl k) :: r => match fnd ix FL, sh[k]? with
    | some (ci, fk, fin), some (some (.inr (ci', fs))) => if ci = ci' ∧ fk < fs.length ∧ ptOk g (ty ci fk) sv = true ∧ (fin = true → ini = true) then some (r, sh.set k (some (.inr (ci, fs.set fk sv)))) else none
    | _, _ => none
  | _ => none
section Rows2
variable {p : Program} {l : Launch} {e : Env} {R : Room} {s : State} {m : MethodId} {args : Array Value} {below : List Frame} {meth : Method} {c : Code} {H : Heap} {locs : List Loc} {cells slots : Nat} {Q : State → Prop}
variable {cc : ByteArray} {pc : Nat} {ads : List Nat} {v : List Int} {ls : Array Slot} {nL : Nat} {stk : List Value}
variable {TB : List Cond} {cl : List vw_C} {D : va_G} {cy : Nat → ClassId} {own : String} {w0 ws : va_W} {A : Nat → Prop} {FL : List (Nat × Nat × Nat × Bool)} {ty : Nat → Nat → FieldType}
theorem getF_ok (hexec : p.tables.exec = Jvm.exec) (hb : c.code = cc) (hts : ∀ w ∈ TB, w.before args s = true) (hcl : CLok TB cl ty) (hfl : FLok TB own cl FL) (hown : s.vm.findClass own = some m.cls) (hK : va_K D cl (tysOf cy) s) (hP : va_P D cl ws H)
    {ix : Nat} {st st' : List SV} {sh : SH} (h : getF FL ix st sh = some st') (hS : FS ads v st stk) (hH : HS cy ads v w0 sh ws) (hdg : decode cc pc = .ok (.getfield ix, 3))
    (kk : ∀ stk', FS ads v st' stk' → W p l e R s m args below meth c H locs cells slots Q (F0 m (pc + 3) ls stk')) : W p l e R s m args below meth c H locs cells slots Q (F0 m pc ls stk) := by
  unfold getF at h
  split at h
  next k r =>
    split at h
    next ci fk fin ci' fs h1 h2 =>
      split at h
      next hci =>
        subst hci
        obtain ⟨x, hx, e1⟩ := Option.map_eq_some_iff.mp h
        cases e1
        obtain ⟨y, rest, rfl, ⟨a, ha, rfl⟩, hr⟩ := hS.cons_inv
        obtain ⟨ee, g1, vs, rfl, g2⟩ := hH.get h2 ha
        obtain ⟨x', g3, g4⟩ := g2.get hx
        obtain ⟨q, c1, c2, c3, c4, -, -⟩ := hfl _ (fnd_mem h1)
        exact va_get hexec hb hts (hcl _ _ c1).1 hown hK hP k g1 c1 fk c2 (hts _ c3) (fun z hz => by rw [c4] at hz; exact hz) g3 hdg (kk _ ⟨g4, hr⟩)
      next => cases h
    next => cases h
  next => cases h
theorem putF_ok (hexec : p.tables.exec = Jvm.exec) (hb : c.code = cc) (hts : ∀ w ∈ TB, w.before args s = true) (hcl : CLok TB cl ty) (hfl : FLok TB own cl FL) (hown : s.vm.findClass own = some m.cls) (hK : va_K D cl (tysOf cy) s) (hP : va_P D cl ws H) (hD : va_D A ws) (hSS : va_S A s.heap H locs) {ini : Bool} (hini : ini = true → meth.name = "<init>")
    {ix : Nat} {g : Ctx} (hx : SX v g) {st st' : List SV} {sh sh' : SH} (h : putF FL ty ini ix g st sh = some (st', sh')) (hS : FS ads v st stk) (hH : HS cy ads v w0 sh ws) (hdg : decode cc pc = .ok (.putfield ix, 3))
    (kk : ∀ stk' ws' H1 locs1, FS ads v st' stk' → HS cy ads v w0 sh' ws' → va_P D cl ws' H1 → va_D A ws' → va_S A s.heap H1 locs1 → W p l e R s m args below meth c H1 locs1 cells slots Q (F0 m (pc + 3) ls stk')) : W p l e R s m args below meth c H locs cells slots Q (F0 m pc ls stk) := by
  unfold putF at h
  split at h
  next sv k r =>
    split at h
    next ci fk fin ci' fs h1 h2 =>
      split at h
      next hci =>
        obtain ⟨rfl, hfk, hpt, hfin⟩ := hci
        cases h
        obtain ⟨y, rest, rfl, hsv, hr⟩ := hS.cons_inv
        obtain ⟨y2, rest2, rfl, ⟨a, ha, rfl⟩, hr2⟩ := hr.cons_inv
        obtain ⟨ee, g1, vs, rfl, g2⟩ := hH.get h2 ha
        obtain ⟨q, c1, c2, c3, c4, c5, c6⟩ := hfl _ (fnd_mem h1)
        obtain ⟨t1, t2, t3⟩ := hcl _ _ c1
        obtain ⟨n1, n2⟩ := ptOk_ok hx hpt hsv
        have hl : fk < vs.length := by rw [← g2.len]; exact hfk
        have fin' : ∀ (H1 : Heap) (locs1 : List Loc), va_P D cl (ws.set k (a, .inr (ci, vs.set fk y))) H1 → va_D A (ws.set k (a, .inr (ci, vs.set fk y))) → va_S A s.heap H1 locs1 → W p l e R s m args below meth c H1 locs1 cells slots Q (F0 m (pc + 3) ls rest2) := fun H1 locs1 a1 a2 a3 =>
          kk _ _ H1 locs1 hr2 (hH.set g1 ⟨_, rfl, g2.set hsv⟩) a1 a2 a3
        cases fin with
        | false => exact va_put hexec hb hts t1 (ty ci) t2 t3 hown hK hP hD hSS k g1 c1 fk c2 (hts _ c3) (fun z hz => by rw [c4] at hz; exact hz) c5 (t2 fk c2) n1 n2 hl hdg fin'
        | true => exact va_putF hexec hb hts t1 (ty ci) t2 t3 hown hK hP hD hSS k g1 c1 fk c2 (hts _ c3) (fun z hz => by rw [c4] at hz; exact hz) c5 (hini (hfin rfl)) (by rw [c4]; exact c6 rfl) (t2 fk c2) n1 n2 hl hdg fin'
      next => cases h
    next => cases h
  next => cases h
end Rows2
