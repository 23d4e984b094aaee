/-! instructions that touch locals and stack alone -/
def binI (i : Instr) (g : Ctx) (e1 e2 : LE) : Option (Ctx × SV) := match i with
  | .iadd => some (lin g (eAdd e1 e2))
  | .isub => some (lin g (eSub e1 e2))
  | .imul => some (mulS g e1 e2)
  | .iand => some (andI g e1 e2)
  | .ior => some (orI g e1 e2)
  | .ixor => some (full g)
  | .ishl => some (shlI g e1 e2)
  | .ishr => some (shrI g e1 e2)
  | .iushr => some (full g)
  | .idiv => divI g e1 e2
  | .irem => remI g e1 e2
  | _ => none
def isL (i : Instr) : Bool := match i with
  | .ladd => true
  | .lsub => true
  | .lmul => true
  | .land => true
  | .lor => true
  | .lxor => true
  | _ => false
def sLoad (sl : SL) (k : Nat) (st : List SV) : Option (List SV) := match lk sl k with
  | some (some (.inr (.inl e))) => some (vInt e :: st)
  | _ => none
def sLoadL (sl : SL) (k : Nat) (st : List SV) : Option (List SV) := match lk sl k with
  | some (some (.inr (.inr o))) => some (vLong o :: st)
  | _ => none
def sLoadA (sl : SL) (k : Nat) (st : List SV) : Option (List SV) := match lk sl k with
  | some (some (.inl r)) => some (vRef r :: st)
  | _ => none
def simp1 (nL : Nat) (i : Instr) (g : Ctx) (sl : SL) (st : List SV) : Option (Ctx × SL × List SV) := match i with
  | .iconst n => if -128 ≤ n ∧ n < 128 then some (g, sl, vInt (eC n) :: st) else none
  | .bipush n => if -128 ≤ n ∧ n < 128 then some (g, sl, vInt (eC n) :: st) else none
  | .sipush n => if -32768 ≤ n ∧ n < 32768 then some (g, sl, vInt (eC n) :: st) else none
  | .lconst n => some (g, sl, vLong (some (eC ((n : Nat) : Int))) :: st)
  | .iload k => (sLoad sl k st).map fun t => (g, sl, t)
  | .iload_n k => (sLoad sl k st).map fun t => (g, sl, t)
  | .lload k => (sLoadL sl k st).map fun t => (g, sl, t)
  | .lload_n k => (sLoadL sl k st).map fun t => (g, sl, t)
  | .aload k => (sLoadA sl k st).map fun t => (g, sl, t)
  | .aload_n k => (sLoadA sl k st).map fun t => (g, sl, t)
  | .istore k => match st with
    | some (.inr (.inl e)) :: r => if k < nL then some (g, sto sl k 1 (vInt e), r) else none
    | _ => none
  | .istore_n k => match st with
    | some (.inr (.inl e)) :: r => if (k : Nat) < nL then some (g, sto sl k 1 (vInt e), r) else none
    | _ => none
  | .lstore k => match st with
    | some (.inr (.inr o)) :: r => if k + 1 < nL then some (g, sto sl k 2 (vLong o), r) else none
    | _ => none
  | .lstore_n k => match st with
    | some (.inr (.inr o)) :: r => if (k : Nat) + 1 < nL then some (g, sto sl k 2 (vLong o), r) else none
    | _ => none
  | .astore k => match st with
    | some (.inl a) :: r => if k < nL then some (g, sto sl k 1 (vRef a), r) else none
    | _ => none
  | .astore_n k => match st with
    | some (.inl a) :: r => if (k : Nat) < nL then some (g, sto sl k 1 (vRef a), r) else none
    | _ => none
  | .iinc k n => match lk sl k with
    | some (some (.inr (.inl e))) => if k < nL ∧ -32768 ≤ n ∧ n < 32768 then some ((lin g (ePlus e n)).1, sto sl k 1 (lin g (ePlus e n)).2, st) else none
    | _ => none
  | .ineg => match st with
    | some (.inr (.inl e)) :: r => some ((lin g (eSc (-1) e)).1, sl, (lin g (eSc (-1) e)).2 :: r)
    | _ => none
  | .i2l => match st with
    | some (.inr (.inl le)) :: r => some (g, sl, vLong (some le) :: r)
    | _ => none
  | .l2i => match st with
    | some (.inr (.inr none)) :: r => some ((full g).1, sl, (full g).2 :: r)
    | some (.inr (.inr (some le))) :: r => some ((lin g le).1, sl, (lin g le).2 :: r)
    | _ => none
  | .i2b => match st with
    | some (.inr (.inl e)) :: r => if -128 ≤ (ivn g e).1 ∧ (ivn g e).2 ≤ 127 then some (g, sl, vInt e :: r) else some ((frI g (-128) 127).1, sl, (frI g (-128) 127).2 :: r)
    | _ => none
  | .lcmp => match st with
    | some (.inr (.inr (some _))) :: some (.inr (.inr (some _))) :: _ => none
    | some (.inr (.inr _)) :: some (.inr (.inr _)) :: r => some ((frI g (-1) 1).1, sl, (frI g (-1) 1).2 :: r)
    | _ => none
  | .ldiv => match st with
    | some (.inr (.inr (some (c, [])))) :: some (.inr (.inr o)) :: r => if 0 < c then some (g, sl, vLong (match o with | some (x, []) => if 0 ≤ x then some (eC (x / c)) else none | _ => none) :: r) else none
    | _ => none
  | .lrem => match st with
    | some (.inr (.inr (some (c, [])))) :: some (.inr (.inr _)) :: r => if 0 < c then some (g, sl, vLong none :: r) else none
    | _ => none
  | .lshl => match st with
    | some (.inr (.inl _)) :: some (.inr (.inr _)) :: r => some (g, sl, vLong none :: r)
    | _ => none
  | .lshr => match st with
    | some (.inr (.inl _)) :: some (.inr (.inr _)) :: r => some (g, sl, vLong none :: r)
    | _ => none
  | .dup => match st with
    | a :: r => if oneS a = true then some (g, sl, a :: a :: r) else none
    | _ => none
  | .pop => match st with
    | a :: r => if oneS a = true then some (g, sl, r) else none
    | _ => none
  | .dup2 => match st with
    | a :: b :: r => if oneS a = true ∧ oneS b = true then some (g, sl, a :: b :: a :: b :: r) else none
    | _ => none
  | .dup_x1 => match st with
    | a :: b :: r => if oneS a = true ∧ oneS b = true then some (g, sl, a :: b :: a :: r) else none
    | _ => none
  | i => match st with
    | some (.inr (.inl e2)) :: some (.inr (.inl e1)) :: r => (binI i g e1 e2).map fun x => (x.1, sl, x.2 :: r)
    | some (.inr (.inr _)) :: some (.inr (.inr _)) :: r => if isL i = true then some (g, sl, vLong none :: r) else none
    | _ => none
def lenOf (i : Instr) : Nat := match i with
  | .bipush _ => 2
  | .sipush _ => 3
  | .iload _ => 2
  | .lload _ => 2
  | .aload _ => 2
  | .istore _ => 2
  | .lstore _ => 2
  | .astore _ => 2
  | .iinc _ _ => 3
  | _ => 1
theorem bin_len {i : Instr} {g : Ctx} {e1 e2 : LE} {r : Ctx × SV} (h : binI i g e1 e2 = some r) : lenOf i = 1 := by
  unfold binI at h
  split at h <;> first | rfl | cases h
theorem long_len {i : Instr} (h : isL i = true) : lenOf i = 1 := by
  unfold isL at h
  split at h <;> first | rfl | cases h
theorem i8_of {n : Int} (h : -128 ≤ n ∧ n < 128) : (Int8.ofInt n).toInt32.toInt = n := by
  rw [Int8.toInt_toInt32, Int8.toInt_ofInt_of_le (by omega) (by omega)]
theorem i16_of {n : Int} (h : -32768 ≤ n ∧ n < 32768) : (Int16.ofInt n).toInt32.toInt = n := by
  rw [Int16.toInt_toInt32, Int16.toInt_ofInt_of_le (by omega) (by omega)]
theorem i32_of {n : Int} (h : -32768 ≤ n ∧ n < 32768) : (Int32.ofInt n).toInt = n := Int32.toInt_ofInt_of_le (by omega) (by omega)
theorem lgcmp_rng (x y : Int64) : -1 ≤ (lg_cmp x y).toInt ∧ (lg_cmp x y).toInt ≤ 1 := by
  unfold lg_cmp
  split
  · decide
  · split <;> decide
section Simple
variable {p : Program} {l : Launch} {e : Env} {R : Room} {s : State} {m : MethodId} {args : Array Value} {below : List Frame} {meth : Method} {c : Code} {H : Heap} {locs : List Loc} {cells slots : Nat} {Q : State → Prop}
variable {cc : ByteArray} {pc : Nat} {ads : List Nat} {v : List Int} {ls : Array Slot} {nL : Nat} {stk : List Value}
theorem load_ok {sl : SL} {k : Nat} {st t : List SV} (h : sLoad sl k st = some t) (hL : LSat ads v ls nL sl) : ∃ (x : Int32) (le : LE), ls[k]? = some (.val (.int x)) ∧ t = vInt le :: st ∧ EV v le x.toInt := by
  unfold sLoad at h
  split at h
  next le h1 =>
    cases h
    obtain ⟨x, g1, n, rfl, g2⟩ := hL.at h1
    exact ⟨n, le, g1, rfl, g2⟩
  next => cases h
theorem loadL_ok {sl : SL} {k : Nat} {st t : List SV} (h : sLoadL sl k st = some t) (hL : LSat ads v ls nL sl) : ∃ (x : Int64) (o : Option LE), ls[k]? = some (.val (.long x)) ∧ t = vLong o :: st ∧ ∀ le, o = some le → EV v le x.toInt := by
  unfold sLoadL at h
  split at h
  next o h1 =>
    cases h
    obtain ⟨x, g1, n, rfl, g2⟩ := hL.at h1
    exact ⟨n, o, g1, rfl, g2⟩
  next => cases h
theorem loadA_ok {sl : SL} {k : Nat} {st t : List SV} (h : sLoadA sl k st = some t) (hL : LSat ads v ls nL sl) : ∃ (x : Nat) (r : Nat), ls[k]? = some (.val (.ref x)) ∧ t = vRef r :: st ∧ ads[r]? = some x := by
  unfold sLoadA at h
  split at h
  next r h1 =>
    cases h
    obtain ⟨x, g1, a, g2, rfl⟩ := hL.at h1
    exact ⟨a, r, g1, rfl, g2⟩
  next => cases h
theorem bin_ok (hexec : p.tables.exec = Jvm.exec) (hb : c.code = cc) {i : Instr} {g : Ctx} (hx : SX v g) {e1 e2 : LE} {r : Ctx × SV} (h : binI i g e1 e2 = some r) {x y : Int32} (h1 : EV v e1 x.toInt) (h2 : EV v e2 y.toInt) (hdg : decode cc pc = .ok (i, 1)) {rest : List Value}
    (kk : ∀ n : Int32, RI v r n → W p l e R s m args below meth c H locs cells slots Q (F0 m (pc + 1) ls (.int n :: rest))) : W p l e R s m args below meth c H locs cells slots Q (F0 m pc ls (.int y :: .int x :: rest)) := by
  unfold binI at h
  split at h
  · cases h
    exact lv_iadd hexec hb hdg (kk _ (lin_ok hx (h1.add h2) fun a b => nu_add (by unfold i32lo at a; omega) (by unfold i32hi at b; omega)))
  · cases h
    exact lv_isub hexec hb hdg (kk _ (lin_ok hx (h1.sub h2) fun a b => nu_sub (by unfold i32lo at a; omega) (by unfold i32hi at b; omega)))
  · cases h
    exact lv_imul hexec hb hdg (kk _ (mulS_ok hx h1 h2))
  · cases h
    exact lv_iand hexec hb hdg (kk _ (andI_ok hx h1 h2))
  · cases h
    exact lv_ior hexec hb hdg (kk _ (orI_ok hx h1 h2))
  · cases h
    exact lv_ixor hexec hb hdg (kk _ (full_ok hx _))
  · cases h
    exact lv_ishl hexec hb hdg (kk _ (shlI_ok hx h1 h2))
  · cases h
    exact lv_ishr hexec hb hdg (kk _ (shrI_ok hx h1 h2))
  · cases h
    exact lv_iushr hexec hb hdg rfl (kk _ (full_ok hx _))
  · obtain ⟨a, b⟩ := divI_ok hx h1 h2 h
    exact lv_idiv hexec hb hdg a (kk _ b)
  · obtain ⟨a, b⟩ := remI_ok hx h1 h2 h
    exact lv_irem hexec hb hdg a (kk _ b)
  · cases h
theorem long_ok (hexec : p.tables.exec = Jvm.exec) (hb : c.code = cc) {i : Instr} (h : isL i = true) {x y : Int64} (hdg : decode cc pc = .ok (i, 1)) {rest : List Value}
    (kk : ∀ n : Int64, W p l e R s m args below meth c H locs cells slots Q (F0 m (pc + 1) ls (.long n :: rest))) : W p l e R s m args below meth c H locs cells slots Q (F0 m pc ls (.long y :: .long x :: rest)) := by
  unfold isL at h
  split at h
  · exact lv_ladd hexec hb hdg (kk _)
  · exact lv_lsub hexec hb hdg (kk _)
  · exact lv_lmul hexec hb hdg (kk _)
  · exact lv_land hexec hb hdg (kk _)
  · exact lv_lor hexec hb hdg (kk _)
  · exact lv_lxor hexec hb hdg (kk _)
  · cases h
theorem FS.cons_inv {a : SV} {st : List SV} {stk : List Value} (h : FS ads v (a :: st) stk) : ∃ x r, stk = x :: r ∧ VS ads v a x ∧ FS ads v st r := by
  cases stk with
  | nil => exact h.elim
  | cons x r => exact ⟨x, r, rfl, h.1, h.2⟩
set_option maxHeartbeats 4000000 in
theorem simp1_ok (hexec : p.tables.exec = Jvm.exec) (hb : c.code = cc) {i : Instr} {g g' : Ctx} {sl sl' : SL} {st st' : List SV} (h : simp1 nL i g sl st = some (g', sl', st')) (hdg : decode cc pc = .ok (i, lenOf i))
    (hx : SX v g) (hL : LSat ads v ls nL sl) (hS : FS ads v st stk)
    (kk : ∀ (w : List Int) (ls' : Array Slot) (stk' : List Value), SX (v ++ w) g' → LSat ads (v ++ w) ls' nL sl' → FS ads (v ++ w) st' stk' → W p l e R s m args below meth c H locs cells slots Q (F0 m (pc + lenOf i) ls' stk')) :
    W p l e R s m args below meth c H locs cells slots Q (F0 m pc ls stk) := by
  have k0 : ∀ (ls' : Array Slot) (stk' : List Value), g' = g → LSat ads v ls' nL sl' → FS ads v st' stk' → W p l e R s m args below meth c H locs cells slots Q (F0 m (pc + lenOf i) ls' stk') := fun ls' stk' hg a b => by
    have := kk [] ls' stk'
    rw [List.append_nil] at this
    exact this (by rw [hg]; exact hx) a b
  have kI : ∀ (r : Ctx × SV) (n : Int32) (st2 : List SV) (stk2 : List Value), RI v r n → g' = r.1 → sl' = sl → st' = r.2 :: st2 → FS ads v st2 stk2 → W p l e R s m args below meth c H locs cells slots Q (F0 m (pc + lenOf i) ls (.int n :: stk2)) := fun r n st2 stk2 ⟨w, hw1, hw2⟩ e1 e2 e3 hs => by
    refine kk w ls _ (by rw [e1]; exact hw1) (by rw [e2]; exact hL.monoV) ?_
    rw [e3]
    exact ⟨hw2 ads, hs.monoV⟩
  unfold simp1 at h
  split at h
  · split at h
    next hn =>
      cases h
      exact lv_iconst hexec hb hdg rfl (k0 _ _ rfl hL ⟨⟨_, rfl, by rw [i32_of (by omega)]; exact EV.const _ _⟩, hS⟩)
    next => cases h
  · split at h
    next hn =>
      cases h
      exact lv_bipush hexec hb hdg rfl (k0 _ _ rfl hL ⟨⟨_, rfl, by rw [i8_of hn]; exact EV.const _ _⟩, hS⟩)
    next => cases h
  · split at h
    next hn =>
      cases h
      exact lv_sipush hexec hb hdg rfl (k0 _ _ rfl hL ⟨⟨_, rfl, by rw [i16_of hn]; exact EV.const _ _⟩, hS⟩)
    next => cases h
  · cases h
    rename_i n
    refine lv_lconst hexec hb hdg rfl (k0 _ _ rfl hL ⟨⟨_, rfl, fun c hc => ?_⟩, hS⟩)
    cases hc
    have : (Int64.ofNat (n : Nat)).toInt = ((n : Nat) : Int) := by
      match n with
      | 0 => rfl
      | 1 => rfl
    rw [this]
    exact EV.const _ _
  · obtain ⟨t, ht, e1⟩ := Option.map_eq_some_iff.mp h
    cases e1
    obtain ⟨x, le, h1, rfl, h2⟩ := load_ok ht hL
    exact lv_iload hexec hb hdg h1 (k0 _ _ rfl hL ⟨⟨x, rfl, h2⟩, hS⟩)
  · obtain ⟨t, ht, e1⟩ := Option.map_eq_some_iff.mp h
    cases e1
    obtain ⟨x, le, h1, rfl, h2⟩ := load_ok ht hL
    exact lv_iload_n hexec hb hdg rfl h1 (k0 _ _ rfl hL ⟨⟨x, rfl, h2⟩, hS⟩)
  · obtain ⟨t, ht, e1⟩ := Option.map_eq_some_iff.mp h
    cases e1
    obtain ⟨x, o, h1, rfl, h2⟩ := loadL_ok ht hL
    exact lv_lload hexec hb hdg h1 (k0 _ _ rfl hL ⟨⟨x, rfl, h2⟩, hS⟩)
  · obtain ⟨t, ht, e1⟩ := Option.map_eq_some_iff.mp h
    cases e1
    obtain ⟨x, o, h1, rfl, h2⟩ := loadL_ok ht hL
    exact lv_lload_n hexec hb hdg rfl h1 (k0 _ _ rfl hL ⟨⟨x, rfl, h2⟩, hS⟩)
  · obtain ⟨t, ht, e1⟩ := Option.map_eq_some_iff.mp h
    cases e1
    obtain ⟨x, r, h1, rfl, h2⟩ := loadA_ok ht hL
    exact lv_aload hexec hb hdg h1 (k0 _ _ rfl hL ⟨⟨x, h2, rfl⟩, hS⟩)
  · obtain ⟨t, ht, e1⟩ := Option.map_eq_some_iff.mp h
    cases e1
    obtain ⟨x, r, h1, rfl, h2⟩ := loadA_ok ht hL
    exact lv_aload_n hexec hb hdg rfl h1 (k0 _ _ rfl hL ⟨⟨x, h2, rfl⟩, hS⟩)
  · split at h
    next le r =>
      split at h
      next hn =>
        cases h
        obtain ⟨x, rest, rfl, ⟨n, rfl, hv⟩, hr⟩ := hS.cons_inv
        obtain ⟨lv, g1, g2⟩ := hL.lv
        exact lv_istore hexec hb hdg g1 hn rfl fun ls' hl => k0 _ _ rfl (LSat.sto1 g2 hl ⟨n, rfl, hv⟩) hr
      next => cases h
    next => cases h
  · split at h
    next le r =>
      split at h
      next hn =>
        cases h
        obtain ⟨x, rest, rfl, ⟨n, rfl, hv⟩, hr⟩ := hS.cons_inv
        obtain ⟨lv, g1, g2⟩ := hL.lv
        exact lv_istore_n hexec hb hdg rfl g1 hn rfl fun ls' hl => k0 _ _ rfl (LSat.sto1 g2 hl ⟨n, rfl, hv⟩) hr
      next => cases h
    next => cases h
  · split at h
    next le r =>
      split at h
      next hn =>
        cases h
        obtain ⟨x, rest, rfl, ⟨n, rfl, hv⟩, hr⟩ := hS.cons_inv
        obtain ⟨lv, g1, g2⟩ := hL.lv
        exact lv_lstore hexec hb hdg g1 hn rfl fun ls' hl => k0 _ _ rfl (LSat.sto2 g2 hl ⟨n, rfl, hv⟩) hr
      next => cases h
    next => cases h
  · split at h
    next le r =>
      split at h
      next hn =>
        cases h
        obtain ⟨x, rest, rfl, ⟨n, rfl, hv⟩, hr⟩ := hS.cons_inv
        obtain ⟨lv, g1, g2⟩ := hL.lv
        exact lv_lstore_n hexec hb hdg rfl g1 hn rfl fun ls' hl => k0 _ _ rfl (LSat.sto2 g2 hl ⟨n, rfl, hv⟩) hr
      next => cases h
    next => cases h
  · split at h
    next le r =>
      split at h
      next hn =>
        cases h
        obtain ⟨x, rest, rfl, ⟨n, hv, rfl⟩, hr⟩ := hS.cons_inv
        obtain ⟨lv, g1, g2⟩ := hL.lv
        exact lv_astore hexec hb hdg g1 hn rfl fun ls' hl => k0 _ _ rfl (LSat.sto1 g2 hl ⟨n, hv, rfl⟩) hr
      next => cases h
    next => cases h
  · split at h
    next le r =>
      split at h
      next hn =>
        cases h
        obtain ⟨x, rest, rfl, ⟨n, hv, rfl⟩, hr⟩ := hS.cons_inv
        obtain ⟨lv, g1, g2⟩ := hL.lv
        exact lv_astore_n hexec hb hdg rfl g1 hn rfl fun ls' hl => k0 _ _ rfl (LSat.sto1 g2 hl ⟨n, hv, rfl⟩) hr
      next => cases h
    next => cases h
  · rename_i k0' n0
    split at h
    next le h1 =>
      split at h
      next hn =>
        cases h
        obtain ⟨lv, g1, g2⟩ := hL.lv
        obtain ⟨x, g3, n, rfl, hv⟩ := g2 _ (lk_mem h1)
        obtain ⟨j, hj⟩ := List.getElem?_of_mem g3
        refine lv_iinc hexec hb hdg g1 hj rfl hn.1 rfl fun ls' hl => ?_
        obtain ⟨w, hw1, hw2⟩ := lin_ok hx (EV.plus (n := n0) hv) (n := n + Int32.ofInt n0) fun a b => by
          have := i32_of hn.2
          rw [nu_add (by rw [this]; unfold i32lo at a; omega) (by rw [this]; unfold i32hi at b; omega), this]
        refine kk w ls' _ hw1 (LSat.sto1 (fun q hq => ?_) hl (hw2 ads)) hS.monoV
        obtain ⟨y, y1, y2⟩ := g2 q hq
        exact ⟨y, y1, y2.monoV⟩
      next => cases h
    next => cases h
  · split at h
    next le r =>
      cases h
      obtain ⟨x, rest, rfl, ⟨n, rfl, hv⟩, hr⟩ := hS.cons_inv
      refine lv_ineg hexec hb hdg (kI _ _ _ _ (lin_ok hx (EV.sc hv) fun a b => ?_) rfl rfl rfl hr)
      rw [nu_neg (by unfold i32hi at b; omega)]
      omega
    next => cases h
  · split at h
    next le r =>
      cases h
      obtain ⟨x, rest, rfl, ⟨n, rfl, hv⟩, hr⟩ := hS.cons_inv
      refine lv_i2l hexec hb hdg rfl (k0 _ _ rfl hL ⟨⟨_, rfl, fun c hc => ?_⟩, hr⟩)
      cases hc
      rw [Int32.toInt_toInt64]
      exact hv
    next => cases h
  · split at h
    next r =>
      cases h
      obtain ⟨x, rest, rfl, ⟨n, rfl, hv⟩, hr⟩ := hS.cons_inv
      exact lv_l2i hexec hb hdg rfl (kI _ _ _ _ (full_ok hx _) rfl rfl rfl hr)
    next le r =>
      cases h
      obtain ⟨x, rest, rfl, ⟨n, rfl, hv⟩, hr⟩ := hS.cons_inv
      refine lv_l2i hexec hb hdg rfl (kI _ _ _ _ (lin_ok hx (hv le rfl) fun a b => ?_) rfl rfl rfl hr)
      exact (Int64.toInt_toInt32 n).trans (nu_b (by unfold i32lo at a; omega) (by unfold i32hi at b; omega))
    next => cases h
  · split at h
    next le r =>
      obtain ⟨x, rest, rfl, ⟨n, rfl, hv⟩, hr⟩ := hS.cons_inv
      have hn := ivn_ok hx hv
      split at h
      next hr2 =>
        cases h
        refine lv_i2b hexec hb hdg rfl (k0 _ _ rfl hL ⟨⟨_, rfl, ?_⟩, hr⟩)
        rw [Int8.toInt_toInt32, Int32.toInt_toInt8, Int.bmod_eq_of_le (by omega) (by omega)]
        exact hv
      next =>
        cases h
        have h1 := Int8.le_toInt n.toInt8
        have h2 := Int8.toInt_lt n.toInt8
        exact lv_i2b hexec hb hdg rfl (kI _ _ _ _ (frI_ok hx (by rw [Int8.toInt_toInt32]; omega) (by rw [Int8.toInt_toInt32]; omega)) rfl rfl rfl hr)
    next => cases h
  · split at h
    next => cases h
    next o o2 r _ =>
      cases h
      obtain ⟨x, rest, rfl, ⟨n, rfl, hv⟩, hr⟩ := hS.cons_inv
      obtain ⟨x2, rest2, rfl, ⟨n2, rfl, hv2⟩, hr2⟩ := hr.cons_inv
      exact W.lcmp hexec hb hdg (kI _ _ _ _ (frI_ok hx (lgcmp_rng _ _).1 (lgcmp_rng _ _).2) rfl rfl rfl hr2)
    next => cases h
  · split at h
    next k o r =>
      split at h
      next hk =>
        cases h
        obtain ⟨x, rest, rfl, ⟨n, rfl, hv⟩, hr⟩ := hS.cons_inv
        obtain ⟨x2, rest2, rfl, ⟨n2, rfl, hv2⟩, hr2⟩ := hr.cons_inv
        have hn := (hv _ rfl).const_inv rfl
        refine lv_ldiv hexec hb hdg (fun q => by rw [q, Int64.toInt_zero] at hn; omega) (k0 _ _ rfl hL ⟨⟨_, rfl, fun c hc => ?_⟩, hr2⟩)
        split at hc
        next x =>
          split at hc
          next h0 =>
            cases hc
            have hn2 := (hv2 _ rfl).const_inv rfl
            rw [nu_div64 (by omega), hn, hn2, Int.tdiv_eq_ediv_of_nonneg h0]
            exact EV.const _ _
          next => cases hc
        next => cases hc
      next => cases h
    next => cases h
  · split at h
    next k o r =>
      split at h
      next hk =>
        cases h
        obtain ⟨x, rest, rfl, ⟨n, rfl, hv⟩, hr⟩ := hS.cons_inv
        obtain ⟨x2, rest2, rfl, ⟨n2, rfl, hv2⟩, hr2⟩ := hr.cons_inv
        have hn := (hv _ rfl).const_inv rfl
        exact lv_lrem hexec hb hdg (fun q => by rw [q, Int64.toInt_zero] at hn; omega) (k0 _ _ rfl hL ⟨⟨_, rfl, fun c hc => by cases hc⟩, hr2⟩)
      next => cases h
    next => cases h
  · split at h
    next le o r =>
      cases h
      obtain ⟨x, rest, rfl, ⟨n, rfl, hv⟩, hr⟩ := hS.cons_inv
      obtain ⟨x2, rest2, rfl, ⟨n2, rfl, hv2⟩, hr2⟩ := hr.cons_inv
      exact lv_lshl hexec hb hdg rfl (k0 _ _ rfl hL ⟨⟨_, rfl, fun c hc => by cases hc⟩, hr2⟩)
    next => cases h
  · split at h
    next le o r =>
      cases h
      obtain ⟨x, rest, rfl, ⟨n, rfl, hv⟩, hr⟩ := hS.cons_inv
      obtain ⟨x2, rest2, rfl, ⟨n2, rfl, hv2⟩, hr2⟩ := hr.cons_inv
      exact lv_lshr hexec hb hdg rfl (k0 _ _ rfl hL ⟨⟨_, rfl, fun c hc => by cases hc⟩, hr2⟩)
    next => cases h
  · split at h
    next a r =>
      split at h
      next ho =>
        cases h
        obtain ⟨x, rest, rfl, hv, hr⟩ := hS.cons_inv
        exact lv_dup hexec hb hdg (oneS_cat ho hv) (k0 _ _ rfl hL ⟨hv, hv, hr⟩)
      next => cases h
    next => cases h
  · split at h
    next a r =>
      split at h
      next ho =>
        cases h
        obtain ⟨x, rest, rfl, hv, hr⟩ := hS.cons_inv
        exact lv_pop hexec hb hdg (oneS_cat ho hv) (k0 _ _ rfl hL hr)
      next => cases h
    next => cases h
  · split at h
    next a b r =>
      split at h
      next ho =>
        cases h
        obtain ⟨x, rest, rfl, hv, hr⟩ := hS.cons_inv
        obtain ⟨y, rest2, rfl, hv2, hr2⟩ := hr.cons_inv
        exact lv_dup2_11 hexec hb hdg (oneS_cat ho.1 hv) (oneS_cat ho.2 hv2) (k0 _ _ rfl hL ⟨hv, hv2, hv, hv2, hr2⟩)
      next => cases h
    next => cases h
  · split at h
    next a b r =>
      split at h
      next ho =>
        cases h
        obtain ⟨x, rest, rfl, hv, hr⟩ := hS.cons_inv
        obtain ⟨y, rest2, rfl, hv2, hr2⟩ := hr.cons_inv
        exact lv_dup_x1 hexec hb hdg (oneS_cat ho.1 hv) (oneS_cat ho.2 hv2) (k0 _ _ rfl hL ⟨hv, hv2, hv, hr2⟩)
      next => cases h
    next => cases h
  · split at h
    next e2 e1 r =>
      obtain ⟨q, hq, e1'⟩ := Option.map_eq_some_iff.mp h
      cases e1'
      obtain ⟨x, rest, rfl, ⟨n, rfl, hv⟩, hr⟩ := hS.cons_inv
      obtain ⟨x2, rest2, rfl, ⟨n2, rfl, hv2⟩, hr2⟩ := hr.cons_inv
      have h1 := bin_len hq
      rw [h1] at hdg
      refine bin_ok hexec hb hx hq hv2 hv hdg fun n hn => ?_
      have := kI _ n _ _ hn rfl rfl rfl hr2
      rw [h1] at this
      exact this
    next o o2 r =>
      split at h
      next hl =>
        cases h
        obtain ⟨x, rest, rfl, ⟨n, rfl, hv⟩, hr⟩ := hS.cons_inv
        obtain ⟨x2, rest2, rfl, ⟨n2, rfl, hv2⟩, hr2⟩ := hr.cons_inv
        have h1 := long_len hl
        rw [h1] at hdg
        refine long_ok hexec hb hl hdg fun n => ?_
        have := k0 ls (.long n :: rest2) rfl hL ⟨⟨n, rfl, fun c hc => by cases hc⟩, hr2⟩
        rw [h1] at this
        exact this
      next => cases h
    next => cases h
end Simple
