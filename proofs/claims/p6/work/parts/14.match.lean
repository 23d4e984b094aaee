/-! more known of the atoms; branches -/
def addc (g : Ctx) (e : LE) : Ctx := match e with
  | (c, [(k, i)]) => match g.1[i]? with
    | some (lo, hi) => if k = 1 then (g.1.set i (if lo ≤ -c then -c else lo, hi), g.2) else if k = -1 then (g.1.set i (lo, if c ≤ hi then c else hi), g.2) else (g.1, g.2 ++ [e])
    | none => (g.1, g.2 ++ [e])
  | e => (g.1, g.2 ++ [e])
theorem SB.set {v : List Int} {b : Bnd} (h : SB v b) {i : Nat} {x lo hi : Int} (hi' : v[i]? = some x) (h1 : lo ≤ x) (h2 : x ≤ hi) : SB v (b.set i (lo, hi)) := by
  refine ⟨by rw [List.length_set]; exact h.1, fun j l u hj => ?_⟩
  by_cases hij : j = i
  · subst hij
    have hl : j < b.length := by rw [← h.1]; exact (List.getElem?_eq_some_iff.mp hi').1
    rw [List.getElem?_set_self hl] at hj
    cases hj
    exact ⟨x, hi', h1, h2⟩
  · rw [List.getElem?_set_ne (Ne.symm hij)] at hj
    exact h.2 j l u hj
theorem SC.one {v : List Int} {cs : List LE} (h : SC v cs) {e : LE} {x : Int} (he : EV v e x) (h0 : 0 ≤ x) : SC v (cs ++ [e]) := h.app (fun f hf => by rw [List.mem_singleton.mp hf]; exact ⟨x, he, h0⟩)
theorem addc_ok {v : List Int} {g : Ctx} (hx : SX v g) {e : LE} {x : Int} (he : EV v e x) (h0 : 0 ≤ x) : SX v (addc g e) := by
  unfold addc
  split
  next c k i =>
    split
    next lo hi hb =>
      obtain ⟨y, h1, h2, h3⟩ := hx.1.2 i lo hi hb
      obtain ⟨z, e1, rfl⟩ := he
      obtain ⟨a, b, e2, e3, rfl⟩ := evl_cons e1
      rw [h1] at e2
      cases e2
      simp only [evl, Option.some.injEq] at e3
      subst e3
      split
      next hk =>
        subst hk
        refine ⟨hx.1.set h1 ?_ h3, hx.2⟩
        have : 0 ≤ c + (1 * y + 0) := h0
        split <;> omega
      next =>
        split
        next hk =>
          subst hk
          refine ⟨hx.1.set h1 h2 ?_, hx.2⟩
          have : 0 ≤ c + (-1 * y + 0) := h0
          split <;> omega
        next => exact ⟨hx.1, hx.2.one ⟨_, e1, rfl⟩ h0⟩
    next => exact ⟨hx.1, hx.2.one he h0⟩
  next => exact ⟨hx.1, hx.2.one he h0⟩
def addcs (g : Ctx) : List LE → Ctx
  | [] => g
  | e :: l => addcs (addc g e) l
theorem addcs_ok {v : List Int} : ∀ {l : List LE} {g : Ctx}, SX v g → SC v l → SX v (addcs g l)
  | [], _, hx, _ => hx
  | e :: l, g, hx, h => by
    obtain ⟨x, h1, h2⟩ := h e List.mem_cons_self
    exact addcs_ok (l := l) (addc_ok hx h1 h2) fun f hf => h f (List.mem_cons_of_mem _ hf)
def dead (g : Ctx) : List LE → Bool
  | [] => false
  | e :: l => match ivl g.1 e with
    | some (_, q) => decide (q < 0) || dead g l
    | none => dead g l
theorem dead_ok {v : List Int} {g : Ctx} (hx : SX v g) : ∀ {l : List LE}, SC v l → dead g l = true → False
  | [], _, h => by cases h
  | e :: l, hs, h => by
    obtain ⟨x, h1, h2⟩ := hs e List.mem_cons_self
    have hl : SC v l := fun f hf => hs f (List.mem_cons_of_mem _ hf)
    unfold dead at h
    split at h
    next p q hp =>
      rw [Bool.or_eq_true, decide_eq_true_eq] at h
      rcases h with h | h
      · have := ivl_ok hx.1 hp h1
        omega
      · exact dead_ok hx hl h
    next => exact dead_ok hx hl h
/-- a branch: which comparison with 0, whether of two ints, the offset -/
def brk (i : Instr) : Option (Nat × Bool × Int) := match i with
  | .ifCond .eq o => some (0, false, o)
  | .ifCond .ne o => some (1, false, o)
  | .ifCond .lt o => some (2, false, o)
  | .ifCond .ge o => some (3, false, o)
  | .ifCond .gt o => some (4, false, o)
  | .ifCond .le o => some (5, false, o)
  | .if_icmp .eq o => some (0, true, o)
  | .if_icmp .ne o => some (1, true, o)
  | .if_icmp .lt o => some (2, true, o)
  | .if_icmp .ge o => some (3, true, o)
  | .if_icmp .gt o => some (4, true, o)
  | .if_icmp .le o => some (5, true, o)
  | _ => none
def brP (op : Nat) (z : Int) : Prop := match op with
  | 0 => z = 0
  | 1 => z ≠ 0
  | 2 => z < 0
  | 3 => 0 ≤ z
  | 4 => 0 < z
  | _ => z ≤ 0
def neC (g : Ctx) (d : LE) : List LE := match ivl g.1 d with
  | some (p, q) => if p = 0 then [ePlus d (-1)] else if q = 0 then [ePlus (eSc (-1) d) (-1)] else []
  | none => []
def brC (op : Nat) (g : Ctx) (d : LE) : List LE × List LE := match op with
  | 0 => ([d, eSc (-1) d], neC g d)
  | 1 => (neC g d, [d, eSc (-1) d])
  | 2 => ([ePlus (eSc (-1) d) (-1)], [d])
  | 3 => ([d], [ePlus (eSc (-1) d) (-1)])
  | 4 => ([ePlus d (-1)], [eSc (-1) d])
  | _ => ([eSc (-1) d], [ePlus d (-1)])
theorem SC.mk1 {v : List Int} {e : LE} {x : Int} (he : EV v e x) (h0 : 0 ≤ x) : SC v [e] := fun f hf => by rw [List.mem_singleton.mp hf]; exact ⟨x, he, h0⟩
theorem SC.mk2 {v : List Int} {e f : LE} {x y : Int} (he : EV v e x) (h0 : 0 ≤ x) (hf : EV v f y) (h1 : 0 ≤ y) : SC v [e, f] := fun a ha => by
  rcases List.mem_cons.mp ha with rfl | ha
  · exact ⟨x, he, h0⟩
  · rw [List.mem_singleton.mp ha]; exact ⟨y, hf, h1⟩
theorem neC_ok {v : List Int} {g : Ctx} (hx : SX v g) {d : LE} {z : Int} (hd : EV v d z) (hz : z ≠ 0) : SC v (neC g d) := by
  unfold neC
  split
  next p q hp =>
    have := ivl_ok hx.1 hp hd
    split
    next => exact SC.mk1 (EV.plus hd) (by omega)
    next =>
      split
      next => exact SC.mk1 (EV.plus (EV.sc hd)) (by omega)
      next => exact fun _ h => by cases h
  next => exact fun _ h => by cases h
theorem brC_ok {v : List Int} {g : Ctx} (hx : SX v g) {op : Nat} {d : LE} {z : Int} (hd : EV v d z) : (brP op z → SC v (brC op g d).1) ∧ (¬ brP op z → SC v (brC op g d).2) := by
  unfold brP brC
  split
  · exact ⟨fun h => SC.mk2 hd (by omega) (EV.sc hd) (by omega), fun h => neC_ok hx hd h⟩
  · exact ⟨fun h => neC_ok hx hd h, fun h => SC.mk2 hd (by omega) (EV.sc hd) (by omega)⟩
  · exact ⟨fun h => SC.mk1 (EV.plus (EV.sc hd)) (by omega), fun h => SC.mk1 hd (by omega)⟩
  · exact ⟨fun h => SC.mk1 hd (by omega), fun h => SC.mk1 (EV.plus (EV.sc hd)) (by omega)⟩
  · exact ⟨fun h => SC.mk1 (EV.plus hd) (by omega), fun h => SC.mk1 (EV.sc hd) (by omega)⟩
  · exact ⟨fun h => SC.mk1 (EV.sc hd) (by omega), fun h => SC.mk1 (EV.plus hd) (by omega)⟩
section Br
variable {p : Program} {l : Launch} {e : Env} {R : Room} {s : State} {m : MethodId} {args : Array Value} {below : List Frame} {meth : Method} {c : Code} {H : Heap} {locs : List Loc} {cells slots : Nat} {Q : State → Prop}
variable {cc : ByteArray} {pc : Nat} {ls : Array Slot}
theorem i32_eq0 {x : Int32} : x = 0 ↔ x.toInt = 0 := by rw [← Int32.toInt_inj, Int32.toInt_zero]
theorem br1_ok (hexec : p.tables.exec = Jvm.exec) (hb : c.code = cc) {i : Instr} {op : Nat} {off : Int} {tgt : Nat} (h : brk i = some (op, false, off)) (hdg : decode cc pc = .ok (i, 3)) (ht : (pc : Int) + off = (tgt : Int)) {x : Int32} {rest : List Value}
    (kt : brP op x.toInt → W p l e R s m args below meth c H locs cells slots Q (F0 m tgt ls rest)) (kf : ¬ brP op x.toInt → W p l e R s m args below meth c H locs cells slots Q (F0 m (pc + 3) ls rest)) : W p l e R s m args below meth c H locs cells slots Q (F0 m pc ls (.int x :: rest)) := by
  unfold brk at h
  split at h <;> cases h
  · exact lv_if_eq hexec hb hdg ht (fun q => kt (i32_eq0.mp q)) (fun q => kf (fun z => q (i32_eq0.mpr z)))
  · exact lv_if_ne hexec hb hdg ht (fun q => kt (fun z => q (i32_eq0.mpr z))) (fun q => kf (fun z => z (i32_eq0.mp q)))
  · exact lv_if_lt hexec hb hdg ht (fun q => kt (by rw [Int32.lt_iff_toInt_lt, Int32.toInt_zero] at q; exact q)) (fun q => kf (fun z => q (by rw [Int32.lt_iff_toInt_lt, Int32.toInt_zero]; exact z)))
  · exact lv_if_ge hexec hb hdg ht (fun q => kt (by rw [Int32.le_iff_toInt_le, Int32.toInt_zero] at q; exact q)) (fun q => kf (fun z => q (by rw [Int32.le_iff_toInt_le, Int32.toInt_zero]; exact z)))
  · exact lv_if_gt hexec hb hdg ht (fun q => kt (by rw [Int32.lt_iff_toInt_lt, Int32.toInt_zero] at q; exact q)) (fun q => kf (fun z => q (by rw [Int32.lt_iff_toInt_lt, Int32.toInt_zero]; exact z)))
  · exact lv_if_le hexec hb hdg ht (fun q => kt (by rw [Int32.le_iff_toInt_le, Int32.toInt_zero] at q; exact q)) (fun q => kf (fun z => q (by rw [Int32.le_iff_toInt_le, Int32.toInt_zero]; exact z)))
theorem br2_ok (hexec : p.tables.exec = Jvm.exec) (hb : c.code = cc) {i : Instr} {op : Nat} {off : Int} {tgt : Nat} (h : brk i = some (op, true, off)) (hdg : decode cc pc = .ok (i, 3)) (ht : (pc : Int) + off = (tgt : Int)) {x y : Int32} {rest : List Value}
    (kt : brP op (x.toInt - y.toInt) → W p l e R s m args below meth c H locs cells slots Q (F0 m tgt ls rest)) (kf : ¬ brP op (x.toInt - y.toInt) → W p l e R s m args below meth c H locs cells slots Q (F0 m (pc + 3) ls rest)) : W p l e R s m args below meth c H locs cells slots Q (F0 m pc ls (.int y :: .int x :: rest)) := by
  have eq1 : x = y ↔ x.toInt - y.toInt = 0 := by rw [← Int32.toInt_inj]; omega
  unfold brk at h
  split at h <;> cases h
  · exact lv_icmp_eq hexec hb hdg ht (fun q => kt (eq1.mp q)) (fun q => kf (fun z => q (eq1.mpr z)))
  · exact lv_icmp_ne hexec hb hdg ht (fun q => kt (fun z => q (eq1.mpr z))) (fun q => kf (fun z => z (eq1.mp q)))
  · exact lv_icmp_lt hexec hb hdg ht (fun q => kt (by rw [Int32.lt_iff_toInt_lt] at q; show _ < _; omega)) (fun q => kf (fun z => q (by rw [Int32.lt_iff_toInt_lt]; have : _ < _ := z; omega)))
  · exact lv_icmp_ge hexec hb hdg ht (fun q => kt (by rw [Int32.le_iff_toInt_le] at q; show _ ≤ _; omega)) (fun q => kf (fun z => q (by rw [Int32.le_iff_toInt_le]; have : _ ≤ _ := z; omega)))
  · exact lv_icmp_gt hexec hb hdg ht (fun q => kt (by rw [Int32.lt_iff_toInt_lt] at q; show _ < _; omega)) (fun q => kf (fun z => q (by rw [Int32.lt_iff_toInt_lt]; have : _ < _ := z; omega)))
  · exact lv_icmp_le hexec hb hdg ht (fun q => kt (by rw [Int32.le_iff_toInt_le] at q; show _ ≤ _; omega)) (fun q => kf (fun z => q (by rw [Int32.le_iff_toInt_le]; have : _ ≤ _ := z; omega)))
end Br
/-! a template matched with a state: atoms of the template come to stand for expressions -/
abbrev Sub : Type := List (Option LE)
def mtE (sb : Sub) (t a : LE) : Option Sub := match t with
  | (c, []) => if a = (c, []) then some sb else none
  | (c, [(k, i)]) => if c = 0 ∧ k = 1 then (match sb[i]? with
    | some none => some (sb.set i (some a))
    | some (some e) => if e = a then some sb else none
    | none => none) else none
  | _ => none
def mtV (sb : Sub) (t a : SV) : Option Sub := match t, a with
  | none, _ => some sb
  | some (.inl k), some (.inl j) => if k = j then some sb else none
  | some (.inr (.inl e)), some (.inr (.inl f)) => mtE sb e f
  | some (.inr (.inr none)), some (.inr (.inr _)) => some sb
  | some (.inr (.inr (some c))), some (.inr (.inr (some d))) => mtE sb c d
  | _, _ => none
def mtF (sb : Sub) : List SV → List SV → Option Sub
  | [], [] => some sb
  | t :: l, a :: r => match mtV sb t a with
    | some sb' => mtF sb' l r
    | none => none
  | _, _ => none
def mtL (sb : Sub) (sl : SL) : SL → Option Sub
  | [] => some sb
  | (i, t) :: l => match lk sl i with
    | some a => match mtV sb t a with
      | some sb' => mtL sb' sl l
      | none => none
    | none => none
def mtX (sb : Sub) (x y : XO) : Option Sub := match x, y with
  | none, _ => some sb
  | some (0, k, z, s), some (0, k', z', s') => if s'.1 ≤ s.1 then (match mtE sb k k' with
    | some s1 => mtE s1 z z'
    | none => none) else none
  | some (_ + 1, k, z, r), some (_ + 1, k', z', r') => match mtE sb k k' with
    | some s1 => match mtE s1 z z' with
      | some s2 => mtE s2 r r'
      | none => none
    | none => none
  | _, _ => none
def mtC (sb : Sub) (t a : SE) : Option Sub := match t, a with
  | .inl (ty, len, lo, hi, x), .inl (ty', len', lo', hi', x') => if ty = ty' ∧ lo ≤ lo' ∧ hi' ≤ hi then (match mtE sb len len' with
    | some s1 => mtX s1 x x'
    | none => none) else none
  | .inr (ci, fs), .inr (ci', fs') => if ci = ci' then mtF sb fs fs' else none
  | _, _ => none
def mtH (strict : Bool) (sb : Sub) : SH → SH → Option Sub
  | [], [] => some sb
  | none :: l, o :: r => if strict = true ∧ o.isSome = true then none else mtH strict sb l r
  | some t :: l, some a :: r => match mtC sb t a with
    | some sb' => mtH strict sb' l r
    | none => none
  | _, _ => none
def Ag (sb : Sub) (v mu : List Int) : Prop := ∀ (i : Nat) (e : LE), sb[i]? = some (some e) → ∃ x, mu[i]? = some x ∧ EV v e x
def Ext (a b : Sub) : Prop := a.length = b.length ∧ ∀ (i : Nat) (e : LE), a[i]? = some (some e) → b[i]? = some (some e)
def Wf (v : List Int) (sb : Sub) : Prop := ∀ (i : Nat) (e : LE), sb[i]? = some (some e) → ∃ x, EV v e x
theorem Ext.rf (a : Sub) : Ext a a := ⟨rfl, fun _ _ h => h⟩
theorem Ext.tr {a b c : Sub} (h : Ext a b) (g : Ext b c) : Ext a c := ⟨h.1.trans g.1, fun i e z => g.2 i e (h.2 i e z)⟩
theorem Ag.of {a b : Sub} {v mu : List Int} (h : Ext a b) (g : Ag b v mu) : Ag a v mu := fun i e z => g i e (h.2 i e z)
theorem mtE_ok {sb sb' : Sub} {t a : LE} (h : mtE sb t a = some sb') : Ext sb sb' ∧ ∀ v x, EV v a x → (Wf v sb → Wf v sb') ∧ ∀ mu, Ag sb' v mu → EV mu t x := by
  unfold mtE at h
  split at h
  next c =>
    split at h
    next ha =>
      cases h
      exact ⟨Ext.rf _, fun v x hx => ⟨id, fun mu _ => by rw [hx.const_inv ha]; exact EV.const mu c⟩⟩
    next => cases h
  next c k i =>
    split at h
    next hc =>
      obtain ⟨rfl, rfl⟩ := hc
      split at h
      next hs =>
        cases h
        have hl := (List.getElem?_eq_some_iff.mp hs).1
        refine ⟨⟨by rw [List.length_set], fun j e hj => ?_⟩, fun v x hx => ⟨fun hw j e hj => ?_, fun mu ha => ?_⟩⟩
        · by_cases hij : j = i
          · subst hij
            rw [hs] at hj
            cases hj
          · rw [List.getElem?_set_ne (Ne.symm hij)]
            exact hj
        · by_cases hij : j = i
          · subst hij
            rw [List.getElem?_set_self hl] at hj
            cases hj
            exact ⟨x, hx⟩
          · rw [List.getElem?_set_ne (Ne.symm hij)] at hj
            exact hw j e hj
        · obtain ⟨y, h1, h2⟩ := ha i a (List.getElem?_set_self hl)
          rw [hx.uniq h2]
          exact EV.atom h1
      next e hs =>
        split at h
        next he =>
          cases h
          subst he
          refine ⟨Ext.rf _, fun v x hx => ⟨id, fun mu ha => ?_⟩⟩
          obtain ⟨y, h1, h2⟩ := ha i e hs
          rw [hx.uniq h2]
          exact EV.atom h1
        next => cases h
      next => cases h
    next => cases h
  next => cases h
theorem mtV_ok {sb sb' : Sub} {t a : SV} (h : mtV sb t a = some sb') : Ext sb sb' ∧ ∀ ads v x, VS ads v a x → (Wf v sb → Wf v sb') ∧ ∀ mu, Ag sb' v mu → VS ads mu t x := by
  unfold mtV at h
  split at h
  · cases h
    exact ⟨Ext.rf _, fun ads v x _ => ⟨id, fun _ _ => trivial⟩⟩
  · split at h
    next hk =>
      cases h
      subst hk
      exact ⟨Ext.rf _, fun ads v x hx => ⟨id, fun _ _ => hx⟩⟩
    next => cases h
  · obtain ⟨h1, h2⟩ := mtE_ok h
    refine ⟨h1, fun ads v x hx => ?_⟩
    obtain ⟨n, rfl, hn⟩ := hx
    obtain ⟨h3, h4⟩ := h2 v _ hn
    exact ⟨h3, fun mu ha => ⟨n, rfl, h4 mu ha⟩⟩
  · cases h
    refine ⟨Ext.rf _, fun ads v x hx => ⟨id, fun _ _ => ?_⟩⟩
    obtain ⟨n, rfl, hn⟩ := hx
    exact ⟨n, rfl, fun c hc => by cases hc⟩
  · obtain ⟨h1, h2⟩ := mtE_ok h
    refine ⟨h1, fun ads v x hx => ?_⟩
    obtain ⟨n, rfl, hn⟩ := hx
    obtain ⟨h3, h4⟩ := h2 v _ (hn _ rfl)
    exact ⟨h3, fun mu ha => ⟨n, rfl, fun c hc => by cases hc; exact h4 mu ha⟩⟩
  · cases h
theorem mtF_ok : ∀ {l r : List SV} {sb sb' : Sub}, mtF sb l r = some sb' → Ext sb sb' ∧ ∀ ads v xs, FS ads v r xs → (Wf v sb → Wf v sb') ∧ ∀ mu, Ag sb' v mu → FS ads mu l xs
  | [], [], sb, sb', h => by
    unfold mtF at h
    cases h
    refine ⟨Ext.rf _, fun ads v xs hx => ⟨id, fun _ _ => ?_⟩⟩
    cases xs with
    | nil => trivial
    | cons y ys => exact hx.elim
  | t :: l, a :: r, sb, sb', h => by
    unfold mtF at h
    split at h
    next sb1 h1 =>
      obtain ⟨e1, f1⟩ := mtV_ok h1
      obtain ⟨e2, f2⟩ := mtF_ok h
      refine ⟨e1.tr e2, fun ads v xs hx => ?_⟩
      obtain ⟨x, rest, rfl, hx1, hx2⟩ := FS.cons_inv hx
      obtain ⟨w1, g1⟩ := f1 ads v x hx1
      obtain ⟨w2, g2⟩ := f2 ads v rest hx2
      exact ⟨fun w => w2 (w1 w), fun mu ha => ⟨g1 mu (Ag.of e2 ha), g2 mu ha⟩⟩
    next => cases h
  | [], _ :: _, sb, sb', h => by unfold mtF at h; cases h
  | _ :: _, [], sb, sb', h => by unfold mtF at h; cases h
theorem mtL_ok {sl : SL} : ∀ {tl : SL} {sb sb' : Sub}, mtL sb sl tl = some sb' → Ext sb sb' ∧ ∀ ads v ls nL, LSat ads v ls nL sl → (Wf v sb → Wf v sb') ∧ ∀ mu, Ag sb' v mu → LSat ads mu ls nL tl
  | [], sb, sb', h => by
    unfold mtL at h
    cases h
    exact ⟨Ext.rf _, fun ads v ls nL hL => ⟨id, fun _ _ => ⟨hL.1, hL.2.1, fun _ hq => by cases hq⟩⟩⟩
  | (i, t) :: tl, sb, sb', h => by
    unfold mtL at h
    split at h
    next a ha =>
      split at h
      next sb1 h1 =>
        obtain ⟨e1, f1⟩ := mtV_ok h1
        obtain ⟨e2, f2⟩ := mtL_ok h
        refine ⟨e1.tr e2, fun ads v ls nL hL => ?_⟩
        obtain ⟨x, hx1, hx2⟩ := hL.at ha
        obtain ⟨w1, g1⟩ := f1 ads v x hx2
        obtain ⟨w2, g2⟩ := f2 ads v ls nL hL
        refine ⟨fun w => w2 (w1 w), fun mu hm => ⟨hL.1, hL.2.1, fun q hq => ?_⟩⟩
        rcases List.mem_cons.mp hq with rfl | hq
        · exact ⟨x, hx1, g1 mu (Ag.of e2 hm)⟩
        · exact (g2 mu hm).2.2 q hq
      next => cases h
    next => cases h
theorem mtX_ok {sb sb' : Sub} {x y : XO} (h : mtX sb x y = some sb') : Ext sb sb' ∧ ∀ v f n, XS v y f n → (Wf v sb → Wf v sb') ∧ ∀ mu, Ag sb' v mu → XS mu x f n := by
  unfold mtX at h
  split at h
  · cases h
    exact ⟨Ext.rf _, fun v f n _ => ⟨id, fun _ _ => trivial⟩⟩
  · split at h
    next hs =>
      split at h
      next s1 h1 =>
        obtain ⟨a1, a2⟩ := mtE_ok h1
        obtain ⟨b1, b2⟩ := mtE_ok h
        refine ⟨a1.tr b1, fun v f n hx => ?_⟩
        obtain ⟨kk, zz, g1, g2, g3⟩ := hx
        obtain ⟨w1, f1⟩ := a2 v _ g1
        obtain ⟨w2, f2⟩ := b2 v _ g2
        exact ⟨fun w => w2 (w1 w), fun mu hm => ⟨kk, zz, f1 mu (Ag.of b1 hm), f2 mu hm, fun j hj hs1 hk => g3 j hj (Int.le_trans hs hs1) hk⟩⟩
      next => cases h
    next => cases h
  · split at h
    next s1 h1 =>
      split at h
      next s2 h2 =>
        obtain ⟨a1, a2⟩ := mtE_ok h1
        obtain ⟨b1, b2⟩ := mtE_ok h2
        obtain ⟨c1, c2⟩ := mtE_ok h
        refine ⟨a1.tr (b1.tr c1), fun v f n hx => ?_⟩
        obtain ⟨kk, zz, rr, g1, g2, g3, g4⟩ := hx
        obtain ⟨w1, f1⟩ := a2 v _ g1
        obtain ⟨w2, f2⟩ := b2 v _ g2
        obtain ⟨w3, f3⟩ := c2 v _ g3
        exact ⟨fun w => w3 (w2 (w1 w)), fun mu hm => ⟨kk, zz, rr, f1 mu (Ag.of (b1.tr c1) hm), f2 mu (Ag.of c1 hm), f3 mu hm, g4⟩⟩
      next => cases h
    next => cases h
  · cases h
theorem mtC_ok {sb sb' : Sub} {t a : SE} (h : mtC sb t a = some sb') : Ext sb sb' ∧ ∀ cy ads v x, ES cy ads v a x → (Wf v sb → Wf v sb') ∧ ∀ mu, Ag sb' v mu → ES cy ads mu t x := by
  unfold mtC at h
  split at h
  · split at h
    next hk =>
      split at h
      next s1 hs1 =>
        obtain ⟨h1, h2⟩ := mtE_ok hs1
        obtain ⟨x1, x2⟩ := mtX_ok h
        refine ⟨h1.tr x1, fun cy ads v x hx => ?_⟩
        obtain ⟨n, f, e1, e2, e3, e4, e5, e6⟩ := hx
        obtain ⟨h3, h4⟩ := h2 v _ e4
        obtain ⟨x3, x4⟩ := x2 v f n e6
        refine ⟨fun w => x3 (h3 w), fun mu ha => ⟨n, f, by rw [hk.1]; exact e1, by rw [hk.1]; exact e2, e3, h4 mu (Ag.of x1 ha), fun j hj => ?_, x4 mu ha⟩⟩
        have := e5 j hj
        omega
      next => cases h
    next => cases h
  · split at h
    next hk =>
      obtain ⟨h1, h2⟩ := mtF_ok h
      refine ⟨h1, fun cy ads v x hx => ?_⟩
      obtain ⟨vs, e1, e2⟩ := hx
      obtain ⟨h3, h4⟩ := h2 ads v _ e2
      exact ⟨h3, fun mu ha => ⟨vs, by rw [hk]; exact e1, h4 mu ha⟩⟩
    next => cases h
  · cases h
theorem mtH_ok {strict : Bool} : ∀ {l r : SH} {sb sb' : Sub}, mtH strict sb l r = some sb' → Ext sb sb' ∧ l.length = r.length ∧ ∀ (cy : Nat → ClassId) (ads : List Nat) (v : List Int) (w0 ws : va_W) (off : Nat), (∀ (k : Nat) (o : Option SE), r[k]? = some o → OS cy ads v w0 ws (off + k) o) → (Wf v sb → Wf v sb') ∧ ∀ mu, Ag sb' v mu → ∀ (k : Nat) (o : Option SE), l[k]? = some o → OS cy ads mu (if strict = true then w0 else ws) ws (off + k) o
  | [], [], sb, sb', h => by
    unfold mtH at h
    cases h
    exact ⟨Ext.rf _, rfl, fun _ _ _ _ _ _ _ => ⟨id, fun _ _ k o hk => by simp at hk⟩⟩
  | none :: l, o :: r, sb, sb', h => by
    unfold mtH at h
    split at h
    next => cases h
    next hs =>
      obtain ⟨e2, len2, f2⟩ := mtH_ok h
      refine ⟨e2, by simp [len2], fun cy ads v w0 ws off hr => ?_⟩
      obtain ⟨w2, g2⟩ := f2 cy ads v w0 ws (off + 1) (fun k o hk => by
        have := hr (k + 1) o (by rw [List.getElem?_cons_succ]; exact hk)
        rwa [Nat.add_assoc, Nat.add_comm 1 k])
      refine ⟨w2, fun mu hm k o' hk => ?_⟩
      cases k with
      | zero =>
        rw [List.getElem?_cons_zero] at hk
        cases hk
        show ws[off + 0]? = _
        split
        next hst =>
          have h0 := hr 0 o rfl
          cases o with
          | none => exact h0
          | some z => exact absurd ⟨hst, rfl⟩ hs
        next => rfl
      | succ k =>
        rw [List.getElem?_cons_succ] at hk
        have := g2 mu hm k o' hk
        rwa [Nat.add_assoc, Nat.add_comm 1 k] at this
  | some t :: l, some a :: r, sb, sb', h => by
    unfold mtH at h
    split at h
    next sb1 h1 =>
      obtain ⟨e1, f1⟩ := mtC_ok h1
      obtain ⟨e2, len2, f2⟩ := mtH_ok h
      refine ⟨e1.tr e2, by simp [len2], fun cy ads v w0 ws off hr => ?_⟩
      obtain ⟨q, hq1, hq2⟩ := hr 0 (some a) rfl
      obtain ⟨w1, g1⟩ := f1 cy ads v _ hq2
      obtain ⟨w2, g2⟩ := f2 cy ads v w0 ws (off + 1) (fun k o hk => by
        have := hr (k + 1) o (by rw [List.getElem?_cons_succ]; exact hk)
        rwa [Nat.add_assoc, Nat.add_comm 1 k])
      refine ⟨fun w => w2 (w1 w), fun mu hm k o' hk => ?_⟩
      cases k with
      | zero =>
        rw [List.getElem?_cons_zero] at hk
        cases hk
        exact ⟨q, hq1, g1 mu (Ag.of e2 hm)⟩
      | succ k =>
        rw [List.getElem?_cons_succ] at hk
        have := g2 mu hm k o' hk
        rwa [Nat.add_assoc, Nat.add_comm 1 k] at this
    next => cases h
  | [], _ :: _, sb, sb', h => by unfold mtH at h; cases h
  | some _ :: _, none :: _, sb, sb', h => by unfold mtH at h; cases h
  | some _ :: _, [], sb, sb', h => by unfold mtH at h; cases h
  | none :: _, [], sb, sb', h => by unfold mtH at h; cases h
/-! substitution -/
def AgS (sg : List LE) (v mu : List Int) : Prop := ∀ (i : Nat) (e : LE), sg[i]? = some e → ∃ x, mu[i]? = some x ∧ EV v e x
def sbl (sg : List LE) : List (Int × Nat) → Option LE
  | [] => some (eC 0)
  | (k, i) :: r => match sg[i]?, sbl sg r with
    | some e, some f => some (eAddm k e f)
    | _, _ => none
def sbE (sg : List LE) (e : LE) : Option LE := match sbl sg e.2 with
  | some f => some (ePlus f e.1)
  | none => none
theorem sbl_ok {sg : List LE} {v mu : List Int} (hA : AgS sg v mu) : ∀ {r : List (Int × Nat)} {f : LE}, sbl sg r = some f → ∃ x, evl mu r = some x ∧ EV v f x
  | [], f, h => by
    unfold sbl at h
    cases h
    exact ⟨0, rfl, EV.const v 0⟩
  | (k, i) :: r, f, h => by
    unfold sbl at h
    split at h
    next e f' h1 h2 =>
      cases h
      obtain ⟨x, a1, a2⟩ := hA i e h1
      obtain ⟨y, b1, b2⟩ := sbl_ok hA h2
      exact ⟨k * x + y, evl_mk a1 b1, EV.addm a2 b2⟩
    next => cases h
theorem sbE_ok {sg : List LE} {v mu : List Int} (hA : AgS sg v mu) {e e' : LE} (h : sbE sg e = some e') : ∃ x, EV mu e x ∧ EV v e' x := by
  unfold sbE at h
  split at h
  next f h1 =>
    cases h
    obtain ⟨x, a, b⟩ := sbl_ok hA h1
    refine ⟨e.1 + x, ⟨x, a, rfl⟩, ?_⟩
    rw [Int.add_comm]
    exact EV.plus b
  next => cases h
def sbV (sg : List LE) (t : SV) : Option SV := match t with
  | some (.inr (.inl e)) => match sbE sg e with
    | some f => some (vInt f)
    | none => none
  | some (.inr (.inr (some e))) => match sbE sg e with
    | some f => some (vLong (some f))
    | none => none
  | t => some t
theorem sbV_ok {sg : List LE} {v mu : List Int} (hA : AgS sg v mu) {t a : SV} (h : sbV sg t = some a) {ads : List Nat} {x : Value} (hx : VS ads mu t x) : VS ads v a x := by
  unfold sbV at h
  split at h
  · split at h
    next f hf =>
      cases h
      obtain ⟨n, rfl, hn⟩ := hx
      obtain ⟨z, a1, a2⟩ := sbE_ok hA hf
      exact ⟨n, rfl, by rw [hn.uniq a1]; exact a2⟩
    next => cases h
  · split at h
    next f hf =>
      cases h
      obtain ⟨n, rfl, hn⟩ := hx
      obtain ⟨z, a1, a2⟩ := sbE_ok hA hf
      refine ⟨n, rfl, fun c hc => ?_⟩
      cases hc
      rw [(hn _ rfl).uniq a1]
      exact a2
    next => cases h
  · cases h
    rename_i hne hne2
    match t, hx, hne, hne2 with
    | none, hx, _, _ => trivial
    | some (.inl k), hx, _, _ => exact hx
    | some (.inr (.inr none)), hx, _, _ =>
      obtain ⟨n, rfl, hn⟩ := hx
      exact ⟨n, rfl, fun c hc => by cases hc⟩
    | some (.inr (.inr (some e))), hx, _, hne2 => exact absurd rfl (hne2 e)
    | some (.inr (.inl e)), hx, hne, _ => exact absurd rfl (hne e)
def sbF (sg : List LE) : List SV → Option (List SV)
  | [] => some []
  | t :: l => match sbV sg t, sbF sg l with
    | some a, some r => some (a :: r)
    | _, _ => none
theorem sbF_ok {sg : List LE} {v mu : List Int} (hA : AgS sg v mu) : ∀ {l r : List SV}, sbF sg l = some r → ∀ {ads : List Nat} {xs : List Value}, FS ads mu l xs → FS ads v r xs
  | [], r, h, ads, xs, hx => by
    unfold sbF at h
    cases h
    cases xs with
    | nil => trivial
    | cons y ys => exact hx.elim
  | t :: l, r, h, ads, xs, hx => by
    unfold sbF at h
    split at h
    next a r' h1 h2 =>
      cases h
      obtain ⟨x, rest, rfl, hx1, hx2⟩ := FS.cons_inv hx
      exact ⟨sbV_ok hA h1 hx1, sbF_ok hA h2 hx2⟩
    next => cases h
def sbX (sg : List LE) (x : XO) : Option XO := match x with
  | none => some none
  | some (0, k, z, r) => match sbE sg k, sbE sg z with
    | some k', some z' => some (some (0, k', z', r))
    | _, _ => none
  | some (q + 1, k, z, r) => match sbE sg k, sbE sg z, sbE sg r with
    | some k', some z', some r' => some (some (q + 1, k', z', r'))
    | _, _, _ => none
theorem sbX_ok {sg : List LE} {v mu : List Int} (hA : AgS sg v mu) {x y : XO} (h : sbX sg x = some y) {f : Nat → Int32} {n : Nat} (hx : XS mu x f n) : XS v y f n := by
  unfold sbX at h
  split at h
  · cases h; trivial
  · split at h
    next k' z' h1 h2 =>
      cases h
      obtain ⟨kk, zz, g1, g2, g3⟩ := hx
      obtain ⟨a, a1, a2⟩ := sbE_ok hA h1
      obtain ⟨b, b1, b2⟩ := sbE_ok hA h2
      exact ⟨kk, zz, by rw [g1.uniq a1]; exact a2, by rw [g2.uniq b1]; exact b2, g3⟩
    next => cases h
  · split at h
    next k' z' r' h1 h2 h3 =>
      cases h
      obtain ⟨kk, zz, rr, g1, g2, g3, g4⟩ := hx
      obtain ⟨a, a1, a2⟩ := sbE_ok hA h1
      obtain ⟨b, b1, b2⟩ := sbE_ok hA h2
      obtain ⟨c, c1, c2⟩ := sbE_ok hA h3
      exact ⟨kk, zz, rr, by rw [g1.uniq a1]; exact a2, by rw [g2.uniq b1]; exact b2, by rw [g3.uniq c1]; exact c2, g4⟩
    next => cases h
def sbC (sg : List LE) (t : SE) : Option SE := match t with
  | .inl (ty, len, lo, hi, x) => match sbE sg len, sbX sg x with
    | some f, some y => some (.inl (ty, f, lo, hi, y))
    | _, _ => none
  | .inr (ci, fs) => match sbF sg fs with
    | some r => some (.inr (ci, r))
    | none => none
theorem sbC_ok {sg : List LE} {v mu : List Int} (hA : AgS sg v mu) {t a : SE} (h : sbC sg t = some a) {cy : Nat → ClassId} {ads : List Nat} {x : va_E} (hx : ES cy ads mu t x) : ES cy ads v a x := by
  unfold sbC at h
  split at h
  · split at h
    next f y hf hy =>
      cases h
      obtain ⟨n, g, e1, e2, e3, e4, e5, e6⟩ := hx
      obtain ⟨z, a1, a2⟩ := sbE_ok hA hf
      exact ⟨n, g, e1, e2, e3, by rw [e4.uniq a1]; exact a2, e5, sbX_ok hA hy e6⟩
    next => cases h
  · split at h
    next r hr =>
      cases h
      obtain ⟨vs, e1, e2⟩ := hx
      exact ⟨vs, e1, sbF_ok hA hr e2⟩
    next => cases h
