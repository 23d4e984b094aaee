/-! making objects and arrays -/
def dfl (t : FieldType) : SV := match t with
  | .int => vInt (eC 0)
  | .boolean => vInt (eC 0)
  | .byte => vInt (eC 0)
  | _ => none
theorem dfl_ok {ads : List Nat} {v : List Int} (t : FieldType) : VS ads v (dfl t) (defaultValue t) := by
  unfold dfl
  split
  · exact ⟨0, rfl, EV.const v 0⟩
  · exact ⟨0, rfl, EV.const v 0⟩
  · exact ⟨0, rfl, EV.const v 0⟩
  · trivial
theorem FS.map {ads : List Nat} {v : List Int} {f : Nat → SV} {h : Nat → Value} (hf : ∀ k, VS ads v (f k) (h k)) : ∀ l : List Nat, FS ads v (l.map f) (l.map h)
  | [] => trivial
  | k :: l => ⟨hf k, FS.map hf l⟩
def NWok (TB : List Cond) (own : String) (cl : List vw_C) (NW : List (Nat × Nat)) : Prop := ∀ q ∈ NW, ∀ r : vw_C, cl[q.2]? = some r → Cond.classLink own q.1 r.1 ∈ TB ∧ Cond.instantiable r.1 r.2.2 ∈ TB ∧ Cond.initialized r.1 ∈ TB
def newF (ty : Nat → Nat → FieldType) (cl : List vw_C) (P : PD) (ix : Nat) (st : List SV) (sh : SH) (ce so : Nat) : Option (List SV × SH × Nat × Nat) := match fnd ix (pdNW P) with
  | some ci => match cl[ci]? with
    | some r => if ce + 1 ≤ kMc (pdK P) ∧ so + r.2.2 ≤ kMs (pdK P) then some (vRef sh.length :: st, sh ++ [some (.inr (ci, (List.range r.2.2).map (fun k => dfl (ty ci k))))], ce + 1, so + r.2.2) else none
    | none => none
  | none => none
def arrT (a : ArrayType) : Option Nat := match a with
  | .int => some 0
  | .byte => some 1
  | _ => none
def nwaF (P : PD) (a : ArrayType) (lo hi : Int) (g : Ctx) (st : List SV) (sh : SH) (ce so : Nat) : Option (List SV × SH × Nat × Nat) := match st, arrT a with
  | some (.inr (.inl le)) :: r, some t => if 0 ≤ (ivn g le).1 ∧ (ivn g le).2 ≤ 67108864 ∧ lo ≤ 0 ∧ 0 ≤ hi ∧ ce + 1 ≤ kMc (pdK P) ∧ so + (ivn g le).2.toNat ≤ kMs (pdK P) then some (vRef sh.length :: r, sh ++ [some (.inl (t, le, lo, hi, none))], ce + 1, so + (ivn g le).2.toNat) else none
  | _, _ => none
theorem HS.push {cy : Nat → ClassId} {ads : List Nat} {v : List Int} {w0 ws : va_W} {sh : SH} (h : HS cy ads v w0 sh ws) {a : Nat} {e : va_E} {se : SE} (he : ES cy (ads ++ [a]) v se e) : HS cy (ads ++ [a]) v w0 (sh ++ [some se]) (ws ++ [(a, e)]) := by
  refine ⟨by rw [List.map_append, h.1]; rfl, by simp [h.2.1], fun k o hk => ?_⟩
  by_cases hl : k < sh.length
  · rw [List.getElem?_append_left hl] at hk
    have hw : k < ws.length := by rw [h.2.1]; exact hl
    have := h.2.2 k o hk
    match o, this with
    | some s', this =>
      obtain ⟨q, h1, h2⟩ := this
      refine ⟨q, by rw [List.getElem?_append_left hw]; exact h1, ?_⟩
      have := h2.mono (bs := [a]) (w := [])
      rwa [List.append_nil] at this
    | none, this =>
      show (ws ++ [(a, e)])[k]? = w0[k]?
      rw [List.getElem?_append_left hw]
      exact this
  · rw [List.getElem?_append_right (by omega)] at hk
    have hz : k - sh.length < 1 := (List.getElem?_eq_some_iff.mp hk).1
    rw [show k - sh.length = 0 by omega] at hk
    cases hk
    refine ⟨(a, e), ?_, he⟩
    rw [List.getElem?_append_right (by rw [h.2.1]; omega), h.2.1, show k - sh.length = 0 by omega]
    rfl
theorem FS.monoA {ads bs : List Nat} {v : List Int} {l : List SV} {r : List Value} (h : FS ads v l r) : FS (ads ++ bs) v l r := by
  have := h.mono (bs := bs) (w := [])
  rwa [List.append_nil] at this
theorem LSat.monoA {ads bs : List Nat} {v : List Int} {ls : Array Slot} {nL : Nat} {sl : SL} (h : LSat ads v ls nL sl) : LSat (ads ++ bs) v ls nL sl := by
  have := h.mono (bs := bs) (w := [])
  rwa [List.append_nil] at this
theorem new_ge {w0 ws : va_W} {n a : Nat} {e : va_E} {bs : List Nat} (hads : (ws.map fun q => q.1) = (w0.map fun q => q.1) ++ bs) (hD : va_D (va_A w0 n) (ws ++ [(a, e)])) : n ≤ a := by
  have h1 := hD.2 ws.length (a, e) (by simp)
  rcases h1 with ⟨k, e', hk⟩ | h1
  · exfalso
    have hk0 := (List.getElem?_eq_some_iff.mp hk).1
    have hm : (ws.map fun q => q.1)[k]? = some a := by
      rw [hads, List.getElem?_append_left (by simpa using hk0), List.getElem?_map, hk]
      rfl
    rw [List.getElem?_map] at hm
    obtain ⟨q, hq1, hq2⟩ := Option.map_eq_some_iff.mp hm
    have hkl := (List.getElem?_eq_some_iff.mp hq1).1
    have := hD.1 k ws.length q (a, e) (by rw [List.getElem?_append_left hkl]; exact hq1) (by simp) hq2
    omega
  · exact h1
section Make
variable {p : Program} {l : Launch} {e : Env} {s : State} {m : MethodId} {args : Array Value} {below : List Frame} {meth : Method} {c : Code} {H : Heap} {locs : List Loc} {Q : State → Prop}
variable {TB : List Cond} {cl : List vw_C} {D : va_G} {cy : Nat → ClassId} {cc : ByteArray} {pc nL : Nat} {ls : Array Slot} {own : String} {P : PD} {w0 ws : va_W} {v : List Int} {ads bs : List Nat} {stk : List Value} {ty : Nat → Nat → FieldType}
theorem newF_ok (hexec : p.tables.exec = Jvm.exec) (hb : c.code = cc) (hts : ∀ w ∈ TB, w.before args s = true) (hcl : CLok TB cl ty) (hnw : NWok TB own cl (pdNW P)) (hown : s.vm.findClass own = some m.cls) (hK : va_K D cl (tysOf cy) s) (hP : va_P D cl ws H) (hD : va_D (va_A w0 s.heap.size) ws) (hS : va_S (va_A w0 s.heap.size) s.heap H locs) (hads : ads = (w0.map fun q => q.1) ++ bs)
    {ix : Nat} {st st' : List SV} {sh sh' : SH} {ce so ce' so' : Nat} (h : newF ty cl P ix st sh ce so = some (st', sh', ce', so')) (hSt : FS ads v st stk) (hH : HS cy ads v w0 sh ws) (hdg : decode cc pc = .ok (.new ix, 3))
    (kk : ∀ (a : Nat) (ws' : va_W) (H1 : Heap) (stk' : List Value), s.heap.size ≤ a → FS (ads ++ [a]) v st' stk' → HS cy (ads ++ [a]) v w0 sh' ws' → va_P D cl ws' H1 → va_D (va_A w0 s.heap.size) ws' → va_S (va_A w0 s.heap.size) s.heap H1 locs → W p l e (rmK (pdK P)) s m args below meth c H1 locs ce' so' Q (F0 m (pc + 3) ls stk')) :
    W p l e (rmK (pdK P)) s m args below meth c H locs ce so Q (F0 m pc ls stk) := by
  unfold newF at h
  split at h
  next ci h1 =>
    split at h
    next r h2 =>
      split at h
      next h3 =>
        cases h
        obtain ⟨w1, w2, w3⟩ := hnw _ (fnd_mem h1) r h2
        obtain ⟨t1, t2, t3⟩ := hcl _ _ h2
        refine va_new hexec hb hts t1 (ty ci) t2 hown (hts _ w1) (hts _ w2) (hts _ w3) hK hP hD hS (fun q h => Or.inr h) h2 (fs := (List.range r.2.2).map fun k => defaultValue (ty ci k)) (fun j hj => ?_) h3.1 h3.2 hdg fun a H1 a1 a2 a3 => ?_
        · simp [vp_V, hj]
        · have hge := new_ge (bs := bs) (hH.1.trans hads) a2
          have hlen : ads.length = sh.length := by rw [← hH.1, List.length_map]; exact hH.2.1
          refine kk a _ H1 _ hge ⟨⟨a, ?_, rfl⟩, hSt.monoA⟩ (hH.push ⟨_, rfl, FS.map (fun k => dfl_ok _) _⟩) a1 a2 a3
          rw [← hlen]
          simp
      next => cases h
    next => cases h
  next => cases h
theorem nwaF_ok (hexec : p.tables.exec = Jvm.exec) (hb : c.code = cc) (hts : ∀ w ∈ TB, w.before args s = true) (hai : Cond.arrayClass .int ∈ TB ∧ Cond.arrayClass .byte ∈ TB) (hK : va_K D cl (tysOf cy) s) (hP : va_P D cl ws H) (hD : va_D (va_A w0 s.heap.size) ws) (hS : va_S (va_A w0 s.heap.size) s.heap H locs) (hads : ads = (w0.map fun q => q.1) ++ bs)
    {at' : ArrayType} {lo hi : Int} {g : Ctx} (hx : SX v g) {st st' : List SV} {sh sh' : SH} {ce so ce' so' : Nat} (h : nwaF P at' lo hi g st sh ce so = some (st', sh', ce', so')) (hSt : FS ads v st stk) (hH : HS cy ads v w0 sh ws) (hdg : decode cc pc = .ok (.newarray at', 2))
    (kk : ∀ (a : Nat) (ws' : va_W) (H1 : Heap) (stk' : List Value), s.heap.size ≤ a → FS (ads ++ [a]) v st' stk' → HS cy (ads ++ [a]) v w0 sh' ws' → va_P D cl ws' H1 → va_D (va_A w0 s.heap.size) ws' → va_S (va_A w0 s.heap.size) s.heap H1 locs → W p l e (rmK (pdK P)) s m args below meth c H1 locs ce' so' Q (F0 m (pc + 2) ls stk')) :
    W p l e (rmK (pdK P)) s m args below meth c H locs ce so Q (F0 m pc ls stk) := by
  unfold nwaF at h
  split at h
  next le r t h1 =>
    split at h
    next h3 =>
      obtain ⟨c1, c2, c3, c4, c5, c6⟩ := h3
      cases h
      obtain ⟨x, rest, rfl, ⟨n, rfl, hn⟩, hr⟩ := hSt.cons_inv
      have hb1 := ivn_ok hx hn
      have hN : n.toNatClampNeg = n.toInt.toNat := rfl
      have hlen : ads.length = sh.length := by rw [← hH.1, List.length_map]; exact hH.2.1
      have key : ∀ (fty : FieldType), newarray.typeOf at' = fty → defaultValue fty = .int 0 → componentBytes fty ≤ 8 → Cond.arrayClass fty ∈ TB → (tysOf cy)[t]? = some (cy t, fty) → (∀ cA, va_RA s cA fty → va_RA s (cy t) fty → cA = cy t) → t < 2 → W p l e (rmK (pdK P)) s m args below meth c H locs ce so Q (F0 m pc ls (.int n :: rest)) := fun fty k1 k2 k3 k4 k5 k6 k7 => by
        refine va_newa hexec hb (by rw [k1]; exact hts _ k4) k1 hK hP hD hS (fun q h => Or.inr h) (n := n) (N' := n.toInt.toNat) (a0 := (n.toInt.toNat, .inl (fun _ => 0))) (fun cA => by rw [vp_cell_i, k2]) (fun q => by rw [Int32.lt_iff_toInt_lt, Int32.toInt_zero] at q; omega) hN ?_ c5 ?_ hdg fun a cA H1 hK1 a1 a2 a3 => ?_
        · have : n.toInt.toNat * componentBytes fty ≤ 67108864 * 8 := Nat.mul_le_mul (by omega) k3
          omega
        · show so + n.toInt.toNat ≤ kMs (pdK P)
          omega
        · have e1 : cA = cy t := k6 cA (hK1.2 (tysOf cy).length (cA, fty) (by simp)).2 (hK.2 t _ k5).2
          subst e1
          have hge := new_ge (bs := bs) (hH.1.trans hads) a2
          refine W.widen (k := ce + 1) (n := so + (ivn g le).2.toNat) (Nat.le_refl _) (by omega) ?_
          refine kk a _ H1 _ hge ⟨⟨a, ?_, rfl⟩, hr.monoA⟩ (hH.push ⟨n.toInt.toNat, _, rfl, k7, by omega, ?_, fun j hj => ⟨?_, ?_⟩, trivial⟩) a1 a2 a3
          · rw [← hlen]; simp
          · rw [show ((n.toInt.toNat : Nat) : Int) = n.toInt by omega]; exact hn
          · show lo ≤ (0 : Int32).toInt
            rw [Int32.toInt_zero]; exact c3
          · show (0 : Int32).toInt ≤ hi
            rw [Int32.toInt_zero]; exact c4
      unfold arrT at h1
      split at h1
      · cases h1
        exact key .int rfl rfl (by decide) hai.1 rfl (fun cA u1 u2 => Option.some.inj (u1.symm.trans u2)) (by decide)
      · cases h1
        exact key .byte rfl rfl (by decide) hai.2 rfl (fun cA u1 u2 => Option.some.inj (u1.symm.trans u2)) (by decide)
      · cases h1
    next => cases h
  next => cases h
end Make
/-! Math's members, and the comparison of longs: each way of them -/
def mathF (k : Nat) (g : Ctx) (st : List SV) : Option (List (List LE × List SV)) := match k, st with
  | 0, some (.inr (.inl e2)) :: some (.inr (.inl e1)) :: r => some [([ePlus (eSub e2 e1) (-1)], vInt e2 :: r), ([eSub e1 e2], vInt e1 :: r)]
  | 1, some (.inr (.inl e2)) :: some (.inr (.inl e1)) :: r => some [([ePlus (eSub e1 e2) (-1)], vInt e2 :: r), ([eSub e2 e1], vInt e1 :: r)]
  | 2, some (.inr (.inl e1)) :: r => if i32lo < (ivn g e1).1 then some [([e1], vInt e1 :: r), ([ePlus (eSc (-1) e1) (-1)], vInt (eSc (-1) e1) :: r)] else none
  | 3, some (.inr (.inr (some e2))) :: some (.inr (.inr (some e1))) :: r => some [([ePlus (eSub e1 e2) (-1)], vLong (some e1) :: r), ([eSub e2 e1], vLong (some e2) :: r)]
  | 4, some (.inr (.inr (some e2))) :: some (.inr (.inr (some e1))) :: r => some [([ePlus (eSub e1 e2) (-1)], vLong (some e2) :: r), ([eSub e2 e1], vLong (some e1) :: r)]
  | _, _ => none
def lcmpF (st : List SV) : Option (List (List LE × List SV)) := match st with
  | some (.inr (.inr (some e2))) :: some (.inr (.inr (some e1))) :: r => some [([ePlus (eSub e1 e2) (-1)], vInt (eC 1) :: r), ([eSub e1 e2, eSub e2 e1], vInt (eC 0) :: r), ([ePlus (eSub e2 e1) (-1)], vInt (eC (-1)) :: r)]
  | _ => none
def maW (own : String) (q : Nat × Nat) : List Cond := match q.2 with
  | 0 => [Cond.methodLink own q.1 Lib.Math.max.name, Cond.static Lib.Math.max.name, Cond.initialized "java/lang/Math", Cond.code Lib.Math.max.name Lib.Math.max.code 2 (some .int)]
  | 1 => [Cond.methodLink own q.1 Lib.Math.min.name, Cond.static Lib.Math.min.name, Cond.initialized "java/lang/Math", Cond.code Lib.Math.min.name Lib.Math.min.code 2 (some .int)]
  | 2 => [Cond.methodLink own q.1 Lib.Math.abs.name, Cond.static Lib.Math.abs.name, Cond.initialized "java/lang/Math", Cond.code Lib.Math.abs.name Lib.Math.abs.code 1 (some .int)]
  | 3 => [Cond.methodLink own q.1 Lib.MathLoose.max_long.x, Cond.static Lib.MathLoose.max_long.x, Cond.initialized "java/lang/Math", Cond.code Lib.MathLoose.max_long.x Lib.MathLoose.max_long.code 4 (some .long)]
  | 5 => [Cond.methodLink own q.1 arraycopyName, Cond.native arraycopyName, Cond.static arraycopyName, Cond.initialized "java/lang/System"]
  | _ => [Cond.methodLink own q.1 Lib.MathLoose.min_long.x, Cond.static Lib.MathLoose.min_long.x, Cond.initialized "java/lang/Math", Cond.code Lib.MathLoose.min_long.x Lib.MathLoose.min_long.code 4 (some .long)]
def MAok (TB : List Cond) (own : String) (MA : List (Nat × Nat)) : Prop := ∀ q ∈ MA, ∀ w ∈ maW own q, w ∈ TB
section Ways
variable {p : Program} {l : Launch} {e : Env} {R : Room} {s : State} {m : MethodId} {args : Array Value} {below : List Frame} {meth : Method} {c : Code} {H : Heap} {locs : List Loc} {cells slots : Nat} {Q : State → Prop}
variable {TB : List Cond} {cc : ByteArray} {pc : Nat} {ads : List Nat} {v : List Int} {ls : Array Slot} {stk : List Value} {own : String}
theorem lcmpF_ok (hexec : p.tables.exec = Jvm.exec) (hb : c.code = cc) {st : List SV} {al : List (List LE × List SV)} (h : lcmpF st = some al) (hS : FS ads v st stk) (hdg : decode cc pc = .ok (.lcmp, 1))
    (kk : ∀ q ∈ al, SC v q.1 → ∀ stk', FS ads v q.2 stk' → W p l e R s m args below meth c H locs cells slots Q (F0 m (pc + 1) ls stk')) : W p l e R s m args below meth c H locs cells slots Q (F0 m pc ls stk) := by
  unfold lcmpF at h
  split at h
  next e2 e1 r =>
    cases h
    obtain ⟨x, rest, rfl, ⟨n2, rfl, hv2⟩, hr⟩ := hS.cons_inv
    obtain ⟨x2, rest2, rfl, ⟨n1, rfl, hv1⟩, hr2⟩ := hr.cons_inv
    have g1 := hv1 _ rfl
    have g2 := hv2 _ rfl
    refine W.lcmp hexec hb hdg ?_
    rcases Int.lt_trichotomy n1.toInt n2.toInt with hc | hc | hc
    · have hz : lg_cmp n1 n2 = -1 := by
        unfold lg_cmp
        rw [if_neg (fun q => by rw [gt_iff_lt, Int64.lt_iff_toInt_lt] at q; omega), if_neg (fun q => by rw [q] at hc; omega)]
      rw [hz]
      exact kk ([ePlus (eSub e2 e1) (-1)], vInt (eC (-1)) :: r) (by simp) (SC.mk1 (EV.plus (g2.sub g1)) (by omega)) _ ⟨⟨-1, rfl, EV.const _ _⟩, hr2⟩
    · have hz : lg_cmp n1 n2 = 0 := by
        unfold lg_cmp
        rw [if_neg (fun q => by rw [gt_iff_lt, Int64.lt_iff_toInt_lt] at q; omega), if_pos (Int64.toInt_inj.mp hc)]
      rw [hz]
      exact kk ([eSub e1 e2, eSub e2 e1], vInt (eC 0) :: r) (by simp) (SC.mk2 (g1.sub g2) (by omega) (g2.sub g1) (by omega)) _ ⟨⟨0, rfl, EV.const _ _⟩, hr2⟩
    · have hz : lg_cmp n1 n2 = 1 := by
        unfold lg_cmp
        rw [if_pos (by rw [gt_iff_lt, Int64.lt_iff_toInt_lt]; omega)]
      rw [hz]
      exact kk ([ePlus (eSub e1 e2) (-1)], vInt (eC 1) :: r) (by simp) (SC.mk1 (EV.plus (g1.sub g2)) (by omega)) _ ⟨⟨1, rfl, EV.const _ _⟩, hr2⟩
  next => cases h
theorem mathF_ok (hexec : p.tables.exec = Jvm.exec) (hb : c.code = cc) (hml : c.maxLocals = ls.size) (hown : s.vm.findClass own = some m.cls) (hts : ∀ w ∈ TB, w.before args s = true) {MA : List (Nat × Nat)} (hma : MAok TB own MA) {ix k : Nat} (hk : (ix, k) ∈ MA) (hf : 1 ≤ R.frames) (hlo : (st0 : Nat) → st0 ≤ 8 → st0 + 15 ≤ R.locals) (hc : cells ≤ R.cells) (hs : slots ≤ R.slots)
    {g : Ctx} (hx : SX v g) {st : List SV} {al : List (List LE × List SV)} (h : mathF k g st = some al) (hS : FS ads v st stk) (h8 : (st.map catS).sum ≤ 8) (hdg : decode cc pc = .ok (.invokestatic ix, 3))
    (kk : ∀ q ∈ al, SC v q.1 → ∀ stk', FS ads v q.2 stk' → W p l e R s m args below meth c H locs cells slots Q (F0 m (pc + 3) ls stk')) : W p l e R s m args below meth c H locs cells slots Q (F0 m pc ls stk) := by
  have hw := hma _ hk
  have hb8 : ∀ (xs rest : List Value), stk = xs ++ rest → (rest.map fun v => v.category).sum + 15 ≤ R.locals := fun xs rest e1 => by
    have h1 := cats_le hS
    rw [e1, List.map_append, List.sum_append] at h1
    exact hlo _ (by omega)
  unfold mathF at h
  split at h
  · next e2 e1 r =>
    cases h
    obtain ⟨x, rest, rfl, ⟨n2, rfl, g2⟩, hr⟩ := hS.cons_inv
    obtain ⟨x2, rest2, rfl, ⟨n1, rfl, g1⟩, hr2⟩ := hr.cons_inv
    have hb' := hb8 [_, _] rest2 rfl
    refine va_mmax hexec hb hml hown (hts _ (hw _ (by simp [maW]))) (hts _ (hw _ (by simp [maW]))) (hts _ (hw _ (by simp [maW]))) (hts _ (hw _ (by simp [maW]))) hf (by omega) hc hs hdg ?_
    split
    next hlt =>
      rw [Int32.lt_iff_toInt_lt] at hlt
      exact kk ([ePlus (eSub e2 e1) (-1)], vInt e2 :: r) (by simp) (SC.mk1 (EV.plus (g2.sub g1)) (by omega)) _ ⟨⟨n2, rfl, g2⟩, hr2⟩
    next hlt =>
      rw [Int32.lt_iff_toInt_lt] at hlt
      exact kk ([eSub e1 e2], vInt e1 :: r) (by simp) (SC.mk1 (g1.sub g2) (by omega)) _ ⟨⟨n1, rfl, g1⟩, hr2⟩
  · next e2 e1 r =>
    cases h
    obtain ⟨x, rest, rfl, ⟨n2, rfl, g2⟩, hr⟩ := hS.cons_inv
    obtain ⟨x2, rest2, rfl, ⟨n1, rfl, g1⟩, hr2⟩ := hr.cons_inv
    have hb' := hb8 [_, _] rest2 rfl
    refine va_mmin hexec hb hml hown (hts _ (hw _ (by simp [maW]))) (hts _ (hw _ (by simp [maW]))) (hts _ (hw _ (by simp [maW]))) (hts _ (hw _ (by simp [maW]))) hf (by omega) hc hs hdg ?_
    split
    next hlt =>
      rw [Int32.lt_iff_toInt_lt] at hlt
      exact kk ([ePlus (eSub e1 e2) (-1)], vInt e2 :: r) (by simp) (SC.mk1 (EV.plus (g1.sub g2)) (by omega)) _ ⟨⟨n2, rfl, g2⟩, hr2⟩
    next hlt =>
      rw [Int32.lt_iff_toInt_lt] at hlt
      exact kk ([eSub e2 e1], vInt e1 :: r) (by simp) (SC.mk1 (g2.sub g1) (by omega)) _ ⟨⟨n1, rfl, g1⟩, hr2⟩
  · next e1 r =>
    split at h
    next hlo1 =>
      cases h
      obtain ⟨x, rest, rfl, ⟨n1, rfl, g1⟩, hr⟩ := hS.cons_inv
      have hb' := hb8 [_] rest rfl
      have hn1 := ivn_ok hx g1
      refine va_mabs hexec hb hml hown (hts _ (hw _ (by simp [maW]))) (hts _ (hw _ (by simp [maW]))) (hts _ (hw _ (by simp [maW]))) (hts _ (hw _ (by simp [maW]))) hf (by omega) hc hs hdg ?_
      split
      next hlt =>
        rw [Int32.le_iff_toInt_le, Int32.toInt_zero] at hlt
        exact kk ([e1], vInt e1 :: r) (by simp) (SC.mk1 g1 hlt) _ ⟨⟨n1, rfl, g1⟩, hr⟩
      next hlt =>
        rw [Int32.le_iff_toInt_le, Int32.toInt_zero] at hlt
        refine kk ([ePlus (eSc (-1) e1) (-1)], vInt (eSc (-1) e1) :: r) (by simp) (SC.mk1 (EV.plus (EV.sc g1)) (by omega)) _ ⟨⟨0 - n1, rfl, ?_⟩, hr⟩
        have : (0 - n1).toInt = -1 * n1.toInt := by
          rw [nu_sub (by rw [Int32.toInt_zero]; unfold i32lo at hlo1; omega) (by rw [Int32.toInt_zero]; unfold i32lo at hlo1; omega), Int32.toInt_zero]
          omega
        rw [this]
        exact EV.sc g1
    next => cases h
  · next e2 e1 r =>
    cases h
    obtain ⟨x, rest, rfl, ⟨n2, rfl, g2'⟩, hr⟩ := hS.cons_inv
    obtain ⟨x2, rest2, rfl, ⟨n1, rfl, g1'⟩, hr2⟩ := hr.cons_inv
    have g1 := g1' _ rfl
    have g2 := g2' _ rfl
    refine va_mmax_long hexec hb hml hown (hts _ (hw _ (by simp [maW]))) (hts _ (hw _ (by simp [maW]))) (hts _ (hw _ (by simp [maW]))) (hts _ (hw _ (by simp [maW]))) hf (hb8 [_, _] rest2 rfl) hc hs hdg ?_
    split
    next hlt =>
      rw [Int64.lt_iff_toInt_lt] at hlt
      exact kk ([ePlus (eSub e1 e2) (-1)], vLong (some e1) :: r) (by simp) (SC.mk1 (EV.plus (g1.sub g2)) (by omega)) _ ⟨⟨n1, rfl, g1'⟩, hr2⟩
    next hlt =>
      rw [Int64.lt_iff_toInt_lt] at hlt
      exact kk ([eSub e2 e1], vLong (some e2) :: r) (by simp) (SC.mk1 (g2.sub g1) (by omega)) _ ⟨⟨n2, rfl, g2'⟩, hr2⟩
  · next e2 e1 r =>
    cases h
    obtain ⟨x, rest, rfl, ⟨n2, rfl, g2'⟩, hr⟩ := hS.cons_inv
    obtain ⟨x2, rest2, rfl, ⟨n1, rfl, g1'⟩, hr2⟩ := hr.cons_inv
    have g1 := g1' _ rfl
    have g2 := g2' _ rfl
    refine va_mmin_long hexec hb hml hown (hts _ (hw _ (by simp [maW]))) (hts _ (hw _ (by simp [maW]))) (hts _ (hw _ (by simp [maW]))) (hts _ (hw _ (by simp [maW]))) hf (hb8 [_, _] rest2 rfl) hc hs hdg ?_
    split
    next hlt =>
      rw [Int64.lt_iff_toInt_lt] at hlt
      exact kk ([ePlus (eSub e1 e2) (-1)], vLong (some e2) :: r) (by simp) (SC.mk1 (EV.plus (g1.sub g2)) (by omega)) _ ⟨⟨n2, rfl, g2'⟩, hr2⟩
    next hlt =>
      rw [Int64.lt_iff_toInt_lt] at hlt
      exact kk ([eSub e2 e1], vLong (some e1) :: r) (by simp) (SC.mk1 (g2.sub g1) (by omega)) _ ⟨⟨n1, rfl, g1'⟩, hr2⟩
  · cases h
end Ways
/-! System.arraycopy between two arrays of bytes, from their starts -/
def copyF (g : Ctx) (cs : List Cert) (st : List SV) (sh : SH) : Option (List SV × SH) := match st with
  | some (.inr (.inl e)) :: some (.inr (.inl (0, []))) :: some (.inl k1) :: some (.inr (.inl (0, []))) :: some (.inl k0) :: r => match sh[k0]?, sh[k1]? with
    | some (some (.inl (1, len0, lo0, hi0, _))), some (some (.inl (1, len1, lo1, hi1, _))) => if -128 ≤ lo0 ∧ hi0 ≤ 127 ∧ lo1 ≤ lo0 ∧ hi0 ≤ hi1 then (match nn g cs e with
      | some c1 => match nn g c1 (eSub len0 e) with
        | some c2 => match nn g c2 (eSub len1 e) with
          | some _ => some (r, sh.set k1 (some (.inl (1, len1, lo1, hi1, none))))
          | none => none
        | none => none
      | none => none) else none
    | _, _ => none
  | _ => none
section Copy
variable {p : Program} {l : Launch} {e : Env} {R : Room} {s : State} {m : MethodId} {args : Array Value} {below : List Frame} {meth : Method} {c : Code} {H : Heap} {locs : List Loc} {cells slots : Nat} {Q : State → Prop}
variable {TB : List Cond} {cl : List vw_C} {D : va_G} {cy : Nat → ClassId} {cc : ByteArray} {pc : Nat} {A : Nat → Prop} {w0 ws : va_W} {ads : List Nat} {v : List Int} {ls : Array Slot} {stk : List Value} {own : String}
theorem zero_of {v : List Int} {n : Int32} (h : EV v (0, []) n.toInt) : n = 0 := by
  have h1 : n.toInt = 0 := h.const_inv rfl
  exact Int32.toInt_inj.mp (by rw [h1, Int32.toInt_zero])
theorem copyF_ok (hexec : p.tables.exec = Jvm.exec) (hb : c.code = cc) (hml : c.maxLocals = ls.size) (hown : s.vm.findClass own = some m.cls) (hts : ∀ w ∈ TB, w.before args s = true) {MA : List (Nat × Nat)} (hma : MAok TB own MA) {ix : Nat} (hk : (ix, 5) ∈ MA) (hf : 1 ≤ R.frames) (hlo : 26 ≤ R.locals)
    (hK : va_K D cl (tysOf cy) s) (hP : va_P D cl ws H) (hD : va_D A ws) (hSS : va_S A s.heap H locs) {g : Ctx} {cs : List Cert} (hx : SX v g) {st st' : List SV} {sh sh' : SH} (h : copyF g cs st sh = some (st', sh')) (hS : FS ads v st stk) (hH : HS cy ads v w0 sh ws) (h8 : (st'.map catS).sum ≤ 8) (hdg : decode cc pc = .ok (.invokestatic ix, 3))
    (kk : ∀ stk' ws' H1 locs1, FS ads v st' stk' → HS cy ads v w0 sh' ws' → va_P D cl ws' H1 → va_D A ws' → va_S A s.heap H1 locs1 → W p l e R s m args below meth c H1 locs1 cells slots Q (F0 m (pc + 3) ls stk')) : W p l e R s m args below meth c H locs cells slots Q (F0 m pc ls stk) := by
  have hw := hma _ hk
  unfold copyF at h
  split at h
  next ee k1 k0 r =>
    split at h
    next len0 lo0 hi0 x0 len1 lo1 hi1 x1 q0 q1 =>
      split at h
      next hr =>
        split at h
        next c1 n1 =>
          split at h
          next c2 n2 =>
            split at h
            next c3 n3 =>
              cases h
              obtain ⟨y, rest, rfl, ⟨n, rfl, hn⟩, hr1⟩ := hS.cons_inv
              obtain ⟨y2, rest2, rfl, ⟨dp, rfl, hdp⟩, hr2⟩ := hr1.cons_inv
              obtain ⟨y3, rest3, rfl, ⟨a1, ha1, rfl⟩, hr3⟩ := hr2.cons_inv
              obtain ⟨y4, rest4, rfl, ⟨sp, rfl, hsp⟩, hr4⟩ := hr3.cons_inv
              obtain ⟨y5, rest5, rfl, ⟨a0, ha0, rfl⟩, hr5⟩ := hr4.cons_inv
              have e1 := zero_of hdp
              have e2 := zero_of hsp
              subst e1; subst e2
              obtain ⟨e0, g1, m0, f0, rfl, -, hm0, gl0, gr0, -⟩ := hH.get q0 ha0
              obtain ⟨e1, k1', m1, f1, rfl, ht1, hm1, gl1, gr1, -⟩ := hH.get q1 ha1
              have b1 := nn_ok hx n1 hn
              have b2 := nn_ok hx n2 (gl0.sub hn)
              have b3 := nn_ok hx n3 (gl1.sub hn)
              have hN : n.toNatClampNeg = n.toInt.toNat := rfl
              have hz : (0 : Int32).toNatClampNeg = 0 := rfl
              have hc := cats_le hr5
              refine va_copyi (ty := .byte) hexec hb hml hown (hts _ (hw _ (by simp [maW]))) (hts _ (hw _ (by simp [maW]))) (hts _ (hw _ (by simp [maW]))) (hts _ (hw _ (by simp [maW]))) hK hP hD hSS k0 k1 1 1 g1 k1' rfl rfl rfl (by decide) (by decide) (fun q => by rw [Int32.lt_iff_toInt_lt, Int32.toInt_zero] at q; omega) (by omega) (by omega) (fun i hi => ?_) hf ?_ hdg fun H1 locs1 a1 a2 a3 => kk _ _ H1 locs1 hr5 (hH.set k1' ⟨m1, _, rfl, ht1, hm1, gl1, fun j hj => ?_, trivial⟩) a1 a2 a3
              · have := gr0 (0 + i) (by omega)
                rw [hz]
                simp only [fits, Bool.and_eq_true, decide_eq_true_eq, Int32.le_iff_toInt_le]
                exact ⟨by show (-128 : Int) ≤ _; omega, by show _ ≤ (127 : Int); omega⟩
              · show (rest5.map fun v => v.category).sum + 18 ≤ R.locals
                omega
              · show lo1 ≤ (va_cpy f0 f1 _ _ _ j).toInt ∧ (va_cpy f0 f1 _ _ _ j).toInt ≤ hi1
                unfold va_cpy
                split
                next hj2 =>
                  have := gr0 ((0 : Int32).toNatClampNeg + (j - (0 : Int32).toNatClampNeg)) (by omega)
                  omega
                next => exact gr1 j hj
            next => cases h
          next => cases h
        next => cases h
      next => cases h
    next => cases h
  next => cases h
end Copy
/-! the checker -/
abbrev TI : Type := Nat × LE × List Cert
abbrev Cf : Type := Nat × Ctx × SL × List SV × SH × Nat × Nat
def takeC (tp : List TI) : List Cert × List TI := match tp with
  | (2, _, cs) :: r => (cs, r)
  | t => ([], t)
def takeD (tp : List TI) : LE := match tp with
  | (2, dv, _) :: _ => dv
  | _ => eC 0
def takeX (tp : List TI) : Nat × List Cert × List TI := match tp with
  | (6, (md, _), cx) :: r => (md.toNat, cx, r)
  | t => (0, [], t)
/-- less told of an array, or what is true of any -/
def xwF (g : Ctx) (cs : List Cert) (kd : Bool) (q : Nat) (k z : LE) (sh : SH) : Option SH := match sh[q]? with
  | some (some (.inl (t, len, lo, hi, x))) => if kd = true then some (sh.set q (some (.inl (t, len, lo, hi, some (1, eC 0, eC 0, eC 0))))) else (match nn g cs (ePlus z (-hi)), ivl g.1 k, ivl g.1 z with
    | some _, some _, some _ => some (sh.set q (some (.inl (t, len, lo, hi, some (0, k, z, eC 0)))))
    | _, _, _ => match x with
    | some (0, k0, z0, s0) => match nn g cs (eSub k0 k) with
      | some c1 => match nn g c1 (eSub z z0), ivl g.1 k, ivl g.1 z with
        | some _, some _, some _ => some (sh.set q (some (.inl (t, len, lo, hi, some (0, k, z, s0)))))
        | _, _, _ => none
      | none => none
    | _ => if k.2 = [] then (match ivl g.1 z with
      | some _ => some (sh.set q (some (.inl (t, len, lo, hi, some (0, k, z, k)))))
      | none => none) else none)
  | _ => none
theorem HS.re {cy : Nat → ClassId} {ads : List Nat} {v : List Int} {w0 ws : va_W} {sh : SH} (h : HS cy ads v w0 sh ws) {k : Nat} {se se' : SE} (hk : sh[k]? = some (some se)) (he : ∀ e, ES cy ads v se e → ES cy ads v se' e) : HS cy ads v w0 (sh.set k (some se')) ws := by
  obtain ⟨q, h1, h2⟩ := h.2.2 k _ hk
  have := h.set (k := k) (a := q.1) (e0 := q.2) (e := q.2) h1 (he _ h2)
  rwa [show ws.set k (q.1, q.2) = ws from by
    apply List.ext_getElem?
    intro j
    by_cases hj : j = k
    · subst hj
      rw [List.getElem?_set_self (List.getElem?_eq_some_iff.mp h1).1, h1]
    · rw [List.getElem?_set_ne (Ne.symm hj)]] at this
theorem xwF_ok {v : List Int} {g : Ctx} (hx : SX v g) {cs : List Cert} {kd : Bool} {q : Nat} {k z : LE} {sh sh' : SH} (h : xwF g cs kd q k z sh = some sh') {cy : Nat → ClassId} {ads : List Nat} {w0 ws : va_W} (hH : HS cy ads v w0 sh ws) : HS cy ads v w0 sh' ws := by
  unfold xwF at h
  split at h
  next t len lo hi x h1 =>
    split at h
    next =>
      cases h
      refine hH.re h1 fun e he => ?_
      obtain ⟨n, f, e1, e2, e3, e4, e5, -⟩ := he
      exact ⟨n, f, e1, e2, e3, e4, e5, 0, 0, 0, EV.const _ _, EV.const _ _, EV.const _ _, by omega, by omega, by omega, Int.le_refl 0⟩
    next =>
      split at h
      next c2 q1 q2 h3 h4 h5 =>
        cases h
        obtain ⟨kk, hk⟩ := ivl_ev hx.1 h4
        obtain ⟨zz, hz⟩ := ivl_ev hx.1 h5
        refine hH.re h1 fun e he => ?_
        obtain ⟨n, f, e1, e2, e3, e4, e5, -⟩ := he
        have b2 := nn_ok hx h3 (EV.plus hz)
        exact ⟨n, f, e1, e2, e3, e4, e5, kk, zz, hk, hz, fun j hj hs hjk => by have := e5 j hj; omega⟩
      next =>
        split at h
        next k0 z0 s0 =>
          split at h
          next c1 h2 =>
            split at h
            next c2 q1 q2 h3 h4 h5 =>
              cases h
              obtain ⟨kk, hk⟩ := ivl_ev hx.1 h4
              obtain ⟨zz, hz⟩ := ivl_ev hx.1 h5
              refine hH.re h1 fun e he => ?_
              obtain ⟨n, f, e1, e2, e3, e4, e5, k1, z1, g1, g2, g3⟩ := he
              have b1 := nn_ok hx h2 (g1.sub hk)
              have b2 := nn_ok hx h3 (hz.sub g2)
              exact ⟨n, f, e1, e2, e3, e4, e5, kk, zz, hk, hz, fun j hj hs hjk => by have := g3 j hj hs (by omega); omega⟩
            next => cases h
          next => cases h
        next =>
          split at h
          next hk0 =>
            split at h
            next q1 h4 =>
              cases h
              obtain ⟨zz, hz⟩ := ivl_ev hx.1 h4
              refine hH.re h1 fun e he => ?_
              obtain ⟨n, f, e1, e2, e3, e4, e5, -⟩ := he
              have hkc : EV v (eC k.1) k.1 := EV.const _ _
              rw [show eC k.1 = k from Prod.ext rfl hk0.symm] at hkc
              exact ⟨n, f, e1, e2, e3, e4, e5, k.1, zz, hkc, hz, fun j hj hs hjk => by omega⟩
            next => cases h
          next => cases h
  next => cases h
def rkOk (g : Ctx) (cs : List Cert) (rk : Option LE) (r : LE) : Bool := match nn g cs r with
  | some c1 => match rk with
    | none => true
    | some k => (nn g c1 (ePlus (eSub k r) (-1))).isSome
  | none => false
def cutF (P : PD) (rk : Option LE) (x : Cf) (dv : LE) (cs : List Cert) (T : Tm) (rank : LE) : Bool := match mtT true (kB (pdK P)).length dv x.2.1 cs x.2.2.1 x.2.2.2.1 x.2.2.2.2.1 T with
  | some (sg, c1) => match sbE sg rank with
    | some r => rkOk x.2.1 c1 rk r && (decide (x.2.2.2.2.2.1 = 0) && decide (x.2.2.2.2.2.2 = 0))
    | none => false
  | none => false
def endF (P : PD) (i : Instr) (x : Cf) (dv : LE) (cs : List Cert) : Bool := match retF i (pdRet P) x.2.1 x.2.2.2.1 with
  | some o => (mtT true (kB (pdK P)).length dv x.2.1 cs [] o.toList x.2.2.2.2.1 (kB (pdK P) ++ kB' (pdK P), kC' (pdK P), [], (kR' (pdK P)).toList, kH' (pdK P))).isSome && (decide (x.2.2.2.2.2.1 ≤ kMc (pdK P)) && decide (x.2.2.2.2.2.2 ≤ kMs (pdK P)))
  | none => false
def step2 (ty : Nat → Nat → FieldType) (cl : List vw_C) (MT : List MI) (CT : List CK) (P : PD) (i : Instr) (len : Nat) (x : Cf) (tp : List TI) : Option (List (Bool × Cf) × List TI) := match x with
  | (pc, g, sl, st, sh, ce, so) => match i with
    | .getfield ix => match getF (pdFL P) ix st sh with
      | some st' => if len = 3 then some ([(false, (pc + 3, g, sl, st', sh, ce, so))], tp) else none
      | none => none
    | .putfield ix => match putF (pdFL P) ty (pdIni P) ix g st sh with
      | some (st', sh') => if len = 3 then some ([(false, (pc + 3, g, sl, st', sh', ce, so))], tp) else none
      | none => none
    | .arraylength => match alenF st sh with
      | some st' => if len = 1 then some ([(false, (pc + 1, g, sl, st', sh, ce, so))], tp) else none
      | none => none
    | .iaload => match tp with
      | (5, _, cs) :: tp' => match ldxF g cs st sh with
        | some al => if len = 1 then some ((al.filter fun q => !dead q.2.1 q.1).map fun q => (false, (pc + 1, addcs q.2.1 q.1, sl, q.2.2.1, q.2.2.2, ce, so)), tp') else none
        | none => none
      | tp => match aldF 0 g (takeC tp).1 st sh with
      | some (g', st') => if len = 1 then some ([(false, (pc + 1, g', sl, st', sh, ce, so))], (takeC tp).2) else none
      | none => none
    | .baload => match aldF 1 g (takeC tp).1 st sh with
      | some (g', st') => if len = 1 then some ([(false, (pc + 1, g', sl, st', sh, ce, so))], (takeC tp).2) else none
      | none => none
    | .iastore => match astF 0 g (takeC tp).1 (takeX (takeC tp).2).1 (takeX (takeC tp).2).2.1 st sh with
      | some (st', sh') => if len = 1 then some ([(false, (pc + 1, g, sl, st', sh', ce, so))], (takeX (takeC tp).2).2.2) else none
      | none => none
    | .bastore => match astF 1 g (takeC tp).1 0 [] st sh with
      | some (st', sh') => if len = 1 then some ([(false, (pc + 1, g, sl, st', sh', ce, so))], (takeC tp).2) else none
      | none => none
    | .ldc ix => match fnd ix (pdLD P) with
      | some n => if len = 2 then some ([(false, (pc + 2, g, sl, vInt (eC n) :: st, sh, ce, so))], tp) else none
      | none => none
    | .ldc2_w ix => match fnd ix (pdLL P) with
      | some n => if len = 3 then some ([(false, (pc + 3, g, sl, vLong (some (eC n)) :: st, sh, ce, so))], tp) else none
      | none => none
    | .new ix => match newF ty cl P ix st sh ce so with
      | some (st', sh', ce', so') => if len = 3 then some ([(false, (pc + 3, g, sl, st', sh', ce', so'))], tp) else none
      | none => none
    | .newarray a => match tp with
      | (4, (lo, [(hi, _)]), _) :: tp' => match nwaF P a lo hi g st sh ce so with
        | some (st', sh', ce', so') => if len = 2 then some ([(false, (pc + 2, g, sl, st', sh', ce', so'))], tp') else none
        | none => none
      | _ => none
    | .lcmp => match lcmpF st with
      | some al => if len = 1 then some ((al.filter fun q => !dead g q.1).map fun q => (false, (pc + 1, addcs g q.1, sl, q.2, sh, ce, so)), tp) else none
      | none => none
    | .invokestatic ix => match fnd ix (pdMA P) with
      | some k => if k = 5 then (match copyF g (takeC tp).1 st sh with
        | some (st', sh') => if len = 3 ∧ 1 ≤ (pdK P).1.2.1 ∧ 26 ≤ (pdK P).1.2.2.1 ∧ (st'.map catS).sum ≤ 8 then some ([(false, (pc + 3, g, sl, st', sh', ce, so))], (takeC tp).2) else none
        | none => none) else match mathF k g st with
        | some al => if len = 3 ∧ 1 ≤ (pdK P).1.2.1 ∧ 23 ≤ (pdK P).1.2.2.1 ∧ (st.map catS).sum ≤ 8 ∧ ce ≤ kMc (pdK P) ∧ so ≤ kMs (pdK P) then some ((al.filter fun q => !dead g q.1).map fun q => (false, (pc + 3, addcs g q.1, sl, q.2, sh, ce, so)), tp) else none
        | none => none
      | none => match tp with
      | (3, (kc, _), cs) :: tp' => match callF cl MT CT P (.invokestatic ix) ix g st sh ce so kc.toNat cs with
        | some (g', st', sh', ce', so') => if len = 3 then some ([(false, (pc + 3, g', sl, st', sh', ce', so'))], tp') else none
        | none => none
      | _ => none
    | .invokevirtual ix => match tp with
      | (3, (kc, _), cs) :: tp' => match callF cl MT CT P (.invokevirtual ix) ix g st sh ce so kc.toNat cs with
        | some (g', st', sh', ce', so') => if len = 3 then some ([(false, (pc + 3, g', sl, st', sh', ce', so'))], tp') else none
        | none => none
      | _ => none
    | .invokespecial ix => if pdOI P = some ix then (match st with
        | some (.inl _) :: r => if len = 3 ∧ 1 ≤ (pdK P).1.2.1 ∧ (r.map catS).sum + 12 ≤ (pdK P).1.2.2.1 then some ([(false, (pc + 3, g, sl, r, sh, ce, so))], tp) else none
        | _ => none) else match tp with
      | (3, (kc, _), cs) :: tp' => match callF cl MT CT P (.invokespecial ix) ix g st sh ce so kc.toNat cs with
        | some (g', st', sh', ce', so') => if len = 3 then some ([(false, (pc + 3, g', sl, st', sh', ce', so'))], tp') else none
        | none => none
      | _ => none
    | i => if len = 1 ∧ endF P i (pc, g, sl, st, sh, ce, so) (takeD tp) (takeC tp).1 = true then some ([], (takeC tp).2) else none
def step1 (ty : Nat → Nat → FieldType) (cl : List vw_C) (MT : List MI) (CT : List CK) (P : PD) (x : Cf) (tp : List TI) : Option (List (Bool × Cf) × List TI) := match x with
  | (pc, g, sl, st, sh, ce, so) => match fnd pc P.1 with
    | none => none
    | some (i, len) => match simp1 (pdNL P) i g sl st with
      | some (g', sl', st') => if len = lenOf i then some ([(false, (pc + len, g', sl', st', sh, ce, so))], tp) else none
      | none => match alts pc i len g st with
        | some (al, st') => some ((al.filter fun q => !dead g q.1).map fun q => (false, (q.2, addcs g q.1, sl, st', sh, ce, so)), tp)
        | none => step2 ty cl MT CT P i len (pc, g, sl, st, sh, ce, so) tp
def stepN (ty : Nat → Nat → FieldType) (cl : List vw_C) (MT : List MI) (CT : List CK) (P : PD) (first : Bool) (rk : Option LE) (x : Cf) (tp : List TI) : Option (List (Bool × Cf) × List TI) :=
  match (if first = true then none else fnd x.1 (pdCuts P)) with
    | some (T, rank) => if cutF P rk x (takeD tp) (takeC tp).1 T rank = true then some ([], (takeC tp).2) else none
    | none => step1 ty cl MT CT P x tp
def step (ty : Nat → Nat → FieldType) (cl : List vw_C) (MT : List MI) (CT : List CK) (P : PD) (first : Bool) (rk : Option LE) (x : Cf) (tp : List TI) : Option (List (Bool × Cf) × List TI) := match tp with
  | (t, f, cs) :: tp' => if t = 9 then (match cs with
      | c :: _ => if certOk x.2.1 c (eC (-1)) = true then some ([], tp') else stepN ty cl MT CT P first rk x ((t, f, cs) :: tp')
      | [] => none)
    else if t = x.1 + 10 then (match nn x.2.1 cs f with
      | some _ => some ([(first, (x.1, addc x.2.1 f, x.2.2))], tp')
      | none => none)
    else if t = x.1 + 1000010 then (match tp' with
      | (_, k, _) :: (_, z, _) :: tp2 => match xwF x.2.1 cs (decide (f.2 ≠ [])) f.1.toNat k z x.2.2.2.2.1 with
        | some sh' => some ([(first, (x.1, x.2.1, x.2.2.1, x.2.2.2.1, sh', x.2.2.2.2.2))], tp2)
        | none => none
      | _ => none)
    else if t = x.1 + 2000010 then (match ivl x.2.1.1 f with
      | some _ => some ([(first, (x.1, addc x.2.1 f, x.2.2)), (first, (x.1, addc x.2.1 (ePlus (eSc (-1) f) (-1)), x.2.2))], tp')
      | none => none)
    else stepN ty cl MT CT P first rk x ((t, f, cs) :: tp')
  | [] => stepN ty cl MT CT P first rk x []
def exAll {α : Type} (f : List TI → α → Option (List TI)) : List α → List TI → Option (List TI)
  | [], t => some t
  | a :: r, t => match f t a with
    | some t' => exAll f r t'
    | none => none
def exec (ty : Nat → Nat → FieldType) (cl : List vw_C) (MT : List MI) (CT : List CK) (P : PD) (rk : Option LE) : Nat → Bool × Cf → List TI → Option (List TI)
  | 0, _, _ => none
  | n + 1, x, tp => match step ty cl MT CT P x.1 rk x.2 tp with
    | some (cs, tp') => exAll (fun t y => exec ty cl MT CT P rk n y t) cs tp'
    | none => none
