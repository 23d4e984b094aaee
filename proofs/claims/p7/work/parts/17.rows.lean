/-! arrays -/
def alenF (st : List SV) (sh : SH) : Option (List SV) := match st with
  | some (.inl k) :: r => match sh[k]? with
    | some (some (.inl (_, len, _, _))) => some (vInt len :: r)
    | _ => none
  | _ => none
def aldF (t : Nat) (g : Ctx) (cs : List Cert) (st : List SV) (sh : SH) : Option (Ctx × List SV) := match st with
  | some (.inr (.inl ie)) :: some (.inl k) :: r => match sh[k]? with
    | some (some (.inl (t', len, lo, hi))) => if t' = t then (match nn g cs ie with
      | some cs1 => match nn g cs1 (ePlus (eSub len ie) (-1)) with
        | some _ => some ((frI g lo hi).1, (frI g lo hi).2 :: r)
        | none => none
      | none => none) else none
    | _ => none
  | _ => none
def astF (t : Nat) (g : Ctx) (cs : List Cert) (st : List SV) (sh : SH) : Option (List SV) := match st with
  | some (.inr (.inl ve)) :: some (.inr (.inl ie)) :: some (.inl k) :: r => match sh[k]? with
    | some (some (.inl (t', len, lo, hi))) => if t' = t then (match nn g cs ie with
      | some cs1 => match nn g cs1 (ePlus (eSub len ie) (-1)) with
        | some cs2 => if t = 1 then (if lo ≤ -128 ∧ 127 ≤ hi then some r else none) else (match nn g cs2 (ePlus ve (-lo)) with
          | some cs3 => match nn g cs3 (eSub (eC hi) ve) with
            | some _ => some r
            | none => none
          | none => none)
        | none => none
      | none => none) else none
    | _ => none
  | _ => none
theorem ofNat_toInt32 {n : Nat} (h : n < 2 ^ 31) : (Int32.ofNat n).toInt = (n : Int) := nI_toInt h
theorem inb {i : Int32} {n : Nat} (h1 : 0 ≤ i.toInt) (h2 : i.toInt < (n : Int)) : vp_in i n := vp_in_iff.mpr ⟨h1, h2⟩
theorem clampLt {i : Int32} {n : Nat} (h1 : 0 ≤ i.toInt) (h2 : i.toInt < (n : Int)) : i.toNatClampNeg < n := by
  have h : i.toNatClampNeg = i.toInt.toNat := rfl
  omega
section Rows3
variable {p : Program} {l : Launch} {e : Env} {R : Room} {s : State} {m : MethodId} {args : Array Value} {below : List Frame} {meth : Method} {c : Code} {H : Heap} {locs : List Loc} {cells slots : Nat} {Q : State → Prop}
variable {cc : ByteArray} {pc : Nat} {ads : List Nat} {v : List Int} {ls : Array Slot} {nL : Nat} {stk : List Value}
variable {TB : List Cond} {cl : List vw_C} {D : va_G} {cy : Nat → ClassId} {own : String} {w0 ws : va_W} {A : Nat → Prop}
theorem tys_at {t : Nat} (ht : t < 2) : ∃ ty, (tysOf cy)[t]? = some (cy t, ty) ∧ (t = 0 → ty = .int) ∧ (t = 1 → ty = .byte) := by
  rcases (show t = 0 ∨ t = 1 by omega) with rfl | rfl
  · exact ⟨.int, rfl, fun _ => rfl, fun h => by cases h⟩
  · exact ⟨.byte, rfl, fun h => (by cases h), fun _ => rfl⟩
theorem alenF_ok (hexec : p.tables.exec = Jvm.exec) (hb : c.code = cc) (hK : va_K D cl (tysOf cy) s) (hP : va_P D cl ws H)
    {st st' : List SV} {sh : SH} (h : alenF st sh = some st') (hS : FS ads v st stk) (hH : HS cy ads v w0 sh ws) (hdg : decode cc pc = .ok (.arraylength, 1))
    (kk : ∀ stk', FS ads v st' stk' → W p l e R s m args below meth c H locs cells slots Q (F0 m (pc + 1) ls stk')) : W p l e R s m args below meth c H locs cells slots Q (F0 m pc ls stk) := by
  unfold alenF at h
  split at h
  next k r =>
    split at h
    next t len lo hi h2 =>
      cases h
      obtain ⟨y, rest, rfl, ⟨a, ha, rfl⟩, hr⟩ := hS.cons_inv
      obtain ⟨ee, g1, n, f, rfl, ht, hn, g2, -⟩ := hH.get h2 ha
      obtain ⟨ty, g3, -, -⟩ := tys_at (cy := cy) ht
      exact va_alen hexec hb hK hP k t g1 g3 rfl hdg (kk _ ⟨⟨_, rfl, by rw [ofNat_toInt32 hn]; exact g2⟩, hr⟩)
    next => cases h
  next => cases h
theorem aldF_ok (hexec : p.tables.exec = Jvm.exec) (hb : c.code = cc) (hK : va_K D cl (tysOf cy) s) (hP : va_P D cl ws H) {t : Nat} {g g' : Ctx} {cs : List Cert} (hx : SX v g)
    {st st' : List SV} {sh : SH} (h : aldF t g cs st sh = some (g', st')) (hS : FS ads v st stk) (hH : HS cy ads v w0 sh ws) (hdg : (t = 0 ∧ decode cc pc = .ok (.iaload, 1)) ∨ (t = 1 ∧ decode cc pc = .ok (.baload, 1)))
    (kk : ∀ w stk', SX (v ++ w) g' → FS ads (v ++ w) st' stk' → W p l e R s m args below meth c H locs cells slots Q (F0 m (pc + 1) ls stk')) : W p l e R s m args below meth c H locs cells slots Q (F0 m pc ls stk) := by
  unfold aldF at h
  split at h
  next ie k r =>
    split at h
    next t' len lo hi h2 =>
      split at h
      next htt =>
        subst htt
        split at h
        next cs1 h3 =>
          split at h
          next cs2 h4 =>
            cases h
            obtain ⟨y, rest, rfl, ⟨i, rfl, hi'⟩, hr⟩ := hS.cons_inv
            obtain ⟨y2, rest2, rfl, ⟨a, ha, rfl⟩, hr2⟩ := hr.cons_inv
            obtain ⟨ee, g1, n, f, rfl, ht, hn, g2, g5⟩ := hH.get h2 ha
            have b1 := nn_ok hx h3 hi'
            have b2 := nn_ok hx h4 (EV.plus (g2.sub hi'))
            obtain ⟨c1, c2⟩ := g5 _ (clampLt b1 (by omega))
            obtain ⟨w, w1, w2⟩ := frI_ok hx c1 c2
            have kk' := kk w (.int (f i.toNatClampNeg) :: rest2) w1 ⟨w2 ads, hr2.monoV⟩
            rcases hdg with ⟨rfl, hdg⟩ | ⟨rfl, hdg⟩
            · exact va_iald hexec hb hK hP k 0 g1 rfl (inb b1 (by omega)) hdg kk'
            · exact va_bald hexec hb hK hP k 1 g1 rfl (inb b1 (by omega)) hdg kk'
          next => cases h
        next => cases h
      next => cases h
    next => cases h
  next => cases h
theorem HS.same {sh : SH} (hH : HS cy ads v w0 sh ws) {k a : Nat} {e0 e1 : va_E} {se : SE} (h2 : sh[k]? = some (some se)) (g1 : ws[k]? = some (a, e0)) (he : ES cy ads v se e1) : HS cy ads v w0 sh (ws.set k (a, e1)) := by
  have := hH.set g1 he
  rwa [show sh.set k (some se) = sh from by
    apply List.ext_getElem?
    intro i
    by_cases hi : i = k
    · subst hi
      rw [List.getElem?_set_self (List.getElem?_eq_some_iff.mp h2).1, h2]
    · rw [List.getElem?_set_ne (Ne.symm hi)]] at this
theorem astF_ok (hexec : p.tables.exec = Jvm.exec) (hb : c.code = cc) (hK : va_K D cl (tysOf cy) s) (hP : va_P D cl ws H) (hD : va_D A ws) (hSS : va_S A s.heap H locs) {t : Nat} {g : Ctx} {cs : List Cert} (hx : SX v g)
    {st st' : List SV} {sh : SH} (h : astF t g cs st sh = some st') (hS : FS ads v st stk) (hH : HS cy ads v w0 sh ws) (hdg : (t = 0 ∧ decode cc pc = .ok (.iastore, 1)) ∨ (t = 1 ∧ decode cc pc = .ok (.bastore, 1)))
    (kk : ∀ stk' ws' H1 locs1, FS ads v st' stk' → HS cy ads v w0 sh ws' → va_P D cl ws' H1 → va_D A ws' → va_S A s.heap H1 locs1 → W p l e R s m args below meth c H1 locs1 cells slots Q (F0 m (pc + 1) ls stk')) : W p l e R s m args below meth c H locs cells slots Q (F0 m pc ls stk) := by
  unfold astF at h
  split at h
  next ve ie k r =>
    split at h
    next t' len lo hi h2 =>
      split at h
      next htt =>
        subst htt
        split at h
        next cs1 h3 =>
          split at h
          next cs2 h4 =>
            obtain ⟨y, rest, rfl, ⟨x, rfl, hx'⟩, hr⟩ := hS.cons_inv
            obtain ⟨y1, rest1, rfl, ⟨i, rfl, hi'⟩, hr1⟩ := hr.cons_inv
            obtain ⟨y2, rest2, rfl, ⟨a, ha, rfl⟩, hr2⟩ := hr1.cons_inv
            obtain ⟨ee, g1, n, f, rfl, ht, hn, g2, g5⟩ := hH.get h2 ha
            have b1 := nn_ok hx h3 hi'
            have b2 := nn_ok hx h4 (EV.plus (g2.sub hi'))
            have up : ∀ z : Int32, lo ≤ z.toInt → z.toInt ≤ hi → ES cy ads v (.inl (t', len, lo, hi)) (.inl (cy t', n, .inl (upd f i.toNatClampNeg z))) := fun z z1 z2 => by
              refine ⟨n, _, rfl, ht, hn, g2, fun j hj => ?_⟩
              unfold upd
              split
              · exact ⟨z1, z2⟩
              · exact g5 j hj
            rcases hdg with ⟨rfl, hdg⟩ | ⟨rfl, hdg⟩
            · rw [if_neg (by decide)] at h
              split at h
              next cs3 h5 =>
                split at h
                next cs4 h6 =>
                  cases h
                  have b3 := nn_ok hx h5 (EV.plus hx')
                  have b4 := nn_ok hx h6 ((EV.const v hi).sub hx')
                  exact va_iast hexec hb hK hP hD hSS k 0 g1 rfl (inb b1 (by omega)) hdg fun H1 locs1 a1 a2 a3 => kk _ _ H1 locs1 hr2 (hH.same h2 g1 (up x (by omega) (by omega))) a1 a2 a3
                next => cases h
              next => cases h
            · rw [if_pos rfl] at h
              split at h
              next hr' =>
                cases h
                have q1 := Int8.le_toInt x.toInt8
                have q2 := Int8.toInt_lt x.toInt8
                have q3 : (vp_nar .byte x).toInt = x.toInt8.toInt := by rw [vp_nar_byte, Int8.toInt_toInt32]
                exact va_bast hexec hb hK hP hD hSS k 1 g1 rfl (inb b1 (by omega)) hdg fun H1 locs1 a1 a2 a3 => kk _ _ H1 locs1 hr2 (hH.same h2 g1 (up _ (by omega) (by omega))) a1 a2 a3
              next => cases h
          next => cases h
        next => cases h
      next => cases h
    next => cases h
  next => cases h
end Rows3
/-! constants of the pool -/
def LDok (TB : List Cond) (own : String) (LD : List (Nat × Int)) : Prop := ∀ q ∈ LD, Cond.constant own q.1 (Int32.ofInt q.2) ∈ TB ∧ (Int32.ofInt q.2).toInt = q.2
def LLok (TB : List Cond) (own : String) (LL : List (Nat × Int)) : Prop := ∀ q ∈ LL, Cond.constantLong own q.1 (Int64.ofInt q.2) ∈ TB ∧ (Int64.ofInt q.2).toInt = q.2
/-! a method's end -/
def retF (i : Instr) (ret : Option FieldType) (g : Ctx) (st : List SV) : Option (Option SV) := match i, ret, st with
  | .return_, none, [] => some none
  | .ireturn, some .int, [some (.inr (.inl e))] => some (some (vInt e))
  | .ireturn, some .boolean, [some (.inr (.inl e))] => if 0 ≤ (ivn g e).1 ∧ (ivn g e).2 ≤ 1 then some (some (vInt e)) else none
  | .ireturn, some .byte, [some (.inr (.inl e))] => if -128 ≤ (ivn g e).1 ∧ (ivn g e).2 ≤ 127 then some (some (vInt e)) else none
  | .lreturn, some .long, [some (.inr (.inr o))] => some (some (vLong o))
  | _, _, _ => none
section Rows4
variable {p : Program} {l : Launch} {e : Env} {R : Room} {s : State} {m : MethodId} {args : Array Value} {below : List Frame} {meth : Method} {c : Code} {H : Heap} {locs : List Loc} {cells slots : Nat}
variable {cc : ByteArray} {pc : Nat} {ads : List Nat} {v : List Int} {ls : Array Slot} {nL : Nat} {stk : List Value}
theorem retF_ok (hexec : p.tables.exec = Jvm.exec) (hb : c.code = cc) {Qc : Array Value → State → Outcome → State → Prop} {free : Addr → Prop} {i : Instr} {ret : Option FieldType} {g : Ctx} {st : List SV} {o : Option SV} (hx : SX v g) (h : retF i ret g st = some o) (hS : FS ads v st stk) (hr : meth.sig.returnType = ret) (hlocks : meth.locks = false)
    (hdg : decode cc pc = .ok (i, 1)) (hq : ∀ (r : Option Value) (t : State), RS ads v o r → t.heap = H → s.WarmedH t.vm → Qc args s (.returned r) t) (hf : ∀ q ∈ locs, free q.base) : W p l e R s m args below meth c H locs cells slots (MQ below Qc args s cells slots free) (F0 m pc ls stk) := by
  unfold retF at h
  split at h
  · cases h
    cases stk with
    | nil => exact W.vret hexec hb hr (fun t ht hw => hq none t trivial ht hw) hf hdg hlocks
    | cons a b => exact hS.elim
  · cases h
    obtain ⟨y, rest, rfl, ⟨n, rfl, hn⟩, hrest⟩ := hS.cons_inv
    cases rest with
    | nil => exact W.iret hexec hb hr (fun t ht hw => hq (some (.int n)) t ⟨n, rfl, hn⟩ ht hw) hf hdg hlocks
    | cons a b => exact hrest.elim
  · split at h
    next hb2 =>
      cases h
      obtain ⟨y, rest, rfl, ⟨n, rfl, hn⟩, hrest⟩ := hS.cons_inv
      have := ivn_ok hx hn
      cases rest with
      | nil => exact W.zret hexec hb hr (by rcases i32_01 (n := n) (by omega) (by omega) with rfl | rfl; exact narrow_b0; exact narrow_b1) (fun t ht hw => hq (some (.int n)) t ⟨n, rfl, hn⟩ ht hw) hf hdg hlocks
      | cons a b => exact hrest.elim
    next => cases h
  · split at h
    next hb2 =>
      cases h
      obtain ⟨y, rest, rfl, ⟨n, rfl, hn⟩, hrest⟩ := hS.cons_inv
      have := ivn_ok hx hn
      cases rest with
      | nil =>
        refine W.zret hexec hb hr ?_ (fun t ht hw => hq (some (.int n)) t ⟨n, rfl, hn⟩ ht hw) hf hdg hlocks
        rw [narrow_byte]
        congr 1
        apply Int32.toInt_inj.mp
        rw [Int8.toInt_toInt32, Int32.toInt_toInt8, Int.bmod_eq_of_le (by omega) (by omega)]
      | cons a b => exact hrest.elim
    next => cases h
  · cases h
    obtain ⟨y, rest, rfl, ⟨n, rfl, hn⟩, hrest⟩ := hS.cons_inv
    cases rest with
    | nil => exact W.lret hexec hb hr (fun t ht hw => hq (some (.long n)) t ⟨n, rfl, hn⟩ ht hw) hf hdg hlocks
    | cons a b => exact hrest.elim
  · cases h
end Rows4
