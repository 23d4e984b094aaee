/-! arrays -/
def alenF (st : List SV) (sh : SH) : Option (List SV) := match st with
  | some (.inl k) :: r => match sh[k]? with
    | some (some (.inl (_, len, _, _, _))) => some (vInt len :: r)
    | _ => none
  | _ => none
def aldF (t : Nat) (g : Ctx) (cs : List Cert) (st : List SV) (sh : SH) : Option (Ctx × List SV) := match st with
  | some (.inr (.inl ie)) :: some (.inl k) :: r => match sh[k]? with
    | some (some (.inl (t', len, lo, hi, _))) => if t' = t then (match nn g cs ie with
      | some cs1 => match nn g cs1 (ePlus (eSub len ie) (-1)) with
        | some _ => some ((frI g lo hi).1, (frI g lo hi).2 :: r)
        | none => none
      | none => none) else none
    | _ => none
  | _ => none
/-- what is still known of an array when v is put at i: 1: v is at most z; 2: i is not below; 3: the next place -/
def stX (g : Ctx) (md : Nat) (cs : List Cert) (x : XO) (ie ve : LE) : Option XO := match md, x with
  | 1, some (0, k, z, r) => match nn g cs (eSub z ve) with
    | some _ => some (some (0, k, z, r))
    | none => none
  | 2, some (0, k, z, r) => match nn g cs (eSub ie k) with
    | some _ => some (some (0, k, z, r))
    | none => none
  | 3, some (0, k, z, r) => if eSub ie k = (0, []) then (match nn g cs (eSub z ve) with
    | some _ => some (some (0, ePlus k 1, z, r))
    | none => none) else none
  | 2, some (q + 1, k, z, r) => match nn g cs (eSub ie z) with
    | some _ => some (some (q + 1, k, z, r))
    | none => none
  | 3, some (q + 1, k, z, r) => if eSub ie z = (0, []) then some (some (q + 1, k, ePlus z 1, ePlus r (if ve = (0, []) then 1 else 3))) else none
  | _, _ => some none
def astF (t : Nat) (g : Ctx) (cs : List Cert) (md : Nat) (cx : List Cert) (st : List SV) (sh : SH) : Option (List SV × SH) := match st with
  | some (.inr (.inl ve)) :: some (.inr (.inl ie)) :: some (.inl k) :: r => match sh[k]? with
    | some (some (.inl (t', len, lo, hi, x))) => if t' = t then (match nn g cs ie with
      | some cs1 => match nn g cs1 (ePlus (eSub len ie) (-1)) with
        | some cs2 => if t = 1 then (if lo ≤ -128 ∧ 127 ≤ hi then some (r, sh.set k (some (.inl (t', len, lo, hi, none)))) else none) else (match nn g cs2 (ePlus ve (-lo)) with
          | some cs3 => match nn g cs3 (eSub (eC hi) ve) with
            | some _ => match stX g md cx x ie ve with
              | some x' => some (r, sh.set k (some (.inl (t', len, lo, hi, x'))))
              | none => none
            | none => none
          | none => none)
        | none => none
      | none => none) else none
    | _ => none
  | _ => none
theorem psum_upd {f : Nat → Int32} {i : Nat} {z : Int32} : ∀ {n a : Nat}, a + n ≤ i → psum (upd f i z) a n = psum f a n
  | 0, a, _ => rfl
  | n + 1, a, h => by
    unfold psum
    rw [psum_upd (n := n) (a := a + 1) (by omega)]
    have : upd f i z a = f a := if_neg (by omega)
    rw [this]
theorem psum_snoc {f : Nat → Int32} : ∀ {n a : Nat}, psum f a (n + 1) = psum f a n + (if (f (a + n)).toInt = 0 then 1 else 3)
  | 0, a => by unfold psum; unfold psum; rw [Nat.add_zero]; omega
  | n + 1, a => by
    rw [show psum f a (n + 1 + 1) = (if (f a).toInt = 0 then 1 else 3) + psum f (a + 1) (n + 1) from rfl, psum_snoc (n := n) (a := a + 1), show psum f a (n + 1) = (if (f a).toInt = 0 then 1 else 3) + psum f (a + 1) n from rfl, show a + 1 + n = a + (n + 1) by omega]
    omega
theorem EV.eq0 {v : List Int} {a b : LE} {x y : Int} (h : EV v a x) (g : EV v b y) (he : eSub a b = (0, [])) : x = y := by
  have := (h.sub g).const_inv he
  omega
theorem stX_ok {v : List Int} {g : Ctx} (hx : SX v g) {md : Nat} {cs : List Cert} {x y : XO} {ie ve : LE} (h : stX g md cs x ie ve = some y) {i z : Int32} (hi : EV v ie i.toInt) (hz : EV v ve z.toInt) (h0 : 0 ≤ i.toInt) {n : Nat} (hn : i.toInt < (n : Int)) {f : Nat → Int32} (hX : XS v x f n) : XS v y (upd f i.toNatClampNeg z) n := by
  have hcl : i.toNatClampNeg = i.toInt.toNat := rfl
  unfold stX at h
  split at h
  · split at h
    next c1 h1 =>
      cases h
      obtain ⟨kk, zz, g1, g2, g3⟩ := hX
      have b1 := nn_ok hx h1 (g2.sub hz)
      refine ⟨kk, zz, g1, g2, fun j hj hs hk => ?_⟩
      unfold upd
      split
      · omega
      · exact g3 j hj hs hk
    next => cases h
  · split at h
    next c1 h1 =>
      cases h
      obtain ⟨kk, zz, g1, g2, g3⟩ := hX
      have b1 := nn_ok hx h1 (hi.sub g1)
      refine ⟨kk, zz, g1, g2, fun j hj hs hk => ?_⟩
      unfold upd
      split
      · omega
      · exact g3 j hj hs hk
    next => cases h
  · split at h
    next he =>
      split at h
      next c1 h1 =>
        cases h
        obtain ⟨kk, zz, g1, g2, g3⟩ := hX
        have b1 := nn_ok hx h1 (g2.sub hz)
        have b2 := hi.eq0 g1 he
        refine ⟨kk + 1, zz, EV.plus g1, g2, fun j hj hs hk => ?_⟩
        unfold upd
        split
        · omega
        · exact g3 j hj hs (by omega)
      next => cases h
    next => cases h
  · split at h
    next c1 h1 =>
      cases h
      obtain ⟨kk, zz, rr, g1, g2, g3, g4, g5, g6, g7⟩ := hX
      have b1 := nn_ok hx h1 (hi.sub g2)
      exact ⟨kk, zz, rr, g1, g2, g3, g4, g5, g6, by rw [psum_upd (by omega)]; exact g7⟩
    next => cases h
  · split at h
    next he =>
      cases h
      obtain ⟨kk, zz, rr, g1, g2, g3, g4, g5, g6, g7⟩ := hX
      have b2 := hi.eq0 g2 he
      refine ⟨kk, zz + 1, rr + (if ve = (0, []) then 1 else 3), g1, EV.plus g2, EV.plus g3, g4, by omega, by omega, ?_⟩
      rw [show (zz + 1 - kk).toNat = (zz - kk).toNat + 1 by omega, psum_snoc, psum_upd (by omega)]
      have e1 : upd f i.toNatClampNeg z (kk.toNat + (zz - kk).toNat) = z := if_pos (by omega)
      rw [e1]
      split
      next hz0 => split <;> omega
      next hz0 =>
        split
        next hv => exact absurd (hz.const_inv hv) hz0
        next => omega
    next => cases h
  · cases h
    trivial
theorem ofNat_toInt32 {n : Nat} (h : n < 2 ^ 31) : (Int32.ofNat n).toInt = (n : Int) := nI_toInt h
theorem inb {i : Int32} {n : Nat} (h1 : 0 ≤ i.toInt) (h2 : i.toInt < (n : Int)) : vp_in i n := vp_in_iff.mpr ⟨h1, h2⟩
theorem clampLt {i : Int32} {n : Nat} (h1 : 0 ≤ i.toInt) (h2 : i.toInt < (n : Int)) : i.toNatClampNeg < n := by
  have h : i.toNatClampNeg = i.toInt.toNat := rfl
  omega
section Rows3
variable {p : Program} {l : Launch} {e : Env} {R : Room} {s : State} {m : MethodId} {args : Array Value} {below : List Frame} {meth : Method} {c : Code} {H : Heap} {locs : List Loc} {cells slots : Nat} {Q : State → Prop}
variable {cc : ByteArray} {pc : Nat} {ads : List Nat} {v : List Int} {ls : Array Slot} {nL : Nat} {stk : List Value}
variable {TB : List Cond} {cl : List vw_C} {D : va_G} {cy : Nat → ClassId} {own : String} {w0 ws : va_W} {A : Nat → Prop}
theorem tys_at {t : Nat} (ht : t < 2) : ∃ ty, (tysOf cy)[t]? = some (cy t, ty) ∧ (t = 0 → ty = .int) ∧ (t = 1 → ty = .byte) := by
  rcases (show t = 0 ∨ t = 1 by omega) with rfl | rfl
  · exact ⟨.int, rfl, fun _ => rfl, fun h => by cases h⟩
  · exact ⟨.byte, rfl, fun h => (by cases h), fun _ => rfl⟩
theorem alenF_ok (hexec : p.tables.exec = Jvm.exec) (hb : c.code = cc) (hK : va_K D cl (tysOf cy) s) (hP : va_P D cl ws H)
    {st st' : List SV} {sh : SH} (h : alenF st sh = some st') (hS : FS ads v st stk) (hH : HS cy ads v w0 sh ws) (hdg : decode cc pc = .ok (.arraylength, 1))
    (kk : ∀ stk', FS ads v st' stk' → W p l e R s m args below meth c H locs cells slots Q (F0 m (pc + 1) ls stk')) : W p l e R s m args below meth c H locs cells slots Q (F0 m pc ls stk) := by
  unfold alenF at h
  split at h
  next k r =>
    split at h
    next t len lo hi x0 h2 =>
      cases h
      obtain ⟨y, rest, rfl, ⟨a, ha, rfl⟩, hr⟩ := hS.cons_inv
      obtain ⟨ee, g1, n, f, rfl, ht, hn, g2, -⟩ := hH.get h2 ha
      obtain ⟨ty, g3, -, -⟩ := tys_at (cy := cy) ht
      exact va_alen hexec hb hK hP k t g1 g3 rfl hdg (kk _ ⟨⟨_, rfl, by rw [ofNat_toInt32 hn]; exact g2⟩, hr⟩)
    next => cases h
  next => cases h
theorem aldF_ok (hexec : p.tables.exec = Jvm.exec) (hb : c.code = cc) (hK : va_K D cl (tysOf cy) s) (hP : va_P D cl ws H) {t : Nat} {g g' : Ctx} {cs : List Cert} (hx : SX v g)
    {st st' : List SV} {sh : SH} (h : aldF t g cs st sh = some (g', st')) (hS : FS ads v st stk) (hH : HS cy ads v w0 sh ws) (hdg : (t = 0 ∧ decode cc pc = .ok (.iaload, 1)) ∨ (t = 1 ∧ decode cc pc = .ok (.baload, 1)))
    (kk : ∀ w stk', SX (v ++ w) g' → FS ads (v ++ w) st' stk' → W p l e R s m args below meth c H locs cells slots Q (F0 m (pc + 1) ls stk')) : W p l e R s m args below meth c H locs cells slots Q (F0 m pc ls stk) := by
  unfold aldF at h
  split at h
  next ie k r =>
    split at h
    next t' len lo hi x0 h2 =>
      split at h
      next htt =>
        subst htt
        split at h
        next cs1 h3 =>
          split at h
          next cs2 h4 =>
            cases h
            obtain ⟨y, rest, rfl, ⟨i, rfl, hi'⟩, hr⟩ := hS.cons_inv
            obtain ⟨y2, rest2, rfl, ⟨a, ha, rfl⟩, hr2⟩ := hr.cons_inv
            obtain ⟨ee, g1, n, f, rfl, ht, hn, g2, g5, -⟩ := hH.get h2 ha
            have b1 := nn_ok hx h3 hi'
            have b2 := nn_ok hx h4 (EV.plus (g2.sub hi'))
            obtain ⟨c1, c2⟩ := g5 _ (clampLt b1 (by omega))
            obtain ⟨w, w1, w2⟩ := frI_ok hx c1 c2
            have kk' := kk w (.int (f i.toNatClampNeg) :: rest2) w1 ⟨w2 ads, hr2.monoV⟩
            rcases hdg with ⟨rfl, hdg⟩ | ⟨rfl, hdg⟩
            · exact va_iald hexec hb hK hP k 0 g1 rfl (inb b1 (by omega)) hdg kk'
            · exact va_bald hexec hb hK hP k 1 g1 rfl (inb b1 (by omega)) hdg kk'
          next => cases h
        next => cases h
      next => cases h
    next => cases h
  next => cases h
theorem HS.same {sh : SH} (hH : HS cy ads v w0 sh ws) {k a : Nat} {e0 e1 : va_E} {se : SE} (h2 : sh[k]? = some (some se)) (g1 : ws[k]? = some (a, e0)) (he : ES cy ads v se e1) : HS cy ads v w0 sh (ws.set k (a, e1)) := by
  have := hH.set g1 he
  rwa [show sh.set k (some se) = sh from by
    apply List.ext_getElem?
    intro i
    by_cases hi : i = k
    · subst hi
      rw [List.getElem?_set_self (List.getElem?_eq_some_iff.mp h2).1, h2]
    · rw [List.getElem?_set_ne (Ne.symm hi)]] at this
theorem astF_ok (hexec : p.tables.exec = Jvm.exec) (hb : c.code = cc) (hK : va_K D cl (tysOf cy) s) (hP : va_P D cl ws H) (hD : va_D A ws) (hSS : va_S A s.heap H locs) {t : Nat} {g : Ctx} {cs cx : List Cert} {md : Nat} (hx : SX v g)
    {st st' : List SV} {sh sh' : SH} (h : astF t g cs md cx st sh = some (st', sh')) (hS : FS ads v st stk) (hH : HS cy ads v w0 sh ws) (hdg : (t = 0 ∧ decode cc pc = .ok (.iastore, 1)) ∨ (t = 1 ∧ decode cc pc = .ok (.bastore, 1)))
    (kk : ∀ stk' ws' H1 locs1, FS ads v st' stk' → HS cy ads v w0 sh' ws' → va_P D cl ws' H1 → va_D A ws' → va_S A s.heap H1 locs1 → W p l e R s m args below meth c H1 locs1 cells slots Q (F0 m (pc + 1) ls stk')) : W p l e R s m args below meth c H locs cells slots Q (F0 m pc ls stk) := by
  unfold astF at h
  split at h
  next ve ie k r =>
    split at h
    next t' len lo hi x0 h2 =>
      split at h
      next htt =>
        subst htt
        split at h
        next cs1 h3 =>
          split at h
          next cs2 h4 =>
            obtain ⟨y, rest, rfl, ⟨x, rfl, hx'⟩, hr⟩ := hS.cons_inv
            obtain ⟨y1, rest1, rfl, ⟨i, rfl, hi'⟩, hr1⟩ := hr.cons_inv
            obtain ⟨y2, rest2, rfl, ⟨a, ha, rfl⟩, hr2⟩ := hr1.cons_inv
            obtain ⟨ee, g1, n, f, rfl, ht, hn, g2, g5, g6⟩ := hH.get h2 ha
            have b1 := nn_ok hx h3 hi'
            have b2 := nn_ok hx h4 (EV.plus (g2.sub hi'))
            have up : ∀ (z : Int32) (x1 : XO), lo ≤ z.toInt → z.toInt ≤ hi → XS v x1 (upd f i.toNatClampNeg z) n → ES cy ads v (.inl (t', len, lo, hi, x1)) (.inl (cy t', n, .inl (upd f i.toNatClampNeg z))) := fun z x1 z1 z2 z3 => by
              refine ⟨n, _, rfl, ht, hn, g2, fun j hj => ?_, z3⟩
              unfold upd
              split
              · exact ⟨z1, z2⟩
              · exact g5 j hj
            rcases hdg with ⟨rfl, hdg⟩ | ⟨rfl, hdg⟩
            · rw [if_neg (by decide)] at h
              split at h
              next cs3 h5 =>
                split at h
                next cs4 h6 =>
                  split at h
                  next x1 h7 =>
                    cases h
                    have b3 := nn_ok hx h5 (EV.plus hx')
                    have b4 := nn_ok hx h6 ((EV.const v hi).sub hx')
                    exact va_iast hexec hb hK hP hD hSS k 0 g1 rfl (inb b1 (by omega)) hdg fun H1 locs1 a1 a2 a3 => kk _ _ H1 locs1 hr2 (hH.set g1 (up x x1 (by omega) (by omega) (stX_ok hx h7 hi' hx' b1 (by omega) g6))) a1 a2 a3
                  next => cases h
                next => cases h
              next => cases h
            · rw [if_pos rfl] at h
              split at h
              next hr' =>
                cases h
                have q1 := Int8.le_toInt x.toInt8
                have q2 := Int8.toInt_lt x.toInt8
                have q3 : (vp_nar .byte x).toInt = x.toInt8.toInt := by rw [vp_nar_byte, Int8.toInt_toInt32]
                exact va_bast hexec hb hK hP hD hSS k 1 g1 rfl (inb b1 (by omega)) hdg fun H1 locs1 a1 a2 a3 => kk _ _ H1 locs1 hr2 (hH.set g1 (up _ none (by omega) (by omega) trivial)) a1 a2 a3
              next => cases h
          next => cases h
        next => cases h
      next => cases h
    next => cases h
  next => cases h
/-! loads that tell more -/
def ldxF (g : Ctx) (cs : List Cert) (st : List SV) (sh : SH) : Option (List (List LE × Ctx × List SV × SH)) := match st with
  | some (.inr (.inl ie)) :: some (.inl k) :: r => match sh[k]? with
    | some (some (.inl (0, len, lo, hi, some (0, kx, z, rr)))) => match nn g cs ie with
      | some cs1 => match nn g cs1 (ePlus (eSub len ie) (-1)) with
        | some cs2 => match nn g cs2 (ePlus (eSub kx ie) (-1)) with
          | some cs3 => match nn g cs3 (ePlus ie (-rr.1)) with
            | some _ => some [([], ((frI g lo hi).1.1, (frI g lo hi).1.2 ++ [eSub z (eV g.1.length)]), (frI g lo hi).2 :: r, sh)]
            | none => none
          | none => none
        | none => none
      | none => none
    | some (some (.inl (0, len, lo, hi, some (q + 1, kx, z, rr)))) => if eSub ie kx = (0, []) ∧ 0 ≤ lo then (match nn g cs ie with
      | some cs1 => match nn g cs1 (ePlus (eSub len ie) (-1)) with
        | some cs2 => match nn g cs2 (ePlus (eSub z kx) (-1)) with
          | some _ => some [([ePlus rr (-1)], g, vInt (eC 0) :: r, sh.set k (some (.inl (0, len, lo, hi, some (q + 1, ePlus kx 1, z, ePlus rr (-1)))))),
              ([ePlus rr (-3)], (frI g 1 hi).1, (frI g 1 hi).2 :: r, sh.set k (some (.inl (0, len, lo, hi, some (q + 1, ePlus kx 1, z, ePlus rr (-3))))))]
          | none => none
        | none => none
      | none => none) else none
    | _ => none
  | _ => none
theorem psum_nn {f : Nat → Int32} : ∀ {n a : Nat}, 0 ≤ psum f a n
  | 0, a => Int.le_refl 0
  | n + 1, a => by
    have := psum_nn (f := f) (n := n) (a := a + 1)
    unfold psum
    split <;> omega
theorem ldxF_ok (hexec : p.tables.exec = Jvm.exec) (hb : c.code = cc) (hK : va_K D cl (tysOf cy) s) (hP : va_P D cl ws H) {g : Ctx} {cs : List Cert} (hx : SX v g)
    {st : List SV} {sh : SH} {al : List (List LE × Ctx × List SV × SH)} (h : ldxF g cs st sh = some al) (hS : FS ads v st stk) (hH : HS cy ads v w0 sh ws) (hdg : decode cc pc = .ok (.iaload, 1))
    (kk : ∀ q ∈ al, ∀ w stk', SX (v ++ w) q.2.1 → SC (v ++ w) q.1 → FS ads (v ++ w) q.2.2.1 stk' → HS cy ads (v ++ w) w0 q.2.2.2 ws → W p l e R s m args below meth c H locs cells slots Q (F0 m (pc + 1) ls stk')) : W p l e R s m args below meth c H locs cells slots Q (F0 m pc ls stk) := by
  unfold ldxF at h
  split at h
  next ie k r =>
    split at h
    next len lo hi kx z rr h2 =>
      split at h
      next cs1 h3 =>
        split at h
        next cs2 h4 =>
          split at h
          next cs3 h5 =>
            split at h
            next cs4 h6 =>
              cases h
              obtain ⟨y, rest, rfl, ⟨i, rfl, hi'⟩, hr⟩ := hS.cons_inv
              obtain ⟨y2, rest2, rfl, ⟨a, ha, rfl⟩, hr2⟩ := hr.cons_inv
              obtain ⟨ee, g1, n, f, rfl, ht, hn, g2, g5, g6⟩ := hH.get h2 ha
              obtain ⟨kk1, zz1, x1, x2, x3⟩ := g6
              have b1 := nn_ok hx h3 hi'
              have b2 := nn_ok hx h4 (EV.plus (g2.sub hi'))
              have b3 := nn_ok hx h5 (EV.plus (x1.sub hi'))
              have b4 := nn_ok hx h6 (EV.plus hi')
              have hcl : i.toNatClampNeg = i.toInt.toNat := rfl
              obtain ⟨c1, c2⟩ := g5 _ (clampLt b1 (by omega))
              have c3 := x3 i.toNatClampNeg (clampLt b1 (by omega)) (by omega) (by omega)
              refine va_iald hexec hb hK hP k 0 g1 rfl (inb b1 (by omega)) hdg ?_
              refine kk _ List.mem_cons_self [(f i.toNatClampNeg).toInt] _ ?_ (fun _ h => by cases h) ⟨⟨_, rfl, atom_new hx⟩, hr2.monoV⟩ hH.mono
              exact fresh_ok hx c1 c2 (SC.mk1 (x2.mono.sub (atom_new hx)) (by omega))
            next => cases h
          next => cases h
        next => cases h
      next => cases h
    next len lo hi q kx z rr h2 =>
      split at h
      next he =>
        split at h
        next cs1 h3 =>
          split at h
          next cs2 h4 =>
            split at h
            next cs3 h5 =>
              cases h
              obtain ⟨y, rest, rfl, ⟨i, rfl, hi'⟩, hr⟩ := hS.cons_inv
              obtain ⟨y2, rest2, rfl, ⟨a, ha, rfl⟩, hr2⟩ := hr.cons_inv
              obtain ⟨ee, g1, n, f, rfl, ht, hn, g2, g5, g6⟩ := hH.get h2 ha
              obtain ⟨kk1, zz1, rr1, x1, x2, x3, x4, x5, x6, x7⟩ := g6
              have b1 := nn_ok hx h3 hi'
              have b2 := nn_ok hx h4 (EV.plus (g2.sub hi'))
              have b3 := nn_ok hx h5 (EV.plus (x2.sub x1))
              have b4 := hi'.eq0 x1 he.1
              have hcl : i.toNatClampNeg = i.toInt.toNat := rfl
              obtain ⟨c1, c2⟩ := g5 _ (clampLt b1 (by omega))
              have hps : psum f kk1.toNat (zz1 - kk1).toNat = (if (f i.toNatClampNeg).toInt = 0 then 1 else 3) + psum f (kk1 + 1).toNat (zz1 - (kk1 + 1)).toNat := by
                rw [show (zz1 - kk1).toNat = (zz1 - (kk1 + 1)).toNat + 1 by omega, show (kk1 + 1).toNat = kk1.toNat + 1 by omega, show i.toNatClampNeg = kk1.toNat by omega]
                rfl
              have hnn : 0 ≤ psum f (kk1 + 1).toNat (zz1 - (kk1 + 1)).toNat := psum_nn
              refine va_iald hexec hb hK hP k 0 g1 rfl (inb b1 (by omega)) hdg ?_
              by_cases hz : (f i.toNatClampNeg).toInt = 0
              · rw [if_pos hz] at hps
                have hz' : f i.toNatClampNeg = 0 := i32_eq0.mpr hz
                have := kk _ List.mem_cons_self [] (.int (f i.toNatClampNeg) :: rest2)
                rw [List.append_nil] at this
                refine this hx (SC.mk1 (EV.plus x3) (by omega)) ⟨⟨_, rfl, by rw [hz]; exact EV.const _ _⟩, hr2⟩ ?_
                have hw := hH.set g1 (se := .inl (0, len, lo, hi, some (q + 1, ePlus kx 1, z, ePlus rr (-1)))) (e := .inl (cy 0, n, .inl f)) ⟨n, f, rfl, ht, hn, g2, g5, kk1 + 1, zz1, rr1 + -1, EV.plus x1, x2, EV.plus x3, by omega, by omega, x6, by omega⟩
                rwa [show ws.set k (a, .inl (cy 0, n, .inl f)) = ws from by
                  apply List.ext_getElem?
                  intro j
                  by_cases hj : j = k
                  · subst hj
                    rw [List.getElem?_set_self (List.getElem?_eq_some_iff.mp g1).1, g1]
                  · rw [List.getElem?_set_ne (Ne.symm hj)]] at hw
              · rw [if_neg hz] at hps
                refine kk _ (List.mem_cons_of_mem _ List.mem_cons_self) [(f i.toNatClampNeg).toInt] _ ?_ (SC.mk1 (EV.plus x3).mono (by omega)) ⟨⟨_, rfl, atom_new hx⟩, hr2.monoV⟩ ?_
                · have := fresh_ok hx (x := (f i.toNatClampNeg).toInt) (lo := 1) (hi := hi) (cs := []) (by omega) c2 (fun _ h => by cases h)
                  rwa [List.append_nil] at this
                · have hw := hH.set g1 (se := .inl (0, len, lo, hi, some (q + 1, ePlus kx 1, z, ePlus rr (-3)))) (e := .inl (cy 0, n, .inl f)) ⟨n, f, rfl, ht, hn, g2, g5, kk1 + 1, zz1, rr1 + -3, EV.plus x1, x2, EV.plus x3, by omega, by omega, x6, by omega⟩
                  rw [show ws.set k (a, .inl (cy 0, n, .inl f)) = ws from by
                    apply List.ext_getElem?
                    intro j
                    by_cases hj : j = k
                    · subst hj
                      rw [List.getElem?_set_self (List.getElem?_eq_some_iff.mp g1).1, g1]
                    · rw [List.getElem?_set_ne (Ne.symm hj)]] at hw
                  exact hw.mono
            next => cases h
          next => cases h
        next => cases h
      next => cases h
    next => cases h
  next => cases h
end Rows3
/-! constants of the pool -/
def LDok (TB : List Cond) (own : String) (LD : List (Nat × Int)) : Prop := ∀ q ∈ LD, Cond.constant own q.1 (Int32.ofInt q.2) ∈ TB ∧ (Int32.ofInt q.2).toInt = q.2
def LLok (TB : List Cond) (own : String) (LL : List (Nat × Int)) : Prop := ∀ q ∈ LL, Cond.constantLong own q.1 (Int64.ofInt q.2) ∈ TB ∧ (Int64.ofInt q.2).toInt = q.2
/-! a method's end -/
def retF (i : Instr) (ret : Option FieldType) (g : Ctx) (st : List SV) : Option (Option SV) := match i, ret, st with
  | .return_, none, [] => some none
  | .ireturn, some .int, [some (.inr (.inl e))] => some (some (vInt e))
  | .ireturn, some .boolean, [some (.inr (.inl e))] => if 0 ≤ (ivn g e).1 ∧ (ivn g e).2 ≤ 1 then some (some (vInt e)) else none
  | .ireturn, some .byte, [some (.inr (.inl e))] => if -128 ≤ (ivn g e).1 ∧ (ivn g e).2 ≤ 127 then some (some (vInt e)) else none
  | .lreturn, some .long, [some (.inr (.inr o))] => some (some (vLong o))
  | _, _, _ => none
section Rows4
variable {p : Program} {l : Launch} {e : Env} {R : Room} {s : State} {m : MethodId} {args : Array Value} {below : List Frame} {meth : Method} {c : Code} {H : Heap} {locs : List Loc} {cells slots : Nat}
variable {cc : ByteArray} {pc : Nat} {ads : List Nat} {v : List Int} {ls : Array Slot} {nL : Nat} {stk : List Value}
theorem retF_ok (hexec : p.tables.exec = Jvm.exec) (hb : c.code = cc) {Qc : Array Value → State → Outcome → State → Prop} {free : Addr → Prop} {i : Instr} {ret : Option FieldType} {g : Ctx} {st : List SV} {o : Option SV} (hx : SX v g) (h : retF i ret g st = some o) (hS : FS ads v st stk) (hr : meth.sig.returnType = ret) (hlocks : meth.locks = false)
    (hdg : decode cc pc = .ok (i, 1)) (hq : ∀ (r : Option Value) (t : State), RS ads v o r → t.heap = H → s.WarmedH t.vm → Qc args s (.returned r) t) (hf : ∀ q ∈ locs, free q.base) : W p l e R s m args below meth c H locs cells slots (MQ below Qc args s cells slots free) (F0 m pc ls stk) := by
  unfold retF at h
  split at h
  · cases h
    cases stk with
    | nil => exact W.vret hexec hb hr (fun t ht hw => hq none t trivial ht hw) hf hdg hlocks
    | cons a b => exact hS.elim
  · cases h
    obtain ⟨y, rest, rfl, ⟨n, rfl, hn⟩, hrest⟩ := hS.cons_inv
    cases rest with
    | nil => exact W.iret hexec hb hr (fun t ht hw => hq (some (.int n)) t ⟨n, rfl, hn⟩ ht hw) hf hdg hlocks
    | cons a b => exact hrest.elim
  · split at h
    next hb2 =>
      cases h
      obtain ⟨y, rest, rfl, ⟨n, rfl, hn⟩, hrest⟩ := hS.cons_inv
      have := ivn_ok hx hn
      cases rest with
      | nil => exact W.zret hexec hb hr (by rcases i32_01 (n := n) (by omega) (by omega) with rfl | rfl; exact narrow_b0; exact narrow_b1) (fun t ht hw => hq (some (.int n)) t ⟨n, rfl, hn⟩ ht hw) hf hdg hlocks
      | cons a b => exact hrest.elim
    next => cases h
  · split at h
    next hb2 =>
      cases h
      obtain ⟨y, rest, rfl, ⟨n, rfl, hn⟩, hrest⟩ := hS.cons_inv
      have := ivn_ok hx hn
      cases rest with
      | nil =>
        refine W.zret hexec hb hr ?_ (fun t ht hw => hq (some (.int n)) t ⟨n, rfl, hn⟩ ht hw) hf hdg hlocks
        rw [narrow_byte]
        congr 1
        apply Int32.toInt_inj.mp
        rw [Int8.toInt_toInt32, Int32.toInt_toInt8, Int.bmod_eq_of_le (by omega) (by omega)]
      | cons a b => exact hrest.elim
    next => cases h
  · cases h
    obtain ⟨y, rest, rfl, ⟨n, rfl, hn⟩, hrest⟩ := hS.cons_inv
    cases rest with
    | nil => exact W.lret hexec hb hr (fun t ht hw => hq (some (.long n)) t ⟨n, rfl, hn⟩ ht hw) hf hdg hlocks
    | cons a b => exact hrest.elim
  · cases h
end Rows4
