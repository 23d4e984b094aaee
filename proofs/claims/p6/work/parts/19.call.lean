/-! calls by contract -/
section Run
variable {p : Program} {l : Launch} {e : Env} {R : Room} {s : State} {m : MethodId} {args : Array Value} {below : List Frame} {meth : Method} {c : Code} {H : Heap} {locs : List Loc} {cells slots : Nat}
variable {TB : List Cond} {cl : List vw_C} {G : List Nat → State → Prop} {D : va_G} {cy : Nat → ClassId} {cc : ByteArray} {pc nL : Nat} {ls : Array Slot} {own : String} {mi : MI} {K : CK} {mu : List Int} {ads : List Nat} {ws : va_W} {xs rest : List Value} {ix : Nat}
theorem callB_K (hT : TBok TB) (hts : ∀ w ∈ TB, w.before args s = true) (hcode : Cond.code mi.1 mi.2.1 mi.2.2.1 mi.2.2.2.1 ∈ TB) (hini : Cond.initialized mi.1.cls ∈ TB) (hl : Cond.methodLink own ix mi.1 ∈ TB)
    (hd : mi.1.cls ≠ "java/lang/invoke/MethodHandle" ∧ mi.1.cls ≠ "java/lang/invoke/VarHandle" ∧ (parseMethodDescriptor mi.1.desc).map (fun d => d.parameters.length) = some mi.2.2.2.2) (hR : K.1.2.1 + 1 ≤ R.frames ∧ 8 + (mi.2.2.1 + 11) + K.1.2.2.1 ≤ R.locals) :
    CallB R s args own ix mi.1 mi.2.1 mi.2.2.1 mi.2.2.2.1 (wsM TB mi) (rmK K) K.1.2.2.2.1 K.1.2.2.2.2 mi.2.2.2.2 :=
  callB_of _ hts (wsM_good hT hcode) rfl rfl rfl (hts _ hini) (hts _ hl) hd hR
theorem run0 (hGc : GCl G) (S : CallFix p m c cc nL s args TB own) (hV : Valid l TB cl G mi K) (h1 : SX mu (K.2.1.1, K.2.1.2.1)) (h2 : FS ads mu K.2.1.2.2.1 xs) (h3 : HS cy ads mu ws K.2.1.2.2.2 ws) (hpre : ∀ U : State, U.heap = H → s.WarmedH U.vm → PK cl G D cy ws xs H.size xs.toArray U)
    (cb : CallB R s args own ix mi.1 mi.2.1 mi.2.2.1 mi.2.2.2.1 (wsM TB mi) (rmK K) K.1.2.2.2.1 K.1.2.2.2.2 mi.2.2.2.2) (hst : Cond.static mi.1 ∈ TB) (hn : xs.length = mi.2.2.2.2) (hsz : ls.size = nL) (hW : (rest.map fun v => v.category).sum ≤ 8) (hdg : decode cc pc = .ok (.invokestatic ix, 3)) (hf : cells + K.1.2.2.2.1 ≤ R.cells ∧ slots + K.1.2.2.2.2 ≤ R.slots) :
    va_Run p l e R s m args below meth c H locs cells slots K.1.2.2.2.1 K.1.2.2.2.2 (F0 m pc ls (xs.reverse ++ rest)) rest (QK cl D cy K mu ads ws H.size xs.toArray) (va_A ws H.size) :=
  va_runS S (hV D cy mu ads ws xs H.size h1 h2 h3) ⟨cb, S.2.2.2.2 _ hst⟩ ⟨PK.blind hGc, hpre⟩ rfl hn hsz rfl (lv_room hW) hdg hf
theorem run3 (hGc : GCl G) (hT : TBok TB) (S : CallFix p m c cc nL s args TB own) (hV : Valid l TB cl G mi K) (h1 : SX mu (K.2.1.1, K.2.1.2.1)) (h2 : FS ads mu K.2.1.2.2.1 xs) (h3 : HS cy ads mu ws K.2.1.2.2.2 ws) (hpre : ∀ U : State, U.heap = H → s.WarmedH U.vm → PK cl G D cy ws xs H.size xs.toArray U)
    (hcode : Cond.code mi.1 mi.2.1 mi.2.2.1 mi.2.2.2.1 ∈ TB) (hini : Cond.initialized mi.1.cls ∈ TB) (hl : va_Nw (Cond.methodLinkNest own ix mi.1 "FlateFilter") s)
    (hd : mi.1.cls ≠ "java/lang/invoke/MethodHandle" ∧ mi.1.cls ≠ "java/lang/invoke/VarHandle" ∧ (parseMethodDescriptor mi.1.desc).map (fun d => d.parameters.length) = some mi.2.2.2.2) (hR : K.1.2.1 + 1 ≤ R.frames ∧ 8 + (mi.2.2.1 + 11) + K.1.2.2.1 ≤ R.locals)
    (hst : Cond.static mi.1 ∈ TB) (hn : xs.length = mi.2.2.2.2) (hsz : ls.size = nL) (hW : (rest.map fun v => v.category).sum ≤ 8) (hdg : decode cc pc = .ok (.invokestatic ix, 3)) (hf : cells + K.1.2.2.2.1 ≤ R.cells ∧ slots + K.1.2.2.2.2 ≤ R.slots) :
    va_Run p l e R s m args below meth c H locs cells slots K.1.2.2.2.1 K.1.2.2.2.2 (F0 m pc ls (xs.reverse ++ rest)) rest (QK cl D cy K mu ads ws H.size xs.toArray) (va_A ws H.size) :=
  va_runSN S (hV D cy mu ads ws xs H.size h1 h2 h3) ⟨va_cnB (mc := K.1.2.2.2.1) (ms := K.1.2.2.2.2) _ S.2.2.2.2 (wsM_good hT hcode) rfl rfl rfl hl (S.2.2.2.2 _ hini) hd hR, S.2.2.2.2 _ hst, trivial⟩ ⟨PK.blind hGc, hpre⟩ rfl hn hsz rfl (lv_room hW) hdg hf
theorem run1 (hGc : GCl G) (S : CallFix p m c cc nL s args TB own) (hV : Valid l TB cl G mi K) (h1 : SX mu (K.2.1.1, K.2.1.2.1)) {b : Nat} {As : List Value} (h2 : FS ads mu K.2.1.2.2.1 (.ref b :: As)) (h3 : HS cy ads mu ws K.2.1.2.2.2 ws) (hpre : ∀ U : State, U.heap = H → s.WarmedH U.vm → PK cl G D cy ws (.ref b :: As) H.size (Value.ref b :: As).toArray U)
    (cb : CallB R s args own ix mi.1 mi.2.1 mi.2.2.1 mi.2.2.2.1 (wsM TB mi) (rmK K) K.1.2.2.2.1 K.1.2.2.2.2 mi.2.2.2.2) (hin : Cond.instanceMethod mi.1 ∈ TB) (hse : Cond.selects mi.1.cls mi.1 mi.1 ∈ TB) (hrc : ∃ cell : Cell, H[b]? = some cell ∧ cell.vm.isStatics = false ∧ s.vm.findClass mi.1.cls = some cell.cls)
    (hn : As.length = mi.2.2.2.2) (hsz : ls.size = nL) (hW : (rest.map fun v => v.category).sum ≤ 8) (hdg : decode cc pc = .ok (.invokevirtual ix, 3)) (hf : cells + K.1.2.2.2.1 ≤ R.cells ∧ slots + K.1.2.2.2.2 ≤ R.slots) :
    va_Run p l e R s m args below meth c H locs cells slots K.1.2.2.2.1 K.1.2.2.2.2 (F0 m pc ls ((Value.ref b :: As).reverse ++ rest)) rest (QK cl D cy K mu ads ws H.size (Value.ref b :: As).toArray) (va_A ws H.size) :=
  va_runV S (hV D cy mu ads ws _ H.size h1 h2 h3) ⟨cb, S.2.2.2.2 _ hin, S.2.2.2.2 _ hse⟩ ⟨PK.blind hGc, hrc, hpre⟩ rfl hn hsz (by simp) (lv_room hW) hdg hf
theorem run2 (hGc : GCl G) (S : CallFix p m c cc nL s args TB own) (hV : Valid l TB cl G mi K) (h1 : SX mu (K.2.1.1, K.2.1.2.1)) {b : Nat} {As : List Value} (h2 : FS ads mu K.2.1.2.2.1 (.ref b :: As)) (h3 : HS cy ads mu ws K.2.1.2.2.2 ws) (hpre : ∀ U : State, U.heap = H → s.WarmedH U.vm → PK cl G D cy ws (.ref b :: As) H.size (Value.ref b :: As).toArray U)
    (cb : CallB R s args own ix mi.1 mi.2.1 mi.2.2.1 mi.2.2.2.1 (wsM TB mi) (rmK K) K.1.2.2.2.1 K.1.2.2.2.2 mi.2.2.2.2) (hin : Cond.instanceMethod mi.1 ∈ TB) (hnm : mi.1.name = "<init>") (hret : mi.2.2.2.1 = none)
    (hn : As.length = mi.2.2.2.2) (hsz : ls.size = nL) (hW : (rest.map fun v => v.category).sum ≤ 8) (hdg : decode cc pc = .ok (.invokespecial ix, 3)) (hf : cells + K.1.2.2.2.1 ≤ R.cells ∧ slots + K.1.2.2.2.2 ≤ R.slots) :
    va_Run p l e R s m args below meth c H locs cells slots K.1.2.2.2.1 K.1.2.2.2.2 (F0 m pc ls ((Value.ref b :: As).reverse ++ rest)) rest (QK cl D cy K mu ads ws H.size (Value.ref b :: As).toArray) (va_A ws H.size) :=
  va_runI S (hV D cy mu ads ws _ H.size h1 h2 h3) ⟨by rw [hret] at cb; exact cb, hnm, S.2.2.2.2 _ hin⟩ ⟨PK.blind hGc, hpre⟩ rfl hn hsz (by simp) (lv_room hW) hdg hf
end Run
abbrev PD : Type := (List (Nat × Instr × Nat)) × Nat × (List (Nat × Nat × Nat × Bool)) × Bool × (List (Nat × Int)) × (List (Nat × Int)) × (List (Nat × Nat × Nat)) × (List (Nat × Nat)) × Option Nat × Option FieldType × CK × List (Nat × Tm × LE) × List (Nat × Nat)
abbrev pdNL (P : PD) : Nat := P.2.1
abbrev pdFL (P : PD) : List (Nat × Nat × Nat × Bool) := P.2.2.1
abbrev pdIni (P : PD) : Bool := P.2.2.2.1
abbrev pdLD (P : PD) : List (Nat × Int) := P.2.2.2.2.1
abbrev pdLL (P : PD) : List (Nat × Int) := P.2.2.2.2.2.1
abbrev pdML (P : PD) : List (Nat × Nat × Nat) := P.2.2.2.2.2.2.1
abbrev pdNW (P : PD) : List (Nat × Nat) := P.2.2.2.2.2.2.2.1
abbrev pdOI (P : PD) : Option Nat := P.2.2.2.2.2.2.2.2.1
abbrev pdRet (P : PD) : Option FieldType := P.2.2.2.2.2.2.2.2.2.1
abbrev pdK (P : PD) : CK := P.2.2.2.2.2.2.2.2.2.2.1
abbrev pdCuts (P : PD) : List (Nat × Tm × LE) := P.2.2.2.2.2.2.2.2.2.2.2.1
abbrev pdMA (P : PD) : List (Nat × Nat) := P.2.2.2.2.2.2.2.2.2.2.2.2
abbrev kMi (K : CK) : Nat := K.1.1
abbrev kMc (K : CK) : Nat := K.1.2.2.2.1
abbrev kMs (K : CK) : Nat := K.1.2.2.2.2
abbrev kB (K : CK) : Bnd := K.2.1.1
abbrev kC (K : CK) : List LE := K.2.1.2.1
abbrev kA (K : CK) : List SV := K.2.1.2.2.1
abbrev kH (K : CK) : SH := K.2.1.2.2.2
abbrev kB' (K : CK) : Bnd := K.2.2.1
abbrev kC' (K : CK) : List LE := K.2.2.2.1
abbrev kR' (K : CK) : Option SV := K.2.2.2.2.1
abbrev kH' (K : CK) : SH := K.2.2.2.2.2
def kindOk (i : Instr) (kd : Nat) : Bool := match i with
  | .invokestatic _ => kd == 0 || kd == 3
  | .invokevirtual _ => kd == 1
  | .invokespecial _ => kd == 2
  | _ => false
def recvOk (cl : List vw_C) (y : MethodName) (as : List SV) (sh : SH) : Bool := match as with
  | some (.inl k) :: _ => match sh[k]? with
    | some (some (.inr (ci, _))) => match cl[ci]? with
      | some r => decide (r.1 = y.cls)
      | none => false
    | _ => false
  | _ => false
def isRefH (as : List SV) : Bool := match as with
  | some (.inl _) :: _ => true
  | _ => false
def retS (sg : List LE) (o : Option SV) (rest : List SV) : Option (List SV) := match o with
  | none => some rest
  | some t => match sbV sg t with
    | some a => some (a :: rest)
    | none => none
def okCall (cl : List vw_C) (K : CK) (mi : MI) (K' : CK) (kd : Nat) (st : List SV) (sh : SH) (ce so : Nat) : Bool :=
  decide ((kA K').length ≤ st.length) && (decide ((kA K').length = (if kd = 1 ∨ kd = 2 then mi.2.2.2.2 + 1 else mi.2.2.2.2)) && (decide (((st.drop (kA K').length).map catS).sum ≤ 8) &&
  (decide (K'.1.2.1 + 1 ≤ K.1.2.1) && (decide (8 + (mi.2.2.1 + 11) + K'.1.2.2.1 ≤ K.1.2.2.1) && (decide (ce + kMc K' ≤ kMc K) && (decide (so + kMs K' ≤ kMs K) &&
  (if kd = 1 then recvOk cl mi.1 ((st.take (kA K').length).reverse) sh else if kd = 2 then isRefH ((st.take (kA K').length).reverse) else true)))))))
def callF (cl : List vw_C) (MT : List MI) (CT : List CK) (P : PD) (i : Instr) (ix : Nat) (g : Ctx) (st : List SV) (sh : SH) (ce so kc : Nat) (cs : List Cert) : Option (Ctx × List SV × SH × Nat × Nat) :=
  match fnd ix (pdML P), CT[kc]? with
  | some (mn, kd), some K' => match MT[mn]? with
    | some mi => if kindOk i kd = true ∧ kMi K' = mn ∧ okCall cl (pdK P) mi K' kd st sh ce so = true then
        match mtT false 0 (eC 0) g cs [] ((st.take (kA K').length).reverse) sh (kB K', kC K', [], kA K', kH K') with
        | some (sg, _) => match sbCs (sg ++ frs g.1.length (kB' K').length) (kC' K'), sbH (sg ++ frs g.1.length (kB' K').length) (kH' K') sh, retS (sg ++ frs g.1.length (kB' K').length) (kR' K') (st.drop (kA K').length) with
          | some cs', some sh', some st' => some ((g.1 ++ kB' K', g.2 ++ cs'), st', sh', ce + kMc K', so + kMs K')
          | _, _, _ => none
        | none => none
      else none
    | none => none
  | _, _ => none
section CallF
variable {p : Program} {l : Launch} {e : Env} {s : State} {m : MethodId} {args : Array Value} {below : List Frame} {meth : Method} {c : Code} {H : Heap} {locs : List Loc} {Q : State → Prop}
variable {TB : List Cond} {cl : List vw_C} {G : List Nat → State → Prop} {D : va_G} {cy : Nat → ClassId} {cc : ByteArray} {pc nL : Nat} {ls : Array Slot} {own : String} {MT : List MI} {CT : List CK} {P : PD} {w0 ws : va_W} {v : List Int} {ads bs : List Nat} {stk : List Value}
set_option maxHeartbeats 1000000 in
theorem callF_ok (hGc : GCl G) (hT : TBok TB) (S : CallFix p m c cc nL s args TB own) (hMT : MTok TB MT) (hML : MLok TB G own MT (pdML P)) (hCT : ∀ (k : Nat) (K' : CK) (mi : MI), CT[k]? = some K' → MT[kMi K']? = some mi → Valid l TB cl G mi K')
    (hK : va_K D cl (tysOf cy) s) (hP : va_P D cl ws H) (hD : va_D (va_A w0 s.heap.size) ws) (hS : va_S (va_A w0 s.heap.size) s.heap H locs) (hG : G (w0.map fun q => q.1) s) (hads : ads = (w0.map fun q => q.1) ++ bs) (hbs : ∀ b ∈ bs, s.heap.size ≤ b)
    {i : Instr} {ix : Nat} (hi : i = .invokestatic ix ∨ i = .invokevirtual ix ∨ i = .invokespecial ix) {g g' : Ctx} {st st' : List SV} {sh sh' : SH} {ce so ce' so' kc : Nat} {cs : List Cert} (hx : SX v g) (hSt : FS ads v st stk) (hH : HS cy ads v w0 sh ws) (hsz : ls.size = nL)
    (h : callF cl MT CT P i ix g st sh ce so kc cs = some (g', st', sh', ce', so')) (hdg : decode cc pc = .ok (i, 3))
    (kk : ∀ (w : List Int) (bs' : List Nat) (ws' : va_W) (H1 : Heap) (locs1 : List Loc) (stk' : List Value), SX (v ++ w) g' → FS (ads ++ bs') (v ++ w) st' stk' → HS cy (ads ++ bs') (v ++ w) w0 sh' ws' → va_P D cl ws' H1 → va_D (va_A w0 s.heap.size) ws' → va_S (va_A w0 s.heap.size) s.heap H1 locs1 → (∀ b ∈ bs', s.heap.size ≤ b) →
      W p l e (rmK (pdK P)) s m args below meth c H1 locs1 ce' so' Q (F0 m (pc + 3) ls stk')) : W p l e (rmK (pdK P)) s m args below meth c H locs ce so Q (F0 m pc ls stk) := by
  unfold callF at h
  split at h
  next mn kd K' h1 h2 =>
    split at h
    next mi h3 =>
      split at h
      next hok =>
        obtain ⟨ok1, ok2, ok3⟩ := hok
        split at h
        next sg cs2 h4 =>
          split at h
          next cs' shx stx h5 h6 h7 =>
            cases h
            unfold okCall at ok3
            simp only [Bool.and_eq_true, decide_eq_true_eq] at ok3
            obtain ⟨a1, a2, a3, a4, a5, a6, a7, a8⟩ := ok3
            have hV := hCT kc K' mi h2 (by rw [ok2]; exact h3)
            obtain ⟨mi', z1, hlk⟩ := hML _ (fnd_mem h1)
            have hmi : mi' = mi := Option.some.inj (z1.symm.trans h3)
            subst hmi
            obtain ⟨m1, m2, m3, m4⟩ := hMT mi' (List.mem_of_getElem? h3)
            have hst2 := hSt
            rw [← List.take_append_drop (kA K').length st] at hst2
            obtain ⟨s1, s2, rfl, f1, f2⟩ := FS.split hst2
            have f1r := f1.rev
            have hlen : s1.length = (kA K').length := by rw [← f1.len, List.length_take]; omega
            have hLs : LSat ads v ls nL ([] : SL) → True := fun _ => trivial
            have hfit : ce + kMc K' ≤ (rmK (pdK P)).cells ∧ so + kMs K' ≤ (rmK (pdK P)).slots := ⟨a6, a7⟩
            have hcat : (s2.map fun v => v.category).sum ≤ 8 := Nat.le_trans (cats_le f2) a3
            -- the template's valuation
            obtain ⟨mu, q1, q2, q3, -, q5, q6, -⟩ : ∃ mu, AgS sg v mu ∧ mu.length = sg.length ∧ SX mu (kB K', kC K') ∧ True ∧ FS ads mu (kA K') s1.reverse ∧ HS cy ads mu ws (kH K') ws ∧ True := by
              have hLe : LSat ads v #[] 0 ([] : SL) := ⟨rfl, ⟨fun i v h => by simp at h, fun i h => by simp at h⟩, fun _ h => by cases h⟩
              obtain ⟨mu, r1, r2, r3, -, r5, r6, -⟩ := mtT_ok hx hLe f1r hH (Nat.zero_le _) h4
              exact ⟨mu, r1, r2, r3, trivial, r5, r6, trivial⟩
            have hpre := preK (xs := s1.reverse) hGc hK hP hD hS hG (hH.1.trans hads) hbs
            have hA : ∀ q, s.heap.size ≤ q → va_A w0 s.heap.size q := fun q h => Or.inr h
            have fin : va_Run p l e (rmK (pdK P)) s m args below meth c H locs ce so (kMc K') (kMs K') (F0 m pc ls (s1.reverse.reverse ++ s2)) s2 (QK cl D cy K' mu ads ws H.size s1.reverse.toArray) (va_A ws H.size) → W p l e (rmK (pdK P)) s m args below meth c H locs ce so Q (F0 m pc ls (s1 ++ s2)) := fun hr => by
              rw [List.reverse_reverse] at hr
              refine afterK hr hD hS hA fun r w bs' ws' H1 locs1 g1 g2 g3 g4 g5 g6 g7 => ?_
              have hwl : w.length = (kB' K').length := by
                have e1 : (mu ++ w).length = (kB K' ++ kB' K').length := g1.1.1
                have e2 : mu.length = (kB K').length := q3.1.1
                rw [List.length_append, List.length_append] at e1
                omega
              have hag : AgS (sg ++ frs g.1.length (kB' K').length) (v ++ w) (mu ++ w) := fun j le hj => by
                by_cases hjl : j < sg.length
                · rw [List.getElem?_append_left hjl] at hj
                  obtain ⟨x, x1, x2⟩ := q1 j le hj
                  exact ⟨x, getElem?_mono x1, x2.mono⟩
                · rw [List.getElem?_append_right (by omega)] at hj
                  obtain ⟨y1, y2⟩ := frs_get hj
                  have hwj : w[j - sg.length]? = some (w[j - sg.length]'(by omega)) := List.getElem?_eq_getElem _
                  refine ⟨w[j - sg.length]'(by omega), by rw [List.getElem?_append_right (by omega), q2]; exact hwj, ?_⟩
                  rw [y1]
                  refine EV.atom ?_
                  rw [List.getElem?_append_right (by rw [hx.1.1]; omega), hx.1.1, show g.1.length + (j - sg.length) - g.1.length = j - sg.length by omega]
                  exact hwj
              have hX' : SX (v ++ w) (g.1 ++ kB' K', g.2 ++ cs') := by
                refine ⟨hx.1.push ⟨hwl, fun j lo hi hj => ?_⟩, hx.2.mono.app (sbCs_ok hag h5 g1.2)⟩
                have hbl : (kB K').length = mu.length := q3.1.1.symm
                obtain ⟨x, x1, x2⟩ := g1.1.2 (mu.length + j) lo hi (by
                  show (kB K' ++ kB' K')[mu.length + j]? = _
                  rw [List.getElem?_append_right (by omega), hbl, Nat.add_sub_cancel_left]
                  exact hj)
                rw [List.getElem?_append_right (by omega), Nat.add_sub_cancel_left] at x1
                exact ⟨x, x1, x2⟩
              obtain ⟨i1, i2⟩ := sbH_ok hag ⟨w, rfl⟩ (off := 0) h6 (fun k o hk => by rw [Nat.zero_add]; exact hH.2.2 k o hk) (fun k o hk => by rw [Nat.zero_add]; exact g3.2.2 k o hk)
              have hH' : HS cy (ads ++ bs') (v ++ w) w0 sh' ws' := ⟨g3.1, by rw [i1]; exact g3.2.1, fun k o hk => by
                have := i2 k o hk
                rwa [Nat.zero_add] at this⟩
              refine kk w bs' ws' H1 locs1 _ hX' ?_ hH' g4 g5 g6 g7
              have f2' : FS (ads ++ bs') (v ++ w) (st.drop (kA K').length) s2 := f2.mono
              unfold retS at h7
              split at h7
              next hrt =>
                cases h7
                have g2 : RS (ads ++ bs') (mu ++ w) (kR' K') r := g2
                rw [hrt] at g2
                cases r with
                | none => exact f2'
                | some z => exact g2.elim
              next t hrt =>
                split at h7
                next a ha =>
                  cases h7
                  have g2 : RS (ads ++ bs') (mu ++ w) (kR' K') r := g2
                  rw [hrt] at g2
                  cases r with
                  | none => exact g2.elim
                  | some z => exact ⟨sbV_ok hag ha g2, f2'⟩
                next => cases h7
            have refHead : isRefH ((st.take (kA K').length).reverse) = true → ∃ b As, s1.reverse = Value.ref b :: As ∧ As.length + 1 = (kA K').length ∧ ∃ k t, (st.take (kA K').length).reverse = some (.inl k) :: t ∧ ads[k]? = some b := fun hh => by
              have hlr : s1.reverse.length = (kA K').length := by rw [List.length_reverse]; exact hlen
              unfold isRefH at hh
              split at hh
              next k t hkt =>
                rw [hkt] at f1r
                obtain ⟨x, r, er, ⟨b, hb, rfl⟩, -⟩ := f1r.cons_inv
                refine ⟨b, r, er, ?_, k, t, hkt, hb⟩
                rw [er] at hlr
                simpa using hlr
              next => cases hh
            rcases hi with rfl | rfl | rfl
            · unfold kindOk at ok1
              simp only [Bool.or_eq_true, beq_iff_eq] at ok1
              rcases ok1 with rfl | rfl
              · obtain ⟨l1, l2⟩ := hlk
                have hn : s1.reverse.length = mi'.2.2.2.2 := by
                  rw [List.length_reverse, hlen, a2, if_neg (by decide)]
                exact fin (run0 hGc S hV q3 q5 q6 hpre (callB_K hT S.2.2.2.2 m3 m4 l1 m2 ⟨a4, a5⟩) l2 hn hsz hcat hdg hfit)
              · obtain ⟨l1, l2⟩ := hlk
                have hn : s1.reverse.length = mi'.2.2.2.2 := by
                  rw [List.length_reverse, hlen, a2, if_neg (by decide)]
                exact fin (run3 hGc hT S hV q3 q5 q6 hpre m3 m4 (l2 _ _ hG) m2 ⟨a4, a5⟩ l1 hn hsz hcat hdg hfit)
            · unfold kindOk at ok1
              simp only [beq_iff_eq] at ok1
              subst ok1
              obtain ⟨l1, l2, l3⟩ := hlk
              rw [if_pos rfl] at a8
              have hrh : isRefH ((st.take (kA K').length).reverse) = true := by
                unfold recvOk at a8
                unfold isRefH
                split at a8
                next k t hkt => rfl
                next => cases a8
              obtain ⟨b, As, e1, e2, k, t, e3, e4⟩ := refHead hrh
              unfold recvOk at a8
              rw [e3] at a8
              simp only at a8
              split at a8
              next ci fs hk =>
                split at a8
                next r hr =>
                  rw [decide_eq_true_eq] at a8
                  obtain ⟨ee, o1, vs, rfl, o2⟩ := hH.get hk e4
                  have hrc := va_recv hK hP hr o1
                  rw [a8] at hrc
                  rw [e1] at q5 hpre fin
                  rw [if_pos (Or.inl rfl)] at a2
                  exact fin (run1 hGc S hV q3 q5 q6 hpre (callB_K hT S.2.2.2.2 m3 m4 l1 m2 ⟨a4, a5⟩) l2 l3 hrc (by omega) hsz hcat hdg hfit)
                next => cases a8
              next => cases a8
            · unfold kindOk at ok1
              simp only [beq_iff_eq] at ok1
              subst ok1
              obtain ⟨l1, l2, l3, l4⟩ := hlk
              rw [if_neg (by decide), if_pos rfl] at a8
              obtain ⟨b, As, e1, e2, -⟩ := refHead a8
              rw [e1] at q5 hpre fin
              rw [if_pos (Or.inr rfl)] at a2
              exact fin (run2 hGc S hV q3 q5 q6 hpre (callB_K hT S.2.2.2.2 m3 m4 l1 m2 ⟨a4, a5⟩) l2 l3 l4 (by omega) hsz hcat hdg hfit)
          next => cases h
        next => cases h
      next => cases h
    next => cases h
  next => cases h
end CallF
