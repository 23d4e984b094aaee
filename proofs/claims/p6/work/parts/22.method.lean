section Sound2
variable {p : Program} {l : Launch} {e : Env} {s : State} {m : MethodId} {args : Array Value} {below : List Frame} {meth : Method} {c : Code} {Q : State → Prop}
variable {TB : List Cond} {cl : List vw_C} {G : List Nat → State → Prop} {ty : Nat → Nat → FieldType} {D : va_G} {cy : Nat → ClassId} {MT : List MI} {CT : List CK} {own : String} {P : PD} {cc : ByteArray} {w0 : va_W} {mu0 : List Int} {lim : Option Int} {rk : Option LE}
theorem step1_ok (C0 : Cx0 TB cl G ty MT own P cc) (C1 : Cx1 p l s m args meth c TB cl G D cy MT CT own P cc w0 mu0)
    (hQ : ∀ (H : Heap) (locs : List Loc) (g : JFrame), W p l e (rmK (pdK P)) s m args below meth c H locs (kMc (pdK P)) (kMs (pdK P)) (MQ below (QK cl D cy (pdK P) mu0 (w0.map fun q => q.1) w0 s.heap.size) args s (kMc (pdK P)) (kMs (pdK P)) (va_A w0 s.heap.size)) g → W p l e (rmK (pdK P)) s m args below meth c H locs (kMc (pdK P)) (kMs (pdK P)) Q g)
    {x : Cf} {tp tp' : List TI} {cs : List (Bool × Cf)} (h : step1 ty cl MT CT P x tp = some (cs, tp')) (hcs : ∀ y ∈ cs, Clm p l e s m args below meth c Q cl D cy P w0 mu0 lim rk y.2) : Clm p l e s m args below meth c Q cl D cy P w0 mu0 lim rk x := by
  obtain ⟨pc, g, sl, st, sh, ce, so⟩ := x
  have hdec := C0.2.2.2.2.2.2.2.2.2.2.2.2
  obtain ⟨hexec, hb, hml, hown, hts⟩ := C1.1
  unfold step1 at h
  simp only at h
  split at h
  next => cases h
  next i len h1 =>
    have hdg : decode cc pc = .ok (i, len) := hdec (pc, i, len) (fnd_mem h1)
    split at h
    next g' sl' st' h2 =>
      split at h
      next hl =>
        subst hl
        cases h
        intro w bs ws H locs ls stk hx hrk hL hS hH hP hD hSS hbs
        exact simp1_ok hexec hb h2 hdg hx hL hS fun w' ls' stk' f1 f2 f3 => Clm.go0 (hcs _ List.mem_cons_self) hrk hbs w' ws H locs ls' stk' f1 f2 f3 hH.mono hP hD hSS
      next => cases h
    next h2 =>
      split at h
      next al st' h3 =>
        cases h
        intro w bs ws H locs ls stk hx hrk hL hS hH hP hD hSS hbs
        refine alts_ok hexec hb h3 hdg hx hS fun stk' f1 q hq hsc => ?_
        cases hd : dead g q.1 with
        | true => exact (dead_ok hx hsc hd).elim
        | false =>
          have hm : (false, ((q.2, addcs g q.1, sl, st', sh, ce, so) : Cf)) ∈ (al.filter fun q => !dead g q.1).map fun q => (false, ((q.2, addcs g q.1, sl, st', sh, ce, so) : Cf)) := List.mem_map.mpr ⟨q, List.mem_filter.mpr ⟨hq, by rw [hd]; rfl⟩, rfl⟩
          refine Clm.go0 (hcs _ hm) hrk hbs [] ws H locs ls stk' ?_ ?_ ?_ ?_ hP hD hSS
          · rw [List.append_nil]; exact addcs_ok hx hsc
          · rw [List.append_nil]; exact hL
          · rw [List.append_nil]; exact f1
          · rw [List.append_nil]; exact hH
      next => exact step2_ok C0 C1 hQ hdg h hcs
theorem rkOk_ok {v : List Int} {g : Ctx} (hx : SX v g) {cs : List Cert} {r : LE} {z : Int} (h : rkOk g cs rk r = true) (hz : EV v r z) (hrk : ∀ k, rk = some k → ∃ b, lim = some b ∧ EV v k b) (hn : rk = none → lim = none) : 0 ≤ z ∧ ∀ b, lim = some b → z < b := by
  unfold rkOk at h
  split at h
  next c1 h1 =>
    refine ⟨nn_ok hx h1 hz, fun b hb => ?_⟩
    cases rk with
    | none => rw [hn rfl] at hb; cases hb
    | some k =>
      obtain ⟨b', e1, e2⟩ := hrk k rfl
      rw [hb] at e1
      cases e1
      obtain ⟨c2, h2⟩ := Option.isSome_iff_exists.mp h
      have := nn_ok hx h2 (EV.plus (e2.sub hz))
      omega
  next => cases h
theorem stepN_ok (C0 : Cx0 TB cl G ty MT own P cc) (C1 : Cx1 p l s m args meth c TB cl G D cy MT CT own P cc w0 mu0)
    (hQ : ∀ (H : Heap) (locs : List Loc) (g : JFrame), W p l e (rmK (pdK P)) s m args below meth c H locs (kMc (pdK P)) (kMs (pdK P)) (MQ below (QK cl D cy (pdK P) mu0 (w0.map fun q => q.1) w0 s.heap.size) args s (kMc (pdK P)) (kMs (pdK P)) (va_A w0 s.heap.size)) g → W p l e (rmK (pdK P)) s m args below meth c H locs (kMc (pdK P)) (kMs (pdK P)) Q g)
    (hn : rk = none → lim = none) (hCH : ∀ q ∈ pdCuts P, ∀ z : Int, 0 ≤ z → (∀ b, lim = some b → z < b) → Clm p l e s m args below meth c Q cl D cy P w0 mu0 (some z) (some q.2.2) (cfOf q))
    {first : Bool} {x : Cf} {tp tp' : List TI} {cs : List (Bool × Cf)} (h : stepN ty cl MT CT P first rk x tp = some (cs, tp')) (hcs : ∀ y ∈ cs, Clm p l e s m args below meth c Q cl D cy P w0 mu0 lim rk y.2) : Clm p l e s m args below meth c Q cl D cy P w0 mu0 lim rk x := by
  unfold stepN at h
  split at h
  next T rank hf =>
    split at h
    next hc =>
      cases h
      split at hf
      next => cases hf
      next =>
        intro w bs ws H locs ls stk hx hrk hL hS hH hP hD hSS hbs
        unfold cutF at hc
        split at hc
        next sg c1 h1 =>
          split at hc
          next r h2 =>
            simp only [Bool.and_eq_true, decide_eq_true_eq] at hc
            obtain ⟨e1, e2, e3⟩ := hc
            have hmul : mu0.length = (kB (pdK P)).length := C1.2.2.2.2.2.2.2
            obtain ⟨mu, m1, m2, m3, m4, m5, m6, m7⟩ := mtT_ok hx hL hS hH (by rw [List.length_append]; omega) h1
            obtain ⟨z, z1, z2⟩ := sbE_ok m1 h2
            obtain ⟨y1, y2⟩ := rkOk_ok hx e1 z2 hrk hn
            have hl : mu0.length ≤ mu.length := by
              refine Nat.le_of_not_lt fun hlt => ?_
              have h0 := m7 mu.length (by omega)
              rw [List.getElem?_append_left hlt, List.getElem?_eq_none (Nat.le_refl _), List.getElem?_eq_getElem hlt] at h0
              cases h0
            have hmu : mu = mu0 ++ mu.drop mu0.length := take_eq (fun i hi => by rw [m7 i (by omega), List.getElem?_append_left hi]) hl
            have hfn : (x.1, T, rank) ∈ pdCuts P := fnd_mem hf
            rw [hmu] at m3 m4 m5 m6 z1
            have := hCH _ hfn z y1 y2 (mu.drop mu0.length) bs ws H locs ls stk m3 (fun k hk => by cases hk; exact ⟨z, rfl, z1⟩) m4 m5 m6 hP hD hSS hbs
            rw [e2, e3]
            exact this
          next => cases hc
        next => cases hc
    next => cases h
  next => exact step1_ok C0 C1 hQ h hcs
theorem step_ok (C0 : Cx0 TB cl G ty MT own P cc) (C1 : Cx1 p l s m args meth c TB cl G D cy MT CT own P cc w0 mu0)
    (hQ : ∀ (H : Heap) (locs : List Loc) (g : JFrame), W p l e (rmK (pdK P)) s m args below meth c H locs (kMc (pdK P)) (kMs (pdK P)) (MQ below (QK cl D cy (pdK P) mu0 (w0.map fun q => q.1) w0 s.heap.size) args s (kMc (pdK P)) (kMs (pdK P)) (va_A w0 s.heap.size)) g → W p l e (rmK (pdK P)) s m args below meth c H locs (kMc (pdK P)) (kMs (pdK P)) Q g)
    (hn : rk = none → lim = none) (hCH : ∀ q ∈ pdCuts P, ∀ z : Int, 0 ≤ z → (∀ b, lim = some b → z < b) → Clm p l e s m args below meth c Q cl D cy P w0 mu0 (some z) (some q.2.2) (cfOf q))
    {first : Bool} {x : Cf} {tp tp' : List TI} {cs : List (Bool × Cf)} (h : step ty cl MT CT P first rk x tp = some (cs, tp')) (hcs : ∀ y ∈ cs, Clm p l e s m args below meth c Q cl D cy P w0 mu0 lim rk y.2) : Clm p l e s m args below meth c Q cl D cy P w0 mu0 lim rk x := by
  unfold step at h
  split at h
  next t f cs0 tp1 =>
    split at h
    next =>
      split at h
      next c0 r0 =>
        split at h
        next hc =>
          intro w bs ws H locs ls stk hx hrk hL hS hH hP hD hSS hbs
          have := certOk_ok hx hc (EV.const _ (-1))
          omega
        next => exact stepN_ok C0 C1 hQ hn hCH h hcs
      next => cases h
    next =>
      split at h
      next =>
        split at h
        next c1 h1 =>
          cases h
          intro w bs ws H locs ls stk hx hrk hL hS hH hP hD hSS hbs
          obtain ⟨z, z1, z2⟩ := nn_ev hx h1
          exact hcs _ List.mem_cons_self w bs ws H locs ls stk (addc_ok hx z1 z2) hrk hL hS hH hP hD hSS hbs
        next => cases h
      next =>
        split at h
        next =>
          split at h
          next k0 k1 z0 z1 z2 k2 tp2 =>
            split at h
            next sh' h1 =>
              cases h
              intro w bs ws H locs ls stk hx hrk hL hS hH hP hD hSS hbs
              exact hcs _ List.mem_cons_self w bs ws H locs ls stk hx hrk hL hS (xwF_ok hx h1 hH) hP hD hSS hbs
            next => cases h
          next => cases h
        next =>
          split at h
          next =>
            split at h
            next q1 h1 =>
              cases h
              intro w bs ws H locs ls stk hx hrk hL hS hH hP hD hSS hbs
              obtain ⟨z, hz⟩ := ivl_ev hx.1 h1
              by_cases h0 : 0 ≤ z
              · exact hcs _ List.mem_cons_self w bs ws H locs ls stk (addc_ok hx hz h0) hrk hL hS hH hP hD hSS hbs
              · exact hcs _ (List.mem_cons_of_mem _ List.mem_cons_self) w bs ws H locs ls stk (addc_ok hx (EV.plus (EV.sc hz)) (by omega)) hrk hL hS hH hP hD hSS hbs
            next => cases h
          next => exact stepN_ok C0 C1 hQ hn hCH h hcs
  next => exact stepN_ok C0 C1 hQ hn hCH h hcs
theorem exAll_ok {α : Type} {f : List TI → α → Option (List TI)} : ∀ {as : List α} {t t' : List TI}, exAll f as t = some t' → ∀ a ∈ as, ∃ t1 t2, f t1 a = some t2
  | a :: r, t, t', h, b, hb => by
    unfold exAll at h
    split at h
    next t1 h1 =>
      rcases List.mem_cons.mp hb with rfl | hb
      · exact ⟨t, t1, h1⟩
      · exact exAll_ok h b hb
    next => cases h
  | [], t, t', h, b, hb => by cases hb
theorem exec_ok (C0 : Cx0 TB cl G ty MT own P cc) (C1 : Cx1 p l s m args meth c TB cl G D cy MT CT own P cc w0 mu0)
    (hQ : ∀ (H : Heap) (locs : List Loc) (g : JFrame), W p l e (rmK (pdK P)) s m args below meth c H locs (kMc (pdK P)) (kMs (pdK P)) (MQ below (QK cl D cy (pdK P) mu0 (w0.map fun q => q.1) w0 s.heap.size) args s (kMc (pdK P)) (kMs (pdK P)) (va_A w0 s.heap.size)) g → W p l e (rmK (pdK P)) s m args below meth c H locs (kMc (pdK P)) (kMs (pdK P)) Q g)
    (hn : rk = none → lim = none) (hCH : ∀ q ∈ pdCuts P, ∀ z : Int, 0 ≤ z → (∀ b, lim = some b → z < b) → Clm p l e s m args below meth c Q cl D cy P w0 mu0 (some z) (some q.2.2) (cfOf q)) :
    ∀ {n : Nat} {x : Bool × Cf} {tp tp' : List TI}, exec ty cl MT CT P rk n x tp = some tp' → Clm p l e s m args below meth c Q cl D cy P w0 mu0 lim rk x.2
  | 0, x, tp, tp', h => by unfold exec at h; cases h
  | n + 1, x, tp, tp', h => by
    unfold exec at h
    split at h
    next cs tp1 h1 =>
      refine step_ok C0 C1 hQ hn hCH h1 fun y hy => ?_
      obtain ⟨t1, t2, h2⟩ := exAll_ok h y hy
      exact exec_ok C0 C1 hQ hn hCH h2
    next => cases h
/-- every place where a loop is cut, by the rank -/
theorem cuts_ok (C0 : Cx0 TB cl G ty MT own P cc) (C1 : Cx1 p l s m args meth c TB cl G D cy MT CT own P cc w0 mu0)
    (hQ : ∀ (H : Heap) (locs : List Loc) (g : JFrame), W p l e (rmK (pdK P)) s m args below meth c H locs (kMc (pdK P)) (kMs (pdK P)) (MQ below (QK cl D cy (pdK P) mu0 (w0.map fun q => q.1) w0 s.heap.size) args s (kMc (pdK P)) (kMs (pdK P)) (va_A w0 s.heap.size)) g → W p l e (rmK (pdK P)) s m args below meth c H locs (kMc (pdK P)) (kMs (pdK P)) Q g)
    (hex : ∀ q ∈ pdCuts P, ∃ n tp tp', exec ty cl MT CT P (some q.2.2) n (true, cfOf q) tp = some tp') :
    ∀ (N : Nat), ∀ q ∈ pdCuts P, ∀ z : Int, 0 ≤ z → z < (N : Int) → Clm p l e s m args below meth c Q cl D cy P w0 mu0 (some z) (some q.2.2) (cfOf q)
  | 0, q, hq, z, h0, h1 => by omega
  | N + 1, q, hq, z, h0, h1 => by
    obtain ⟨n, tp, tp', h⟩ := hex q hq
    exact exec_ok (lim := some z) (rk := some q.2.2) C0 C1 hQ (fun h => by cases h) (fun q' hq' z' a0 a1 => cuts_ok C0 C1 hQ hex N q' hq' z' a0 (by have := a1 z rfl; omega)) h
end Sound2
def argL : Nat → List SV → SL
  | _, [] => []
  | i, a :: r => match a with
    | none => []
    | some (.inr (.inr o)) => (i, some (.inr (.inr o))) :: argL (i + 2) r
    | some (.inr (.inl le)) => (i, some (.inr (.inl le))) :: argL (i + 1) r
    | some (.inl k) => (i, some (.inl k)) :: argL (i + 1) r
theorem argL_ok {ads : List Nat} {v : List Int} {ls : Array Slot} : ∀ {as : List SV} {xs : List Value} {i : Nat}, FS ads v as xs → (∀ q ∈ lv_args i xs, ls[q.1]? = some (.val q.2)) → ∀ q ∈ argL i as, ∃ x, ls[q.1]? = some (.val x) ∧ VS ads v q.2 x
  | [], _, i, _, _ => fun q hq => by unfold argL at hq; cases hq
  | a :: r, xs, i, h, hl => fun q hq => by
    obtain ⟨x, rest, rfl, h1, h2⟩ := FS.cons_inv h
    have hx : ls[i]? = some (.val x) := hl (i, x) (by unfold lv_args; exact List.mem_cons_self)
    have hr : ∀ j, j = (if x.category = 2 then i + 2 else i + 1) → ∀ q ∈ lv_args j rest, ls[q.1]? = some (.val q.2) := fun j hj q hq => hl q (by unfold lv_args; rw [← hj]; exact List.mem_cons_of_mem _ hq)
    unfold argL at hq
    split at hq
    · cases hq
    · obtain ⟨n, rfl, -⟩ := id h1
      rcases List.mem_cons.mp hq with rfl | hq
      · exact ⟨_, hx, h1⟩
      · exact argL_ok h2 (hr _ rfl) q hq
    · obtain ⟨n, rfl, -⟩ := id h1
      rcases List.mem_cons.mp hq with rfl | hq
      · exact ⟨_, hx, h1⟩
      · exact argL_ok h2 (hr _ rfl) q hq
    · obtain ⟨n, -, rfl⟩ := id h1
      rcases List.mem_cons.mp hq with rfl | hq
      · exact ⟨_, hx, h1⟩
      · exact argL_ok h2 (hr _ rfl) q hq
def entCf (K : CK) : Cf := (0, (kB K, kC K), argL 0 (kA K), [], kH K, 0, 0)
def okSl (n : Nat) (as : List SV) : Bool := decide ((as.map catS).sum ≤ n)
theorem sl_len {ads : List Nat} {v : List Int} : ∀ {as : List SV} {xs : List Value}, FS ads v as xs → (lg_sl xs).length ≤ (as.map catS).sum
  | [], [], _ => Nat.le_refl _
  | a :: as, x :: xs, h => by
    have h1 := cat_le h.1
    have h2 := sl_len h.2
    have e : (lg_sl (x :: xs)).length = x.category + (lg_sl xs).length := by
      unfold lg_sl
      rw [List.flatMap_cons, List.length_append]
      congr 1
      rcases lv_cat x with h | h
      · rw [h]; simp
      · rw [h]; simp
    rw [e, List.map_cons, List.sum_cons]
    omega
  | [], _ :: _, h => h.elim
  | _ :: _, [], h => h.elim
/-- a method's contract, by the checker -/
theorem method_ok {l : Launch} {TB : List Cond} {cl : List vw_C} {G : List Nat → State → Prop} {ty : Nat → Nat → FieldType} {MT : List MI} {CT : List CK} {P : PD} {mi : MI} (hpl : plainName mi.1.cls = true)
    (C0 : Cx0 TB cl G ty MT mi.1.cls P mi.2.1) (hnl : pdNL P = mi.2.2.1) (hrt : pdRet P = mi.2.2.2.1) (hin : pdIni P = true → mi.1.name = "<init>") (hsl : okSl (pdNL P) (kA (pdK P)) = true)
    (hCT : ∀ (k : Nat) (K' : CK) (mi : MI), CT[k]? = some K' → MT[kMi K']? = some mi → Valid l TB cl G mi K')
    (hent : ∃ n tp tp', exec ty cl MT CT P none n (false, entCf (pdK P)) tp = some tp') (hex : ∀ q ∈ pdCuts P, ∃ n tp tp', exec ty cl MT CT P (some q.2.2) n (true, cfOf q) tp = some tp') : Valid l TB cl G mi (pdK P) := by
  intro D cy mu ads ws xs sz hX hF hH
  refine Met.ofW (cc := mi.2.1) (maxL := mi.2.2.1) (ret := mi.2.2.2.1) hpl rfl ?_
  intro p e s m args below meth c s₁ B hml hv
  obtain ⟨rfl, hsz, hP, hK, hD0, hG⟩ := hv
  subst hsz
  have hts : ∀ w ∈ TB, w.before xs.toArray s = true := fun w hw => atoms_spec (ws := wsM TB mi) B.pre w (List.mem_cons_of_mem _ hw)
  have hown : s.vm.findClass mi.1.cls = some m.cls := findClass_of_methodNamed B.named
  have hname : meth.name = mi.1.name := (name_of_methodNamed B.named B.method).1
  have hads : (ws.map fun q => q.1) = ads := hH.1
  have C1 : Cx1 p l s m xs.toArray meth c TB cl G D cy MT CT mi.1.cls P mi.2.1 ws mu := ⟨⟨B.exec, B.bytes, by rw [hnl]; exact hml, hown, hts⟩, hCT, hK, hG, fun h => hname.trans (hin h), by rw [hrt]; exact B.returns, B.notSynchronized, hX.1.1⟩
  have hQ : ∀ (H : Heap) (locs : List Loc) (g : JFrame), W p l e (rmK (pdK P)) s m xs.toArray below meth c H locs (kMc (pdK P)) (kMs (pdK P)) (MQ below (QK cl D cy (pdK P) mu (ws.map fun q => q.1) ws s.heap.size) xs.toArray s (kMc (pdK P)) (kMs (pdK P)) (va_A ws s.heap.size)) g → W p l e (rmK (pdK P)) s m xs.toArray below meth c H locs (kMc (pdK P)) (kMs (pdK P)) (MQ below (QK cl D cy (pdK P) mu ads ws s.heap.size) xs.toArray s (kMc (pdK P)) (kMs (pdK P)) (va_A ws s.heap.size)) g := fun H locs g h => by rw [hads] at h; exact h
  obtain ⟨n, tp, tp', hn⟩ := hent
  have key := exec_ok (e := e) (below := below) (lim := none) (rk := none) C0 C1 hQ (fun _ => rfl) (fun q hq z h0 _ => cuts_ok C0 C1 hQ hex (z.toNat + 1) q hq z h0 (by omega)) hn
  have hl := lv_entry xs (n := mi.2.2.1) (Nat.le_trans (sl_len hF) (by rw [← hnl]; exact of_decide_eq_true hsl))
  rw [lg_entry_eq]
  generalize (lg_sl xs ++ List.replicate (mi.2.2.1 - (lg_sl xs).length) Slot.unset).toArray = ls at hl ⊢
  have := key [] [] ws s.heap [] ls []
  rw [List.append_nil, List.append_nil, hads] at this
  exact this hX (fun k hk => by cases hk) ⟨by rw [hnl]; exact hl.1, hl.2.1, argL_ok hF hl.2.2⟩ trivial hH hP hD0.self va_S.rf (fun _ h => by cases h)
