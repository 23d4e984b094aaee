/-! methods that may throw: each 'throw new E("text")' is a cut of its own -/
abbrev TX : Type := Nat × String × (Nat × Nat × Nat) × String × List String
def XK (cl : List vw_C) (D : va_G) (cy : Nat → ClassId) (X : List (TX × Tm)) (mu : List Int) (ads : List Nat) (ws : va_W) (sz : Nat) : String → State → State → Prop := fun E st t =>
  (∃ q ∈ X, E = q.1.2.1 ∧ ∃ (w : List Int) (bs : List Nat) (ws' : va_W), SX (mu ++ w) (q.2.1, q.2.2.1) ∧ HS cy (ads ++ bs) (mu ++ w) ws q.2.2.2.2.2 ws' ∧ va_P D cl ws' t.heap ∧ va_D (va_A ws sz) ws' ∧ ∀ b ∈ bs, sz ≤ b) ∧ va_F (va_A ws sz) st t
def ValidX (l : Launch) (TB : List Cond) (cl : List vw_C) (G : List Nat → State → Prop) (mi : MI) (K : CK) (X : List (TX × Tm)) : Prop :=
  ∀ (D : va_G) (cy : Nat → ClassId) (mu : List Int) (ads : List Nat) (ws : va_W) (xs : List Value) (sz : Nat), SX mu (K.2.1.1, K.2.1.2.1) → FS ads mu K.2.1.2.2.1 xs → HS cy ads mu ws K.2.1.2.2.2 ws →
    vx_Met l mi.1 (wsM TB mi) (rmK K) (PK cl G D cy ws xs sz) (QK cl D cy K mu ads ws sz) (XK cl D cy X mu ads ws sz) K.1.2.2.2.1 K.1.2.2.2.2 (va_A ws sz)
/-- what a throw stands on -/
def TXg (own : String) (q : TX) (ads : List Nat) (args : Array Value) (U : State) : Prop :=
  (∃ sa, vk_R own q.2.2.1.2.1 q.2.2.2.1 sa U) ∧ (∀ w ∈ vx_atS own q.2.2.1.2.2 q.2.1 q.2.2.2.2, w.before args U = true) ∧ vx_Zq Bundle.tN "UNASSIGNED_STACK" Bundle.steD (fun a => a ∈ ads ∨ U.heap.size ≤ a) U U.heap ∧ vx_Zq Bundle.tN "SUPPRESSED_SENTINEL" Bundle.listD (fun a => a ∈ ads ∨ U.heap.size ≤ a) U U.heap
def TXok (TB : List Cond) (own : String) (K : CK) (cc : ByteArray) (q : TX) : Prop :=
  (Bundle.fit q.2.1 = true ∧ (∀ n ∈ q.2.2.2.2, Bundle.fit n = true)) ∧ (Cond.classLink own q.2.2.1.1 q.2.1 ∈ TB ∧ Cond.initialized q.2.1 ∈ TB) ∧ (∀ w ∈ Cond.classLink own q.2.2.1.1 q.2.1 :: Cond.initialized q.2.1 :: vx_atS own q.2.2.1.2.2 q.2.1 q.2.2.2.2, vx_ot w = true) ∧
  (decode cc q.1 = .ok (.new q.2.2.1.1, 3) ∧ decode cc (q.1 + 3) = .ok (.dup, 1) ∧ decode cc (q.1 + 4) = .ok (.ldc q.2.2.1.2.1, 2) ∧ decode cc (q.1 + 6) = .ok (.invokespecial q.2.2.1.2.2, 3) ∧ decode cc (q.1 + 9) = .ok (.athrow, 1)) ∧
  (q.2.2.2.2.length + 3 < K.1.2.1 ∧ 13 * (q.2.2.2.2.length + 1) + 43 ≤ K.1.2.2.1 ∧ 1 ≤ K.1.2.2.2.1 ∧ 6 ≤ K.1.2.2.2.2)
theorem methodX_ok {l : Launch} (hl0 : l.stackTraces = false) {TB : List Cond} {cl : List vw_C} {G : List Nat → State → Prop} {ty : Nat → Nat → FieldType} {MT : List MI} {CT : List CK} {P : PD} {mi : MI} {X : List (TX × Tm)} (hpl : plainName mi.1.cls = true)
    (C0 : Cx0 TB cl G ty MT mi.1.cls P mi.2.1) (hnl : pdNL P = mi.2.2.1) (hrt : pdRet P = mi.2.2.2.1) (hin : pdIni P = true → mi.1.name = "<init>") (hsl : okSl (pdNL P) (kA (pdK P)) = true)
    (hCT : ∀ (k : Nat) (K' : CK) (mi : MI), CT[k]? = some K' → MT[kMi K']? = some mi → Valid l TB cl G mi K')
    (hcuts : ∀ q ∈ pdCuts P, ∃ x ∈ X, x.1.1 = q.1 ∧ x.2 = q.2.1) (hX : ∀ x ∈ X, x.2.2.2.2.1 = [] ∧ TXok TB mi.1.cls (pdK P) mi.2.1 x.1 ∧ ∀ (ads : List Nat) (args : Array Value) (U : State), (∀ w ∈ TB, w.before args U = true) → G ads U → TXg mi.1.cls x.1 ads args U)
    (hent : ∃ n tp tp', exec ty cl MT CT P none n (false, entCf (pdK P)) tp = some tp') : ValidX l TB cl G mi (pdK P) X := by
  intro D cy mu ads ws xs sz hSX hF hH
  refine vx_ofW (cc := mi.2.1) (maxL := mi.2.2.1) (ret := mi.2.2.2.1) hpl rfl ?_
  intro p e s m args below meth c s₁ B hml htab hv
  obtain ⟨rfl, hsz, hP, hK, hD0, hG⟩ := hv
  subst hsz
  have hts : ∀ w ∈ TB, w.before xs.toArray s = true := fun w hw => atoms_spec (ws := wsM TB mi) B.pre w (List.mem_cons_of_mem _ hw)
  have hown : s.vm.findClass mi.1.cls = some m.cls := findClass_of_methodNamed B.named
  have hname : meth.name = mi.1.name := (name_of_methodNamed B.named B.method).1
  have hads : (ws.map fun q => q.1) = ads := hH.1
  have C1 : Cx1 p l s m xs.toArray meth c TB cl G D cy MT CT mi.1.cls P mi.2.1 ws mu := ⟨⟨B.exec, B.bytes, by rw [hnl]; exact hml, hown, hts⟩, hCT, hK, hG, fun h => hname.trans (hin h), by rw [hrt]; exact B.returns, B.notSynchronized, hSX.1.1⟩
  have hQ : ∀ (H : Heap) (locs : List Loc) (g : JFrame), W p l e (rmK (pdK P)) s m xs.toArray below meth c H locs (kMc (pdK P)) (kMs (pdK P)) (MQ below (QK cl D cy (pdK P) mu (ws.map fun q => q.1) ws s.heap.size) xs.toArray s (kMc (pdK P)) (kMs (pdK P)) (va_A ws s.heap.size)) g → W p l e (rmK (pdK P)) s m xs.toArray below meth c H locs (kMc (pdK P)) (kMs (pdK P)) (vx_MQ below (QK cl D cy (pdK P) mu ads ws s.heap.size) (XK cl D cy X mu ads ws s.heap.size) xs.toArray s (kMc (pdK P)) (kMs (pdK P)) (va_A ws s.heap.size)) g := fun H locs g h => vx_ret (by rw [hads] at h; exact h)
  obtain ⟨n, tp, tp', hn⟩ := hent
  have key := exec_ok (e := e) (below := below) (lim := none) (rk := none) C0 C1 hQ (fun _ => rfl) (fun q hq z h0 _ => by
    obtain ⟨x, hx, e1, e2⟩ := hcuts q hq
    obtain ⟨x0, ⟨⟨f1, f2⟩, ⟨k1, k2⟩, k3, ⟨d0, d3, d4, d6, d9⟩, r1, r2, r3, r4⟩, hg⟩ := hX x hx
    obtain ⟨⟨sa, hsa⟩, hat, hU, hN⟩ := hg (ws.map fun q => q.1) xs.toArray s hts hG
    intro w bs ws' H locs ls stk hsx _ hL hS hH' hP' hD' hSS hbs
    have hst : stk = [] := by
      have : FS ((ws.map fun q => q.1) ++ bs) (mu ++ w) q.2.1.2.2.2.1 stk := hS
      rw [← e2, x0] at this
      cases stk with
      | nil => rfl
      | cons a r => exact this.elim
    subst hst
    have hAn : ∀ a, va_A ws s.heap.size a → a ∈ (ws.map fun q => q.1) ∨ s.heap.size ≤ a := fun a ha => by
      by_cases h : s.heap.size ≤ a
      · exact Or.inr h
      · exact Or.inl (ha.ads (by omega))
    show W p l e (rmK (pdK P)) s m xs.toArray below meth c H locs 0 0 _ (F0 m q.1 ls [])
    rw [← e1]
    refine vx_throwS (cc := mi.2.1) (A := va_A ws s.heap.size) (own := mi.1.cls) (cls := x.1.2.1) (text := x.1.2.2.2.1) (names := x.1.2.2.2.2) (ik := x.1.2.2.1.1) (is := x.1.2.2.1.2.1) (ic := x.1.2.2.1.2.2) (sa := sa) B.exec B.bytes hl0 hown f1 f2 (hts _ k1) (hts _ k2) hsa hat k3 (hU.narrow hAn) (hN.narrow hAn) hSS (by rw [hml, ← hnl]; exact hL.1) d0 d3 d4 d6 d9 (fun y hy => (htab y hy).elim) r1 ?_ ?_ ?_ B.notSynchronized (fun t _ hz1 hk1 => ⟨⟨x, hx, rfl, w, bs, ws', ?_, ?_, hP'.kept fun k y hy => hk1 y.1 (hP' k y hy).lt, hD', hbs⟩, Nat.le_trans hSS.1 hz1, fun a h1 h2 => (hk1 a (Nat.lt_of_lt_of_le h1 hSS.1)).trans (hSS.2.1 a h1 h2)⟩) hSS.2.2 ?_ ?_
    · show 0 + (13 * (x.1.2.2.2.2.length + 1) + 43) ≤ (pdK P).1.2.2.1
      omega
    · show 0 + 1 ≤ (pdK P).1.2.2.2.1
      omega
    · show 0 + 6 ≤ (pdK P).1.2.2.2.2
      omega
    · rw [e2]; exact hsx
    · rw [e2, ← hads]; exact hH'
    · show 0 + 1 ≤ (pdK P).1.2.2.2.1
      omega
    · show 0 + 6 ≤ (pdK P).1.2.2.2.2
      omega) hn
  have hl := lv_entry xs (n := mi.2.2.1) (Nat.le_trans (sl_len hF) (by rw [← hnl]; exact of_decide_eq_true hsl))
  rw [lg_entry_eq]
  generalize (lg_sl xs ++ List.replicate (mi.2.2.1 - (lg_sl xs).length) Slot.unset).toArray = ls at hl ⊢
  have := key [] [] ws s.heap [] ls []
  rw [List.append_nil, List.append_nil, hads] at this
  exact this hSX (fun k hk => by cases hk) ⟨by rw [hnl]; exact hl.1, hl.2.1, argL_ok hF hl.2.2⟩ trivial hH hP hD0.self va_S.rf (fun _ h => by cases h)
