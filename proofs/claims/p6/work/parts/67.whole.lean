def R_law : String := "FlateFilterLaw"
def lw_P (b : Addr) (xs : List Int32) (args : Array Value) (s : State) : Prop := args = #[.ref b] ∧ s.IntsAt b xs ∧ xs.length ≤ 2561 ∧ (Jvm.Cond.and given_1 narrow_1).before args s = true
def lw_Q (_ : Array Value) (s : State) (o : Outcome) (t : State) : Prop := o = .returned (some (.int 1)) ∧ Framed s o t [] 601024 7293000
def lw_Z (below : List Frame) (a : Array Value) (s : State) : State → Prop := fun t => ∃ o, t.status = .running ∧ Ended t below o ∧ lw_Q a s o t
/-- the law's own end, with 1 on the stack, nothing written that was there before, its room as the claim has it -/
theorem lw_ret {p : Program} {l : Launch} {e : Env} {s : State} {m : MethodId} {below : List Frame} {meth : Method} {c : Code} {b : Nat} (hx : p.tables.exec = Jvm.exec) (hb : c.code = code) (hr : meth.sig.returnType = ret) (hlocks : meth.locks = false) {pc : Nat} {H : Heap} {ls : Array Slot} (hdg : decode code pc = .ok (.ireturn, 1)) : W p l e room_1 s m #[Value.ref b] below meth c H [] 601024 7293000 (lw_Z below #[Value.ref b] s) (F0 m pc ls [.int 1]) := by
  intro T hT X
  obtain ⟨fs, hret, hrun, hended, hW, hframe⟩ := X.leave (v := some (.int 1)) (hlocks := hlocks) (fun h => by rw [hr] at h; cases h)
  have hmeth' : T.vm.method? m = some meth := X.method'
  refine ⟨T.setFrames fs, ?_, .returned (some (.int 1)), hrun, hended, rfl, ⟨_, rfl⟩, hW, hframe⟩
  jvm_step X.here [X.here.top, hx, hb, hdg, hmeth', hr, ret, narrow_b1]
  (try refine ⟨rfl, ?_⟩); (try refine ⟨rfl, ?_⟩)
  first | (intro acts; rw [hret _ acts rfl rfl rfl]) | rw [hret _ _ rfl rfl rfl]
  exact Steps.refl _
/-- what holds at the law's entry: the machine, the code, the tables' words (any of lw_tbl by 'hts w (by decide +kernel)'), the script of L ints xs at the cell b, what the Statement gives of the start (any of its parts by flat_of_before) -/
def lw_At (p : Program) (s : State) (m : MethodId) (meth : Method) (c : Code) (b L : Nat) (xs : Nat → Int32) : Prop :=
  p.tables.exec = Jvm.exec ∧ c.code = code ∧ meth.sig.returnType = ret ∧ c.maxLocals = 8 ∧ s.vm.findClass R_law = some m.cls ∧ (∀ w ∈ lw_tbl, w.before #[Value.ref b] s = true) ∧ va_X b L xs s s.heap ∧ b < s.heap.size ∧ meth.locks = false ∧ (Jvm.Cond.and given_1 narrow_1).before #[Value.ref b] s = true
/-- from the entry, for every script of at most 2561 ints, the law comes to its end with true -/
theorem whole_start {p : Program} {e : Env} {s : State} {m : MethodId} {below : List Frame} {meth : Method} {c : Code} (l : Launch) (hl0 : l.stackTraces = false) {b L : Nat} {xs : Nat → Int32} (hL : L ≤ 2561) (C0 : lw_At p s m meth c b L xs) : W p l e room_1 s m #[Value.ref b] below meth c s.heap [] 0 0 (lw_Z below #[Value.ref b] s) (entryFrame m ([Value.ref b] : List Value).toArray 8) := by
  obtain ⟨hx, hb, hr, hml, hown, hts0, hX, hbl, hlocks, hgv⟩ := C0
  have hts : ∀ w ∈ TB, w.before #[Value.ref b] s = true := fun w hw => hts0 w (List.mem_filter.mp hw).1
  have hown : s.vm.findClass sLaw = some m.cls := hown
  have S : CallFix p m c code 8 s #[Value.ref b] TB sLaw := ⟨hx, hb, hml, hown, hts⟩
  have hG := gL_start hts0 hgv
  obtain ⟨D, cy, hK⟩ := known_ok hts
  have hA : ∀ q : Nat, s.heap.size ≤ q → (fun q : Nat => s.heap.size ≤ q) q := fun _ h => h
  have gAll : ∀ (bs : List Nat), (∀ q ∈ bs, s.heap.size ≤ q) → ∀ {H : Heap} {locs : List Loc}, va_S (fun q => s.heap.size ≤ q) s.heap H locs → ∀ U : State, U.heap = H → s.WarmedH U.vm → gL bs U := fun bs hbs H locs hS U hU hW => by
    have := gL_ok [] bs s U hW (by rw [hU]; exact hS.1) (fun q h1 _ => by rw [hU]; exact hS.2.1 q h1 (Nat.not_le.mpr h1)) hbs hG
    rwa [List.nil_append] at this
  have hS : va_S (fun q : Nat => s.heap.size ≤ q) s.heap s.heap [] := va_S.rf
  have hP : va_P D nCl [] s.heap := fun k q h => by simp at h
  have hD : va_D (fun q : Nat => s.heap.size ≤ q) [] := ⟨fun i j p q h => by simp at h, fun k q h => by simp at h⟩
  have hl := lv_entry ([.ref b]) (n := 8) (Nat.le_of_ble_eq_true rfl)
  rw [lg_entry_eq]
  generalize (lg_sl ([.ref b]) ++ List.replicate (8 - (lg_sl ([.ref b])).length) Slot.unset).toArray = ls at hl ⊢
  have hl : lv_has ls 8 [(0, .ref b)] := hl
  -- the class's object
  obtain ⟨t1, t2, t3⟩ := nCl_ok 8 (RX11, TX11, 14) rfl
  refine va_new (ci := 8) hx hb hts t1 (nTy 8) t2 hown (hts (.classLink sLaw 8 RX11) (inT_ok (i := 117) (by decide +kernel))) (hts (.instantiable RX11 14) (inT_ok (i := 118) (by decide +kernel))) (hts (.initialized RX11) (inT_ok (i := 94) (by decide +kernel))) hK hP hD hS hA rfl (fs := (List.range 14).map fun k => defaultValue (nTy 8 k)) (fun j hj => by simp [vp_V, hj]) (by decide) (by decide) dLaw_0 fun aC H hP hD hS => ?_
  have haCA : s.heap.size ≤ aC := hD.2 0 _ rfl
  refine lv_dup hx hb dLaw_3 rfl ?_
  refine lv_aload_n hx hb dLaw_4 rfl (lv_at hl 0 rfl) ?_
  refine lv_iconst hx hb dLaw_5 rfl ?_
  refine cell0_call (rest := [.ref aC, .ref aC]) S hL hX hbl hS ⟨by decide, by decide⟩ hl.1 (Nat.le_of_ble_eq_true rfl) dLaw_6 fun r locs hS => ?_
  refine lv_i2l hx hb dLaw_9 rfl ?_
  refine init_call (K := kC431) (mi := (⟨RX11, "<init>", "(J)V"⟩, prog_1_method_1_code, 6, none, 1)) (rest := [.ref aC]) S aC_init rfl rfl rfl rfl (fun mu => FS.map (f := fun k => dfl (nTy 8 k)) (fun k => dfl_ok _) (List.range 14)) hP haCA hS hK gC_ok (fun U hU hW => (gAll [aC] (fun q hq => by rw [List.mem_singleton.mp hq]; exact haCA) hS U hU hW).1) (List.mem_of_getElem? (i := 107) rfl) ⟨inT_ok (i := 119) (by decide +kernel), inT_ok (i := 120) (by decide +kernel)⟩ rfl rfl rfl ⟨by decide, by decide⟩ ⟨by decide, by decide⟩ iq_init rfl hl.1 (Nat.le_of_ble_eq_true rfl) dLaw_10 fun bC H locs wC hIC hPC hDC hS hbC hkC => ?_
  have hCl : Lies D nCl cy iCs (aC :: bC) H := ⟨iC3, List.mem_cons_self, wC, hIC, hPC, hDC.weaken fun _ _ _ _ => trivial⟩
  have hAC : ∀ q ∈ aC :: bC, s.heap.size ≤ q := fun q hq => by
    rw [← hIC.ads] at hq
    obtain ⟨z, hz, rfl⟩ := List.mem_map.mp hq
    obtain ⟨k, hk⟩ := List.getElem?_of_mem hz
    exact hDC.2 k z hk
  refine lv_astore_n hx hb dLaw_13 rfl hl (by decide) rfl fun ls hl => ?_
  have hl : lv_has ls 8 [(1, .ref aC), (0, .ref b)] := hl
  -- the reference's object
  obtain ⟨u1, u2, u3⟩ := nCl_ok 9 (RX12, TX12, 40) rfl
  refine va_new (ci := 9) hx hb hts u1 (nTy 9) u2 hown (hts (.classLink sLaw 49 RX12) (inT_ok (i := 1021) (by decide +kernel))) (hts (.instantiable RX12 40) (inT_ok (i := 1022) (by decide +kernel))) (hts (.initialized RX12) (inT_ok (i := 104) (by decide +kernel))) hK hPC hDC hS hA rfl (fs := (List.range 40).map fun k => defaultValue (nTy 9 k)) (fun j hj => by simp [vp_V, hj]) (by decide) (by decide) dLaw_14 fun aM H hP2 hD2 hS => ?_
  have hatM : (wC ++ [(aM, (.inr (9, (List.range 40).map fun k => defaultValue (nTy 9 k)) : va_E))])[wC.length]? = some (aM, .inr (9, (List.range 40).map fun k => defaultValue (nTy 9 k))) := by simp
  have haMA : s.heap.size ≤ aM := hD2.2 _ _ hatM
  have hPC2 : va_P D nCl wC H := fun k q hk => hP2 k q (getElem?_mono hk)
  have hPM : va_P D nCl [(aM, .inr (9, (List.range 40).map fun k => defaultValue (nTy 9 k)))] H := fun k q hk => by
    rw [List.mem_singleton.mp (List.mem_of_getElem? hk)]
    exact hP2 _ _ hatM
  have haMC : aM ∉ aC :: bC := fun hq => by
    rw [← hIC.ads] at hq
    obtain ⟨z, hz, hz1⟩ := List.mem_map.mp hq
    obtain ⟨k, hk⟩ := List.getElem?_of_mem hz
    have hkl := (List.getElem?_eq_some_iff.mp hk).1
    have := hD2.1 k wC.length z _ (getElem?_mono hk) hatM hz1
    omega
  have hCl : Lies D nCl cy iCs (aC :: bC) H := ⟨iC3, List.mem_cons_self, wC, hIC, hPC2, hDC.weaken fun _ _ _ _ => trivial⟩
  refine lv_dup hx hb dLaw_17 rfl ?_
  refine lv_aload_n hx hb dLaw_18 rfl (lv_at hl 1 rfl) ?_
  refine lv_iconst hx hb dLaw_19 rfl ?_
  refine cell0_call (rest := [.ref aM, .ref aM]) S hL hX hbl hS ⟨by decide, by decide⟩ hl.1 (Nat.le_of_ble_eq_true rfl) dLaw_20 fun r locs hS => ?_
  refine lv_i2l hx hb dLaw_23 rfl ?_
  refine init_call (K := kM212) (mi := (⟨RX12, "<init>", "(J)V"⟩, prog_14_method_1_code, 3, none, 1)) (rest := [.ref aM]) S aM_init rfl rfl rfl rfl (fun mu => FS.map (f := fun k => dfl (nTy 9 k)) (fun k => dfl_ok _) (List.range 40)) hPM haMA hS hK gM_ok (fun _ _ _ => trivial) (List.mem_of_getElem? (i := 126) rfl) ⟨inT_ok (i := 1023) (by decide +kernel), inT_ok (i := 1024) (by decide +kernel)⟩ rfl rfl rfl ⟨by decide, by decide⟩ ⟨by decide, by decide⟩ jq_init rfl hl.1 (Nat.le_of_ble_eq_true rfl) dLaw_24 fun bM H1 locs wM hIM hPM hDM hS hbM hkM => ?_
  have hClt := hCl.lt
  have hCM : ∀ q ∈ aC :: bC, q ∉ aM :: bM := fun q hq hz => by
    rcases List.mem_cons.mp hz with h | h
    · exact haMC (h ▸ hq)
    · have h1 := hClt q hq
      have h2 := hbM q h
      omega
  have hCl : Lies D nCl cy iCs (aC :: bC) H1 := hCl.kept fun q hq => hkM q (hClt q hq) (fun z => haMC (z ▸ hq))
  have hMl : Lies D nCl cy iMs (aM :: bM) H1 := ⟨iM0, List.mem_cons_self, wM, hIM, hPM, hDM.weaken fun _ _ _ _ => trivial⟩
  have hAM : ∀ q ∈ aM :: bM, s.heap.size ≤ q := fun q hq => by
    rw [← hIM.ads] at hq
    obtain ⟨z, hz, rfl⟩ := List.mem_map.mp hq
    obtain ⟨k, hk⟩ := List.getElem?_of_mem hz
    exact hDM.2 k z hk
  refine lv_astore_n hx hb dLaw_27 rfl hl (by decide) rfl fun ls hl => ?_
  have hl : lv_has ls 8 [(2, .ref aM), (1, .ref aC), (0, .ref b)] := hl
  -- the row of one long
  refine lv_iconst hx hb dLaw_28 rfl ?_
  refine va_newaK (atype := .long) (N := 1) (h := H1.size) hx hb (hts (.arrayClass .long) (inT_ok (i := 1458) (by decide +kernel))) rfl dLaw_29 rfl (by decide) (by decide) (by decide) (by decide) (by decide) rfl fun H2 cL e1 z1 o1 hAr hNm => ?_
  have hoC : H1.size ∉ aC :: bC := fun hq => by
    have := hCl.lt H1.size hq
    omega
  have hCl : Lies D nCl cy iCs (aC :: bC) H2 := hCl.kept fun q hq => o1 q (hCl.lt q hq)
  have hoM : H1.size ∉ aM :: bM := fun hq => by
    have := hMl.lt H1.size hq
    omega
  have hMl : Lies D nCl cy iMs (aM :: bM) H2 := hMl.kept fun q hq => o1 q (hMl.lt q hq)
  have hO : OutC D cL H1.size H2 := ⟨fun _ => 0, fun k q hk => by
    rw [List.mem_singleton.mp (List.mem_of_getElem? hk)]
    exact e1⟩
  have hK2 : va_K D nCl (tyL cy cL) s := hK.app (t2 := [(cL, .long)]) ⟨hK.1, fun k q hk => by
    rw [List.mem_singleton.mp (List.mem_of_getElem? hk)]
    exact ⟨hAr, hNm⟩⟩
  have hS2 : va_S (fun q => s.heap.size ≤ q) s.heap H2 locs := ⟨by have := hS.1; omega, fun q h1 h2 => (o1 q (Nat.lt_of_lt_of_le h1 hS.1)).trans (hS.2.1 q h1 h2), hS.2.2⟩
  refine lv_astore_n hx hb dLaw_31 rfl hl (by decide) rfl fun ls hl => ?_
  have hl : lv_has ls 8 [(3, .ref H1.size), (2, .ref aM), (1, .ref aC), (0, .ref b)] := hl
  refine lv_iconst hx hb dLaw_32 rfl ?_
  refine lv_istore hx hb dLaw_33 hl (by decide) rfl fun ls hl => ?_
  have hl : lv_has ls 8 [(4, .int (Int32.ofInt 1)), (3, .ref H1.size), (2, .ref aM), (1, .ref aC), (0, .ref b)] := hl
  refine W.widen (k := 71 + 0) (n := 81699 + 6 * 0) (by decide) (by decide) ?_
  refine law_loop S hl0 hX hbl hL hK2 hG rfl rfl hAC hAM hS.1 hCM hoC hoM (fun ls H locs ce sl hS hce hsl => ?_) 520 0 (Int32.ofInt 1) ls H2 locs (by omega) (by omega) (by decide) hCl hMl hO hS2 hl
  refine lv_iconst hx hb dLaw_416 (v := 1) (by decide) ?_
  refine va_forget hS.2.2 ?_
  refine W.widen (k := 601024) (n := 7293000) hce hsl ?_
  exact lw_ret hx hb hr hlocks dLaw_417
set_option maxHeartbeats 4000000 in
theorem lw_walk (l : Launch) (hl0 : l.stackTraces = false) (b : Addr) (xs : List Int32) : MetFree l x (headSpec (Jvm.Cond.code x code maxLocals ret :: tables_1) room_1) (lw_P b xs) (fun _ _ _ _ _ => True) lw_Q := by
  refine MetFree.of_bodyS (code := code) (maxLocals := maxLocals) (ret := ret) (by decide) ?_ ?_
  · intro args s m h hn
    obtain ⟨meth, c, h1, h2, h3, h4, h5, h6, -, -⟩ := Cond.code_spec hn (atoms_spec (ws := Jvm.Cond.code x code maxLocals ret :: tables_1) h _ List.mem_cons_self)
    exact ⟨meth, c, h1, h2, h3, h4, h5, h6⟩
  · intro p e s m args below meth c s₁ B hml0 hP _
    obtain ⟨rfl, hx, hbd, hgv⟩ := hP
    obtain ⟨scr, harrAt, hlist, hof, hsmall⟩ := hx
    obtain ⟨hcb, hkn, -, -⟩ := State.arrayAt?_spec harrAt
    have hown : s.vm.findClass R_law = some m.cls := findClass_of_methodNamed B.named
    have hts0 : ∀ c ∈ (Jvm.Cond.code x code maxLocals ret :: tables_1), c.before #[Value.ref b] s = true := atoms_spec (ws := Jvm.Cond.code x code maxLocals ret :: tables_1) B.pre
    have hts : ∀ w ∈ lw_tbl, w.before #[Value.ref b] s = true := k2_hts_sels lw_privs (fun w hw => hts0 w (List.mem_cons_of_mem _ hw)) lw_privs_ok
    have hml : c.maxLocals = 8 := B.maxLocals_eq (hts0 _ List.mem_cons_self)
    have X₀ : Stand p l e room_1 s m #[Value.ref b] below meth c s₁ [] 0 0 := Stand.of_body B
    have hh0 : s₁.heap = s.heap := by rw [B.state]; rfl
    have hsz : scr.slots.size = xs.length := by rw [← Array.length_toList, hlist, List.length_map]
    have hval : ∀ j : Nat, j < xs.length → scr.slots[j]? = some (.int (xs.getD j 0)) := fun j hj => by
      rw [← Array.getElem?_toList, hlist]
      simp [hj]
    have hbl : b < s.heap.size := (Array.getElem?_eq_some_iff.mp hcb).1
    have hX : va_X b xs.length (fun j => xs.getD j 0) s s.heap := ⟨scr, hcb, hof, hkn, hsz, hval⟩
    have K : W p l e room_1 s m #[Value.ref b] below meth c s₁.heap [] 0 0 (lw_Z below #[Value.ref b] s) (entryFrame m ([Value.ref b] : List Value).toArray 8) := by
      rw [hh0]
      exact whole_start l hl0 hbd ⟨B.exec, B.bytes, B.returns, hml, hown, hts, hX, hbl, B.notSynchronized, hgv⟩
    obtain ⟨t, a1, o, b1, b2, b3⟩ := K s₁ rfl X₀
    exact ⟨t, o, a1, b1, b2, b3⟩
theorem lw_pre_spec {args : Array Value} {s : State} (h : (Jvm.Cond.and given_1 narrow_1).before args s = true) (hr : rest_1_c.before args s = true) : ∃ (b : Addr) (xs : List Int32), lw_P b xs args s := by
  have hs := flat_of_before _ h
  have hq := flat_of_before _ hr
  have hc : (Cond.count 1).before args s = true := hs _ (by decide +kernel)
  have harr : (Cond.arrayOf (.arg 0) .int).before args s = true := hs _ (by decide +kernel)
  have hle : (Cond.le (.length (.arg 0)) (.int 2561)).before args s = true := hs _ (by decide +kernel)
  have hlen : (Cond.isInt (.length (.arg 0))).before args s = true := hq _ (by decide +kernel)
  have hall : (Cond.all (.arg 0) (.isInt (.elem (.arg 0) (.index 0)))).before args s = true := hq _ (by decide +kernel)
  obtain ⟨b, xs, hb, hx⟩ := State.ints_of_pre rfl harr hlen hall
  have hsm : xs.length < 2 ^ 31 := hx.choose_spec.2.2.2
  have hev : (Term.length (.arg 0)).eval args s none [] s = some (.int xs.length.toInt32) := hx.length_eval hb
  have hv := Cond.le_ints hev (show (Term.int 2561).eval args s none [] s = some (.int 2561) from rfl)
  have hd : xs.length.toInt32 ≤ 2561 := by
    simpa [Cond.before, Cond.holds, hv] using hle
  have hN : xs.length ≤ 2561 := (Int32.ofNat_le_ofNat hsm (by decide)).mp (show Int32.ofNat xs.length ≤ Int32.ofNat 2561 from hd)
  exact ⟨b, xs, Cond.one_arg hc (show args[0]? = some (.ref b) from hb), hx, hN, h⟩
theorem lw_comes (l : Launch) (hl0 : l.stackTraces = false) : Comes l x (Jvm.Cond.code x code maxLocals ret :: tables_1) room_1 (fun tb e args s => Calls_1 tb e args s ∧ rest_1 tb e args s ∧ Pre_1 tb e args s)
    (fun _ _ args s o t => lw_Q args s o t) := by
  intro p e ha hc hk s m args below hf hfit hheap happ hpre
  obtain ⟨b, xs, hP⟩ := lw_pre_spec hpre.2.2 hpre.2.1
  obtain ⟨k, o, h1, h2, h3, hQ⟩ := lw_walk l hl0 b xs p e ha hc hk s m args below hf ((Spec.applies_iff_loose hf).mp happ).1 hP trivial
  exact ⟨k, o, h1, h2, h3, hQ⟩
theorem lw_frame {s t : State} {o : Outcome} {args : Array Value} (h : Framed s o t [] 601024 7293000) :
    Framed s o t (fieldLocs frame_1_writes args s ++ arrayLocs frame_1_arrays args s ++ staticLocs frame_1_statics s) 601024 7293000 := h
theorem lw_limb (L : Cond) (hL : ∀ (args : Array Value) (s t : State), L.after args s (.returned (some (.int 1))) t = true) :
    ArmFor flags0 classFile x code maxLocals ret World_1 tables_1 room_1 Calls_1 rest_1 Pre_1
      (fun tb e a s o t => postC L tb e a s o t ∧ Framed s o t (fieldLocs frame_1_writes a s ++ arrayLocs frame_1_arrays a s ++ staticLocs frame_1_statics s) 601024 7293000) := by
  intro l hfl _ _ p e ha hc hk s m args below hf hfit hheap happ hpre
  have hl0 : l.stackTraces = false := by
    unfold Launch.stackTraces
    rw [hfl]
    decide +kernel
  obtain ⟨k, o, h1, h2, h3, rfl, hF⟩ := lw_comes l hl0 p e ha hc hk s m args below hf hfit hheap happ hpre
  exact ⟨k, _, h1, h2, h3, hL args s _, lw_frame hF⟩
theorem i_vc : Claimed_1_1 ∧ Claimed_1_2 := ⟨lw_limb limb_1_1 (fun args s t => by simp [limb_1_1, Cond.after, Cond.holds, Cond.value]), lw_limb limb_1_2 (fun args s t => Cond.after_iff.mpr (by
  first | (rw [show limb_1_2 = Cond.eq .result (.int 1) from rfl, Cond.eq_ints (x := 1) (y := 1) rfl rfl]; simp; done) | (simp [limb_1_2, Cond.value, Term.eval]; done)))⟩
