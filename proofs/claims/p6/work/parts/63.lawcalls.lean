/-! calls in the law -/
section LawC
variable {p : Program} {l : Launch} {e : Env} {R : Room} {s : State} {m : MethodId} {args : Array Value} {below : List Frame} {meth : Method} {c : Code} {H : Heap} {locs : List Loc} {cells slots : Nat} {Q : State → Prop}
variable {D : va_G} {cy : Nat → ClassId} {cc : ByteArray} {pc nL : Nat} {ls : Array Slot} {rest As xs : List Value} {A : Nat → Prop} {ads : List Nat} {a o ix : Nat} {cL : ClassId} {own : String} {mi : MI} {rt : Option Value → Prop} {rm : Room} {Ts : List IT} {G : List Nat → State → Prop}
theorem lw_call (S : CallFix p m c cc nL s args TB own) (hM : Met l mi.1 (wsM TB mi) rm (stP D cy G ads H (.ref a :: As)) (stQ D cy Ts ads H rt) 0 0 (stA ads H.size)) (hrc : rm.cells = 0) (hrs : rm.slots = 0) (hmi : mi ∈ nMT) (hlk : Cond.methodLink own ix mi.1 ∈ TB ∧ Cond.instanceMethod mi.1 ∈ TB ∧ Cond.selects mi.1.cls mi.1 mi.1 ∈ TB) (hrv : ∃ cell : Cell, H[a]? = some cell ∧ cell.vm.isStatics = false ∧ s.vm.findClass mi.1.cls = some cell.cls)
    (hR : rm.frames + 1 ≤ R.frames ∧ 8 + (mi.2.2.1 + 11) + rm.locals ≤ R.locals) (hcs : cells ≤ R.cells ∧ slots ≤ R.slots) (hK : va_K D nCl (tysOf cy) s) (hGc : GCl G) (hG : ∀ U : State, U.heap = H → s.WarmedH U.vm → G ads U) (hA : ∀ q, stA ads H.size q → A q) (hS : va_S A s.heap H locs)
    (hn : As.length = mi.2.2.2.2) (hsz : ls.size = nL) (hW : (rest.map fun v => v.category).sum ≤ 8) (hdg : decode cc pc = .ok (.invokevirtual ix, 3))
    (kk : ∀ (r : Option Value) (H1 : Heap) (locs1 : List Loc), rt r → Lies D nCl cy Ts ads H1 → va_S A s.heap H1 locs1 → (∀ q : Nat, q < H.size → q ∉ ads → H1[q]? = H[q]?) → W p l e R s m args below meth c H1 locs1 cells slots Q (F0 m (pc + 3) ls (r.toList ++ rest))) :
    W p l e R s m args below meth c H locs cells slots Q (F0 m pc ls (As.reverse ++ .ref a :: rest)) := by
  obtain ⟨hx, hb, hml, hown, hts⟩ := id S
  obtain ⟨-, kd, kc, ki⟩ := nMT_ok _ hmi
  have hr := va_runV (rest := rest) (locs := locs) (cells := cells) (slots := slots) (below := below) (e := e) (meth := meth) (g := F0 m pc ls (As.reverse ++ .ref a :: rest)) S hM ⟨callB_of (rm := rm) (mc := 0) (ms := 0) (R := R) _ hts (wsM_good TB_ok kc) rfl hrc hrs (hts _ ki) (hts _ hlk.1) kd hR, hts _ hlk.2.1, hts _ hlk.2.2⟩ ⟨stP.blind hGc, hrv, fun U hU hW => ⟨rfl, hU, va_K.moved hW.alike hK, hG U hU hW⟩⟩ rfl hn hsz rfl (lv_room hW) hdg hcs
  intro T hT X
  obtain ⟨v, st₀, t, T', L, h0, X', hL9, e1, e2, ⟨⟨r, hv, hrt, hlies⟩, hF⟩, st⟩ := hr T hT X
  cases hv
  obtain ⟨k1, k2, k3⟩ := vx_keep h0 e1 hS (fun q _ h => hA q h) hA hL9 hF
  obtain ⟨t2, a1, b1⟩ := kk v T'.heap (locs ++ L) hrt (by rw [e1]; exact hlies) k3 (fun q h1 h2 => k2 q h1 (fun z => z.elim h2 (fun z => by omega))) T' rfl X'
  exact ⟨t2, st t2 a1, b1⟩
theorem lw_wrap {y : MethodName} {bytes : ByteArray} {maxL n : Nat} {hh : List (Nat × Nat × Nat × Nat)} (S : CallFix p m c cc nL s args TB own) (hM : vx_Met l y (Cond.codeWith y bytes maxL (some .int) hh :: TB) rmW (wrP D cy ads o cL H xs) (wrQ D cy ads o cL H) wrX 1 6 (stA (ads ++ [o]) H.size)) (hy : y.cls = sLaw) (hlk : Cond.methodLink own ix y ∈ TB ∧ Cond.static y ∈ TB ∧ Cond.codeWith y bytes maxL (some .int) hh ∈ TB) (hpd : (parseMethodDescriptor y.desc).map (fun d => d.parameters.length) = some n)
    (hR : 10 ≤ R.frames ∧ 8 + (maxL + 11) + 211 ≤ R.locals) (hcs : cells + 1 ≤ R.cells ∧ slots + 6 ≤ R.slots) (hK : va_K D nCl (tyL cy cL) s) (hG : ∀ U : State, U.heap = H → s.WarmedH U.vm → gL (ads ++ [o]) U) (hA : ∀ q, stA (ads ++ [o]) H.size q → A q) (hS : va_S A s.heap H locs)
    (hn : xs.length = n) (hsz : ls.size = nL) (hW : (rest.map fun v => v.category).sum ≤ 8) (hdg : decode cc pc = .ok (.invokestatic ix, 3))
    (kk : ∀ (r : Int32) (H1 : Heap) (locs1 : List Loc), Lies D nCl cy iCs ads H1 → OutC D cL o H1 → va_S A s.heap H1 locs1 → (∀ q : Nat, q < H.size → q ∉ ads → q ≠ o → H1[q]? = H[q]?) → W p l e R s m args below meth c H1 locs1 (cells + 1) (slots + 6) Q (F0 m (pc + 3) ls (.int r :: rest))) :
    W p l e R s m args below meth c H locs cells slots Q (F0 m pc ls (xs.reverse ++ rest)) := by
  obtain ⟨hx, hb, hml, hown, hts⟩ := id S
  have hini : Cond.initialized y.cls ∈ TB := by rw [hy]; exact inT_ok (i := 93) (by decide +kernel)
  have hgood : GoodIn TB (va_wsS own ix y (Cond.codeWith y bytes maxL (some .int) hh :: TB)) := fun w hw => by
    have hm : w ∈ TB := by
      unfold va_wsS at hw
      rcases List.mem_append.mp hw with h | h
      · rcases List.mem_cons.mp h with rfl | h
        · exact hlk.1
        rcases List.mem_cons.mp h with rfl | h
        · exact hlk.2.1
        rw [List.mem_singleton.mp h]
        exact hini
      · rcases List.mem_cons.mp h with rfl | h
        · exact hlk.2.2
        · exact h
    exact ⟨hm, TB_ok _ hm⟩
  have hr := vx_runSX (rest := rest) (locs := locs) (cells := cells) (slots := slots) (below := below) (e := e) (meth := meth) (g := F0 m pc ls (xs.reverse ++ rest)) S hM (vx_cwSW (R := R) (rm := rmW) (mc := 1) (ms := 6) n hts hgood rfl rfl rfl ⟨by rw [hy]; decide, by rw [hy]; decide, hpd⟩ ⟨by show 9 + 1 ≤ _; omega, hR.2⟩) ⟨wrP.blind, fun U hU hW => ⟨rfl, hU, va_K.moved hW.alike hK, hG U hU hW⟩⟩ rfl hn hsz rfl (lv_room hW) hdg hcs
  refine vx_calli (A0 := A) (H0 := s.heap) hr hS (fun q _ h => hA q h) hA (fun q _ h => h.elim) (fun E ce q9 u t H1 locs1 _ _ hp => hp.elim) (fun r u t H1 locs1 ht _ _ hB _ hk hS1 => ?_)
  exact kk r H1 locs1 (by rw [← ht]; exact hB.1) (by rw [← ht]; exact hB.2) hS1 (fun q h1 h2 h3 => hk q h1 (fun z => z.elim (fun z => (List.mem_append.mp z).elim h2 (fun z => h3 (List.mem_singleton.mp z))) (fun z => by omega)))
end LawC
/-! the law's reading of the script's first int -/
theorem dLc_0 : decode method_2_code 0 = .ok (.iload_n 1, 1) := by decide +kernel
theorem dLc_1 : decode method_2_code 1 = .ok (.aload_n 0, 1) := by decide +kernel
theorem dLc_2 : decode method_2_code 2 = .ok (.arraylength, 1) := by decide +kernel
theorem dLc_3 : decode method_2_code 3 = .ok (.if_icmp .ge 9, 3) := by decide +kernel
theorem dLc_6 : decode method_2_code 6 = .ok (.aload_n 0, 1) := by decide +kernel
theorem dLc_7 : decode method_2_code 7 = .ok (.iload_n 1, 1) := by decide +kernel
theorem dLc_8 : decode method_2_code 8 = .ok (.iaload, 1) := by decide +kernel
theorem dLc_9 : decode method_2_code 9 = .ok (.goto 4, 3) := by decide +kernel
theorem dLc_12 : decode method_2_code 12 = .ok (.iconst 0, 1) := by decide +kernel
theorem dLc_13 : decode method_2_code 13 = .ok (.ireturn, 1) := by decide +kernel
abbrev yW0 : MethodName := ⟨sLaw, "cell", "([II)I"⟩
abbrev miW0 : MI := (yW0, method_2_code, 2, (some .int), 2)
theorem cell0_met {l : Launch} {H0 : Heap} {b L : Nat} {xs : Nat → Int32} (hL : L ≤ 2561) : Met l yW0 (wsM TB miW0) { frames := 0, cells := 0, slots := 0, locals := 0 } (va_Pc [.ref b, .int (Int32.ofInt 0)] (fun U => U.heap = H0 ∧ va_X b L xs U U.heap ∧ b < U.heap.size)) (va_Qi (fun _ (_ : Unit) => True) (fun _ t => t.heap = H0) (fun _ => False)) 0 0 (fun _ => False) := by
  refine Met.ofW (cc := method_2_code) (maxL := 2) (ret := some .int) (by decide) rfl ?_
  intro p e s m args below meth c s₁ B hml hvv
  obtain ⟨rfl, hH, hX, hbl⟩ := hvv
  subst hH
  have hx := B.exec
  have hb := B.bytes
  have hr := B.returns
  have hlocks := B.notSynchronized
  have hS : va_S (fun _ : Nat => False) s.heap s.heap [] := va_S.rf
  have hl := lv_entry [Value.ref b, Value.int (Int32.ofInt 0)] (n := 2) (Nat.le_of_ble_eq_true rfl)
  rw [lg_entry_eq]
  generalize (lg_sl [Value.ref b, Value.int (Int32.ofInt 0)] ++ List.replicate (2 - (lg_sl [Value.ref b, Value.int (Int32.ofInt 0)]).length) Slot.unset).toArray = ls at hl ⊢
  have hl : lv_has ls 2 [(0, .ref b), (1, .int (Int32.ofInt 0))] := hl
  have fin : ∀ r : Int32, W p l e { frames := 0, cells := 0, slots := 0, locals := 0 } s m [Value.ref b, Value.int (Int32.ofInt 0)].toArray below meth c s.heap [] 0 0 (MQ below (va_Qi (fun _ (_ : Unit) => True) (fun _ t => t.heap = s.heap) (fun _ => False)) [Value.ref b, Value.int (Int32.ofInt 0)].toArray s 0 0 (fun _ => False)) (F0 m 13 ls [.int r]) := fun r => W.iret hx hb hr (fun t ht hW => ⟨⟨r, (), rfl, trivial, ht⟩, by rw [ht]; exact Nat.le_refl _, fun q _ _ => by rw [ht]⟩) (fun q hq => by cases hq) dLc_13
  refine lv_iload_n hx hb dLc_0 rfl (lv_at hl 1 rfl) ?_
  refine lv_aload_n hx hb dLc_1 rfl (lv_at hl 0 rfl) ?_
  refine va_slen hx hb hX hbl (fun h => h) hS dLc_2 ?_
  refine lv_icmp_ge hx hb dLc_3 (tgt := 12) rfl (fun _ => lv_iconst hx hb dLc_12 rfl (fin _)) (fun hc => ?_)
  refine lv_aload_n hx hb dLc_6 rfl (lv_at hl 0 rfl) ?_
  refine lv_iload_n hx hb dLc_7 rfl (lv_at hl 1 rfl) ?_
  have hz : (Int32.ofInt 0).toInt = 0 := by decide
  have hLi : (Int32.ofNat L).toInt = L := nI_toInt (by omega)
  rw [le_z, hz, hLi] at hc
  refine va_sld hx hb hX hbl (fun h => h) hS (inb (by rw [hz]; omega) (by rw [hz]; omega)) dLc_8 ?_
  exact lv_goto hx hb dLc_9 (tgt := 13) rfl (fin _)
