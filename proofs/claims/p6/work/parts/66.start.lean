/-! the law's beginning -/
section After
variable {p : Program} {l : Launch} {e : Env} {R : Room} {s : State} {m : MethodId} {args : Array Value} {below : List Frame} {meth : Method} {c : Code} {H : Heap} {locs : List Loc} {cells slots : Nat} {Q : State → Prop}
variable {cl : List vw_C} {D : va_G} {cy : Nat → ClassId} {pc : Nat} {ls : Array Slot}
theorem afterL {K : CK} {mu : List Int} {ads : List Nat} {ws : va_W} {A : Nat → Prop} {mc ms : Nat} {st0 rest : List Value} {a : Array Value}
    (hr : va_Run p l e R s m args below meth c H locs cells slots mc ms (F0 m pc ls st0) rest (QK cl D cy K mu ads ws H.size a) (va_A ws H.size))
    (hD : va_D A ws) (hS : va_S A s.heap H locs) (hA : ∀ q, s.heap.size ≤ q → A q)
    (kk : ∀ (r : Option Value) (w : List Int) (bs : List Nat) (ws' : va_W) (H1 : Heap) (locs1 : List Loc), SX (mu ++ w) (K.2.1.1 ++ K.2.2.1, K.2.2.2.1) → RS (ads ++ bs) (mu ++ w) K.2.2.2.2.1 r → HS cy (ads ++ bs) (mu ++ w) ws K.2.2.2.2.2 ws' → va_P D cl ws' H1 → va_D A ws' → va_S A s.heap H1 locs1 → (∀ b ∈ bs, H.size ≤ b) → (∀ q : Nat, q < H.size → q ∉ (ws.map fun q => q.1) → H1[q]? = H[q]?) →
      W p l e R s m args below meth c H1 locs1 (cells + mc) (slots + ms) Q (F0 m (pc + 3) ls (r.toList ++ rest))) : W p l e R s m args below meth c H locs cells slots Q (F0 m pc ls st0) := by
  have hAA := hD.sub_A hA hS.1
  intro T hT X
  obtain ⟨v, st₀, t, T', L, h0, X', hL, e1, e2, ⟨⟨r, hv, w, bs, ws', hX, hR, hH, hP', hD', hb⟩, hF⟩, st⟩ := hr T hT X
  cases hv
  obtain ⟨k1, k2, k3⟩ := vx_keep h0 e1 hS (fun q _ h => hAA q h) hAA hL hF
  obtain ⟨t2, a1, b1⟩ := kk v w bs ws' T'.heap (locs ++ L) hX hR hH (by rw [e1]; exact hP') (hD'.weaken fun k q _ h => hAA q.1 h) k3 hb (fun q h1 h2 => k2 q h1 (fun z => (va_A.of.mp z).elim h2 (fun z => by omega))) T' rfl X'
  exact ⟨t2, st t2 a1, b1⟩
end After
def inL (w : Cond) (i : Nat) : Bool := decide (lw_tbl[i]? = some w)
theorem inL_ok {w : Cond} {i : Nat} (h : inL w i = true) : w ∈ lw_tbl := List.mem_of_getElem? (of_decide_eq_true h)
abbrev tmT : Term := .static RX2 "TELLER_ORDER" "[I"
theorem nar_tell : ∀ j, j < 19 → Cond.eq (.elem tmT (.int (Int32.ofNat j))) (.int (gTell.getD j 0)) ∈ flatC (Jvm.Cond.and given_1 narrow_1) := by decide +kernel
theorem nar_str : ∀ q ∈ gStr, Cond.exactly (.string "FlateFilter" q.1) "java/lang/String" ∈ flatC (Jvm.Cond.and given_1 narrow_1) := by decide +kernel
theorem tbl_str : ∀ q ∈ gStr, Cond.stringRef "FlateFilter" q.1 q.2 ∈ lw_tbl := by decide +kernel
theorem tbl_exc : ∀ E ∈ gExc, Cond.castable E E ∈ lw_tbl := by decide +kernel
theorem tbl_dcl : ∀ E ∈ gDcl, Cond.declares (gDn E) ∈ lw_tbl := by decide +kernel
/-- what the class stands on, at the law's beginning -/
theorem gL_start {args : Array Value} {s : State} (hts : ∀ w ∈ lw_tbl, w.before args s = true) (hgv : (Jvm.Cond.and given_1 narrow_1).before args s = true) : gL [] s := by
  have hn := flat_of_before _ hgv
  have hA : ∀ a : Nat, a < s.heap.size → ¬ gA [] s a := fun a h z => z.elim (fun z => by cases z) (fun z => by omega)
  have hTini : (Cond.initialized Bundle.tN).before args s = true := hts _ (by decide +kernel)
  refine ⟨⟨⟨va_Nw.of rfl (hts _ (by decide +kernel)), va_Nw.of rfl (hts _ (by decide +kernel))⟩, fun E hE => va_Nw.of rfl (hts _ (tbl_exc E hE)), fun E hE => va_Nw.of rfl (hts _ (tbl_dcl E hE)), fun q hq => ?_, vx_Zqof (hts (.laysStatic Bundle.tN "UNASSIGNED_STACK" Bundle.steD) (by decide +kernel)) hTini (hn (.isRef (.static Bundle.tN "UNASSIGNED_STACK" Bundle.steD)) (by decide +kernel)) hA, vx_Zqof (hts (.laysStatic Bundle.tN "SUPPRESSED_SENTINEL" Bundle.listD) (by decide +kernel)) hTini (hn (.isRef (.static Bundle.tN "SUPPRESSED_SENTINEL" Bundle.listD)) (by decide +kernel)) hA, ?_⟩, va_Nc.of (hn (.not (.castable sU sI)) (by decide +kernel))⟩
  · obtain ⟨a, c0, cell, kA, ha, -⟩ := Cond.exactly_spec (hn _ (nar_str q hq))
    exact ⟨a, vk_R.of (hts _ (tbl_str q hq)) ha⟩
  · obtain ⟨t, ht, hT⟩ := va_Tof (tm := tmT) (ty := .int) (N := 19) (f := fun j => .int (gTell.getD j 0)) (A := gA [] s) (by decide) (hn _ (by decide +kernel)) (va_eqt (hn (.eq (.length tmT) (.int 19)) (by decide +kernel))) (fun j hj => va_eqt (hn _ (nar_tell j hj))) hA
    exact ⟨t, va_Zof (hts (.laysStatic RX2 "TELLER_ORDER" "[I") (by decide +kernel)) (hts (.initialized RX2) (by decide +kernel)) ht hA, hT⟩
theorem inst_ok : ∀ q ∈ nCl, Cond.instantiable q.1 q.2.2 ∈ TB := fun q hq => by
  obtain ⟨k, hk⟩ := List.getElem?_of_mem hq
  match k, hk with
  | 0, hk => cases hk; exact inT_ok (i := 182) (by decide +kernel)
  | 1, hk => cases hk; exact inT_ok (i := 322) (by decide +kernel)
  | 2, hk => cases hk; exact inT_ok (i := 211) (by decide +kernel)
  | 3, hk => cases hk; exact inT_ok (i := 291) (by decide +kernel)
  | 4, hk => cases hk; exact inT_ok (i := 217) (by decide +kernel)
  | 5, hk => cases hk; exact inT_ok (i := 133) (by decide +kernel)
  | 6, hk => cases hk; exact inT_ok (i := 169) (by decide +kernel)
  | 7, hk => cases hk; exact inT_ok (i := 150) (by decide +kernel)
  | 8, hk => cases hk; exact inT_ok (i := 118) (by decide +kernel)
  | 9, hk => cases hk; exact inT_ok (i := 1022) (by decide +kernel)
  | k + 10, hk => simp [nCl] at hk
theorem known_ok {args : Array Value} {s : State} (hts : ∀ w ∈ TB, w.before args s = true) : ∃ (D : va_G) (cy : Nat → ClassId), va_K D nCl (tysOf cy) s := by
  have h1 : ∀ c : Nat, ∃ x : ClassId × (Nat → Nat), ∀ q : vw_C, nCl[c]? = some q → u_Kn s q.1 q.2.1 q.2.2 x.1 x.2 := fun c => by
    cases hc : nCl[c]? with
    | none => exact ⟨(0, fun _ => 0), fun q h => by cases h⟩
    | some r =>
      obtain ⟨cC, iS, h⟩ := u_known (C := r.1) (T := r.2.1) (N := r.2.2) (n := r.2.2) hts (nCl_ok _ _ hc).1 (hts _ (inst_ok r (List.mem_of_getElem? hc)))
      exact ⟨(cC, iS), fun q h => by cases h; exact h⟩
  have h2 : ∀ ty : FieldType, Cond.arrayClass ty ∈ TB → (∀ C, ty ≠ .object C) → ∃ cA : ClassId, ArrOfT s cA ty ∧ va_RA s cA ty := fun ty hm hne => by
    obtain ⟨cA, kA, comp, a1, a2, a3⟩ := Cond.arrayClass_spec (hts _ hm)
    refine ⟨cA, fun n z => ⟨fun k h => (by cases h), kA, a2, comp, a3⟩, ?_⟩
    cases ty with
    | object C => exact (hne C rfl).elim
    | _ => exact a1
  obtain ⟨c0, b0⟩ := h2 .int nAI.1 (fun C h => by cases h)
  obtain ⟨c1, b1⟩ := h2 .byte nAI.2 (fun C h => by cases h)
  refine ⟨(fun c => (h1 c).choose.1, fun c => (h1 c).choose.2), fun k => if k = 0 then c0 else c1, fun c q hq => (h1 c).choose_spec q hq, fun k q hq => ?_⟩
  match k, hq with
  | 0, hq => cases hq; exact b0
  | 1, hq => cases hq; exact b1
  | k + 2, hq => simp [tysOf] at hq
section Begin
variable {p : Program} {l : Launch} {e : Env} {s : State} {m : MethodId} {below : List Frame} {meth : Method} {c : Code} {H : Heap} {locs : List Loc} {cells slots : Nat} {Q : State → Prop}
variable {D : va_G} {cy : Nat → ClassId} {b L pc : Nat} {xs : Nat → Int32} {ls : Array Slot} {rest : List Value}
theorem cell0_call (S : CallFix p m c code 8 s #[Value.ref b] TB sLaw) (hL : L ≤ 2561) (hX : va_X b L xs s s.heap) (hbl : b < s.heap.size) (hS : va_S (fun q => s.heap.size ≤ q) s.heap H locs) (hcs : cells ≤ room_1.cells ∧ slots ≤ room_1.slots) (hsz : ls.size = 8) (hW : (rest.map fun v => v.category).sum ≤ 8) (hdg : decode code pc = .ok (.invokestatic 41, 3))
    (kk : ∀ (r : Int32) (locs1 : List Loc), va_S (fun q => s.heap.size ≤ q) s.heap H locs1 → W p l e room_1 s m #[Value.ref b] below meth c H locs1 cells slots Q (F0 m (pc + 3) ls (.int r :: rest))) : W p l e room_1 s m #[Value.ref b] below meth c H locs cells slots Q (F0 m pc ls (.int (Int32.ofInt 0) :: .ref b :: rest)) := by
  obtain ⟨hx, hb, hml, hown, hts⟩ := id S
  have hcode : Cond.code yW0 method_2_code 2 (some .int) ∈ TB := inT_ok (i := 402) (by decide +kernel)
  have hXH : va_X b L xs s H := hX.kept (hS.2.1 b hbl (Nat.not_le.mpr hbl))
  have hbH : b < H.size := Nat.lt_of_lt_of_le hbl hS.1
  refine va_calli (A0 := fun q => s.heap.size ≤ q) (A1 := fun _ => False) (free := fun _ => False) (va_runS (As := [.ref b, .int (Int32.ofInt 0)]) (rest := rest) S (cell0_met (H0 := H) (L := L) (xs := xs) hL) ⟨callB_of 2 hts (wsM_good (mi := miW0) TB_ok hcode) rfl rfl rfl (hts (.initialized sLaw) (inT_ok (i := 93) (by decide +kernel))) (hts (.methodLink sLaw 41 yW0) (inT_ok (i := 400) (by decide +kernel))) ⟨by decide, by decide, by decide⟩ ⟨by decide, by decide⟩, hts (.static yW0) (inT_ok (i := 401) (by decide +kernel))⟩ ⟨fun a U g mk q => ⟨q.1, q.2.1, va_X.moved (u := U) (U := U.calling g mk a) (Vm.Alike.refl U.vm) q.2.2.1, q.2.2.2⟩, fun U hU hW => ⟨rfl, hU, by rw [hU]; exact va_X.moved hW.alike hXH, by rw [hU]; exact hbH⟩⟩ rfl rfl hsz rfl (lv_room hW) hdg ⟨hcs.1, hcs.2⟩) hS (fun _ _ h => h.elim) (fun _ h => h.elim) (fun r u t H1 locs1 ht _ hp hB _ _ hS1 => ?_)
  have : H1 = H := ht.symm.trans hB
  subst this
  exact kk r locs1 hS1
theorem init_call {K : CK} {mi : MI} {G : List Nat → State → Prop} {T : IT} {cs : List Cert} {ci q ix : Nat} {fy : List SV} {fs : List Value} {v : Int64} (S : CallFix p m c code 8 s #[Value.ref b] TB sLaw) (hV : Valid l TB nCl G mi K) (hb1 : K.2.1.1 = [((-9223372036854775808), 9223372036854775807)]) (hc1 : K.2.1.2.1 = []) (ha1 : K.2.1.2.2.1 = [vRef 0, vLong (some (eV 0))]) (hs1 : K.2.1.2.2.2 = [some (.inr (ci, fy))])
    (hfs : ∀ mu : List Int, FS [q] mu fy fs) (hP : va_P D nCl [(q, .inr (ci, fs))] H) (hqA : s.heap.size ≤ q) (hS : va_S (fun q => s.heap.size ≤ q) s.heap H locs) (hK : va_K D nCl (tysOf cy) s) (hGc : GCl G) (hG : ∀ U : State, U.heap = H → s.WarmedH U.vm → G [q] U) (hmi : mi ∈ nMT) (hlk : Cond.methodLink sLaw ix mi.1 ∈ TB ∧ Cond.instanceMethod mi.1 ∈ TB) (hnm : mi.1.name = "<init>") (hnr : mi.2.2.2.1 = none) (hn : mi.2.2.2.2 = 1)
    (hR : K.1.2.1 + 1 ≤ room_1.frames ∧ 8 + (mi.2.2.1 + 11) + K.1.2.2.1 ≤ room_1.locals) (hcs : cells + K.1.2.2.2.1 ≤ room_1.cells ∧ slots + K.1.2.2.2.2 ≤ room_1.slots) (hpost : postB K [] T cs = true) (hret : K.2.2.2.2.1 = none) (hsz : ls.size = 8) (hW : (rest.map fun v => v.category).sum ≤ 8) (hdg : decode code pc = .ok (.invokespecial ix, 3))
    (kk : ∀ (bs : List Nat) (H1 : Heap) (locs1 : List Loc) (ws : va_W), Inv cy T (q :: bs) ws → va_P D nCl ws H1 → va_D (fun q => s.heap.size ≤ q) ws → va_S (fun q => s.heap.size ≤ q) s.heap H1 locs1 → (∀ b ∈ bs, H.size ≤ b) → (∀ x : Nat, x < H.size → x ≠ q → H1[x]? = H[x]?) → W p l e room_1 s m #[Value.ref b] below meth c H1 locs1 (cells + K.1.2.2.2.1) (slots + K.1.2.2.2.2) Q (F0 m (pc + 3) ls rest)) :
    W p l e room_1 s m #[Value.ref b] below meth c H locs cells slots Q (F0 m pc ls (.long v :: .ref q :: rest)) := by
  obtain ⟨hx, hb, hml, hown, hts⟩ := id S
  obtain ⟨-, kd, kc, ki⟩ := nMT_ok _ hmi
  have h1 : SX [v.toInt] (K.2.1.1, K.2.1.2.1) := by
    rw [hb1, hc1]
    exact ⟨SB.cons0 (by have := v.le_toInt; omega) (by have := v.toInt_lt; omega) SB.nil0, fun e he => by cases he⟩
  have h2 : FS [q] [v.toInt] K.2.1.2.2.1 [.ref q, .long v] := by
    rw [ha1]
    exact ⟨⟨q, rfl, rfl⟩, ⟨v, rfl, fun le h => by cases h; exact EV.atom rfl⟩, trivial⟩
  have h3 : HS cy [q] [v.toInt] [(q, .inr (ci, fs))] K.2.1.2.2.2 [(q, .inr (ci, fs))] := by
    rw [hs1]
    refine ⟨rfl, rfl, fun k o hk => ?_⟩
    have hz : k < 1 := (List.getElem?_eq_some_iff.mp hk).1
    obtain rfl : k = 0 := by omega
    cases hk
    exact ⟨_, rfl, fs, rfl, hfs _⟩
  have hD : va_D (fun q => s.heap.size ≤ q) [(q, (.inr (ci, fs) : va_E))] := by
    refine ⟨fun i j x y hi hj _ => ?_, fun k x hk => ?_⟩
    · have := (List.getElem?_eq_some_iff.mp hi).1
      have := (List.getElem?_eq_some_iff.mp hj).1
      simp only [List.length_singleton] at *
      omega
    · rw [List.mem_singleton.mp (List.mem_of_getElem? hk)]
      exact hqA
  refine afterL (K := K) (mu := [v.toInt]) (ads := [q]) (ws := [(q, .inr (ci, fs))]) (rest := rest) (run2 hGc S hV h1 (b := q) (As := [.long v]) h2 h3 (fun U hU hW => ⟨rfl, by rw [hU], by rw [hU]; exact hP, va_K.moved hW.alike hK, hD.weaken (fun _ _ _ _ => trivial), hG U hU hW⟩) (callB_K TB_ok hts kc ki hlk.1 kd hR) hlk.2 hnm hnr (by rw [hn]; rfl) hsz hW hdg hcs) hD hS (fun _ h => h) fun r w bs ws' H1 locs1 y1 y2 y3 y4 y5 y6 y7 y8 => ?_
  have hr : r = none := by
    rw [hret] at y2
    cases r with
    | none => rfl
    | some x => exact y2.elim
  subst hr
  exact kk bs H1 locs1 ws' (postB_ok hpost h1 y1 sc0 y3) y4 y5 y6 y7 (fun x h1 h2 => y8 x h1 (fun z => h2 (List.mem_singleton.mp z)))
end Begin
set_option maxRecDepth 100000 in
theorem aC_init {l : Launch} : Valid l TB nCl gC (⟨RX11, "<init>", "(J)V"⟩, prog_1_method_1_code, 6, none, 1) kC431 := aC432 431 kC431 _ rfl rfl
set_option maxRecDepth 100000 in
theorem aM_init {l : Launch} : Valid l TB nCl gM (⟨RX12, "<init>", "(J)V"⟩, prog_14_method_1_code, 3, none, 1) kM212 := aM213 212 kM212 _ rfl rfl
