/-! the law's own methods (by program) -/
abbrev sLaw : String := "FlateFilterLaw"
abbrev rmW : Room := { frames := 9, cells := 1, slots := 6, locals := 211 }
def wrP (D : va_G) (cy : Nat → ClassId) (ads : List Nat) (o : Nat) (cL : ClassId) (H : Heap) (xs : List Value) : Array Value → State → Prop := va_Pc xs (fun U => U.heap = H ∧ va_K D nCl (tyL cy cL) U ∧ gL (ads ++ [o]) U)
def wrQ (D : va_G) (cy : Nat → ClassId) (ads : List Nat) (o : Nat) (cL : ClassId) (H : Heap) : Array Value → State → Outcome → State → Prop := va_Qi (fun _ (_ : Unit) => True) (fun _ t => Lies D nCl cy iCs ads t.heap ∧ OutC D cL o t.heap) (stA (ads ++ [o]) H.size)
def wrX : String → State → State → Prop := vx_X (fun _ : Unit => False) (fun _ _ _ => True) (fun _ => False)
theorem wrP.blind {D : va_G} {cy : Nat → ClassId} {ads : List Nat} {o : Nat} {cL : ClassId} {H : Heap} {xs : List Value} : FrameBlind (wrP D cy ads o cL H xs) := fun a U g mk q => by
  obtain ⟨q0, q1, qK, qG⟩ := q
  refine ⟨q0, q1, va_K.moved (u := U) (U := U.calling g mk a) (Vm.Alike.refl U.vm) qK, ?_⟩
  have := gL_ok _ [] U (U.calling g mk a) (State.WarmedH.refl U) (Nat.le_refl _) (fun _ _ _ => rfl) (fun _ h => by cases h) qG
  rwa [List.append_nil] at this
theorem gL.toC {ads : List Nat} {o : Nat} {s U : State} (h : gL (ads ++ [o]) s) (hU : U.heap = s.heap) (hW : s.WarmedH U.vm) : gC ads U := by
  have := gC_ok (ads ++ [o]) [] s U hW (by rw [hU]; exact Nat.le_refl _) (fun q _ _ => by rw [hU]) (fun _ h => by cases h) h.1
  rw [List.append_nil] at this
  exact gC_sub (fun a h => List.mem_append_left _ h) this
theorem dWadd_0 : decode method_3_code 0 = .ok (.aload_n 0, 1) := by decide +kernel
theorem dWadd_1 : decode method_3_code 1 = .ok (.iload_n 1, 1) := by decide +kernel
theorem dWadd_2 : decode method_3_code 2 = .ok (.invokevirtual 7, 3) := by decide +kernel
theorem dWadd_5 : decode method_3_code 5 = .ok (.goto 6, 3) := by decide +kernel
theorem dWadd_8 : decode method_3_code 8 = .ok (.astore_n 2, 1) := by decide +kernel
theorem dWadd_9 : decode method_3_code 9 = .ok (.iconst 1, 1) := by decide +kernel
theorem dWadd_10 : decode method_3_code 10 = .ok (.ireturn, 1) := by decide +kernel
theorem dWadd_11 : decode method_3_code 11 = .ok (.iconst 0, 1) := by decide +kernel
theorem dWadd_12 : decode method_3_code 12 = .ok (.ireturn, 1) := by decide +kernel
abbrev yW_add : MethodName := ⟨sLaw, "add", "(LFlateFilter;B)I"⟩
def hW_add : List (Nat × Nat × Nat × Nat) := [(0, 5, 8, 13)]
def wW_add : List Cond := Cond.codeWith yW_add method_3_code 3 (some .int) hW_add :: TB
theorem wr_add {l : Launch} (hl0 : l.stackTraces = false) (x : Int32) (hx0 : -128 ≤ x.toInt) (hx1 : x.toInt ≤ 127) {D : va_G} {cy : Nat → ClassId} {ads : List Nat} {H : Heap} {a o : Nat} {cL : ClassId} (h : Lies D nCl cy iCs ads H) (ha : ads[0]? = some a) (hO : OutC D cL o H) (ho : o ∉ ads) : vx_Met l yW_add wW_add rmW (wrP D cy ads o cL H [.ref a, .int x]) (wrQ D cy ads o cL H) wrX 1 6 (stA (ads ++ [o]) H.size) := by
  refine vx_ofWH (cc := method_3_code) (maxL := 3) (ret := some .int) (hh := hW_add) (by decide) rfl ?_
  intro p e s m args below meth c s₁ B hml hv
  obtain ⟨rfl, hH, hK, hG⟩ := hv
  subst hH
  have hx := B.exec
  have hb := B.bytes
  have hr := B.returns
  have hts0 : ∀ w ∈ wW_add, w.before [Value.ref a, Value.int x].toArray s = true := atoms_spec (ws := wW_add) B.pre
  have hts : ∀ w ∈ TB, w.before [Value.ref a, Value.int x].toArray s = true := fun w hw => hts0 w (List.mem_cons_of_mem _ hw)
  have htab := vx_table (x := yW_add) B (hts0 _ List.mem_cons_self)
  have hown : s.vm.findClass sLaw = some m.cls := findClass_of_methodNamed B.named
  have hlocks := B.notSynchronized
  have S : CallFix p m c method_3_code 3 s [Value.ref a, Value.int x].toArray TB sLaw := ⟨hx, hb, hml, hown, hts⟩
  have hA : ∀ q, q ∈ ads ∨ q = o → stA (ads ++ [o]) s.heap.size q := fun q h => Or.inl (h.elim (fun h => List.mem_append_left _ h) (fun h => List.mem_append_right _ (List.mem_singleton.mpr h)))
  have hS : va_S (stA (ads ++ [o]) s.heap.size) s.heap s.heap [] := va_S.rf
  have hl := lv_entry [Value.ref a, Value.int x] (n := 3) (Nat.le_of_ble_eq_true rfl)
  rw [lg_entry_eq]
  generalize (lg_sl [Value.ref a, Value.int x] ++ List.replicate (3 - (lg_sl [Value.ref a, Value.int x]).length) Slot.unset).toArray = ls at hl ⊢
  have hl : lv_has ls 3 [(0, .ref a), (1, .int x)] := hl
  have fin : ∀ (r : Int32) (pc : Nat) (ls : Array Slot) (H1 : Heap) (locs1 : List Loc), Lies D nCl cy iCs ads H1 → OutC D cL o H1 → va_S (stA (ads ++ [o]) s.heap.size) s.heap H1 locs1 → decode method_3_code pc = .ok (.ireturn, 1) → W p l e rmW s m [Value.ref a, Value.int x].toArray below meth c H1 locs1 1 6 (vx_MQ below (wrQ D cy ads o cL s.heap) wrX [Value.ref a, Value.int x].toArray s 1 6 (stA (ads ++ [o]) s.heap.size)) (F0 m pc ls [.int r]) := fun r pc ls H1 locs1 h1 h2 h3 h4 => vx_ret (W.iret hx hb hr (fun t ht hW => ⟨⟨r, (), rfl, trivial, by rw [ht]; exact h1, by rw [ht]; exact h2⟩, by rw [ht]; exact h3.1, fun q g1 g2 => by rw [ht]; exact h3.2.1 q g1 g2⟩) h3.2.2 h4)
  refine lv_aload_n hx hb dWadd_0 rfl (lv_at hl 0 rfl) ?_
  refine lv_iload_n hx hb dWadd_1 rfl (lv_at hl 1 rfl) ?_
  refine wr_call (A := stA (ads ++ [o]) s.heap.size) (As := [.int x]) (rest := []) S (sC_add hl0 x hx0 hx1 h ha) (List.mem_of_getElem? (i := 108) rfl) ⟨inT_ok (i := 407) (by decide +kernel), inT_ok (i := 408) (by decide +kernel), inT_ok (i := 409) (by decide +kernel)⟩ rfl ⟨Nat.le_refl _, by show 8 + (2 + 11) + 189 ≤ 211; decide⟩ ⟨Nat.le_refl _, Nat.le_refl _⟩ (tyL.toC hK) (fun U hU hW => hG.toC hU hW) h ha (fun q hq => hq.elim (fun z => hA q (Or.inl z)) Or.inr) hS rfl hl.1 (Nat.le_of_ble_eq_true rfl) dWadd_2 (fun E ce q9 H1 locs1 hE hL1 hS1 hk1 hc1 hc2 hc3 => ?_) (fun r H1 locs1 hrt hL1 hS1 hk1 => ?_)
  · obtain rfl := List.mem_singleton.mp hE
    refine vx_catch (name := sU) hown [] ⟨0, 5, 8, 13⟩ [] htab (fun z hz => by cases hz) (by decide) (by decide) (hts (.classLink sLaw 13 sU) (inT_ok (i := 406) (by decide +kernel))) (va_Nw.use rfl (hG.1.2.1 sU (by decide))) hc1 hc2 hc3 ?_
    refine lv_astore_n hx hb dWadd_8 rfl hl (by decide) rfl fun ls hl => ?_
    exact lv_iconst hx hb dWadd_9 rfl (fin _ 10 ls H1 locs1 hL1 (hO.kept (hk1 o hO.lt ho)) hS1 dWadd_10)
  have hrt : r = none := hrt
  subst hrt
  refine lv_goto hx hb dWadd_5 (tgt := 11) rfl ?_
  exact lv_iconst hx hb dWadd_11 rfl (fin _ 12 ls H1 locs1 hL1 (hO.kept (hk1 o hO.lt ho)) hS1 dWadd_12)
theorem dWpack_0 : decode method_4_code 0 = .ok (.aload_n 3, 1) := by decide +kernel
theorem dWpack_1 : decode method_4_code 1 = .ok (.iconst 0, 1) := by decide +kernel
theorem dWpack_2 : decode method_4_code 2 = .ok (.aload_n 0, 1) := by decide +kernel
theorem dWpack_3 : decode method_4_code 3 = .ok (.iload_n 1, 1) := by decide +kernel
theorem dWpack_4 : decode method_4_code 4 = .ok (.iload_n 2, 1) := by decide +kernel
theorem dWpack_5 : decode method_4_code 5 = .ok (.invokevirtual 15, 3) := by decide +kernel
theorem dWpack_8 : decode method_4_code 8 = .ok (.i2l, 1) := by decide +kernel
theorem dWpack_9 : decode method_4_code 9 = .ok (.lastore, 1) := by decide +kernel
theorem dWpack_10 : decode method_4_code 10 = .ok (.goto 11, 3) := by decide +kernel
theorem dWpack_13 : decode method_4_code 13 = .ok (.astore 4, 2) := by decide +kernel
theorem dWpack_15 : decode method_4_code 15 = .ok (.iconst 1, 1) := by decide +kernel
theorem dWpack_16 : decode method_4_code 16 = .ok (.ireturn, 1) := by decide +kernel
theorem dWpack_17 : decode method_4_code 17 = .ok (.astore 4, 2) := by decide +kernel
theorem dWpack_19 : decode method_4_code 19 = .ok (.iconst 2, 1) := by decide +kernel
theorem dWpack_20 : decode method_4_code 20 = .ok (.ireturn, 1) := by decide +kernel
theorem dWpack_21 : decode method_4_code 21 = .ok (.iconst 0, 1) := by decide +kernel
theorem dWpack_22 : decode method_4_code 22 = .ok (.ireturn, 1) := by decide +kernel
abbrev yW_pack : MethodName := ⟨sLaw, "pack", "(LFlateFilter;II[J)I"⟩
def hW_pack : List (Nat × Nat × Nat × Nat) := [(0, 10, 13, 19), (0, 10, 17, 13)]
def wW_pack : List Cond := Cond.codeWith yW_pack method_4_code 5 (some .int) hW_pack :: TB
theorem wr_pack {l : Launch} (hl0 : l.stackTraces = false) (x y : Int32) {D : va_G} {cy : Nat → ClassId} {ads : List Nat} {H : Heap} {a o : Nat} {cL : ClassId} (h : Lies D nCl cy iCs ads H) (ha : ads[0]? = some a) (hO : OutC D cL o H) (ho : o ∉ ads) : vx_Met l yW_pack wW_pack rmW (wrP D cy ads o cL H [.ref a, .int x, .int y, .ref o]) (wrQ D cy ads o cL H) wrX 1 6 (stA (ads ++ [o]) H.size) := by
  refine vx_ofWH (cc := method_4_code) (maxL := 5) (ret := some .int) (hh := hW_pack) (by decide) rfl ?_
  intro p e s m args below meth c s₁ B hml hv
  obtain ⟨rfl, hH, hK, hG⟩ := hv
  subst hH
  have hx := B.exec
  have hb := B.bytes
  have hr := B.returns
  have hts0 : ∀ w ∈ wW_pack, w.before [Value.ref a, Value.int x, Value.int y, Value.ref o].toArray s = true := atoms_spec (ws := wW_pack) B.pre
  have hts : ∀ w ∈ TB, w.before [Value.ref a, Value.int x, Value.int y, Value.ref o].toArray s = true := fun w hw => hts0 w (List.mem_cons_of_mem _ hw)
  have htab := vx_table (x := yW_pack) B (hts0 _ List.mem_cons_self)
  have hown : s.vm.findClass sLaw = some m.cls := findClass_of_methodNamed B.named
  have hlocks := B.notSynchronized
  have S : CallFix p m c method_4_code 5 s [Value.ref a, Value.int x, Value.int y, Value.ref o].toArray TB sLaw := ⟨hx, hb, hml, hown, hts⟩
  have hA : ∀ q, q ∈ ads ∨ q = o → stA (ads ++ [o]) s.heap.size q := fun q h => Or.inl (h.elim (fun h => List.mem_append_left _ h) (fun h => List.mem_append_right _ (List.mem_singleton.mpr h)))
  have hS : va_S (stA (ads ++ [o]) s.heap.size) s.heap s.heap [] := va_S.rf
  have hl := lv_entry [Value.ref a, Value.int x, Value.int y, Value.ref o] (n := 5) (Nat.le_of_ble_eq_true rfl)
  rw [lg_entry_eq]
  generalize (lg_sl [Value.ref a, Value.int x, Value.int y, Value.ref o] ++ List.replicate (5 - (lg_sl [Value.ref a, Value.int x, Value.int y, Value.ref o]).length) Slot.unset).toArray = ls at hl ⊢
  have hl : lv_has ls 5 [(0, .ref a), (1, .int x), (2, .int y), (3, .ref o)] := hl
  have fin : ∀ (r : Int32) (pc : Nat) (ls : Array Slot) (H1 : Heap) (locs1 : List Loc), Lies D nCl cy iCs ads H1 → OutC D cL o H1 → va_S (stA (ads ++ [o]) s.heap.size) s.heap H1 locs1 → decode method_4_code pc = .ok (.ireturn, 1) → W p l e rmW s m [Value.ref a, Value.int x, Value.int y, Value.ref o].toArray below meth c H1 locs1 1 6 (vx_MQ below (wrQ D cy ads o cL s.heap) wrX [Value.ref a, Value.int x, Value.int y, Value.ref o].toArray s 1 6 (stA (ads ++ [o]) s.heap.size)) (F0 m pc ls [.int r]) := fun r pc ls H1 locs1 h1 h2 h3 h4 => vx_ret (W.iret hx hb hr (fun t ht hW => ⟨⟨r, (), rfl, trivial, by rw [ht]; exact h1, by rw [ht]; exact h2⟩, by rw [ht]; exact h3.1, fun q g1 g2 => by rw [ht]; exact h3.2.1 q g1 g2⟩) h3.2.2 h4)
  refine lv_aload_n hx hb dWpack_0 rfl (lv_at hl 3 rfl) ?_
  refine lv_iconst hx hb dWpack_1 rfl ?_
  refine lv_aload_n hx hb dWpack_2 rfl (lv_at hl 0 rfl) ?_
  refine lv_iload_n hx hb dWpack_3 rfl (lv_at hl 1 rfl) ?_
  refine lv_iload_n hx hb dWpack_4 rfl (lv_at hl 2 rfl) ?_
  refine wr_call (A := stA (ads ++ [o]) s.heap.size) (As := [.int x, .int y]) (rest := [.int (Int32.ofInt 0), .ref o]) S (sC_pack hl0 x y h ha) (List.mem_of_getElem? (i := 109) rfl) ⟨inT_ok (i := 482) (by decide +kernel), inT_ok (i := 483) (by decide +kernel), inT_ok (i := 484) (by decide +kernel)⟩ rfl ⟨Nat.le_refl _, by show 8 + (3 + 11) + 189 ≤ 211; decide⟩ ⟨Nat.le_refl _, Nat.le_refl _⟩ (tyL.toC hK) (fun U hU hW => hG.toC hU hW) h ha (fun q hq => hq.elim (fun z => hA q (Or.inl z)) Or.inr) hS rfl hl.1 (Nat.le_of_ble_eq_true rfl) dWpack_5 (fun E ce q9 H1 locs1 hE hL1 hS1 hk1 hc1 hc2 hc3 => ?_) (fun r H1 locs1 hrt hL1 hS1 hk1 => ?_)
  · rcases List.mem_cons.mp hE with rfl | hE
    · refine vx_catch (name := sI) hown [] ⟨0, 10, 13, 19⟩ [⟨0, 10, 17, 13⟩] htab (fun z hz => by cases hz) (by decide) (by decide) (hts (.classLink sLaw 19 sI) (inT_ok (i := 481) (by decide +kernel))) (va_Nw.use rfl (hG.1.2.1 sI (by decide))) hc1 hc2 hc3 ?_
      refine lv_astore hx hb dWpack_13 hl (by decide) rfl fun ls hl => ?_
      exact lv_iconst hx hb dWpack_15 rfl (fin _ 16 ls H1 locs1 hL1 (hO.kept (hk1 o hO.lt ho)) hS1 dWpack_16)
    obtain rfl := List.mem_singleton.mp hE
    refine vx_catch (name := sU) hown [⟨0, 10, 13, 19⟩] ⟨0, 10, 17, 13⟩ [] htab (fun z hz => Or.inr (by rw [List.mem_singleton.mp hz]; exact ⟨by decide, sI, hts (.classLink sLaw 19 sI) (inT_ok (i := 481) (by decide +kernel)), hG.2⟩)) (by decide) (by decide) (hts (.classLink sLaw 13 sU) (inT_ok (i := 406) (by decide +kernel))) (va_Nw.use rfl (hG.1.2.1 sU (by decide))) hc1 hc2 hc3 ?_
    refine lv_astore hx hb dWpack_17 hl (by decide) rfl fun ls hl => ?_
    exact lv_iconst hx hb dWpack_19 rfl (fin _ 20 ls H1 locs1 hL1 (hO.kept (hk1 o hO.lt ho)) hS1 dWpack_20)
  obtain ⟨n, rfl⟩ := hrt
  refine lv_i2l hx hb dWpack_8 rfl ?_
  refine wr_last hx hb hK hL1 (hO.kept (hk1 o hO.lt ho)) ho hA hS1 dWpack_9 fun H1 locs1 hL1 hO1 hS1 => ?_
  refine lv_goto hx hb dWpack_10 (tgt := 21) rfl ?_
  exact lv_iconst hx hb dWpack_21 rfl (fin _ 22 ls H1 locs1 hL1 hO1 hS1 dWpack_22)
theorem dWunpack_0 : decode method_5_code 0 = .ok (.aload_n 2, 1) := by decide +kernel
theorem dWunpack_1 : decode method_5_code 1 = .ok (.iconst 0, 1) := by decide +kernel
theorem dWunpack_2 : decode method_5_code 2 = .ok (.aload_n 0, 1) := by decide +kernel
theorem dWunpack_3 : decode method_5_code 3 = .ok (.iload_n 1, 1) := by decide +kernel
theorem dWunpack_4 : decode method_5_code 4 = .ok (.invokevirtual 21, 3) := by decide +kernel
theorem dWunpack_7 : decode method_5_code 7 = .ok (.i2l, 1) := by decide +kernel
theorem dWunpack_8 : decode method_5_code 8 = .ok (.lastore, 1) := by decide +kernel
theorem dWunpack_9 : decode method_5_code 9 = .ok (.goto 6, 3) := by decide +kernel
theorem dWunpack_12 : decode method_5_code 12 = .ok (.astore_n 3, 1) := by decide +kernel
theorem dWunpack_13 : decode method_5_code 13 = .ok (.iconst 1, 1) := by decide +kernel
theorem dWunpack_14 : decode method_5_code 14 = .ok (.ireturn, 1) := by decide +kernel
theorem dWunpack_15 : decode method_5_code 15 = .ok (.iconst 0, 1) := by decide +kernel
theorem dWunpack_16 : decode method_5_code 16 = .ok (.ireturn, 1) := by decide +kernel
abbrev yW_unpack : MethodName := ⟨sLaw, "unpack", "(LFlateFilter;I[J)I"⟩
def hW_unpack : List (Nat × Nat × Nat × Nat) := [(0, 9, 12, 19)]
def wW_unpack : List Cond := Cond.codeWith yW_unpack method_5_code 4 (some .int) hW_unpack :: TB
theorem wr_unpack {l : Launch} (hl0 : l.stackTraces = false) (x : Int32) {D : va_G} {cy : Nat → ClassId} {ads : List Nat} {H : Heap} {a o : Nat} {cL : ClassId} (h : Lies D nCl cy iCs ads H) (ha : ads[0]? = some a) (hO : OutC D cL o H) (ho : o ∉ ads) : vx_Met l yW_unpack wW_unpack rmW (wrP D cy ads o cL H [.ref a, .int x, .ref o]) (wrQ D cy ads o cL H) wrX 1 6 (stA (ads ++ [o]) H.size) := by
  refine vx_ofWH (cc := method_5_code) (maxL := 4) (ret := some .int) (hh := hW_unpack) (by decide) rfl ?_
  intro p e s m args below meth c s₁ B hml hv
  obtain ⟨rfl, hH, hK, hG⟩ := hv
  subst hH
  have hx := B.exec
  have hb := B.bytes
  have hr := B.returns
  have hts0 : ∀ w ∈ wW_unpack, w.before [Value.ref a, Value.int x, Value.ref o].toArray s = true := atoms_spec (ws := wW_unpack) B.pre
  have hts : ∀ w ∈ TB, w.before [Value.ref a, Value.int x, Value.ref o].toArray s = true := fun w hw => hts0 w (List.mem_cons_of_mem _ hw)
  have htab := vx_table (x := yW_unpack) B (hts0 _ List.mem_cons_self)
  have hown : s.vm.findClass sLaw = some m.cls := findClass_of_methodNamed B.named
  have hlocks := B.notSynchronized
  have S : CallFix p m c method_5_code 4 s [Value.ref a, Value.int x, Value.ref o].toArray TB sLaw := ⟨hx, hb, hml, hown, hts⟩
  have hA : ∀ q, q ∈ ads ∨ q = o → stA (ads ++ [o]) s.heap.size q := fun q h => Or.inl (h.elim (fun h => List.mem_append_left _ h) (fun h => List.mem_append_right _ (List.mem_singleton.mpr h)))
  have hS : va_S (stA (ads ++ [o]) s.heap.size) s.heap s.heap [] := va_S.rf
  have hl := lv_entry [Value.ref a, Value.int x, Value.ref o] (n := 4) (Nat.le_of_ble_eq_true rfl)
  rw [lg_entry_eq]
  generalize (lg_sl [Value.ref a, Value.int x, Value.ref o] ++ List.replicate (4 - (lg_sl [Value.ref a, Value.int x, Value.ref o]).length) Slot.unset).toArray = ls at hl ⊢
  have hl : lv_has ls 4 [(0, .ref a), (1, .int x), (2, .ref o)] := hl
  have fin : ∀ (r : Int32) (pc : Nat) (ls : Array Slot) (H1 : Heap) (locs1 : List Loc), Lies D nCl cy iCs ads H1 → OutC D cL o H1 → va_S (stA (ads ++ [o]) s.heap.size) s.heap H1 locs1 → decode method_5_code pc = .ok (.ireturn, 1) → W p l e rmW s m [Value.ref a, Value.int x, Value.ref o].toArray below meth c H1 locs1 1 6 (vx_MQ below (wrQ D cy ads o cL s.heap) wrX [Value.ref a, Value.int x, Value.ref o].toArray s 1 6 (stA (ads ++ [o]) s.heap.size)) (F0 m pc ls [.int r]) := fun r pc ls H1 locs1 h1 h2 h3 h4 => vx_ret (W.iret hx hb hr (fun t ht hW => ⟨⟨r, (), rfl, trivial, by rw [ht]; exact h1, by rw [ht]; exact h2⟩, by rw [ht]; exact h3.1, fun q g1 g2 => by rw [ht]; exact h3.2.1 q g1 g2⟩) h3.2.2 h4)
  refine lv_aload_n hx hb dWunpack_0 rfl (lv_at hl 2 rfl) ?_
  refine lv_iconst hx hb dWunpack_1 rfl ?_
  refine lv_aload_n hx hb dWunpack_2 rfl (lv_at hl 0 rfl) ?_
  refine lv_iload_n hx hb dWunpack_3 rfl (lv_at hl 1 rfl) ?_
  refine wr_call (A := stA (ads ++ [o]) s.heap.size) (As := [.int x]) (rest := [.int (Int32.ofInt 0), .ref o]) S (sC_unpack hl0 x h ha) (List.mem_of_getElem? (i := 110) rfl) ⟨inT_ok (i := 785) (by decide +kernel), inT_ok (i := 786) (by decide +kernel), inT_ok (i := 787) (by decide +kernel)⟩ rfl ⟨Nat.le_refl _, by show 8 + (3 + 11) + 189 ≤ 211; decide⟩ ⟨Nat.le_refl _, Nat.le_refl _⟩ (tyL.toC hK) (fun U hU hW => hG.toC hU hW) h ha (fun q hq => hq.elim (fun z => hA q (Or.inl z)) Or.inr) hS rfl hl.1 (Nat.le_of_ble_eq_true rfl) dWunpack_4 (fun E ce q9 H1 locs1 hE hL1 hS1 hk1 hc1 hc2 hc3 => ?_) (fun r H1 locs1 hrt hL1 hS1 hk1 => ?_)
  · obtain rfl := List.mem_singleton.mp hE
    refine vx_catch (name := sI) hown [] ⟨0, 9, 12, 19⟩ [] htab (fun z hz => by cases hz) (by decide) (by decide) (hts (.classLink sLaw 19 sI) (inT_ok (i := 481) (by decide +kernel))) (va_Nw.use rfl (hG.1.2.1 sI (by decide))) hc1 hc2 hc3 ?_
    refine lv_astore_n hx hb dWunpack_12 rfl hl (by decide) rfl fun ls hl => ?_
    exact lv_iconst hx hb dWunpack_13 rfl (fin _ 14 ls H1 locs1 hL1 (hO.kept (hk1 o hO.lt ho)) hS1 dWunpack_14)
  obtain ⟨n, rfl⟩ := hrt
  refine lv_i2l hx hb dWunpack_7 rfl ?_
  refine wr_last hx hb hK hL1 (hO.kept (hk1 o hO.lt ho)) ho hA hS1 dWunpack_8 fun H1 locs1 hL1 hO1 hS1 => ?_
  refine lv_goto hx hb dWunpack_9 (tgt := 15) rfl ?_
  exact lv_iconst hx hb dWunpack_15 rfl (fin _ 16 ls H1 locs1 hL1 hO1 hS1 dWunpack_16)
theorem dWout_0 : decode method_6_code 0 = .ok (.aload_n 2, 1) := by decide +kernel
theorem dWout_1 : decode method_6_code 1 = .ok (.iconst 0, 1) := by decide +kernel
theorem dWout_2 : decode method_6_code 2 = .ok (.aload_n 0, 1) := by decide +kernel
theorem dWout_3 : decode method_6_code 3 = .ok (.iload_n 1, 1) := by decide +kernel
theorem dWout_4 : decode method_6_code 4 = .ok (.invokevirtual 25, 3) := by decide +kernel
theorem dWout_7 : decode method_6_code 7 = .ok (.i2l, 1) := by decide +kernel
theorem dWout_8 : decode method_6_code 8 = .ok (.lastore, 1) := by decide +kernel
theorem dWout_9 : decode method_6_code 9 = .ok (.goto 6, 3) := by decide +kernel
theorem dWout_12 : decode method_6_code 12 = .ok (.astore_n 3, 1) := by decide +kernel
theorem dWout_13 : decode method_6_code 13 = .ok (.iconst 1, 1) := by decide +kernel
theorem dWout_14 : decode method_6_code 14 = .ok (.ireturn, 1) := by decide +kernel
theorem dWout_15 : decode method_6_code 15 = .ok (.iconst 0, 1) := by decide +kernel
theorem dWout_16 : decode method_6_code 16 = .ok (.ireturn, 1) := by decide +kernel
abbrev yW_out : MethodName := ⟨sLaw, "out", "(LFlateFilter;I[J)I"⟩
def hW_out : List (Nat × Nat × Nat × Nat) := [(0, 9, 12, 29)]
def wW_out : List Cond := Cond.codeWith yW_out method_6_code 4 (some .int) hW_out :: TB
theorem wr_out {l : Launch} (hl0 : l.stackTraces = false) (x : Int32) {D : va_G} {cy : Nat → ClassId} {ads : List Nat} {H : Heap} {a o : Nat} {cL : ClassId} (h : Lies D nCl cy iCs ads H) (ha : ads[0]? = some a) (hO : OutC D cL o H) (ho : o ∉ ads) : vx_Met l yW_out wW_out rmW (wrP D cy ads o cL H [.ref a, .int x, .ref o]) (wrQ D cy ads o cL H) wrX 1 6 (stA (ads ++ [o]) H.size) := by
  refine vx_ofWH (cc := method_6_code) (maxL := 4) (ret := some .int) (hh := hW_out) (by decide) rfl ?_
  intro p e s m args below meth c s₁ B hml hv
  obtain ⟨rfl, hH, hK, hG⟩ := hv
  subst hH
  have hx := B.exec
  have hb := B.bytes
  have hr := B.returns
  have hts0 : ∀ w ∈ wW_out, w.before [Value.ref a, Value.int x, Value.ref o].toArray s = true := atoms_spec (ws := wW_out) B.pre
  have hts : ∀ w ∈ TB, w.before [Value.ref a, Value.int x, Value.ref o].toArray s = true := fun w hw => hts0 w (List.mem_cons_of_mem _ hw)
  have htab := vx_table (x := yW_out) B (hts0 _ List.mem_cons_self)
  have hown : s.vm.findClass sLaw = some m.cls := findClass_of_methodNamed B.named
  have hlocks := B.notSynchronized
  have S : CallFix p m c method_6_code 4 s [Value.ref a, Value.int x, Value.ref o].toArray TB sLaw := ⟨hx, hb, hml, hown, hts⟩
  have hA : ∀ q, q ∈ ads ∨ q = o → stA (ads ++ [o]) s.heap.size q := fun q h => Or.inl (h.elim (fun h => List.mem_append_left _ h) (fun h => List.mem_append_right _ (List.mem_singleton.mpr h)))
  have hS : va_S (stA (ads ++ [o]) s.heap.size) s.heap s.heap [] := va_S.rf
  have hl := lv_entry [Value.ref a, Value.int x, Value.ref o] (n := 4) (Nat.le_of_ble_eq_true rfl)
  rw [lg_entry_eq]
  generalize (lg_sl [Value.ref a, Value.int x, Value.ref o] ++ List.replicate (4 - (lg_sl [Value.ref a, Value.int x, Value.ref o]).length) Slot.unset).toArray = ls at hl ⊢
  have hl : lv_has ls 4 [(0, .ref a), (1, .int x), (2, .ref o)] := hl
  have fin : ∀ (r : Int32) (pc : Nat) (ls : Array Slot) (H1 : Heap) (locs1 : List Loc), Lies D nCl cy iCs ads H1 → OutC D cL o H1 → va_S (stA (ads ++ [o]) s.heap.size) s.heap H1 locs1 → decode method_6_code pc = .ok (.ireturn, 1) → W p l e rmW s m [Value.ref a, Value.int x, Value.ref o].toArray below meth c H1 locs1 1 6 (vx_MQ below (wrQ D cy ads o cL s.heap) wrX [Value.ref a, Value.int x, Value.ref o].toArray s 1 6 (stA (ads ++ [o]) s.heap.size)) (F0 m pc ls [.int r]) := fun r pc ls H1 locs1 h1 h2 h3 h4 => vx_ret (W.iret hx hb hr (fun t ht hW => ⟨⟨r, (), rfl, trivial, by rw [ht]; exact h1, by rw [ht]; exact h2⟩, by rw [ht]; exact h3.1, fun q g1 g2 => by rw [ht]; exact h3.2.1 q g1 g2⟩) h3.2.2 h4)
  refine lv_aload_n hx hb dWout_0 rfl (lv_at hl 2 rfl) ?_
  refine lv_iconst hx hb dWout_1 rfl ?_
  refine lv_aload_n hx hb dWout_2 rfl (lv_at hl 0 rfl) ?_
  refine lv_iload_n hx hb dWout_3 rfl (lv_at hl 1 rfl) ?_
  refine wr_call (A := stA (ads ++ [o]) s.heap.size) (As := [.int x]) (rest := [.int (Int32.ofInt 0), .ref o]) S (sC_out hl0 x h ha) (List.mem_of_getElem? (i := 111) rfl) ⟨inT_ok (i := 959) (by decide +kernel), inT_ok (i := 960) (by decide +kernel), inT_ok (i := 961) (by decide +kernel)⟩ rfl ⟨Nat.le_refl _, by show 8 + (2 + 11) + 189 ≤ 211; decide⟩ ⟨Nat.le_refl _, Nat.le_refl _⟩ (tyL.toC hK) (fun U hU hW => hG.toC hU hW) h ha (fun q hq => hq.elim (fun z => hA q (Or.inl z)) Or.inr) hS rfl hl.1 (Nat.le_of_ble_eq_true rfl) dWout_4 (fun E ce q9 H1 locs1 hE hL1 hS1 hk1 hc1 hc2 hc3 => ?_) (fun r H1 locs1 hrt hL1 hS1 hk1 => ?_)
  · obtain rfl := List.mem_singleton.mp hE
    refine vx_catch (name := sA) hown [] ⟨0, 9, 12, 29⟩ [] htab (fun z hz => by cases hz) (by decide) (by decide) (hts (.classLink sLaw 29 sA) (inT_ok (i := 958) (by decide +kernel))) (va_Nw.use rfl (hG.1.2.1 sA (by decide))) hc1 hc2 hc3 ?_
    refine lv_astore_n hx hb dWout_12 rfl hl (by decide) rfl fun ls hl => ?_
    exact lv_iconst hx hb dWout_13 rfl (fin _ 14 ls H1 locs1 hL1 (hO.kept (hk1 o hO.lt ho)) hS1 dWout_14)
  obtain ⟨n, rfl⟩ := hrt
  refine lv_i2l hx hb dWout_7 rfl ?_
  refine wr_last hx hb hK hL1 (hO.kept (hk1 o hO.lt ho)) ho hA hS1 dWout_8 fun H1 locs1 hL1 hO1 hS1 => ?_
  refine lv_goto hx hb dWout_9 (tgt := 15) rfl ?_
  exact lv_iconst hx hb dWout_15 rfl (fin _ 16 ls H1 locs1 hL1 hO1 hS1 dWout_16)
theorem dWsum_0 : decode method_7_code 0 = .ok (.aload_n 2, 1) := by decide +kernel
theorem dWsum_1 : decode method_7_code 1 = .ok (.iconst 0, 1) := by decide +kernel
theorem dWsum_2 : decode method_7_code 2 = .ok (.aload_n 0, 1) := by decide +kernel
theorem dWsum_3 : decode method_7_code 3 = .ok (.iload_n 1, 1) := by decide +kernel
theorem dWsum_4 : decode method_7_code 4 = .ok (.invokevirtual 31, 3) := by decide +kernel
theorem dWsum_7 : decode method_7_code 7 = .ok (.lastore, 1) := by decide +kernel
theorem dWsum_8 : decode method_7_code 8 = .ok (.goto 6, 3) := by decide +kernel
theorem dWsum_11 : decode method_7_code 11 = .ok (.astore_n 3, 1) := by decide +kernel
theorem dWsum_12 : decode method_7_code 12 = .ok (.iconst 1, 1) := by decide +kernel
theorem dWsum_13 : decode method_7_code 13 = .ok (.ireturn, 1) := by decide +kernel
theorem dWsum_14 : decode method_7_code 14 = .ok (.iconst 0, 1) := by decide +kernel
theorem dWsum_15 : decode method_7_code 15 = .ok (.ireturn, 1) := by decide +kernel
abbrev yW_sum : MethodName := ⟨sLaw, "sum", "(LFlateFilter;I[J)I"⟩
def hW_sum : List (Nat × Nat × Nat × Nat) := [(0, 8, 11, 19)]
def wW_sum : List Cond := Cond.codeWith yW_sum method_7_code 4 (some .int) hW_sum :: TB
theorem wr_sum {l : Launch} (hl0 : l.stackTraces = false) (x : Int32) {D : va_G} {cy : Nat → ClassId} {ads : List Nat} {H : Heap} {a o : Nat} {cL : ClassId} (h : Lies D nCl cy iCs ads H) (ha : ads[0]? = some a) (hO : OutC D cL o H) (ho : o ∉ ads) : vx_Met l yW_sum wW_sum rmW (wrP D cy ads o cL H [.ref a, .int x, .ref o]) (wrQ D cy ads o cL H) wrX 1 6 (stA (ads ++ [o]) H.size) := by
  refine vx_ofWH (cc := method_7_code) (maxL := 4) (ret := some .int) (hh := hW_sum) (by decide) rfl ?_
  intro p e s m args below meth c s₁ B hml hv
  obtain ⟨rfl, hH, hK, hG⟩ := hv
  subst hH
  have hx := B.exec
  have hb := B.bytes
  have hr := B.returns
  have hts0 : ∀ w ∈ wW_sum, w.before [Value.ref a, Value.int x, Value.ref o].toArray s = true := atoms_spec (ws := wW_sum) B.pre
  have hts : ∀ w ∈ TB, w.before [Value.ref a, Value.int x, Value.ref o].toArray s = true := fun w hw => hts0 w (List.mem_cons_of_mem _ hw)
  have htab := vx_table (x := yW_sum) B (hts0 _ List.mem_cons_self)
  have hown : s.vm.findClass sLaw = some m.cls := findClass_of_methodNamed B.named
  have hlocks := B.notSynchronized
  have S : CallFix p m c method_7_code 4 s [Value.ref a, Value.int x, Value.ref o].toArray TB sLaw := ⟨hx, hb, hml, hown, hts⟩
  have hA : ∀ q, q ∈ ads ∨ q = o → stA (ads ++ [o]) s.heap.size q := fun q h => Or.inl (h.elim (fun h => List.mem_append_left _ h) (fun h => List.mem_append_right _ (List.mem_singleton.mpr h)))
  have hS : va_S (stA (ads ++ [o]) s.heap.size) s.heap s.heap [] := va_S.rf
  have hl := lv_entry [Value.ref a, Value.int x, Value.ref o] (n := 4) (Nat.le_of_ble_eq_true rfl)
  rw [lg_entry_eq]
  generalize (lg_sl [Value.ref a, Value.int x, Value.ref o] ++ List.replicate (4 - (lg_sl [Value.ref a, Value.int x, Value.ref o]).length) Slot.unset).toArray = ls at hl ⊢
  have hl : lv_has ls 4 [(0, .ref a), (1, .int x), (2, .ref o)] := hl
  have fin : ∀ (r : Int32) (pc : Nat) (ls : Array Slot) (H1 : Heap) (locs1 : List Loc), Lies D nCl cy iCs ads H1 → OutC D cL o H1 → va_S (stA (ads ++ [o]) s.heap.size) s.heap H1 locs1 → decode method_7_code pc = .ok (.ireturn, 1) → W p l e rmW s m [Value.ref a, Value.int x, Value.ref o].toArray below meth c H1 locs1 1 6 (vx_MQ below (wrQ D cy ads o cL s.heap) wrX [Value.ref a, Value.int x, Value.ref o].toArray s 1 6 (stA (ads ++ [o]) s.heap.size)) (F0 m pc ls [.int r]) := fun r pc ls H1 locs1 h1 h2 h3 h4 => vx_ret (W.iret hx hb hr (fun t ht hW => ⟨⟨r, (), rfl, trivial, by rw [ht]; exact h1, by rw [ht]; exact h2⟩, by rw [ht]; exact h3.1, fun q g1 g2 => by rw [ht]; exact h3.2.1 q g1 g2⟩) h3.2.2 h4)
  refine lv_aload_n hx hb dWsum_0 rfl (lv_at hl 2 rfl) ?_
  refine lv_iconst hx hb dWsum_1 rfl ?_
  refine lv_aload_n hx hb dWsum_2 rfl (lv_at hl 0 rfl) ?_
  refine lv_iload_n hx hb dWsum_3 rfl (lv_at hl 1 rfl) ?_
  refine wr_call (A := stA (ads ++ [o]) s.heap.size) (As := [.int x]) (rest := [.int (Int32.ofInt 0), .ref o]) S (sC_sum hl0 x h ha) (List.mem_of_getElem? (i := 114) rfl) ⟨inT_ok (i := 987) (by decide +kernel), inT_ok (i := 988) (by decide +kernel), inT_ok (i := 989) (by decide +kernel)⟩ rfl ⟨Nat.le_refl _, by show 8 + (2 + 11) + 189 ≤ 211; decide⟩ ⟨Nat.le_refl _, Nat.le_refl _⟩ (tyL.toC hK) (fun U hU hW => hG.toC hU hW) h ha (fun q hq => hq.elim (fun z => hA q (Or.inl z)) Or.inr) hS rfl hl.1 (Nat.le_of_ble_eq_true rfl) dWsum_4 (fun E ce q9 H1 locs1 hE hL1 hS1 hk1 hc1 hc2 hc3 => ?_) (fun r H1 locs1 hrt hL1 hS1 hk1 => ?_)
  · obtain rfl := List.mem_singleton.mp hE
    refine vx_catch (name := sI) hown [] ⟨0, 8, 11, 19⟩ [] htab (fun z hz => by cases hz) (by decide) (by decide) (hts (.classLink sLaw 19 sI) (inT_ok (i := 481) (by decide +kernel))) (va_Nw.use rfl (hG.1.2.1 sI (by decide))) hc1 hc2 hc3 ?_
    refine lv_astore_n hx hb dWsum_11 rfl hl (by decide) rfl fun ls hl => ?_
    exact lv_iconst hx hb dWsum_12 rfl (fin _ 13 ls H1 locs1 hL1 (hO.kept (hk1 o hO.lt ho)) hS1 dWsum_13)
  obtain ⟨n, rfl⟩ := hrt
  refine wr_last hx hb hK hL1 (hO.kept (hk1 o hO.lt ho)) ho hA hS1 dWsum_7 fun H1 locs1 hL1 hO1 hS1 => ?_
  refine lv_goto hx hb dWsum_8 (tgt := 14) rfl ?_
  exact lv_iconst hx hb dWsum_14 rfl (fin _ 15 ls H1 locs1 hL1 hO1 hS1 dWsum_15)
theorem dWchain_0 : decode method_8_code 0 = .ok (.aload_n 2, 1) := by decide +kernel
theorem dWchain_1 : decode method_8_code 1 = .ok (.iconst 0, 1) := by decide +kernel
theorem dWchain_2 : decode method_8_code 2 = .ok (.aload_n 0, 1) := by decide +kernel
theorem dWchain_3 : decode method_8_code 3 = .ok (.iload_n 1, 1) := by decide +kernel
theorem dWchain_4 : decode method_8_code 4 = .ok (.invokevirtual 35, 3) := by decide +kernel
theorem dWchain_7 : decode method_8_code 7 = .ok (.i2l, 1) := by decide +kernel
theorem dWchain_8 : decode method_8_code 8 = .ok (.lastore, 1) := by decide +kernel
theorem dWchain_9 : decode method_8_code 9 = .ok (.goto 9, 3) := by decide +kernel
theorem dWchain_12 : decode method_8_code 12 = .ok (.astore_n 3, 1) := by decide +kernel
theorem dWchain_13 : decode method_8_code 13 = .ok (.iconst 1, 1) := by decide +kernel
theorem dWchain_14 : decode method_8_code 14 = .ok (.ireturn, 1) := by decide +kernel
theorem dWchain_15 : decode method_8_code 15 = .ok (.astore_n 3, 1) := by decide +kernel
theorem dWchain_16 : decode method_8_code 16 = .ok (.iconst 2, 1) := by decide +kernel
theorem dWchain_17 : decode method_8_code 17 = .ok (.ireturn, 1) := by decide +kernel
theorem dWchain_18 : decode method_8_code 18 = .ok (.iconst 0, 1) := by decide +kernel
theorem dWchain_19 : decode method_8_code 19 = .ok (.ireturn, 1) := by decide +kernel
abbrev yW_chain : MethodName := ⟨sLaw, "chain", "(LFlateFilter;I[J)I"⟩
def hW_chain : List (Nat × Nat × Nat × Nat) := [(0, 9, 12, 19), (0, 9, 15, 13)]
def wW_chain : List Cond := Cond.codeWith yW_chain method_8_code 4 (some .int) hW_chain :: TB
theorem wr_chain {l : Launch} (hl0 : l.stackTraces = false) (x : Int32) {D : va_G} {cy : Nat → ClassId} {ads : List Nat} {H : Heap} {a o : Nat} {cL : ClassId} (h : Lies D nCl cy iCs ads H) (ha : ads[0]? = some a) (hO : OutC D cL o H) (ho : o ∉ ads) : vx_Met l yW_chain wW_chain rmW (wrP D cy ads o cL H [.ref a, .int x, .ref o]) (wrQ D cy ads o cL H) wrX 1 6 (stA (ads ++ [o]) H.size) := by
  refine vx_ofWH (cc := method_8_code) (maxL := 4) (ret := some .int) (hh := hW_chain) (by decide) rfl ?_
  intro p e s m args below meth c s₁ B hml hv
  obtain ⟨rfl, hH, hK, hG⟩ := hv
  subst hH
  have hx := B.exec
  have hb := B.bytes
  have hr := B.returns
  have hts0 : ∀ w ∈ wW_chain, w.before [Value.ref a, Value.int x, Value.ref o].toArray s = true := atoms_spec (ws := wW_chain) B.pre
  have hts : ∀ w ∈ TB, w.before [Value.ref a, Value.int x, Value.ref o].toArray s = true := fun w hw => hts0 w (List.mem_cons_of_mem _ hw)
  have htab := vx_table (x := yW_chain) B (hts0 _ List.mem_cons_self)
  have hown : s.vm.findClass sLaw = some m.cls := findClass_of_methodNamed B.named
  have hlocks := B.notSynchronized
  have S : CallFix p m c method_8_code 4 s [Value.ref a, Value.int x, Value.ref o].toArray TB sLaw := ⟨hx, hb, hml, hown, hts⟩
  have hA : ∀ q, q ∈ ads ∨ q = o → stA (ads ++ [o]) s.heap.size q := fun q h => Or.inl (h.elim (fun h => List.mem_append_left _ h) (fun h => List.mem_append_right _ (List.mem_singleton.mpr h)))
  have hS : va_S (stA (ads ++ [o]) s.heap.size) s.heap s.heap [] := va_S.rf
  have hl := lv_entry [Value.ref a, Value.int x, Value.ref o] (n := 4) (Nat.le_of_ble_eq_true rfl)
  rw [lg_entry_eq]
  generalize (lg_sl [Value.ref a, Value.int x, Value.ref o] ++ List.replicate (4 - (lg_sl [Value.ref a, Value.int x, Value.ref o]).length) Slot.unset).toArray = ls at hl ⊢
  have hl : lv_has ls 4 [(0, .ref a), (1, .int x), (2, .ref o)] := hl
  have fin : ∀ (r : Int32) (pc : Nat) (ls : Array Slot) (H1 : Heap) (locs1 : List Loc), Lies D nCl cy iCs ads H1 → OutC D cL o H1 → va_S (stA (ads ++ [o]) s.heap.size) s.heap H1 locs1 → decode method_8_code pc = .ok (.ireturn, 1) → W p l e rmW s m [Value.ref a, Value.int x, Value.ref o].toArray below meth c H1 locs1 1 6 (vx_MQ below (wrQ D cy ads o cL s.heap) wrX [Value.ref a, Value.int x, Value.ref o].toArray s 1 6 (stA (ads ++ [o]) s.heap.size)) (F0 m pc ls [.int r]) := fun r pc ls H1 locs1 h1 h2 h3 h4 => vx_ret (W.iret hx hb hr (fun t ht hW => ⟨⟨r, (), rfl, trivial, by rw [ht]; exact h1, by rw [ht]; exact h2⟩, by rw [ht]; exact h3.1, fun q g1 g2 => by rw [ht]; exact h3.2.1 q g1 g2⟩) h3.2.2 h4)
  refine lv_aload_n hx hb dWchain_0 rfl (lv_at hl 2 rfl) ?_
  refine lv_iconst hx hb dWchain_1 rfl ?_
  refine lv_aload_n hx hb dWchain_2 rfl (lv_at hl 0 rfl) ?_
  refine lv_iload_n hx hb dWchain_3 rfl (lv_at hl 1 rfl) ?_
  refine wr_call (A := stA (ads ++ [o]) s.heap.size) (As := [.int x]) (rest := [.int (Int32.ofInt 0), .ref o]) S (sC_chain hl0 x h ha) (List.mem_of_getElem? (i := 116) rfl) ⟨inT_ok (i := 1001) (by decide +kernel), inT_ok (i := 1002) (by decide +kernel), inT_ok (i := 1003) (by decide +kernel)⟩ rfl ⟨Nat.le_refl _, by show 8 + (3 + 11) + 189 ≤ 211; decide⟩ ⟨Nat.le_refl _, Nat.le_refl _⟩ (tyL.toC hK) (fun U hU hW => hG.toC hU hW) h ha (fun q hq => hq.elim (fun z => hA q (Or.inl z)) Or.inr) hS rfl hl.1 (Nat.le_of_ble_eq_true rfl) dWchain_4 (fun E ce q9 H1 locs1 hE hL1 hS1 hk1 hc1 hc2 hc3 => ?_) (fun r H1 locs1 hrt hL1 hS1 hk1 => ?_)
  · rcases List.mem_cons.mp hE with rfl | hE
    · refine vx_catch (name := sI) hown [] ⟨0, 9, 12, 19⟩ [⟨0, 9, 15, 13⟩] htab (fun z hz => by cases hz) (by decide) (by decide) (hts (.classLink sLaw 19 sI) (inT_ok (i := 481) (by decide +kernel))) (va_Nw.use rfl (hG.1.2.1 sI (by decide))) hc1 hc2 hc3 ?_
      refine lv_astore_n hx hb dWchain_12 rfl hl (by decide) rfl fun ls hl => ?_
      exact lv_iconst hx hb dWchain_13 rfl (fin _ 14 ls H1 locs1 hL1 (hO.kept (hk1 o hO.lt ho)) hS1 dWchain_14)
    obtain rfl := List.mem_singleton.mp hE
    refine vx_catch (name := sU) hown [⟨0, 9, 12, 19⟩] ⟨0, 9, 15, 13⟩ [] htab (fun z hz => Or.inr (by rw [List.mem_singleton.mp hz]; exact ⟨by decide, sI, hts (.classLink sLaw 19 sI) (inT_ok (i := 481) (by decide +kernel)), hG.2⟩)) (by decide) (by decide) (hts (.classLink sLaw 13 sU) (inT_ok (i := 406) (by decide +kernel))) (va_Nw.use rfl (hG.1.2.1 sU (by decide))) hc1 hc2 hc3 ?_
    refine lv_astore_n hx hb dWchain_15 rfl hl (by decide) rfl fun ls hl => ?_
    exact lv_iconst hx hb dWchain_16 rfl (fin _ 17 ls H1 locs1 hL1 (hO.kept (hk1 o hO.lt ho)) hS1 dWchain_17)
  obtain ⟨n, rfl⟩ := hrt
  refine lv_i2l hx hb dWchain_7 rfl ?_
  refine wr_last hx hb hK hL1 (hO.kept (hk1 o hO.lt ho)) ho hA hS1 dWchain_8 fun H1 locs1 hL1 hO1 hS1 => ?_
  refine lv_goto hx hb dWchain_9 (tgt := 18) rfl ?_
  exact lv_iconst hx hb dWchain_18 rfl (fin _ 19 ls H1 locs1 hL1 hO1 hS1 dWchain_19)
theorem dWcell_0 : decode method_9_code 0 = .ok (.aload_n 2, 1) := by decide +kernel
theorem dWcell_1 : decode method_9_code 1 = .ok (.iconst 0, 1) := by decide +kernel
theorem dWcell_2 : decode method_9_code 2 = .ok (.aload_n 0, 1) := by decide +kernel
theorem dWcell_3 : decode method_9_code 3 = .ok (.iload_n 1, 1) := by decide +kernel
theorem dWcell_4 : decode method_9_code 4 = .ok (.invokevirtual 38, 3) := by decide +kernel
theorem dWcell_7 : decode method_9_code 7 = .ok (.i2l, 1) := by decide +kernel
theorem dWcell_8 : decode method_9_code 8 = .ok (.lastore, 1) := by decide +kernel
theorem dWcell_9 : decode method_9_code 9 = .ok (.goto 6, 3) := by decide +kernel
theorem dWcell_12 : decode method_9_code 12 = .ok (.astore_n 3, 1) := by decide +kernel
theorem dWcell_13 : decode method_9_code 13 = .ok (.iconst 1, 1) := by decide +kernel
theorem dWcell_14 : decode method_9_code 14 = .ok (.ireturn, 1) := by decide +kernel
theorem dWcell_15 : decode method_9_code 15 = .ok (.iconst 0, 1) := by decide +kernel
theorem dWcell_16 : decode method_9_code 16 = .ok (.ireturn, 1) := by decide +kernel
abbrev yW_cell : MethodName := ⟨sLaw, "cell", "(LFlateFilter;I[J)I"⟩
def hW_cell : List (Nat × Nat × Nat × Nat) := [(0, 9, 12, 29)]
def wW_cell : List Cond := Cond.codeWith yW_cell method_9_code 4 (some .int) hW_cell :: TB
theorem wr_cell {l : Launch} (hl0 : l.stackTraces = false) (x : Int32) {D : va_G} {cy : Nat → ClassId} {ads : List Nat} {H : Heap} {a o : Nat} {cL : ClassId} (h : Lies D nCl cy iCs ads H) (ha : ads[0]? = some a) (hO : OutC D cL o H) (ho : o ∉ ads) : vx_Met l yW_cell wW_cell rmW (wrP D cy ads o cL H [.ref a, .int x, .ref o]) (wrQ D cy ads o cL H) wrX 1 6 (stA (ads ++ [o]) H.size) := by
  refine vx_ofWH (cc := method_9_code) (maxL := 4) (ret := some .int) (hh := hW_cell) (by decide) rfl ?_
  intro p e s m args below meth c s₁ B hml hv
  obtain ⟨rfl, hH, hK, hG⟩ := hv
  subst hH
  have hx := B.exec
  have hb := B.bytes
  have hr := B.returns
  have hts0 : ∀ w ∈ wW_cell, w.before [Value.ref a, Value.int x, Value.ref o].toArray s = true := atoms_spec (ws := wW_cell) B.pre
  have hts : ∀ w ∈ TB, w.before [Value.ref a, Value.int x, Value.ref o].toArray s = true := fun w hw => hts0 w (List.mem_cons_of_mem _ hw)
  have htab := vx_table (x := yW_cell) B (hts0 _ List.mem_cons_self)
  have hown : s.vm.findClass sLaw = some m.cls := findClass_of_methodNamed B.named
  have hlocks := B.notSynchronized
  have S : CallFix p m c method_9_code 4 s [Value.ref a, Value.int x, Value.ref o].toArray TB sLaw := ⟨hx, hb, hml, hown, hts⟩
  have hA : ∀ q, q ∈ ads ∨ q = o → stA (ads ++ [o]) s.heap.size q := fun q h => Or.inl (h.elim (fun h => List.mem_append_left _ h) (fun h => List.mem_append_right _ (List.mem_singleton.mpr h)))
  have hS : va_S (stA (ads ++ [o]) s.heap.size) s.heap s.heap [] := va_S.rf
  have hl := lv_entry [Value.ref a, Value.int x, Value.ref o] (n := 4) (Nat.le_of_ble_eq_true rfl)
  rw [lg_entry_eq]
  generalize (lg_sl [Value.ref a, Value.int x, Value.ref o] ++ List.replicate (4 - (lg_sl [Value.ref a, Value.int x, Value.ref o]).length) Slot.unset).toArray = ls at hl ⊢
  have hl : lv_has ls 4 [(0, .ref a), (1, .int x), (2, .ref o)] := hl
  have fin : ∀ (r : Int32) (pc : Nat) (ls : Array Slot) (H1 : Heap) (locs1 : List Loc), Lies D nCl cy iCs ads H1 → OutC D cL o H1 → va_S (stA (ads ++ [o]) s.heap.size) s.heap H1 locs1 → decode method_9_code pc = .ok (.ireturn, 1) → W p l e rmW s m [Value.ref a, Value.int x, Value.ref o].toArray below meth c H1 locs1 1 6 (vx_MQ below (wrQ D cy ads o cL s.heap) wrX [Value.ref a, Value.int x, Value.ref o].toArray s 1 6 (stA (ads ++ [o]) s.heap.size)) (F0 m pc ls [.int r]) := fun r pc ls H1 locs1 h1 h2 h3 h4 => vx_ret (W.iret hx hb hr (fun t ht hW => ⟨⟨r, (), rfl, trivial, by rw [ht]; exact h1, by rw [ht]; exact h2⟩, by rw [ht]; exact h3.1, fun q g1 g2 => by rw [ht]; exact h3.2.1 q g1 g2⟩) h3.2.2 h4)
  refine lv_aload_n hx hb dWcell_0 rfl (lv_at hl 2 rfl) ?_
  refine lv_iconst hx hb dWcell_1 rfl ?_
  refine lv_aload_n hx hb dWcell_2 rfl (lv_at hl 0 rfl) ?_
  refine lv_iload_n hx hb dWcell_3 rfl (lv_at hl 1 rfl) ?_
  refine wr_call (A := stA (ads ++ [o]) s.heap.size) (As := [.int x]) (rest := [.int (Int32.ofInt 0), .ref o]) S (sC_cell hl0 x h ha) (List.mem_of_getElem? (i := 117) rfl) ⟨inT_ok (i := 1016) (by decide +kernel), inT_ok (i := 1017) (by decide +kernel), inT_ok (i := 1018) (by decide +kernel)⟩ rfl ⟨Nat.le_refl _, by show 8 + (2 + 11) + 189 ≤ 211; decide⟩ ⟨Nat.le_refl _, Nat.le_refl _⟩ (tyL.toC hK) (fun U hU hW => hG.toC hU hW) h ha (fun q hq => hq.elim (fun z => hA q (Or.inl z)) Or.inr) hS rfl hl.1 (Nat.le_of_ble_eq_true rfl) dWcell_4 (fun E ce q9 H1 locs1 hE hL1 hS1 hk1 hc1 hc2 hc3 => ?_) (fun r H1 locs1 hrt hL1 hS1 hk1 => ?_)
  · obtain rfl := List.mem_singleton.mp hE
    refine vx_catch (name := sA) hown [] ⟨0, 9, 12, 29⟩ [] htab (fun z hz => by cases hz) (by decide) (by decide) (hts (.classLink sLaw 29 sA) (inT_ok (i := 958) (by decide +kernel))) (va_Nw.use rfl (hG.1.2.1 sA (by decide))) hc1 hc2 hc3 ?_
    refine lv_astore_n hx hb dWcell_12 rfl hl (by decide) rfl fun ls hl => ?_
    exact lv_iconst hx hb dWcell_13 rfl (fin _ 14 ls H1 locs1 hL1 (hO.kept (hk1 o hO.lt ho)) hS1 dWcell_14)
  obtain ⟨n, rfl⟩ := hrt
  refine lv_i2l hx hb dWcell_7 rfl ?_
  refine wr_last hx hb hK hL1 (hO.kept (hk1 o hO.lt ho)) ho hA hS1 dWcell_8 fun H1 locs1 hL1 hO1 hS1 => ?_
  refine lv_goto hx hb dWcell_9 (tgt := 15) rfl ?_
  exact lv_iconst hx hb dWcell_15 rfl (fin _ 16 ls H1 locs1 hL1 hO1 hS1 dWcell_16)
