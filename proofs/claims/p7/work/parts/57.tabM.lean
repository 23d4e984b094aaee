/-! the reference's table -/
section TabM
variable {p : Program} {l : Launch} {e : Env} {R : Room} {s : State} {m : MethodId} {args : Array Value} {below : List Frame} {meth : Method} {c : Code} {H : Heap} {locs : List Loc} {cells slots : Nat} {Q : State → Prop} {v : Int32}
variable {D : va_G} {cy : Nat → ClassId} {ws : va_W} {ad : Nat → Nat} {vs : List Value} {fl : Nat → Int32} {A : Nat → Prop}
theorem stM_loop (hx : p.tables.exec = Jvm.exec) (hb : c.code = prog_14_method_58_code) (hts : ∀ w ∈ TB, w.before args s = true) (hown : s.vm.findClass RX12 = some m.cls) (hK : va_K D nCl (tysOf cy) s) (hP : va_P D nCl ws H) (h0 : ws[0]? = some (ad 0, .inr (9, vs))) (hv : vs[26]? = some (.ref (ad 9)))
    (h9 : ws[9]? = some (ad 9, .inl (cy 0, 960, .inl fl))) (hfl : ∀ k, k < 8 → fl (640 + k) = nb v k)
    (fin : ∀ (u : Int64) (ls : Array Slot), u.toInt = us v 8 → lv_has ls 7 [(3, .long u)] → W p l e R s m args below meth c H locs cells slots Q (F0 m 51 ls [])) :
    ∀ (j k : Nat) (u : Int64) (ls : Array Slot), 8 - k ≤ j → k ≤ 8 → u.toInt = us v k → lv_has ls 7 [(5, .int (Int32.ofNat k)), (3, .long u), (2, .int (Int8.ofInt 8).toInt32), (1, .int (Int32.ofInt 2)), (0, .ref (ad 0))] → W p l e R s m args below meth c H locs cells slots Q (F0 m 5 ls [])
  | j, k, u, ls, hj, hk, hu, hl => by
    have kz : (Int32.ofNat k).toInt = k := by
      have key : ∀ k, k < 9 → (Int32.ofNat k).toInt = k := by decide +kernel
      exact key k (by omega)
    have z8 : (Int8.ofInt 8).toInt32.toInt = 8 := by decide
    refine lv_iload hx hb dMs_5 (lv_at hl 0 rfl) ?_
    refine lv_iload_n hx hb dMs_7 rfl (lv_at hl 2 rfl) ?_
    refine lv_icmp_ge hx hb dMs_8 (tgt := 51) rfl (fun hc => ?_) (fun hc => ?_)
    · rw [le_z, kz, z8] at hc
      obtain rfl : k = 8 := by omega
      exact fin u ls hu (lv_sub hl [1] rfl)
    rw [le_z, kz, z8] at hc
    have hix : ((Int16.ofInt 320).toInt32 * Int32.ofInt 2 + Int32.ofNat k).toInt = 640 + k := by
      have key : ∀ k, k < 8 → ((Int16.ofInt 320).toInt32 * Int32.ofInt 2 + Int32.ofNat k).toInt = 640 + k := by decide +kernel
      exact key k (by omega)
    have hcl : ((Int16.ofInt 320).toInt32 * Int32.ofInt 2 + Int32.ofNat k).toNatClampNeg = 640 + k := by
      rw [clamp_z, hix]; omega
    refine lv_aload_n hx hb dMs_11 rfl (lv_at hl 4 rfl) ?_
    refine mget hx hb hts hown hK hP h0 (k := 26) (fin := true) (by decide) hv dMs_12 ?_
    refine lv_sipush hx hb dMs_15 rfl ?_
    refine lv_iload_n hx hb dMs_18 rfl (lv_at hl 3 rfl) ?_
    refine lv_imul hx hb dMs_19 ?_
    refine lv_iload hx hb dMs_20 (lv_at hl 0 rfl) ?_
    refine lv_iadd hx hb dMs_22 ?_
    refine va_iald hx hb hK hP 9 0 h9 rfl (inb (by rw [hix]; omega) (by rw [hix]; omega)) dMs_23 ?_
    rw [hcl, hfl k (by omega)]
    refine lv_istore hx hb dMs_24 hl (by decide) rfl fun ls hl => ?_
    have hl : lv_has ls 7 [(6, .int (nb v k)), (5, .int (Int32.ofNat k)), (3, .long u), (2, .int (Int8.ofInt 8).toInt32), (1, .int (Int32.ofInt 2)), (0, .ref (ad 0))] := hl
    have nr := nb_r v k
    obtain ⟨q, hq, hnq⟩ := n16 nr.1 nr.2
    have pr := pw_r q hq
    have ur := us_r v k
    have tail : ∀ u' : Int64, u'.toInt = us v (k + 1) → W p l e R s m args below meth c H locs cells slots Q (F0 m 44 ls [.long u']) := fun u' hu' => by
      refine lv_lstore_n hx hb dMs_44 rfl hl (by decide) rfl fun ls hl => ?_
      have hl : lv_has ls 7 [(3, .long u'), (6, .int (nb v k)), (5, .int (Int32.ofNat k)), (2, .int (Int8.ofInt 8).toInt32), (1, .int (Int32.ofInt 2)), (0, .ref (ad 0))] := hl
      refine lv_iinc hx hb dMs_45 hl (k := 2) rfl rfl (by decide) rfl fun ls hl => ?_
      have kn : Int32.ofNat k + Int32.ofInt 1 = Int32.ofNat (k + 1) := by
        have key : ∀ k, k < 8 → Int32.ofNat k + Int32.ofInt 1 = Int32.ofNat (k + 1) := by decide +kernel
        exact key k (by omega)
      rw [kn] at hl
      have hl : lv_has ls 7 [(5, .int (Int32.ofNat (k + 1))), (3, .long u'), (6, .int (nb v k)), (2, .int (Int8.ofInt 8).toInt32), (1, .int (Int32.ofInt 2)), (0, .ref (ad 0))] := hl
      refine lv_goto hx hb dMs_48 (tgt := 5) rfl ?_
      cases j with
      | zero => omega
      | succ j => exact stM_loop hx hb hts hown hK hP h0 hv h9 hfl fin j (k + 1) u' ls (by omega) (by omega) hu' (lv_sub hl [0, 1, 3, 4, 5] rfl)
    refine lv_iload hx hb dMs_26 (lv_at hl 0 rfl) ?_
    refine lv_if_le hx hb dMs_28 (tgt := 43) rfl (fun hc1 => ?_) (fun hc1 => ?_)
    · rw [le_z, Int32.toInt_zero] at hc1
      refine lv_lload_n hx hb dMs_43 rfl (lv_at hl 2 rfl) (tail u ?_)
      show _ = us v k + pw (nb v k)
      rw [pw_0 hc1]
      omega
    rw [le_z, Int32.toInt_zero] at hc1
    have hsh : (Int64.ofNat 1 <<< (((Int8.ofInt 15).toInt32 - nb v k).toInt64 &&& 63)).toInt = pw (nb v k) := by
      rw [hnq] at hc1 ⊢
      exact pw_M q hq (by omega)
    rw [← hnq] at pr
    refine lv_lload_n hx hb dMs_31 rfl (lv_at hl 2 rfl) ?_
    refine lv_lconst hx hb dMs_32 rfl ?_
    refine lv_bipush hx hb dMs_33 rfl ?_
    refine lv_iload hx hb dMs_35 (lv_at hl 0 rfl) ?_
    refine lv_isub hx hb dMs_37 ?_
    refine lv_lshl hx hb dMs_38 rfl ?_
    refine lv_ladd hx hb dMs_39 ?_
    refine lv_goto hx hb dMs_40 (tgt := 44) rfl (tail _ ?_)
    show _ = us v k + pw (nb v k)
    have hadd : (u + Int64.ofNat 1 <<< (((Int8.ofInt 15).toInt32 - nb v k).toInt64 &&& 63)).toInt = u.toInt + (Int64.ofNat 1 <<< (((Int8.ofInt 15).toInt32 - nb v k).toInt64 &&& 63)).toInt := by
      rw [Int64.toInt_add, hsh, hu]
      exact Int.bmod_eq_of_le (by omega) (by omega)
    rw [← hu, ← hsh]
    exact hadd
end TabM
abbrev yMs : MethodName := ⟨RX12, "stateOf", "(II)I"⟩
abbrev miMs : MI := (yMs, prog_14_method_58_code, 7, (some .int), 2)
theorem stM_met {l : Launch} {D : va_G} {cy : Nat → ClassId} {H0 : Heap} {ws : va_W} {ad : Nat → Nat} {vs : List Value} {fl : Nat → Int32} {v : Int32} (hP : va_P D nCl ws H0) (h0 : ws[0]? = some (ad 0, .inr (9, vs))) (hv : vs[26]? = some (.ref (ad 9))) (h9 : ws[9]? = some (ad 9, .inl (cy 0, 960, .inl fl))) (hfl : ∀ k, k < 8 → fl (640 + k) = nb v k) :
    Met l yMs (wsM TB miMs) { frames := 0, cells := 0, slots := 0, locals := 0 } (va_Pc [.ref (ad 0), .int (Int32.ofInt 2), .int (Int8.ofInt 8).toInt32] (fun U => U.heap = H0 ∧ va_K D nCl (tysOf cy) U)) (va_Qi (fun r (_ : Unit) => r = tabA v) (fun _ t => t.heap = H0) (fun _ => False)) 0 0 (fun _ => False) := by
  refine Met.ofW (cc := prog_14_method_58_code) (maxL := 7) (ret := some .int) (by decide) rfl ?_
  intro p e s m args below meth c s₁ B hml hvv
  obtain ⟨rfl, hH, hK⟩ := hvv
  subst hH
  have hx := B.exec
  have hb := B.bytes
  have hr := B.returns
  have hts : ∀ w ∈ TB, w.before [Value.ref (ad 0), Value.int (Int32.ofInt 2), Value.int (Int8.ofInt 8).toInt32].toArray s = true := fun w hw => atoms_spec (ws := wsM TB _) B.pre w (List.mem_cons_of_mem _ hw)
  have hown : s.vm.findClass RX12 = some m.cls := findClass_of_methodNamed B.named
  have hlocks := B.notSynchronized
  have hl := lv_entry [Value.ref (ad 0), Value.int (Int32.ofInt 2), Value.int (Int8.ofInt 8).toInt32] (n := 7) (Nat.le_of_ble_eq_true rfl)
  rw [lg_entry_eq]
  generalize (lg_sl [Value.ref (ad 0), Value.int (Int32.ofInt 2), Value.int (Int8.ofInt 8).toInt32] ++ List.replicate (7 - (lg_sl [Value.ref (ad 0), Value.int (Int32.ofInt 2), Value.int (Int8.ofInt 8).toInt32]).length) Slot.unset).toArray = ls at hl ⊢
  have hl : lv_has ls 7 [(0, .ref (ad 0)), (1, .int (Int32.ofInt 2)), (2, .int (Int8.ofInt 8).toInt32)] := hl
  have fin : ∀ (r : Int32) (ls : Array Slot), r = tabA v → W p l e { frames := 0, cells := 0, slots := 0, locals := 0 } s m [Value.ref (ad 0), Value.int (Int32.ofInt 2), Value.int (Int8.ofInt 8).toInt32].toArray below meth c s.heap [] 0 0 (MQ below (va_Qi (fun r (_ : Unit) => r = tabA v) (fun _ t => t.heap = s.heap) (fun _ => False)) [Value.ref (ad 0), Value.int (Int32.ofInt 2), Value.int (Int8.ofInt 8).toInt32].toArray s 0 0 (fun _ => False)) (F0 m 76 ls [.int r]) := fun r ls h1 => W.iret hx hb hr (fun t ht hW => ⟨⟨r, (), rfl, h1, ht⟩, by rw [ht]; exact Nat.le_refl _, fun q _ _ => by rw [ht]⟩) (fun q hq => by cases hq) dMs_76
  have hcst := hts (.constantLong RX12 301 (Int64.ofInt 32768)) (inT_ok (i := 1390) (by decide +kernel))
  have zc : (Int64.ofInt 32768).toInt = 32768 := by decide
  refine lv_lconst hx hb dMs_0 rfl ?_
  refine lv_lstore_n hx hb dMs_1 rfl hl (by decide) rfl fun ls hl => ?_
  have hl : lv_has ls 7 [(3, .long (Int64.ofNat 0)), (0, .ref (ad 0)), (1, .int (Int32.ofInt 2)), (2, .int (Int8.ofInt 8).toInt32)] := hl
  refine lv_iconst hx hb dMs_2 rfl ?_
  refine lv_istore hx hb dMs_3 hl (by decide) rfl fun ls hl => ?_
  have hl : lv_has ls 7 [(5, .int (Int32.ofNat 0)), (3, .long (Int64.ofNat 0)), (0, .ref (ad 0)), (1, .int (Int32.ofInt 2)), (2, .int (Int8.ofInt 8).toInt32)] := hl
  refine stM_loop hx hb hts hown hK hP h0 hv h9 hfl (fun u ls hu hl => ?_) 8 0 _ ls (by omega) (by omega) (show (Int64.ofNat 0).toInt = 0 by decide) (lv_sub hl [0, 1, 4, 3, 2] rfl)
  refine lv_lload_n hx hb dMs_51 rfl (lv_at hl 0 rfl) ?_
  refine lv_ldc2 hx hb hown hcst dMs_52 ?_
  refine W.lcmp hx hb dMs_55 ?_
  have hcmp : lg_cmp u (Int64.ofInt 32768) = if us v 8 = 32768 then 0 else if us v 8 < 32768 then -1 else 1 := by
    unfold lg_cmp
    by_cases h1 : us v 8 = 32768
    · rw [if_neg (fun q => by rw [gt_iff_lt, Int64.lt_iff_toInt_lt] at q; omega), if_pos (Int64.toInt_inj.mp (by omega)), if_pos h1]
    · have hne : ¬ u = Int64.ofInt 32768 := fun q => h1 (by rw [← hu, q]; exact zc)
      rw [if_neg h1]
      by_cases h2 : us v 8 < 32768
      · rw [if_neg (fun q => by rw [gt_iff_lt, Int64.lt_iff_toInt_lt] at q; omega), if_neg hne, if_pos h2]
      · rw [if_pos (by rw [gt_iff_lt, Int64.lt_iff_toInt_lt]; omega), if_neg h2]
  rw [hcmp]
  unfold tabA at fin
  by_cases h1 : us v 8 = 32768
  · rw [if_pos h1]
    refine lv_if_ne hx hb dMs_56 (tgt := 63) rfl (fun q => absurd rfl q) (fun _ => ?_)
    refine lv_iconst hx hb dMs_59 rfl (lv_goto hx hb dMs_60 (tgt := 76) rfl (fin _ ls ?_))
    rw [if_pos h1]
    rfl
  · rw [if_neg h1]
    have hnz : ¬ (if us v 8 < 32768 then (-1 : Int32) else 1) = 0 := by split <;> decide
    refine lv_if_ne hx hb dMs_56 (tgt := 63) rfl (fun _ => ?_) (fun q => absurd q hnz)
    refine lv_lload_n hx hb dMs_63 rfl (lv_at hl 0 rfl) ?_
    refine lv_ldc2 hx hb hown hcst dMs_64 ?_
    refine W.lcmp hx hb dMs_67 ?_
    rw [hcmp, if_neg h1]
    by_cases h2 : us v 8 < 32768
    · rw [if_pos h2]
      refine lv_if_ge hx hb dMs_68 (tgt := 75) rfl (fun q => absurd q (by decide)) (fun _ => ?_)
      refine lv_iconst hx hb dMs_71 rfl (lv_goto hx hb dMs_72 (tgt := 76) rfl (fin _ ls ?_))
      rw [if_neg h1, if_pos h2]
      rfl
    · rw [if_neg h2]
      refine lv_if_ge hx hb dMs_68 (tgt := 75) rfl (fun _ => ?_) (fun q => absurd (by decide) q)
      refine lv_iconst hx hb dMs_75 rfl (fin _ ls ?_)
      rw [if_neg h1, if_neg h2]
      rfl
theorem mput0 {p : Program} {l : Launch} {e : Env} {R : Room} {s : State} {m : MethodId} {args : Array Value} {below : List Frame} {meth : Method} {c : Code} {H : Heap} {locs : List Loc} {cells slots : Nat} {Q : State → Prop} {D : va_G} {cy : Nat → ClassId} {cc : ByteArray} {pc : Nat} {ls : Array Slot} {rest : List Value} {ws : va_W} {A : Nat → Prop}
    (hx : p.tables.exec = Jvm.exec) (hb : c.code = cc) (hts : ∀ w ∈ TB, w.before args s = true) (hown : s.vm.findClass RX12 = some m.cls) (hK : va_K D nCl (tysOf cy) s) (hP : va_P D nCl ws H) (hD : va_D A ws) (hS : va_S A s.heap H locs) {a : Nat} {vs : List Value} (he : ws[0]? = some (a, .inr (9, vs))) (hl : 0 < vs.length) {n : Int32} (hdg : decode cc pc = .ok (.putfield 70, 3))
    (kk : ∀ (H1 : Heap) (locs1 : List Loc), va_P D nCl (ws.set 0 (a, .inr (9, vs.set 0 (.int n)))) H1 → va_D A (ws.set 0 (a, .inr (9, vs.set 0 (.int n)))) → va_S A s.heap H1 locs1 → W p l e R s m args below meth c H1 locs1 cells slots Q (F0 m (pc + 3) ls rest)) : W p l e R s m args below meth c H locs cells slots Q (F0 m pc ls (.int n :: .ref a :: rest)) := by
  obtain ⟨q, c1, c2, c3, c4, c5, -⟩ := (CTX12 (G := gM)).2.1 (70, 9, 0, false) (by decide)
  obtain ⟨t1, t2, t3⟩ := nCl_ok _ _ c1
  exact va_put hx hb hts t1 (nTy 9) t2 t3 hown hK hP hD hS 0 he c1 0 c2 (hts _ c3) (fun z hz => by rw [c4] at hz; exact hz) c5 (t2 0 c2) rfl rfl hl hdg kk
theorem mMs_ok : Cond.methodLink RX12 303 yMs ∈ TB ∧ Cond.instanceMethod yMs ∈ TB ∧ Cond.selects RX12 yMs yMs ∈ TB := by
  obtain ⟨mi, h1, h2⟩ := (CTX12 (G := gM)).1 (303, 182, 1) (by decide +kernel)
  have : mi = miMs := Option.some.inj (h1.symm.trans rfl)
  subst this
  exact h2
theorem mMs_in : miMs ∈ nMT := List.mem_of_getElem? (i := 182) rfl
abbrev yMt : MethodName := ⟨RX12, "table", "(I)I"⟩
abbrev miMt : MI := (yMt, prog_14_method_76_code, 3, (some .int), 1)
/-- the object and the lengths have changed, nothing else -/
def Tw (cI : ClassId) (ad : Nat → Nat) (vs : List Value) (w0 : va_W) (fl : Nat → Int32) (ws : va_W) : Prop := ws[0]? = some (ad 0, .inr (9, vs)) ∧ ws[9]? = some (ad 9, .inl (cI, 960, .inl fl)) ∧ (∀ k, k ≠ 0 → k ≠ 9 → ws[k]? = w0[k]?) ∧ (ws.map fun q => q.1) = (w0.map fun q => q.1)
theorem Tw.setL {cI : ClassId} {ad : Nat → Nat} {vs : List Value} {w0 ws : va_W} {fl : Nat → Int32} (h : Tw cI ad vs w0 fl ws) (f : Nat → Int32) : Tw cI ad vs w0 f (ws.set 9 (ad 9, .inl (cI, 960, .inl f))) := by
  obtain ⟨h0, h9, ho, hm⟩ := h
  exact ⟨(List.getElem?_set_ne (by decide)).trans h0, List.getElem?_set_self (List.getElem?_eq_some_iff.mp h9).1, fun k a b => (List.getElem?_set_ne (Ne.symm b)).trans (ho k a b), (map_set_fst h9).trans hm⟩
section TabM2
variable {p : Program} {l : Launch} {e : Env} {R : Room} {s : State} {m : MethodId} {args : Array Value} {below : List Frame} {meth : Method} {c : Code} {cells slots : Nat} {Q : State → Prop} {v : Int32}
variable {D : va_G} {cy : Nat → ClassId} {w0 : va_W} {ad : Nat → Nat} {vs : List Value} {A : Nat → Prop}
theorem tabM_loop (hx : p.tables.exec = Jvm.exec) (hb : c.code = prog_14_method_76_code) (hts : ∀ w ∈ TB, w.before args s = true) (hown : s.vm.findClass RX12 = some m.cls) (hK : va_K D nCl (tysOf cy) s) (hv : vs[26]? = some (.ref (ad 9)))
    (fin : ∀ (ls : Array Slot) (ws : va_W) (H : Heap) (locs : List Loc) (fl : Nat → Int32), Tw (cy 0) ad vs w0 fl ws → va_P D nCl ws H → va_D A ws → va_S A s.heap H locs → (∀ i, i < 960 → 0 ≤ (fl i).toInt ∧ (fl i).toInt ≤ 28) → (∀ k, k < 8 → fl (640 + k) = nb v k) → lv_has ls 3 [(0, .ref (ad 0))] → W p l e R s m args below meth c H locs cells slots Q (F0 m 37 ls [])) :
    ∀ (j k : Nat) (ls : Array Slot) (ws : va_W) (H : Heap) (locs : List Loc) (fl : Nat → Int32), 8 - k ≤ j → k ≤ 8 → Tw (cy 0) ad vs w0 fl ws → va_P D nCl ws H → va_D A ws → va_S A s.heap H locs → (∀ i, i < 960 → 0 ≤ (fl i).toInt ∧ (fl i).toInt ≤ 28) → (∀ i, i < k → fl (640 + i) = nb v i) →
      lv_has ls 3 [(2, .int (Int32.ofNat k)), (1, .int v), (0, .ref (ad 0))] → W p l e R s m args below meth c H locs cells slots Q (F0 m 7 ls [])
  | j, k, ls, ws, H, locs, fl, hj, hk, hM, hP, hD, hS, hr, hI, hl => by
    have kz : (Int32.ofNat k).toInt = k := by
      have key : ∀ k, k < 9 → (Int32.ofNat k).toInt = k := by decide +kernel
      exact key k (by omega)
    have z8 : (Int8.ofInt 8).toInt32.toInt = 8 := by decide
    refine lv_iload_n hx hb dMt_7 rfl (lv_at hl 0 rfl) ?_
    refine lv_bipush hx hb dMt_8 rfl ?_
    refine lv_icmp_ge hx hb dMt_10 (tgt := 37) rfl (fun hc => ?_) (fun hc => ?_)
    · rw [le_z, kz, z8] at hc
      obtain rfl : k = 8 := by omega
      exact fin ls ws H locs fl hM hP hD hS hr hI (lv_sub hl [2] rfl)
    rw [le_z, kz, z8] at hc
    have hix : ((Int16.ofInt 640).toInt32 + Int32.ofNat k).toInt = 640 + k := by
      have key : ∀ k, k < 8 → ((Int16.ofInt 640).toInt32 + Int32.ofNat k).toInt = 640 + k := by decide +kernel
      exact key k (by omega)
    have hcl : ((Int16.ofInt 640).toInt32 + Int32.ofNat k).toNatClampNeg = 640 + k := by
      rw [clamp_z, hix]; omega
    refine lv_aload_n hx hb dMt_13 rfl (lv_at hl 2 rfl) ?_
    refine mget hx hb hts hown hK hP hM.1 (k := 26) (fin := true) (by decide) hv dMt_14 ?_
    refine lv_sipush hx hb dMt_17 rfl ?_
    refine lv_iload_n hx hb dMt_20 rfl (lv_at hl 0 rfl) ?_
    refine lv_iadd hx hb dMt_21 ?_
    refine lv_iload_n hx hb dMt_22 rfl (lv_at hl 1 rfl) ?_
    refine lv_iconst hx hb dMt_23 rfl ?_
    refine lv_iload_n hx hb dMt_24 rfl (lv_at hl 0 rfl) ?_
    refine lv_imul hx hb dMt_25 ?_
    refine lv_ishr hx hb dMt_26 ?_
    refine lv_bipush hx hb dMt_27 rfl ?_
    refine lv_iand hx hb dMt_29 ?_
    have hnb : (v >>> ((Int32.ofInt 4 * Int32.ofNat k) &&& 31)) &&& (Int8.ofInt 15).toInt32 = nb v k := rfl
    rw [hnb]
    refine va_iast hx hb hK hP hD hS 9 0 hM.2.1 rfl (inb (by rw [hix]; omega) (by rw [hix]; omega)) dMt_30 fun H locs hP hD hS => ?_
    have hM := hM.setL (upd fl ((Int16.ofInt 640).toInt32 + Int32.ofNat k).toNatClampNeg (nb v k))
    generalize ws.set 9 _ = ws at hM hP hD
    rw [hcl] at hM
    refine lv_iinc hx hb dMt_31 hl (k := 0) rfl rfl (by decide) rfl fun ls hl => ?_
    have kn : Int32.ofNat k + Int32.ofInt 1 = Int32.ofNat (k + 1) := by
      have key : ∀ k, k < 8 → Int32.ofNat k + Int32.ofInt 1 = Int32.ofNat (k + 1) := by decide +kernel
      exact key k (by omega)
    rw [kn] at hl
    have hl : lv_has ls 3 [(2, .int (Int32.ofNat (k + 1))), (1, .int v), (0, .ref (ad 0))] := hl
    refine lv_goto hx hb dMt_34 (tgt := 7) rfl ?_
    have nr := nb_r v k
    cases j with
    | zero => omega
    | succ j =>
      refine tabM_loop hx hb hts hown hK hv fin j (k + 1) ls ws H locs _ (by omega) (by omega) hM hP hD hS (fun i hi => ?_) (fun i hi => ?_) hl
      · unfold upd
        split
        · omega
        · exact hr i hi
      · unfold upd
        by_cases hik : i = k
        · rw [if_pos (by omega), hik]
        · rw [if_neg (by omega)]
          exact hI i (by omega)
end TabM2
/-- the shape of the world behind the reference's table -/
def shT (sh : SH) (fs : List SV) : SH := (sh.set 0 (some (.inr (9, fs.set 0 (vInt (eC 0)))))).set 9 (some (.inl (0, (960, []), 0, 28, none)))
theorem tabM_met {l : Launch} {D : va_G} {cy : Nat → ClassId} {T : IT} {ads : List Nat} {w0 : va_W} {sz : Nat} {v : Int32} {fs : List SV} (hI : Inv cy T ads w0) (t0 : T.2.2[0]? = some (some (.inr (9, fs)))) (t9 : T.2.2[9]? = some (some (.inl (0, (960, []), 0, 28, none)))) (t26 : fs[26]? = some (vRef 9)) (tl : fs.length = 40) (ts : T.2.2.length = 19) (tc : thrB (T.1, T.2.1, [], [], shT T.2.2 fs) T [] = true) {a : Nat} (ha : ads[0]? = some a) :
    Met l yMt (wsM TB miMt) { frames := 1, cells := 0, slots := 0, locals := 26 } (va_Pc [.ref a, .int v] (fun U => U.heap.size = sz ∧ va_P D nCl w0 U.heap ∧ va_K D nCl (tysOf cy) U ∧ va_D (fun _ => True) w0)) (va_Qi (fun r (_ : Unit) => r = tabA v) (fun _ t => Lies D nCl cy [T] ads t.heap) (va_A w0 sz)) 0 0 (va_A w0 sz) := by
  refine Met.ofW (cc := prog_14_method_76_code) (maxL := 3) (ret := some .int) (by decide) rfl ?_
  intro p e s m args below meth c s₁ B hml hvv
  obtain ⟨rfl, hsz, hP, hK, hD0⟩ := hvv
  subst hsz
  obtain ⟨mu, hX, hH⟩ := hI
  have hlen : ads.length = 19 := by
    rw [← hH.1, List.length_map, hH.2.1]; exact ts
  obtain ⟨ad, had⟩ : ∃ ad : Nat → Nat, ∀ k, k < 19 → ads[k]? = some (ad k) := ⟨fun k => ads.getD k 0, fun k hk => by simp [List.getD_eq_getElem?_getD, List.getElem?_eq_getElem (show k < ads.length by omega)]⟩
  obtain rfl : a = ad 0 := Option.some.inj (ha.symm.trans (had 0 (by decide)))
  obtain ⟨e0, g0, vs, rfl, hFv⟩ := hH.get t0 (had 0 (by decide))
  obtain ⟨e9, g9, n9, fl, rfl, -, -, l9, rg9, -⟩ := hH.get t9 (had 9 (by decide))
  obtain rfl : n9 = 960 := by have := l9.const_inv rfl; omega
  have hvl : vs.length = 40 := by rw [← hFv.len]; exact tl
  have hv26 : vs[26]? = some (.ref (ad 9)) := by
    obtain ⟨x, hx1, a, ha, hx2⟩ := hFv.get t26
    rw [hx1, hx2, Option.some.inj (ha.symm.trans (had 9 (by decide)))]
  have hx := B.exec
  have hb := B.bytes
  have hr := B.returns
  have hts : ∀ w ∈ TB, w.before [Value.ref (ad 0), Value.int v].toArray s = true := fun w hw => atoms_spec (ws := wsM TB _) B.pre w (List.mem_cons_of_mem _ hw)
  have hown : s.vm.findClass RX12 = some m.cls := findClass_of_methodNamed B.named
  have hlocks := B.notSynchronized
  have S : CallFix p m c prog_14_method_76_code 3 s [Value.ref (ad 0), Value.int v].toArray TB RX12 := ⟨hx, hb, hml, hown, hts⟩
  have hS : va_S (va_A w0 s.heap.size) s.heap s.heap [] := va_S.rf
  have hD := hD0.self (sz := s.heap.size)
  have hl := lv_entry [Value.ref (ad 0), Value.int v] (n := 3) (Nat.le_of_ble_eq_true rfl)
  rw [lg_entry_eq]
  generalize (lg_sl [Value.ref (ad 0), Value.int v] ++ List.replicate (3 - (lg_sl [Value.ref (ad 0), Value.int v]).length) Slot.unset).toArray = ls at hl ⊢
  have hl : lv_has ls 3 [(0, .ref (ad 0)), (1, .int v)] := hl
  refine lv_aload_n hx hb dMt_0 rfl (lv_at hl 0 rfl) ?_
  refine lv_iconst hx hb dMt_1 rfl ?_
  refine mput0 hx hb hts hown hK hP hD hS g0 (by omega) dMt_2 fun H locs hP hD hS => ?_
  have hM : Tw (cy 0) ad (vs.set 0 (.int (Int32.ofInt 0))) w0 fl (w0.set 0 (ad 0, .inr (9, vs.set 0 (.int (Int32.ofInt 0))))) := ⟨List.getElem?_set_self (List.getElem?_eq_some_iff.mp g0).1, (List.getElem?_set_ne (by decide)).trans g9, fun k a _ => List.getElem?_set_ne (Ne.symm a), map_set_fst g0⟩
  generalize w0.set 0 _ = ws at hM hP hD
  refine lv_iconst hx hb dMt_5 rfl ?_
  refine lv_istore_n hx hb dMt_6 rfl hl (by decide) rfl fun ls hl => ?_
  have hl : lv_has ls 3 [(2, .int (Int32.ofNat 0)), (0, .ref (ad 0)), (1, .int v)] := hl
  refine tabM_loop hx hb hts hown hK ((List.getElem?_set_ne (by decide)).trans hv26) (fun ls ws H locs fl hM hP hD hS hr9 hI hl => ?_) 8 0 ls ws H locs fl (by omega) (by omega) hM hP hD hS rg9 (fun i hi => by omega) (lv_sub hl [0, 2, 1] rfl)
  obtain ⟨k1, k2, k3⟩ := mMs_ok
  obtain ⟨-, kd, kc, ki⟩ := nMT_ok _ mMs_in
  refine lv_aload_n hx hb dMt_37 rfl (lv_at hl 0 rfl) ?_
  refine lv_iconst hx hb dMt_38 rfl ?_
  refine lv_bipush hx hb dMt_39 rfl ?_
  refine va_calli (A0 := va_A w0 s.heap.size) (A1 := fun _ => False) (free := fun _ => False) (va_runV (As := [.int (Int32.ofInt 2), .int (Int8.ofInt 8).toInt32]) (b := ad 0) (rest := []) S (stM_met (H0 := H) hP hM.1 ((List.getElem?_set_ne (by decide)).trans hv26) hM.2.1 hI) ⟨callB_of _ hts (wsM_good TB_ok kc) rfl rfl rfl (hts _ ki) (hts _ k1) kd ⟨by show 0 + 1 ≤ 1; decide, by show 8 + (7 + 11) + 0 ≤ 26; decide⟩, hts _ k2, hts _ k3⟩ ⟨fun a U g mk q => ⟨q.1, q.2.1, va_K.moved (u := U) (U := U.calling g mk a) (Vm.Alike.refl U.vm) q.2.2⟩, va_recv hK hP rfl hM.1, fun U hU hW => ⟨rfl, hU, va_K.moved hW.alike hK⟩⟩ rfl rfl hl.1 rfl (lv_room (Nat.zero_le _)) dMt_41 ⟨Nat.le_refl _, Nat.le_refl _⟩) hS (fun _ _ h => h.elim) (fun _ h => h.elim) (fun r u t H1 locs1 ht _ hp hB _ _ hS1 => ?_)
  have : H1 = H := ht.symm.trans hB
  subst this
  have hHn : HS cy ads mu w0 (shT T.2.2 fs) ws := by
    refine ⟨hM.2.2.2.trans hH.1, ?_, fun k o hk => ?_⟩
    · have := congrArg List.length hM.2.2.2
      simp only [List.length_map] at this
      rw [this, hH.2.1]
      simp [shT]
    · unfold shT at hk
      by_cases h9 : k = 9
      · subst h9
        rw [List.getElem?_set_self (by rw [List.length_set, ts]; decide)] at hk
        cases hk
        exact ⟨_, hM.2.1, 960, fl, rfl, by decide, by decide, EV.const _ _, hr9, trivial⟩
      rw [List.getElem?_set_ne (Ne.symm h9)] at hk
      by_cases h0 : k = 0
      · subst h0
        rw [List.getElem?_set_self (by rw [ts]; decide)] at hk
        cases hk
        exact ⟨_, hM.1, _, rfl, hFv.set ⟨Int32.ofInt 0, rfl, EV.const _ _⟩⟩
      rw [List.getElem?_set_ne (Ne.symm h0)] at hk
      have h1 := hH.2.2 k o hk
      have h2 := hM.2.2.1 k h0 h9
      match o, h1 with
      | some se, h1 =>
        obtain ⟨q, q1, q2⟩ := h1
        exact ⟨q, h2.trans q1, q2⟩
      | none, h1 => exact h2
  have hInv : Inv cy T ads ws := thrB_ok tc (v := mu) hX hHn
  exact W.iret hx hb hr (fun t ht hW => ⟨⟨r, (), rfl, hp, T, List.mem_cons_self, ws, hInv, by rw [ht]; exact hP, hD.weaken fun _ _ _ _ => trivial⟩, by rw [ht]; exact hS1.1, fun q h1 h2 => by rw [ht]; exact hS1.2.1 q h1 h2⟩) hS1.2.2 dMt_44
