/-! what the class stands on besides its own cells: words that aren't the tables' own, texts, statics -/
def gA (ads : List Nat) (U : State) : Nat → Prop := fun a => a ∈ ads ∨ U.heap.size ≤ a
def gStr : List (Nat × String) := [(93, "no room for another byte"), (104, "no such kind"), (107, "no such level"), (113, "longer than the bound"), (156, "no such byte of the out"), (164, "no such sum"), (179, "not so many bytes in the out")]
def gExc : List String := ["java/lang/UnsupportedOperationException", "java/lang/IllegalArgumentException", "java/lang/ArrayIndexOutOfBoundsException"]
def gDcl : List String := ["java/lang/RuntimeException", "java/lang/Exception", "java/lang/Throwable", "java/lang/IndexOutOfBoundsException"]
def gDn (n : String) : MethodName := ⟨n, "<init>", "(Ljava/lang/String;)V"⟩
def gTell : List Int32 := [16, 17, 18, 0, 8, 7, 9, 6, 10, 5, 11, 4, 12, 3, 13, 2, 14, 1, 15]
def gC : List Nat → State → Prop := fun ads U =>
  (va_Nw (Cond.methodLinkNest RX9 21 ⟨"FlateFilter", "byteSum", "([BI)J"⟩ "FlateFilter") U ∧ va_Nw (Cond.methodLinkNest RX3 105 ⟨"FlateFilter", "byteSum", "([BI)J"⟩ "FlateFilter") U) ∧
  (∀ E ∈ gExc, va_Nw (Cond.castable E E) U) ∧ (∀ E ∈ gDcl, va_Nw (Cond.declares (gDn E)) U) ∧ (∀ q ∈ gStr, ∃ sa, vk_R "FlateFilter" q.1 q.2 sa U) ∧
  vx_Zq Bundle.tN "UNASSIGNED_STACK" Bundle.steD (gA ads U) U U.heap ∧ vx_Zq Bundle.tN "SUPPRESSED_SENTINEL" Bundle.listD (gA ads U) U U.heap ∧
  ∃ t, va_Z RX2 "TELLER_ORDER" "[I" (.ref t) (gA ads U) U U.heap ∧ va_T .int t 19 (fun j => .int (gTell.getD j 0)) (gA ads U) U U.heap
theorem gC_ok : GCl gC := fun ads bs U U' hW hz hk hb h => by
  obtain ⟨⟨n1, n2⟩, hE, hDc, hS, hU, hN, t, hZ, hT⟩ := h
  have hk' : ∀ a : Nat, a < U.heap.size → ¬ gA ads U a → U'.heap[a]? = U.heap[a]? := fun a h1 h2 => hk a h1 (fun q => h2 (Or.inl q))
  have hn : ∀ a, gA (ads ++ bs) U' a → gA ads U a := fun a h => by
    rcases h with h | h
    · rcases List.mem_append.mp h with h | h
      · exact Or.inl h
      · exact Or.inr (hb a h)
    · exact Or.inr (Nat.le_trans hz h)
  refine ⟨⟨va_Nw.warmM hW n1, va_Nw.warmM hW n2⟩, fun E hE' => va_Nw.warmC hW (hE E hE'), fun E hE' => va_Nw.warmD hW (hDc E hE'), fun q hq => ?_, ((hU.kept hk').moved hW.alike).narrow hn, ((hN.kept hk').moved hW.alike).narrow hn, t, ((hZ.kept hk').moved hW.alike).narrow hn, ((hT.kept hk').moved hW.alike).narrow hn⟩
  obtain ⟨sa, hs⟩ := hS q hq
  exact ⟨sa, vk_R.warm hW hs⟩
theorem gC_X9 : ∀ (ads : List Nat) (U : State), gC ads U → va_Nw (Cond.methodLinkNest RX9 21 ⟨"FlateFilter", "byteSum", "([BI)J"⟩ "FlateFilter") U := fun _ _ h => h.1.1
theorem gC_X3 : ∀ (ads : List Nat) (U : State), gC ads U → va_Nw (Cond.methodLinkNest RX3 105 ⟨"FlateFilter", "byteSum", "([BI)J"⟩ "FlateFilter") U := fun _ _ h => h.1.2
/-- fewer cells of ours -/
theorem gC_sub {ads bs : List Nat} {U : State} (hs : ∀ a ∈ ads, a ∈ bs) (h : gC bs U) : gC ads U := by
  obtain ⟨n, hE, hDc, hS, hU, hN, t, hZ, hT⟩ := h
  have hn : ∀ a, gA ads U a → gA bs U a := fun a h => h.elim (fun q => Or.inl (hs a q)) Or.inr
  exact ⟨n, hE, hDc, hS, hU.narrow hn, hN.narrow hn, t, hZ.narrow hn, hT.narrow hn⟩
/-- a word of a throw: a good one of the tables by its place, or one of gC's own -/
def txW (w : Cond) (i : Nat) : Bool := inT w i || (gExc.any (fun E => decide (w = .castable E E)) || gDcl.any (fun E => decide (w = .declares (gDn E))))
def txWs : List Cond → List Nat → Bool
  | [], [] => true
  | w :: l, i :: r => txW w i && txWs l r
  | _, _ => false
theorem txW_ok {w : Cond} {i : Nat} (h : txW w i = true) {ads : List Nat} {args : Array Value} {U : State} (hT : ∀ w ∈ TB, w.before args U = true) (hG : gC ads U) : w.before args U = true := by
  unfold txW at h
  rw [Bool.or_eq_true, Bool.or_eq_true] at h
  rcases h with h | h | h
  · exact hT w (inT_ok h)
  · obtain ⟨E, hE, he⟩ := List.any_eq_true.mp h
    rw [of_decide_eq_true he]
    exact va_Nw.use rfl (hG.2.1 E hE)
  · obtain ⟨E, hE, he⟩ := List.any_eq_true.mp h
    rw [of_decide_eq_true he]
    exact va_Nw.use rfl (hG.2.2.1 E hE)
theorem txWs_ok : ∀ {l : List Cond} {r : List Nat}, txWs l r = true → ∀ {ads : List Nat} {args : Array Value} {U : State}, (∀ w ∈ TB, w.before args U = true) → gC ads U → ∀ w ∈ l, w.before args U = true
  | w :: l, i :: r, h, ads, args, U, hT, hG, x, hx => by
    unfold txWs at h
    rw [Bool.and_eq_true] at h
    rcases List.mem_cons.mp hx with rfl | hx
    · exact txW_ok h.1 hT hG
    · exact txWs_ok h.2 hT hG x hx
  | [], _, _, _, _, _, _, _, x, hx => by cases hx
  | _ :: _, [], h, _, _, _, _, _, x, hx => by unfold txWs at h; cases h
/-- all that a throw of the class needs, by places: r: of its words, i: of its class's link, j: of its class's being initialized -/
def txB (K : CK) (cc : ByteArray) (q : TX) (r : List Nat) (i j : Nat) : Bool :=
  (Bundle.fit q.2.1 && q.2.2.2.2.all Bundle.fit) && ((inT (.classLink "FlateFilter" q.2.2.1.1 q.2.1) i && inT (.initialized q.2.1) j) && ((txWs (vx_atS "FlateFilter" q.2.2.1.2.2 q.2.1 q.2.2.2.2) r && (Cond.classLink "FlateFilter" q.2.2.1.1 q.2.1 :: Cond.initialized q.2.1 :: vx_atS "FlateFilter" q.2.2.1.2.2 q.2.1 q.2.2.2.2).all vx_ot) &&
  (([(q.1, .new q.2.2.1.1, 3), (q.1 + 3, .dup, 1), (q.1 + 4, .ldc q.2.2.1.2.1, 2), (q.1 + 6, .invokespecial q.2.2.1.2.2, 3), (q.1 + 9, .athrow, 1)] : List (Nat × Instr × Nat)).all (deB cc) && (gStr.any (fun z => decide (z = (q.2.2.1.2.1, q.2.2.2.1))) && decide (q.2.2.2.2.length + 3 < K.1.2.1 ∧ 13 * (q.2.2.2.2.length + 1) + 43 ≤ K.1.2.2.1 ∧ 1 ≤ K.1.2.2.2.1 ∧ 6 ≤ K.1.2.2.2.2)))))
theorem txB_ok {K : CK} {cc : ByteArray} {q : TX} {r : List Nat} {i j : Nat} (h : txB K cc q r i j = true) : TXok TB "FlateFilter" K cc q ∧ ∀ (ads : List Nat) (args : Array Value) (U : State), (∀ w ∈ TB, w.before args U = true) → gC ads U → TXg "FlateFilter" q ads args U := by
  unfold txB at h
  simp only [Bool.and_eq_true, decide_eq_true_eq] at h
  obtain ⟨⟨f1, f2⟩, ⟨k1, k2⟩, ⟨w1, w2⟩, d, s1, r1⟩ := h
  have hd := deB_ok d
  refine ⟨⟨⟨f1, fun n hn => List.all_eq_true.mp f2 n hn⟩, ⟨inT_ok k1, inT_ok k2⟩, fun w hw => List.all_eq_true.mp w2 w hw, ⟨hd (q.1, .new q.2.2.1.1, 3) List.mem_cons_self, hd (q.1 + 3, .dup, 1) (List.mem_cons_of_mem _ List.mem_cons_self), hd (q.1 + 4, .ldc q.2.2.1.2.1, 2) (List.mem_cons_of_mem _ (List.mem_cons_of_mem _ List.mem_cons_self)), hd (q.1 + 6, .invokespecial q.2.2.1.2.2, 3) (List.mem_cons_of_mem _ (List.mem_cons_of_mem _ (List.mem_cons_of_mem _ List.mem_cons_self))), hd (q.1 + 9, .athrow, 1) (List.mem_cons_of_mem _ (List.mem_cons_of_mem _ (List.mem_cons_of_mem _ (List.mem_cons_of_mem _ List.mem_cons_self))))⟩, r1⟩, fun ads args U hT hG => ?_⟩
  obtain ⟨z, hz, he⟩ := List.any_eq_true.mp s1
  have he := of_decide_eq_true he
  obtain ⟨sa, hs⟩ := hG.2.2.2.1 z hz
  rw [he] at hs
  exact ⟨⟨sa, hs⟩, txWs_ok w1 hT hG, hG.2.2.2.2.1, hG.2.2.2.2.2.1⟩
/-- the throws of a method with what is known at each -/
def xOf (P : PD) (L : List TX) : List (TX × Tm) := (L.zip (pdCuts P)).map fun q => (q.1, q.2.2.1)
/-- one more contract of a method that may throw -/
theorem nextX_ok {l : Launch} (hl0 : l.stackTraces = false) {MT : List MI} {CT : List CK} {P : PD} {mi : MI} {L : List TX} (ps : List (List Nat × Nat × Nat)) (hMT : MTok TB MT) (hcl : CLok TB nCl nTy) (hai : Cond.arrayClass .int ∈ TB ∧ Cond.arrayClass .byte ∈ TB)
    (hA : AllV l nCl gC MT CT) (hC : CTab nCl gC MT mi.1.cls (pdFL P) (pdLD P) (pdLL P) (pdML P) (pdNW P) (pdOI P) (pdMA P)) (hcls : mi.1.cls = "FlateFilter") (hok : okB P mi = true)
    (hX : ((L.zip ps).all (fun q => txB (pdK P) mi.2.1 q.1 q.2.1 q.2.2.1 q.2.2.2) && (decide (ps.length = L.length) && (decide ((pdCuts P).map (fun q => q.1) = L.map (fun x => x.1)) && (pdCuts P).all (fun q => q.2.1.2.2.2.1.isEmpty)))) = true)
    {fuel : Nat} {tp : List TI} (hr : (exec nTy nCl MT CT P none fuel (false, entCf (pdK P)) tp).isSome = true) : ValidX l TB nCl gC mi (pdK P) (xOf P L) := by
  unfold okB at hok
  simp only [Bool.and_eq_true, decide_eq_true_eq, Bool.or_eq_true, Bool.not_eq_true'] at hok hX
  obtain ⟨k1, k2, k3, k4, k5, k6⟩ := hok
  obtain ⟨c1, c2, c3, c4, c5, c7, c6⟩ := hC
  obtain ⟨h1, h2, h3, h4⟩ := hX
  obtain ⟨t, ht⟩ := Option.isSome_iff_exists.mp hr
  have hlen : (pdCuts P).length = L.length := by
    have := congrArg List.length h3
    simpa using this
  refine methodX_ok hl0 k1 ⟨gC_ok, TB_ok, hMT, c1, hcl, c2, c3, c4, c5, hai, c6, c7, deB_ok k6⟩ k2 k3 (fun h => ?_) k5 hA (fun q hq => ?_) (fun x hx => ?_) ⟨fuel, tp, t, ht⟩
  · rcases k4 with k4 | k4
    · rw [h] at k4; cases k4
    · exact k4
  · obtain ⟨k, hk⟩ := List.getElem?_of_mem hq
    have hkl := (List.getElem?_eq_some_iff.mp hk).1
    have hz : (L.zip (pdCuts P))[k]? = some (L[k]'(by omega), q) := by
      rw [List.getElem?_zip_eq_some]
      exact ⟨List.getElem?_eq_getElem _, hk⟩
    refine ⟨(L[k]'(by omega), q.2.1), List.mem_map.mpr ⟨_, List.mem_of_getElem? hz, rfl⟩, ?_, rfl⟩
    have h5 := congrArg (fun z => z[k]?) h3
    simp only [List.getElem?_map, hk, List.getElem?_eq_getElem (show k < L.length by omega), Option.map_some] at h5
    exact (Option.some.inj h5).symm
  · obtain ⟨⟨y, q⟩, hyq, rfl⟩ := List.mem_map.mp hx
    obtain ⟨k, hk⟩ := List.getElem?_of_mem hyq
    rw [List.getElem?_zip_eq_some] at hk
    obtain ⟨hy, hq⟩ := hk
    have hkl := (List.getElem?_eq_some_iff.mp hy).1
    have hz : (L.zip ps)[k]? = some (y, ps[k]'(by omega)) := by
      rw [List.getElem?_zip_eq_some]
      exact ⟨hy, List.getElem?_eq_getElem _⟩
    have h6 := List.all_eq_true.mp h1 _ (List.mem_of_getElem? hz)
    have h7 := List.all_eq_true.mp h4 _ (List.mem_of_getElem? hq)
    rw [hcls]
    exact ⟨List.isEmpty_iff.mp h7, txB_ok h6⟩
