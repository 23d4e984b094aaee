/-! each method of class and reference as a step (by program) -/
def iMs : List IT := [iM0, iM2, iM10]
def iCs : List IT := [iC3, iC2]
theorem SB.nil0 : SB [] [] := ⟨rfl, fun i lo hi h => by simp at h⟩
theorem SB.cons0 {v : List Int} {b : Bnd} {x lo hi : Int} (h0 : lo ≤ x) (h1 : x ≤ hi) (h : SB v b) : SB (x :: v) ((lo, hi) :: b) := by
  refine ⟨by rw [List.length_cons, List.length_cons, h.1], fun i lo' hi' hi9 => ?_⟩
  cases i with
  | zero =>
    rw [List.getElem?_cons_zero] at hi9
    cases hi9
    exact ⟨x, rfl, h0, h1⟩
  | succ i =>
    rw [List.getElem?_cons_succ] at hi9 ⊢
    exact h.2 i lo' hi' hi9
theorem SB.int0 {v : List Int} {b : Bnd} {x : Int32} (h : SB v b) : SB (x.toInt :: v) (((-2147483648), 2147483647) :: b) := SB.cons0 (by have := x.le_toInt; omega) (by have := x.toInt_lt; omega) h
theorem rsI {ads : List Nat} {v : List Int} {e : LE} {r : Option Value} (h : RS ads v (some (some (.inr (.inl e)))) r) : rtI r := by
  cases r with
  | none => exact h.elim
  | some x =>
    obtain ⟨n, rfl, -⟩ := h
    exact ⟨n, rfl⟩
theorem rsL {ads : List Nat} {v : List Int} {e : Option LE} {r : Option Value} (h : RS ads v (some (some (.inr (.inr e)))) r) : rtL r := by
  cases r with
  | none => exact h.elim
  | some x =>
    obtain ⟨n, rfl, -⟩ := h
    exact ⟨n, rfl⟩
theorem rsV {ads : List Nat} {v : List Int} {r : Option Value} (h : RS ads v none r) : rtV r := by
  cases r with
  | none => rfl
  | some x => exact h.elim
theorem sc0 {v : List Int} : SC v [] := fun e he => by cases he
abbrev rmM : Room := { frames := 9, cells := 0, slots := 0, locals := 205 }
abbrev rmC : Room := { frames := 8, cells := 0, slots := 0, locals := 189 }
abbrev rmX : Room := { frames := 8, cells := 1, slots := 6, locals := 189 }

abbrev mM_add : MI := (⟨RX12, "add", "(B)V"⟩, prog_14_method_3_code, 2, none, 1)
set_option maxRecDepth 100000 in
theorem sM_add {l : Launch} (x : Int32) (hx0 : -128 ≤ x.toInt) (hx1 : x.toInt ≤ 127) {D : va_G} {cy : Nat → ClassId} {ads : List Nat} {H : Heap} {a : Nat} (h : Lies D nCl cy iMs ads H) (ha : ads[0]? = some a) : Met l mM_add.1 (wsM TB mM_add) rmM (stP D cy gM ads H [.ref a, .int x]) (stQ D cy iMs ads H rtV) 0 0 (stA ads H.size) := by
  obtain ⟨T, hT, ws, hI, hP, hD⟩ := h
  rcases List.mem_cons.mp hT with rfl | hT
  · refine stp_one (u := [x.toInt]) (K := kM100) (aM140 100 kM100 mM_add rfl rfl) hI hP hD jp_add_0 (SB.cons0 hx0 hx1 SB.nil0) (fun mu hmu => argsI ha [x] 22 mu hmu) rfl (fun _ _ _ hr => rsV hr) ?_
    exact fun mu w ws' e1 e2 e3 => ⟨iM0, List.mem_cons_self, postB_ok jq_add_0 e1 e2 sc0 e3⟩
  rcases List.mem_cons.mp hT with rfl | hT
  · skip
    refine stp_one (u := [x.toInt]) (K := kM101) (aM140 101 kM101 mM_add rfl rfl) hI hP hD jp_add_2 (SB.cons0 hx0 hx1 SB.nil0) (fun mu hmu => argsI ha [x] 22 mu hmu) rfl (fun _ _ _ hr => rsV hr) ?_
    exact fun mu w ws' e1 e2 e3 => ⟨iM2, (List.mem_cons_of_mem _ List.mem_cons_self), postB_ok jq_add_2 e1 e2 sc0 e3⟩
  obtain rfl := List.mem_singleton.mp hT
  refine stp_one (u := [x.toInt]) (K := kM102) (aM140 102 kM102 mM_add rfl rfl) hI hP hD jp_add_10 (SB.cons0 hx0 hx1 SB.nil0) (fun mu hmu => argsI ha [x] 22 mu hmu) rfl (fun _ _ _ hr => rsV hr) ?_
  exact fun mu w ws' e1 e2 e3 => ⟨iM10, (List.mem_cons_of_mem _ (List.mem_cons_of_mem _ List.mem_cons_self)), postB_ok jq_add_10 e1 e2 sc0 e3⟩
abbrev mM_pack : MI := (⟨RX12, "pack", "(II)I"⟩, prog_14_method_49_code, 3, (some .int), 2)
set_option maxRecDepth 100000 in
theorem sM_pack {l : Launch} (x y : Int32) {D : va_G} {cy : Nat → ClassId} {ads : List Nat} {H : Heap} {a : Nat} (h : Lies D nCl cy iMs ads H) (ha : ads[0]? = some a) : Met l mM_pack.1 (wsM TB mM_pack) rmM (stP D cy gM ads H [.ref a, .int x, .int y]) (stQ D cy iMs ads H rtI) 0 0 (stA ads H.size) := by
  obtain ⟨T, hT, ws, hI, hP, hD⟩ := h
  rcases List.mem_cons.mp hT with rfl | hT
  · refine stp_one (u := [x.toInt, y.toInt]) (K := kM90) (aM140 90 kM90 mM_pack rfl rfl) hI hP hD jp_pack_0 (SB.int0 (SB.int0 SB.nil0)) (fun mu hmu => argsI ha [x, y] 22 mu hmu) rfl (fun _ _ _ hr => rsI hr) ?_
    exact fun mu w ws' e1 e2 e3 => ⟨iM0, List.mem_cons_self, postB_ok jq_pack_0 e1 e2 sc0 e3⟩
  rcases List.mem_cons.mp hT with rfl | hT
  · skip
    refine stp_one (u := [x.toInt, y.toInt]) (K := kM92) (aM140 92 kM92 mM_pack rfl rfl) hI hP hD jp_pack_2 (SB.int0 (SB.int0 SB.nil0)) (fun mu hmu => argsI ha [x, y] 22 mu hmu) rfl (fun _ _ _ hr => rsI hr) ?_
    exact fun mu w ws' e1 e2 e3 => ⟨iM2, (List.mem_cons_of_mem _ List.mem_cons_self), postB_ok jq_pack_2 e1 e2 sc0 e3⟩
  obtain rfl := List.mem_singleton.mp hT
  refine stp_one (u := [x.toInt, y.toInt]) (K := kM94) (aM140 94 kM94 mM_pack rfl rfl) hI hP hD jp_pack_10 (SB.int0 (SB.int0 SB.nil0)) (fun mu hmu => argsI ha [x, y] 22 mu hmu) rfl (fun _ _ _ hr => rsI hr) ?_
  exact fun mu w ws' e1 e2 e3 => ⟨iM10, (List.mem_cons_of_mem _ (List.mem_cons_of_mem _ List.mem_cons_self)), postB_ok jq_pack_10 e1 e2 sc0 e3⟩
abbrev mM_unpack : MI := (⟨RX12, "unpack", "(I)I"⟩, prog_14_method_73_code, 2, (some .int), 1)
set_option maxRecDepth 100000 in
theorem sM_unpack {l : Launch} (x : Int32) {D : va_G} {cy : Nat → ClassId} {ads : List Nat} {H : Heap} {a : Nat} (h : Lies D nCl cy iMs ads H) (ha : ads[0]? = some a) : Met l mM_unpack.1 (wsM TB mM_unpack) rmM (stP D cy gM ads H [.ref a, .int x]) (stQ D cy iMs ads H rtI) 0 0 (stA ads H.size) := by
  obtain ⟨T, hT, ws, hI, hP, hD⟩ := h
  rcases List.mem_cons.mp hT with rfl | hT
  · refine stp_one (u := [x.toInt]) (K := kM97) (aM140 97 kM97 mM_unpack rfl rfl) hI hP hD jp_unpack_0 (SB.int0 SB.nil0) (fun mu hmu => argsI ha [x] 22 mu hmu) rfl (fun _ _ _ hr => rsI hr) ?_
    exact fun mu w ws' e1 e2 e3 => ⟨iM0, List.mem_cons_self, postB_ok jq_unpack_0 e1 e2 sc0 e3⟩
  rcases List.mem_cons.mp hT with rfl | hT
  · skip
    refine stp_one (u := [x.toInt]) (K := kM98) (aM140 98 kM98 mM_unpack rfl rfl) hI hP hD jp_unpack_2 (SB.int0 SB.nil0) (fun mu hmu => argsI ha [x] 22 mu hmu) rfl (fun _ _ _ hr => rsI hr) ?_
    exact fun mu w ws' e1 e2 e3 => ⟨iM2, (List.mem_cons_of_mem _ List.mem_cons_self), postB_ok jq_unpack_2 e1 e2 sc0 e3⟩
  obtain rfl := List.mem_singleton.mp hT
  refine stp_one (u := [x.toInt]) (K := kM99) (aM140 99 kM99 mM_unpack rfl rfl) hI hP hD jp_unpack_10 (SB.int0 SB.nil0) (fun mu hmu => argsI ha [x] 22 mu hmu) rfl (fun _ _ _ hr => rsI hr) ?_
  exact fun mu w ws' e1 e2 e3 => ⟨iM10, (List.mem_cons_of_mem _ (List.mem_cons_of_mem _ List.mem_cons_self)), postB_ok jq_unpack_10 e1 e2 sc0 e3⟩
abbrev mM_out : MI := (⟨RX12, "out", "(I)B"⟩, prog_14_method_74_code, 2, (some .byte), 1)
set_option maxRecDepth 100000 in
theorem sM_out {l : Launch} (x : Int32) {D : va_G} {cy : Nat → ClassId} {ads : List Nat} {H : Heap} {a : Nat} (h : Lies D nCl cy iMs ads H) (ha : ads[0]? = some a) : Met l mM_out.1 (wsM TB mM_out) rmM (stP D cy gM ads H [.ref a, .int x]) (stQ D cy iMs ads H rtI) 0 0 (stA ads H.size) := by
  obtain ⟨T, hT, ws, hI, hP, hD⟩ := h
  rcases List.mem_cons.mp hT with rfl | hT
  · refine stp_one (u := [x.toInt]) (K := kM103) (aM140 103 kM103 mM_out rfl rfl) hI hP hD jp_out_0 (SB.int0 SB.nil0) (fun mu hmu => argsI ha [x] 22 mu hmu) rfl (fun _ _ _ hr => rsI hr) ?_
    exact fun mu w ws' e1 e2 e3 => ⟨iM0, List.mem_cons_self, postB_ok jq_out_0 e1 e2 sc0 e3⟩
  rcases List.mem_cons.mp hT with rfl | hT
  · skip
    refine stp_one (u := [x.toInt]) (K := kM104) (aM140 104 kM104 mM_out rfl rfl) hI hP hD jp_out_2 (SB.int0 SB.nil0) (fun mu hmu => argsI ha [x] 22 mu hmu) rfl (fun _ _ _ hr => rsI hr) ?_
    exact fun mu w ws' e1 e2 e3 => ⟨iM2, (List.mem_cons_of_mem _ List.mem_cons_self), postB_ok jq_out_2 e1 e2 sc0 e3⟩
  obtain rfl := List.mem_singleton.mp hT
  refine stp_one (u := [x.toInt]) (K := kM105) (aM140 105 kM105 mM_out rfl rfl) hI hP hD jp_out_10 (SB.int0 SB.nil0) (fun mu hmu => argsI ha [x] 22 mu hmu) rfl (fun _ _ _ hr => rsI hr) ?_
  exact fun mu w ws' e1 e2 e3 => ⟨iM10, (List.mem_cons_of_mem _ (List.mem_cons_of_mem _ List.mem_cons_self)), postB_ok jq_out_10 e1 e2 sc0 e3⟩
abbrev mM_predictor : MI := (⟨RX12, "predictor", "(IIII)I"⟩, prog_14_method_75_code, 7, (some .int), 4)
set_option maxRecDepth 100000 in
theorem sM_predictor {l : Launch} (x y z t : Int32) {D : va_G} {cy : Nat → ClassId} {ads : List Nat} {H : Heap} {a : Nat} (h : Lies D nCl cy iMs ads H) (ha : ads[0]? = some a) : Met l mM_predictor.1 (wsM TB mM_predictor) rmM (stP D cy gM ads H [.ref a, .int x, .int y, .int z, .int t]) (stQ D cy iMs ads H rtI) 0 0 (stA ads H.size) := by
  obtain ⟨T, hT, ws, hI, hP, hD⟩ := h
  rcases List.mem_cons.mp hT with rfl | hT
  · skip
    by_cases c0 : x.toInt ≤ (-1)
    · refine stp_one (u := [x.toInt, y.toInt, z.toInt, t.toInt]) (K := kM118) (aM140 118 kM118 mM_predictor rfl rfl) hI hP hD jp_predictor_0_n (SB.cons0 (by have := x.le_toInt; omega) (by omega) (SB.int0 (SB.int0 (SB.int0 SB.nil0)))) (fun mu hmu => argsI ha [x, y, z, t] 22 mu hmu) rfl (fun _ _ _ hr => rsI hr) ?_
      exact fun mu w ws' e1 e2 e3 => ⟨iM0, List.mem_cons_self, postB_ok jq_predictor_0_n e1 e2 sc0 e3⟩
    by_cases c1 : x.toInt ≤ 0
    · refine stp_one (u := [x.toInt, y.toInt, z.toInt, t.toInt]) (K := kM119) (aM140 119 kM119 mM_predictor rfl rfl) hI hP hD jp_predictor_0_0 (SB.cons0 (by omega) (by omega) (SB.int0 (SB.int0 (SB.int0 SB.nil0)))) (fun mu hmu => argsI ha [x, y, z, t] 22 mu hmu) rfl (fun _ _ _ hr => rsI hr) ?_
      exact fun mu w ws' e1 e2 e3 => ⟨iM0, List.mem_cons_self, postB_ok jq_predictor_0_0 e1 e2 sc0 e3⟩
    by_cases c2 : x.toInt ≤ 1
    · refine stp_one (u := [x.toInt, y.toInt, z.toInt, t.toInt]) (K := kM120) (aM140 120 kM120 mM_predictor rfl rfl) hI hP hD jp_predictor_0_1 (SB.cons0 (by omega) (by omega) (SB.int0 (SB.int0 (SB.int0 SB.nil0)))) (fun mu hmu => argsI ha [x, y, z, t] 22 mu hmu) rfl (fun _ _ _ hr => rsI hr) ?_
      exact fun mu w ws' e1 e2 e3 => ⟨iM0, List.mem_cons_self, postB_ok jq_predictor_0_1 e1 e2 sc0 e3⟩
    by_cases c3 : x.toInt ≤ 2
    · refine stp_one (u := [x.toInt, y.toInt, z.toInt, t.toInt]) (K := kM121) (aM140 121 kM121 mM_predictor rfl rfl) hI hP hD jp_predictor_0_2 (SB.cons0 (by omega) (by omega) (SB.int0 (SB.int0 (SB.int0 SB.nil0)))) (fun mu hmu => argsI ha [x, y, z, t] 22 mu hmu) rfl (fun _ _ _ hr => rsI hr) ?_
      intro mu w ws' e1 e2 e3
      obtain ⟨z, z1, z2, z3⟩ := e2.1.2 31 0 1 rfl
      have hz : EV (mu ++ w) (0, [(1, 31)]) z := EV.atom z1
      by_cases hz0 : z ≤ 0
      · exact ⟨iM0, List.mem_cons_self, postB_ok jq_predictor_0_2_0 e1 e2 (SC.mk1 (show EV (mu ++ w) (0, [((-1), 31)]) (-1 * z) from (show eSc (-1) (0, [(1, 31)]) = ((0, [((-1), 31)]) : LE) by decide +kernel) ▸ EV.sc (k := -1) hz) (by omega)) e3⟩
      · exact ⟨iM2, (List.mem_cons_of_mem _ List.mem_cons_self), postB_ok jq_predictor_0_2_1 e1 e2 (SC.mk1 (show EV (mu ++ w) ((-1), [(1, 31)]) (z + -1) from EV.plus (n := -1) hz) (by omega)) e3⟩
    by_cases c4 : x.toInt ≤ 9
    · refine stp_one (u := [x.toInt, y.toInt, z.toInt, t.toInt]) (K := kM122) (aM140 122 kM122 mM_predictor rfl rfl) hI hP hD jp_predictor_0_3 (SB.cons0 (by omega) (by omega) (SB.int0 (SB.int0 (SB.int0 SB.nil0)))) (fun mu hmu => argsI ha [x, y, z, t] 22 mu hmu) rfl (fun _ _ _ hr => rsI hr) ?_
      exact fun mu w ws' e1 e2 e3 => ⟨iM0, List.mem_cons_self, postB_ok jq_predictor_0_3 e1 e2 sc0 e3⟩
    by_cases c5 : x.toInt ≤ 15
    · refine stp_one (u := [x.toInt, y.toInt, z.toInt, t.toInt]) (K := kM123) (aM140 123 kM123 mM_predictor rfl rfl) hI hP hD jp_predictor_0_10 (SB.cons0 (by omega) (by omega) (SB.int0 (SB.int0 (SB.int0 SB.nil0)))) (fun mu hmu => argsI ha [x, y, z, t] 22 mu hmu) rfl (fun _ _ _ hr => rsI hr) ?_
      intro mu w ws' e1 e2 e3
      obtain ⟨z, z1, z2, z3⟩ := e2.1.2 31 0 1 rfl
      have hz : EV (mu ++ w) (0, [(1, 31)]) z := EV.atom z1
      by_cases hz0 : z ≤ 0
      · exact ⟨iM0, List.mem_cons_self, postB_ok jq_predictor_0_10_0 e1 e2 (SC.mk1 (show EV (mu ++ w) (0, [((-1), 31)]) (-1 * z) from (show eSc (-1) (0, [(1, 31)]) = ((0, [((-1), 31)]) : LE) by decide +kernel) ▸ EV.sc (k := -1) hz) (by omega)) e3⟩
      · exact ⟨iM10, (List.mem_cons_of_mem _ (List.mem_cons_of_mem _ List.mem_cons_self)), postB_ok jq_predictor_0_10_1 e1 e2 (SC.mk1 (show EV (mu ++ w) ((-1), [(1, 31)]) (z + -1) from EV.plus (n := -1) hz) (by omega)) e3⟩
    refine stp_one (u := [x.toInt, y.toInt, z.toInt, t.toInt]) (K := kM124) (aM140 124 kM124 mM_predictor rfl rfl) hI hP hD jp_predictor_0_16 (SB.cons0 (by omega) (by have := x.toInt_lt; omega) (SB.int0 (SB.int0 (SB.int0 SB.nil0)))) (fun mu hmu => argsI ha [x, y, z, t] 22 mu hmu) rfl (fun _ _ _ hr => rsI hr) ?_
    exact fun mu w ws' e1 e2 e3 => ⟨iM0, List.mem_cons_self, postB_ok jq_predictor_0_16 e1 e2 sc0 e3⟩
  rcases List.mem_cons.mp hT with rfl | hT
  · skip
    by_cases c0 : x.toInt ≤ (-1)
    · refine stp_one (u := [x.toInt, y.toInt, z.toInt, t.toInt]) (K := kM125) (aM140 125 kM125 mM_predictor rfl rfl) hI hP hD jp_predictor_2_n (SB.cons0 (by have := x.le_toInt; omega) (by omega) (SB.int0 (SB.int0 (SB.int0 SB.nil0)))) (fun mu hmu => argsI ha [x, y, z, t] 22 mu hmu) rfl (fun _ _ _ hr => rsI hr) ?_
      exact fun mu w ws' e1 e2 e3 => ⟨iM2, (List.mem_cons_of_mem _ List.mem_cons_self), postB_ok jq_predictor_2_n e1 e2 sc0 e3⟩
    by_cases c1 : x.toInt ≤ 0
    · refine stp_one (u := [x.toInt, y.toInt, z.toInt, t.toInt]) (K := kM126) (aM140 126 kM126 mM_predictor rfl rfl) hI hP hD jp_predictor_2_0 (SB.cons0 (by omega) (by omega) (SB.int0 (SB.int0 (SB.int0 SB.nil0)))) (fun mu hmu => argsI ha [x, y, z, t] 22 mu hmu) rfl (fun _ _ _ hr => rsI hr) ?_
      intro mu w ws' e1 e2 e3
      obtain ⟨z, z1, z2, z3⟩ := e2.1.2 31 0 1 rfl
      have hz : EV (mu ++ w) (0, [(1, 31)]) z := EV.atom z1
      by_cases hz0 : z ≤ 0
      · exact ⟨iM2, (List.mem_cons_of_mem _ List.mem_cons_self), postB_ok jq_predictor_2_0_0 e1 e2 (SC.mk1 (show EV (mu ++ w) (0, [((-1), 31)]) (-1 * z) from (show eSc (-1) (0, [(1, 31)]) = ((0, [((-1), 31)]) : LE) by decide +kernel) ▸ EV.sc (k := -1) hz) (by omega)) e3⟩
      · exact ⟨iM0, List.mem_cons_self, postB_ok jq_predictor_2_0_1 e1 e2 (SC.mk1 (show EV (mu ++ w) ((-1), [(1, 31)]) (z + -1) from EV.plus (n := -1) hz) (by omega)) e3⟩
    by_cases c2 : x.toInt ≤ 1
    · refine stp_one (u := [x.toInt, y.toInt, z.toInt, t.toInt]) (K := kM127) (aM140 127 kM127 mM_predictor rfl rfl) hI hP hD jp_predictor_2_1 (SB.cons0 (by omega) (by omega) (SB.int0 (SB.int0 (SB.int0 SB.nil0)))) (fun mu hmu => argsI ha [x, y, z, t] 22 mu hmu) rfl (fun _ _ _ hr => rsI hr) ?_
      exact fun mu w ws' e1 e2 e3 => ⟨iM2, (List.mem_cons_of_mem _ List.mem_cons_self), postB_ok jq_predictor_2_1 e1 e2 sc0 e3⟩
    by_cases c3 : x.toInt ≤ 2
    · refine stp_one (u := [x.toInt, y.toInt, z.toInt, t.toInt]) (K := kM128) (aM140 128 kM128 mM_predictor rfl rfl) hI hP hD jp_predictor_2_2 (SB.cons0 (by omega) (by omega) (SB.int0 (SB.int0 (SB.int0 SB.nil0)))) (fun mu hmu => argsI ha [x, y, z, t] 22 mu hmu) rfl (fun _ _ _ hr => rsI hr) ?_
      exact fun mu w ws' e1 e2 e3 => ⟨iM2, (List.mem_cons_of_mem _ List.mem_cons_self), postB_ok jq_predictor_2_2 e1 e2 sc0 e3⟩
    by_cases c4 : x.toInt ≤ 9
    · refine stp_one (u := [x.toInt, y.toInt, z.toInt, t.toInt]) (K := kM129) (aM140 129 kM129 mM_predictor rfl rfl) hI hP hD jp_predictor_2_3 (SB.cons0 (by omega) (by omega) (SB.int0 (SB.int0 (SB.int0 SB.nil0)))) (fun mu hmu => argsI ha [x, y, z, t] 22 mu hmu) rfl (fun _ _ _ hr => rsI hr) ?_
      exact fun mu w ws' e1 e2 e3 => ⟨iM2, (List.mem_cons_of_mem _ List.mem_cons_self), postB_ok jq_predictor_2_3 e1 e2 sc0 e3⟩
    by_cases c5 : x.toInt ≤ 15
    · refine stp_one (u := [x.toInt, y.toInt, z.toInt, t.toInt]) (K := kM130) (aM140 130 kM130 mM_predictor rfl rfl) hI hP hD jp_predictor_2_10 (SB.cons0 (by omega) (by omega) (SB.int0 (SB.int0 (SB.int0 SB.nil0)))) (fun mu hmu => argsI ha [x, y, z, t] 22 mu hmu) rfl (fun _ _ _ hr => rsI hr) ?_
      intro mu w ws' e1 e2 e3
      obtain ⟨z, z1, z2, z3⟩ := e2.1.2 31 0 1 rfl
      have hz : EV (mu ++ w) (0, [(1, 31)]) z := EV.atom z1
      by_cases hz0 : z ≤ 0
      · exact ⟨iM2, (List.mem_cons_of_mem _ List.mem_cons_self), postB_ok jq_predictor_2_10_0 e1 e2 (SC.mk1 (show EV (mu ++ w) (0, [((-1), 31)]) (-1 * z) from (show eSc (-1) (0, [(1, 31)]) = ((0, [((-1), 31)]) : LE) by decide +kernel) ▸ EV.sc (k := -1) hz) (by omega)) e3⟩
      · exact ⟨iM10, (List.mem_cons_of_mem _ (List.mem_cons_of_mem _ List.mem_cons_self)), postB_ok jq_predictor_2_10_1 e1 e2 (SC.mk1 (show EV (mu ++ w) ((-1), [(1, 31)]) (z + -1) from EV.plus (n := -1) hz) (by omega)) e3⟩
    refine stp_one (u := [x.toInt, y.toInt, z.toInt, t.toInt]) (K := kM131) (aM140 131 kM131 mM_predictor rfl rfl) hI hP hD jp_predictor_2_16 (SB.cons0 (by omega) (by have := x.toInt_lt; omega) (SB.int0 (SB.int0 (SB.int0 SB.nil0)))) (fun mu hmu => argsI ha [x, y, z, t] 22 mu hmu) rfl (fun _ _ _ hr => rsI hr) ?_
    exact fun mu w ws' e1 e2 e3 => ⟨iM2, (List.mem_cons_of_mem _ List.mem_cons_self), postB_ok jq_predictor_2_16 e1 e2 sc0 e3⟩
  obtain rfl := List.mem_singleton.mp hT
  by_cases c0 : x.toInt ≤ (-1)
  · refine stp_one (u := [x.toInt, y.toInt, z.toInt, t.toInt]) (K := kM132) (aM140 132 kM132 mM_predictor rfl rfl) hI hP hD jp_predictor_10_n (SB.cons0 (by have := x.le_toInt; omega) (by omega) (SB.int0 (SB.int0 (SB.int0 SB.nil0)))) (fun mu hmu => argsI ha [x, y, z, t] 22 mu hmu) rfl (fun _ _ _ hr => rsI hr) ?_
    exact fun mu w ws' e1 e2 e3 => ⟨iM10, (List.mem_cons_of_mem _ (List.mem_cons_of_mem _ List.mem_cons_self)), postB_ok jq_predictor_10_n e1 e2 sc0 e3⟩
  by_cases c1 : x.toInt ≤ 0
  · refine stp_one (u := [x.toInt, y.toInt, z.toInt, t.toInt]) (K := kM133) (aM140 133 kM133 mM_predictor rfl rfl) hI hP hD jp_predictor_10_0 (SB.cons0 (by omega) (by omega) (SB.int0 (SB.int0 (SB.int0 SB.nil0)))) (fun mu hmu => argsI ha [x, y, z, t] 22 mu hmu) rfl (fun _ _ _ hr => rsI hr) ?_
    intro mu w ws' e1 e2 e3
    obtain ⟨z, z1, z2, z3⟩ := e2.1.2 31 0 1 rfl
    have hz : EV (mu ++ w) (0, [(1, 31)]) z := EV.atom z1
    by_cases hz0 : z ≤ 0
    · exact ⟨iM10, (List.mem_cons_of_mem _ (List.mem_cons_of_mem _ List.mem_cons_self)), postB_ok jq_predictor_10_0_0 e1 e2 (SC.mk1 (show EV (mu ++ w) (0, [((-1), 31)]) (-1 * z) from (show eSc (-1) (0, [(1, 31)]) = ((0, [((-1), 31)]) : LE) by decide +kernel) ▸ EV.sc (k := -1) hz) (by omega)) e3⟩
    · exact ⟨iM0, List.mem_cons_self, postB_ok jq_predictor_10_0_1 e1 e2 (SC.mk1 (show EV (mu ++ w) ((-1), [(1, 31)]) (z + -1) from EV.plus (n := -1) hz) (by omega)) e3⟩
  by_cases c2 : x.toInt ≤ 1
  · refine stp_one (u := [x.toInt, y.toInt, z.toInt, t.toInt]) (K := kM134) (aM140 134 kM134 mM_predictor rfl rfl) hI hP hD jp_predictor_10_1 (SB.cons0 (by omega) (by omega) (SB.int0 (SB.int0 (SB.int0 SB.nil0)))) (fun mu hmu => argsI ha [x, y, z, t] 22 mu hmu) rfl (fun _ _ _ hr => rsI hr) ?_
    exact fun mu w ws' e1 e2 e3 => ⟨iM10, (List.mem_cons_of_mem _ (List.mem_cons_of_mem _ List.mem_cons_self)), postB_ok jq_predictor_10_1 e1 e2 sc0 e3⟩
  by_cases c3 : x.toInt ≤ 2
  · refine stp_one (u := [x.toInt, y.toInt, z.toInt, t.toInt]) (K := kM135) (aM140 135 kM135 mM_predictor rfl rfl) hI hP hD jp_predictor_10_2 (SB.cons0 (by omega) (by omega) (SB.int0 (SB.int0 (SB.int0 SB.nil0)))) (fun mu hmu => argsI ha [x, y, z, t] 22 mu hmu) rfl (fun _ _ _ hr => rsI hr) ?_
    intro mu w ws' e1 e2 e3
    obtain ⟨z, z1, z2, z3⟩ := e2.1.2 31 0 1 rfl
    have hz : EV (mu ++ w) (0, [(1, 31)]) z := EV.atom z1
    by_cases hz0 : z ≤ 0
    · exact ⟨iM10, (List.mem_cons_of_mem _ (List.mem_cons_of_mem _ List.mem_cons_self)), postB_ok jq_predictor_10_2_0 e1 e2 (SC.mk1 (show EV (mu ++ w) (0, [((-1), 31)]) (-1 * z) from (show eSc (-1) (0, [(1, 31)]) = ((0, [((-1), 31)]) : LE) by decide +kernel) ▸ EV.sc (k := -1) hz) (by omega)) e3⟩
    · exact ⟨iM2, (List.mem_cons_of_mem _ List.mem_cons_self), postB_ok jq_predictor_10_2_1 e1 e2 (SC.mk1 (show EV (mu ++ w) ((-1), [(1, 31)]) (z + -1) from EV.plus (n := -1) hz) (by omega)) e3⟩
  by_cases c4 : x.toInt ≤ 9
  · refine stp_one (u := [x.toInt, y.toInt, z.toInt, t.toInt]) (K := kM136) (aM140 136 kM136 mM_predictor rfl rfl) hI hP hD jp_predictor_10_3 (SB.cons0 (by omega) (by omega) (SB.int0 (SB.int0 (SB.int0 SB.nil0)))) (fun mu hmu => argsI ha [x, y, z, t] 22 mu hmu) rfl (fun _ _ _ hr => rsI hr) ?_
    exact fun mu w ws' e1 e2 e3 => ⟨iM10, (List.mem_cons_of_mem _ (List.mem_cons_of_mem _ List.mem_cons_self)), postB_ok jq_predictor_10_3 e1 e2 sc0 e3⟩
  by_cases c5 : x.toInt ≤ 15
  · refine stp_one (u := [x.toInt, y.toInt, z.toInt, t.toInt]) (K := kM137) (aM140 137 kM137 mM_predictor rfl rfl) hI hP hD jp_predictor_10_10 (SB.cons0 (by omega) (by omega) (SB.int0 (SB.int0 (SB.int0 SB.nil0)))) (fun mu hmu => argsI ha [x, y, z, t] 22 mu hmu) rfl (fun _ _ _ hr => rsI hr) ?_
    exact fun mu w ws' e1 e2 e3 => ⟨iM10, (List.mem_cons_of_mem _ (List.mem_cons_of_mem _ List.mem_cons_self)), postB_ok jq_predictor_10_10 e1 e2 sc0 e3⟩
  refine stp_one (u := [x.toInt, y.toInt, z.toInt, t.toInt]) (K := kM138) (aM140 138 kM138 mM_predictor rfl rfl) hI hP hD jp_predictor_10_16 (SB.cons0 (by omega) (by have := x.toInt_lt; omega) (SB.int0 (SB.int0 (SB.int0 SB.nil0)))) (fun mu hmu => argsI ha [x, y, z, t] 22 mu hmu) rfl (fun _ _ _ hr => rsI hr) ?_
  exact fun mu w ws' e1 e2 e3 => ⟨iM10, (List.mem_cons_of_mem _ (List.mem_cons_of_mem _ List.mem_cons_self)), postB_ok jq_predictor_10_16 e1 e2 sc0 e3⟩
abbrev mM_sum : MI := (⟨RX12, "sum", "(I)J"⟩, prog_14_method_77_code, 2, (some .long), 1)
set_option maxRecDepth 100000 in
theorem sM_sum {l : Launch} (x : Int32) {D : va_G} {cy : Nat → ClassId} {ads : List Nat} {H : Heap} {a : Nat} (h : Lies D nCl cy iMs ads H) (ha : ads[0]? = some a) : Met l mM_sum.1 (wsM TB mM_sum) rmM (stP D cy gM ads H [.ref a, .int x]) (stQ D cy iMs ads H rtL) 0 0 (stA ads H.size) := by
  obtain ⟨T, hT, ws, hI, hP, hD⟩ := h
  rcases List.mem_cons.mp hT with rfl | hT
  · refine stp_one (u := [x.toInt]) (K := kM109) (aM140 109 kM109 mM_sum rfl rfl) hI hP hD jp_sum_0 (SB.int0 SB.nil0) (fun mu hmu => argsI ha [x] 22 mu hmu) rfl (fun _ _ _ hr => rsL hr) ?_
    exact fun mu w ws' e1 e2 e3 => ⟨iM0, List.mem_cons_self, postB_ok jq_sum_0 e1 e2 sc0 e3⟩
  rcases List.mem_cons.mp hT with rfl | hT
  · skip
    refine stp_one (u := [x.toInt]) (K := kM110) (aM140 110 kM110 mM_sum rfl rfl) hI hP hD jp_sum_2 (SB.int0 SB.nil0) (fun mu hmu => argsI ha [x] 22 mu hmu) rfl (fun _ _ _ hr => rsL hr) ?_
    exact fun mu w ws' e1 e2 e3 => ⟨iM2, (List.mem_cons_of_mem _ List.mem_cons_self), postB_ok jq_sum_2 e1 e2 sc0 e3⟩
  obtain rfl := List.mem_singleton.mp hT
  refine stp_one (u := [x.toInt]) (K := kM111) (aM140 111 kM111 mM_sum rfl rfl) hI hP hD jp_sum_10 (SB.int0 SB.nil0) (fun mu hmu => argsI ha [x] 22 mu hmu) rfl (fun _ _ _ hr => rsL hr) ?_
  exact fun mu w ws' e1 e2 e3 => ⟨iM10, (List.mem_cons_of_mem _ (List.mem_cons_of_mem _ List.mem_cons_self)), postB_ok jq_sum_10 e1 e2 sc0 e3⟩
abbrev mM_differs : MI := (⟨RX12, "differs", "()Z"⟩, prog_14_method_78_code, 1, (some .boolean), 0)
set_option maxRecDepth 100000 in
theorem sM_differs {l : Launch} {D : va_G} {cy : Nat → ClassId} {ads : List Nat} {H : Heap} {a : Nat} (h : Lies D nCl cy iMs ads H) (ha : ads[0]? = some a) : Met l mM_differs.1 (wsM TB mM_differs) rmM (stP D cy gM ads H [.ref a]) (stQ D cy iMs ads H rtI) 0 0 (stA ads H.size) := by
  obtain ⟨T, hT, ws, hI, hP, hD⟩ := h
  rcases List.mem_cons.mp hT with rfl | hT
  · refine stp_one (u := []) (K := kM112) (aM140 112 kM112 mM_differs rfl rfl) hI hP hD jp_differs_0 SB.nil0 (fun mu hmu => argsI ha [] 22 mu hmu) rfl (fun _ _ _ hr => rsI hr) ?_
    exact fun mu w ws' e1 e2 e3 => ⟨iM0, List.mem_cons_self, postB_ok jq_differs_0 e1 e2 sc0 e3⟩
  rcases List.mem_cons.mp hT with rfl | hT
  · skip
    refine stp_one (u := []) (K := kM113) (aM140 113 kM113 mM_differs rfl rfl) hI hP hD jp_differs_2 SB.nil0 (fun mu hmu => argsI ha [] 22 mu hmu) rfl (fun _ _ _ hr => rsI hr) ?_
    exact fun mu w ws' e1 e2 e3 => ⟨iM2, (List.mem_cons_of_mem _ List.mem_cons_self), postB_ok jq_differs_2 e1 e2 sc0 e3⟩
  obtain rfl := List.mem_singleton.mp hT
  refine stp_one (u := []) (K := kM114) (aM140 114 kM114 mM_differs rfl rfl) hI hP hD jp_differs_10 SB.nil0 (fun mu hmu => argsI ha [] 22 mu hmu) rfl (fun _ _ _ hr => rsI hr) ?_
  exact fun mu w ws' e1 e2 e3 => ⟨iM10, (List.mem_cons_of_mem _ (List.mem_cons_of_mem _ List.mem_cons_self)), postB_ok jq_differs_10 e1 e2 sc0 e3⟩
abbrev mM_chain : MI := (⟨RX12, "chain", "(I)I"⟩, prog_14_method_50_code, 4, (some .int), 1)
set_option maxRecDepth 100000 in
theorem sM_chain {l : Launch} (x : Int32) {D : va_G} {cy : Nat → ClassId} {ads : List Nat} {H : Heap} {a : Nat} (h : Lies D nCl cy iMs ads H) (ha : ads[0]? = some a) : Met l mM_chain.1 (wsM TB mM_chain) rmM (stP D cy gM ads H [.ref a, .int x]) (stQ D cy iMs ads H rtI) 0 0 (stA ads H.size) := by
  obtain ⟨T, hT, ws, hI, hP, hD⟩ := h
  rcases List.mem_cons.mp hT with rfl | hT
  · refine stp_one (u := [x.toInt]) (K := kM91) (aM140 91 kM91 mM_chain rfl rfl) hI hP hD jp_chain_0 (SB.int0 SB.nil0) (fun mu hmu => argsI ha [x] 22 mu hmu) rfl (fun _ _ _ hr => rsI hr) ?_
    exact fun mu w ws' e1 e2 e3 => ⟨iM0, List.mem_cons_self, postB_ok jq_chain_0 e1 e2 sc0 e3⟩
  rcases List.mem_cons.mp hT with rfl | hT
  · skip
    refine stp_one (u := [x.toInt]) (K := kM93) (aM140 93 kM93 mM_chain rfl rfl) hI hP hD jp_chain_2 (SB.int0 SB.nil0) (fun mu hmu => argsI ha [x] 22 mu hmu) rfl (fun _ _ _ hr => rsI hr) ?_
    exact fun mu w ws' e1 e2 e3 => ⟨iM2, (List.mem_cons_of_mem _ List.mem_cons_self), postB_ok jq_chain_2 e1 e2 sc0 e3⟩
  obtain rfl := List.mem_singleton.mp hT
  refine stp_one (u := [x.toInt]) (K := kM95) (aM140 95 kM95 mM_chain rfl rfl) hI hP hD jp_chain_10 (SB.int0 SB.nil0) (fun mu hmu => argsI ha [x] 22 mu hmu) rfl (fun _ _ _ hr => rsI hr) ?_
  exact fun mu w ws' e1 e2 e3 => ⟨iM10, (List.mem_cons_of_mem _ (List.mem_cons_of_mem _ List.mem_cons_self)), postB_ok jq_chain_10 e1 e2 sc0 e3⟩
abbrev mM_cell : MI := (⟨RX12, "cell", "(I)I"⟩, prog_14_method_79_code, 2, (some .int), 1)
set_option maxRecDepth 100000 in
theorem sM_cell {l : Launch} (x : Int32) {D : va_G} {cy : Nat → ClassId} {ads : List Nat} {H : Heap} {a : Nat} (h : Lies D nCl cy iMs ads H) (ha : ads[0]? = some a) : Met l mM_cell.1 (wsM TB mM_cell) rmM (stP D cy gM ads H [.ref a, .int x]) (stQ D cy iMs ads H rtI) 0 0 (stA ads H.size) := by
  obtain ⟨T, hT, ws, hI, hP, hD⟩ := h
  rcases List.mem_cons.mp hT with rfl | hT
  · refine stp_one (u := [x.toInt]) (K := kM115) (aM140 115 kM115 mM_cell rfl rfl) hI hP hD jp_cell_0 (SB.int0 SB.nil0) (fun mu hmu => argsI ha [x] 22 mu hmu) rfl (fun _ _ _ hr => rsI hr) ?_
    exact fun mu w ws' e1 e2 e3 => ⟨iM0, List.mem_cons_self, postB_ok jq_cell_0 e1 e2 sc0 e3⟩
  rcases List.mem_cons.mp hT with rfl | hT
  · skip
    refine stp_one (u := [x.toInt]) (K := kM116) (aM140 116 kM116 mM_cell rfl rfl) hI hP hD jp_cell_2 (SB.int0 SB.nil0) (fun mu hmu => argsI ha [x] 22 mu hmu) rfl (fun _ _ _ hr => rsI hr) ?_
    exact fun mu w ws' e1 e2 e3 => ⟨iM2, (List.mem_cons_of_mem _ List.mem_cons_self), postB_ok jq_cell_2 e1 e2 sc0 e3⟩
  obtain rfl := List.mem_singleton.mp hT
  refine stp_one (u := [x.toInt]) (K := kM117) (aM140 117 kM117 mM_cell rfl rfl) hI hP hD jp_cell_10 (SB.int0 SB.nil0) (fun mu hmu => argsI ha [x] 22 mu hmu) rfl (fun _ _ _ hr => rsI hr) ?_
  exact fun mu w ws' e1 e2 e3 => ⟨iM10, (List.mem_cons_of_mem _ (List.mem_cons_of_mem _ List.mem_cons_self)), postB_ok jq_cell_10 e1 e2 sc0 e3⟩
abbrev mC_predictor : MI := (⟨RX11, "predictor", "(IIII)I"⟩, prog_1_method_6_code, 5, (some .int), 4)
set_option maxRecDepth 100000 in
theorem sC_predictor {l : Launch} (x y z t : Int32) {D : va_G} {cy : Nat → ClassId} {ads : List Nat} {H : Heap} {a : Nat} (h : Lies D nCl cy iCs ads H) (ha : ads[0]? = some a) : Met l mC_predictor.1 (wsM TB mC_predictor) rmC (stP D cy gC ads H [.ref a, .int x, .int y, .int z, .int t]) (stQ D cy iCs ads H rtI) 0 0 (stA ads H.size) := by
  obtain ⟨T, hT, ws, hI, hP, hD⟩ := h
  rcases List.mem_cons.mp hT with rfl | hT
  · refine stp_one (u := [x.toInt, y.toInt, z.toInt, t.toInt]) (K := kC254) (aC285 254 kC254 mC_predictor rfl rfl) hI hP hD ip_predictor_3 (SB.int0 (SB.int0 (SB.int0 (SB.int0 SB.nil0)))) (fun mu hmu => argsI ha [x, y, z, t] 23 mu hmu) rfl (fun _ _ _ hr => rsI hr) ?_
    exact fun mu w ws' e1 e2 e3 => ⟨iC3, List.mem_cons_self, postB_ok iq_predictor_3 e1 e2 sc0 e3⟩
  obtain rfl := List.mem_singleton.mp hT
  refine stp_one (u := [x.toInt, y.toInt, z.toInt, t.toInt]) (K := kC266) (aC285 266 kC266 mC_predictor rfl rfl) hI hP hD ip_predictor_2 (SB.int0 (SB.int0 (SB.int0 (SB.int0 SB.nil0)))) (fun mu hmu => argsI ha [x, y, z, t] 23 mu hmu) rfl (fun _ _ _ hr => rsI hr) ?_
  exact fun mu w ws' e1 e2 e3 => ⟨iC2, (List.mem_cons_of_mem _ List.mem_cons_self), postB_ok iq_predictor_2 e1 e2 sc0 e3⟩
abbrev mC_differs : MI := (⟨RX11, "differs", "()Z"⟩, prog_1_method_9_code, 1, (some .boolean), 0)
set_option maxRecDepth 100000 in
theorem sC_differs {l : Launch} {D : va_G} {cy : Nat → ClassId} {ads : List Nat} {H : Heap} {a : Nat} (h : Lies D nCl cy iCs ads H) (ha : ads[0]? = some a) : Met l mC_differs.1 (wsM TB mC_differs) rmC (stP D cy gC ads H [.ref a]) (stQ D cy iCs ads H rtI) 0 0 (stA ads H.size) := by
  obtain ⟨T, hT, ws, hI, hP, hD⟩ := h
  rcases List.mem_cons.mp hT with rfl | hT
  · refine stp_one (u := []) (K := kC253) (aC285 253 kC253 mC_differs rfl rfl) hI hP hD ip_differs_3 SB.nil0 (fun mu hmu => argsI ha [] 23 mu hmu) rfl (fun _ _ _ hr => rsI hr) ?_
    exact fun mu w ws' e1 e2 e3 => ⟨iC3, List.mem_cons_self, postB_ok iq_differs_3 e1 e2 sc0 e3⟩
  obtain rfl := List.mem_singleton.mp hT
  refine stp_one (u := []) (K := kC265) (aC285 265 kC265 mC_differs rfl rfl) hI hP hD ip_differs_2 SB.nil0 (fun mu hmu => argsI ha [] 23 mu hmu) rfl (fun _ _ _ hr => rsI hr) ?_
  exact fun mu w ws' e1 e2 e3 => ⟨iC2, (List.mem_cons_of_mem _ List.mem_cons_self), postB_ok iq_differs_2 e1 e2 sc0 e3⟩
abbrev mC_add : MI := (⟨RX11, "add", "(B)V"⟩, prog_1_method_2_code, 2, none, 1)
set_option maxRecDepth 100000 in
theorem sC_add {l : Launch} (hl : l.stackTraces = false) (x : Int32) (hx0 : -128 ≤ x.toInt) (hx1 : x.toInt ≤ 127) {D : va_G} {cy : Nat → ClassId} {ads : List Nat} {H : Heap} {a : Nat} (h : Lies D nCl cy iCs ads H) (ha : ads[0]? = some a) : vx_Met l mC_add.1 (wsM TB mC_add) rmX (stP D cy gC ads H [.ref a, .int x]) (stQ D cy iCs ads H rtV) (stT D cy iCs ads H ["java/lang/UnsupportedOperationException"]) 1 6 (stA ads H.size) := by
  obtain ⟨T, hT, ws, hI, hP, hD⟩ := h
  rcases List.mem_cons.mp hT with rfl | hT
  · skip
    refine stpX_one (u := [x.toInt]) (K := kX7) (xX7 hl aC285) hI hP hD ip_add_3 (SB.cons0 hx0 hx1 SB.nil0) (fun mu hmu => argsI ha [x] 23 mu hmu) rfl (fun _ _ _ hr => rsV hr) (fun mu w ws' e1 e2 e3 => ⟨iC3, List.mem_cons_self, postB_ok iq_add_3 e1 e2 sc0 e3⟩) (fun q hq => ?_)
    have hq : q ∈ [((lX7.getD 0 default, ((pdCuts pX7).getD 0 default).2.1) : TX × Tm)] := hq
    obtain rfl := List.mem_singleton.mp hq
    exact ⟨by decide, rfl, fun v ws' e1 e2 => ⟨iC3, List.mem_cons_self, thrB_ok it_add_3_12 e1 e2⟩⟩
  obtain rfl := List.mem_singleton.mp hT
  refine stpX_one (u := [x.toInt]) (K := kX19) (xX19 hl aC285) hI hP hD ip_add_2 (SB.cons0 hx0 hx1 SB.nil0) (fun mu hmu => argsI ha [x] 23 mu hmu) rfl (fun _ _ _ hr => rsV hr) (fun mu w ws' e1 e2 e3 => ⟨iC2, (List.mem_cons_of_mem _ List.mem_cons_self), postB_ok iq_add_2 e1 e2 sc0 e3⟩) (fun q hq => ?_)
  have hq : q ∈ [((lX19.getD 0 default, ((pdCuts pX19).getD 0 default).2.1) : TX × Tm)] := hq
  obtain rfl := List.mem_singleton.mp hq
  exact ⟨by decide, rfl, fun v ws' e1 e2 => ⟨iC2, (List.mem_cons_of_mem _ List.mem_cons_self), thrB_ok it_add_2_12 e1 e2⟩⟩
abbrev mC_out : MI := (⟨RX11, "out", "(I)B"⟩, prog_1_method_5_code, 2, (some .byte), 1)
set_option maxRecDepth 100000 in
theorem sC_out {l : Launch} (hl : l.stackTraces = false) (x : Int32) {D : va_G} {cy : Nat → ClassId} {ads : List Nat} {H : Heap} {a : Nat} (h : Lies D nCl cy iCs ads H) (ha : ads[0]? = some a) : vx_Met l mC_out.1 (wsM TB mC_out) rmX (stP D cy gC ads H [.ref a, .int x]) (stQ D cy iCs ads H rtI) (stT D cy iCs ads H ["java/lang/ArrayIndexOutOfBoundsException"]) 1 6 (stA ads H.size) := by
  obtain ⟨T, hT, ws, hI, hP, hD⟩ := h
  rcases List.mem_cons.mp hT with rfl | hT
  · skip
    refine stpX_one (u := [x.toInt]) (K := kX8) (xX8 hl aC285) hI hP hD ip_out_3 (SB.int0 SB.nil0) (fun mu hmu => argsI ha [x] 23 mu hmu) rfl (fun _ _ _ hr => rsI hr) (fun mu w ws' e1 e2 e3 => ⟨iC3, List.mem_cons_self, postB_ok iq_out_3 e1 e2 sc0 e3⟩) (fun q hq => ?_)
    have hq : q ∈ [((lX8.getD 0 default, ((pdCuts pX8).getD 0 default).2.1) : TX × Tm)] := hq
    obtain rfl := List.mem_singleton.mp hq
    exact ⟨by decide, rfl, fun v ws' e1 e2 => ⟨iC3, List.mem_cons_self, thrB_ok it_out_3_21 e1 e2⟩⟩
  obtain rfl := List.mem_singleton.mp hT
  refine stpX_one (u := [x.toInt]) (K := kX20) (xX20 hl aC285) hI hP hD ip_out_2 (SB.int0 SB.nil0) (fun mu hmu => argsI ha [x] 23 mu hmu) rfl (fun _ _ _ hr => rsI hr) (fun mu w ws' e1 e2 e3 => ⟨iC2, (List.mem_cons_of_mem _ List.mem_cons_self), postB_ok iq_out_2 e1 e2 sc0 e3⟩) (fun q hq => ?_)
  have hq : q ∈ [((lX20.getD 0 default, ((pdCuts pX20).getD 0 default).2.1) : TX × Tm)] := hq
  obtain rfl := List.mem_singleton.mp hq
  exact ⟨by decide, rfl, fun v ws' e1 e2 => ⟨iC2, (List.mem_cons_of_mem _ List.mem_cons_self), thrB_ok it_out_2_21 e1 e2⟩⟩
abbrev mC_cell : MI := (⟨RX11, "cell", "(I)I"⟩, prog_1_method_11_code, 2, (some .int), 1)
set_option maxRecDepth 100000 in
theorem sC_cell {l : Launch} (hl : l.stackTraces = false) (x : Int32) {D : va_G} {cy : Nat → ClassId} {ads : List Nat} {H : Heap} {a : Nat} (h : Lies D nCl cy iCs ads H) (ha : ads[0]? = some a) : vx_Met l mC_cell.1 (wsM TB mC_cell) rmX (stP D cy gC ads H [.ref a, .int x]) (stQ D cy iCs ads H rtI) (stT D cy iCs ads H ["java/lang/ArrayIndexOutOfBoundsException"]) 1 6 (stA ads H.size) := by
  obtain ⟨T, hT, ws, hI, hP, hD⟩ := h
  rcases List.mem_cons.mp hT with rfl | hT
  · skip
    refine stpX_one (u := [x.toInt]) (K := kX9) (xX9 hl aC285) hI hP hD ip_cell_3 (SB.int0 SB.nil0) (fun mu hmu => argsI ha [x] 23 mu hmu) rfl (fun _ _ _ hr => rsI hr) (fun mu w ws' e1 e2 e3 => ⟨iC3, List.mem_cons_self, postB_ok iq_cell_3 e1 e2 sc0 e3⟩) (fun q hq => ?_)
    have hq : q ∈ [((lX9.getD 0 default, ((pdCuts pX9).getD 0 default).2.1) : TX × Tm)] := hq
    obtain rfl := List.mem_singleton.mp hq
    exact ⟨by decide, rfl, fun v ws' e1 e2 => ⟨iC3, List.mem_cons_self, thrB_ok it_cell_3_25 e1 e2⟩⟩
  obtain rfl := List.mem_singleton.mp hT
  refine stpX_one (u := [x.toInt]) (K := kX21) (xX21 hl aC285) hI hP hD ip_cell_2 (SB.int0 SB.nil0) (fun mu hmu => argsI ha [x] 23 mu hmu) rfl (fun _ _ _ hr => rsI hr) (fun mu w ws' e1 e2 e3 => ⟨iC2, (List.mem_cons_of_mem _ List.mem_cons_self), postB_ok iq_cell_2 e1 e2 sc0 e3⟩) (fun q hq => ?_)
  have hq : q ∈ [((lX21.getD 0 default, ((pdCuts pX21).getD 0 default).2.1) : TX × Tm)] := hq
  obtain rfl := List.mem_singleton.mp hq
  exact ⟨by decide, rfl, fun v ws' e1 e2 => ⟨iC2, (List.mem_cons_of_mem _ List.mem_cons_self), thrB_ok it_cell_2_25 e1 e2⟩⟩
abbrev mC_sum : MI := (⟨RX11, "sum", "(I)J"⟩, prog_1_method_8_code, 2, (some .long), 1)
set_option maxRecDepth 100000 in
theorem sC_sum {l : Launch} (hl : l.stackTraces = false) (x : Int32) {D : va_G} {cy : Nat → ClassId} {ads : List Nat} {H : Heap} {a : Nat} (h : Lies D nCl cy iCs ads H) (ha : ads[0]? = some a) : vx_Met l mC_sum.1 (wsM TB mC_sum) rmX (stP D cy gC ads H [.ref a, .int x]) (stQ D cy iCs ads H rtL) (stT D cy iCs ads H ["java/lang/IllegalArgumentException"]) 1 6 (stA ads H.size) := by
  obtain ⟨T, hT, ws, hI, hP, hD⟩ := h
  rcases List.mem_cons.mp hT with rfl | hT
  · skip
    refine stpX_one (u := [x.toInt]) (K := kX10) (xX10 hl aC285) hI hP hD ip_sum_3 (SB.int0 SB.nil0) (fun mu hmu => argsI ha [x] 23 mu hmu) rfl (fun _ _ _ hr => rsL hr) (fun mu w ws' e1 e2 e3 => ⟨iC3, List.mem_cons_self, postB_ok iq_sum_3 e1 e2 sc0 e3⟩) (fun q hq => ?_)
    have hq : q ∈ [((lX10.getD 0 default, ((pdCuts pX10).getD 0 default).2.1) : TX × Tm)] := hq
    obtain rfl := List.mem_singleton.mp hq
    exact ⟨by decide, rfl, fun v ws' e1 e2 => ⟨iC3, List.mem_cons_self, thrB_ok it_sum_3_9 e1 e2⟩⟩
  obtain rfl := List.mem_singleton.mp hT
  refine stpX_one (u := [x.toInt]) (K := kX22) (xX22 hl aC285) hI hP hD ip_sum_2 (SB.int0 SB.nil0) (fun mu hmu => argsI ha [x] 23 mu hmu) rfl (fun _ _ _ hr => rsL hr) (fun mu w ws' e1 e2 e3 => ⟨iC2, (List.mem_cons_of_mem _ List.mem_cons_self), postB_ok iq_sum_2 e1 e2 sc0 e3⟩) (fun q hq => ?_)
  have hq : q ∈ [((lX22.getD 0 default, ((pdCuts pX22).getD 0 default).2.1) : TX × Tm)] := hq
  obtain rfl := List.mem_singleton.mp hq
  exact ⟨by decide, rfl, fun v ws' e1 e2 => ⟨iC2, (List.mem_cons_of_mem _ List.mem_cons_self), thrB_ok it_sum_2_9 e1 e2⟩⟩
abbrev mC_unpack : MI := (⟨RX11, "unpack", "(I)I"⟩, prog_1_method_4_code, 3, (some .int), 1)
set_option maxRecDepth 100000 in
theorem sC_unpack {l : Launch} (hl : l.stackTraces = false) (x : Int32) {D : va_G} {cy : Nat → ClassId} {ads : List Nat} {H : Heap} {a : Nat} (h : Lies D nCl cy iCs ads H) (ha : ads[0]? = some a) : vx_Met l mC_unpack.1 (wsM TB mC_unpack) rmX (stP D cy gC ads H [.ref a, .int x]) (stQ D cy iCs ads H rtI) (stT D cy iCs ads H ["java/lang/IllegalArgumentException"]) 1 6 (stA ads H.size) := by
  obtain ⟨T, hT, ws, hI, hP, hD⟩ := h
  rcases List.mem_cons.mp hT with rfl | hT
  · skip
    refine stpX_one (u := [x.toInt]) (K := kX11) (xX11 hl aC285) hI hP hD ip_unpack_3 (SB.int0 SB.nil0) (fun mu hmu => argsI ha [x] 23 mu hmu) rfl (fun _ _ _ hr => rsI hr) (fun mu w ws' e1 e2 e3 => ⟨iC2, (List.mem_cons_of_mem _ List.mem_cons_self), postB_ok iq_unpack_3 e1 e2 sc0 e3⟩) (fun q hq => ?_)
    have hq : q ∈ [((lX11.getD 0 default, ((pdCuts pX11).getD 0 default).2.1) : TX × Tm)] := hq
    obtain rfl := List.mem_singleton.mp hq
    exact ⟨by decide, rfl, fun v ws' e1 e2 => ⟨iC3, List.mem_cons_self, thrB_ok it_unpack_3_7 e1 e2⟩⟩
  obtain rfl := List.mem_singleton.mp hT
  refine stpX_one (u := [x.toInt]) (K := kX23) (xX23 hl aC285) hI hP hD ip_unpack_2 (SB.int0 SB.nil0) (fun mu hmu => argsI ha [x] 23 mu hmu) rfl (fun _ _ _ hr => rsI hr) (fun mu w ws' e1 e2 e3 => ⟨iC3, List.mem_cons_self, postB_ok iq_unpack_2 e1 e2 sc0 e3⟩) (fun q hq => ?_)
  have hq : q ∈ [((lX23.getD 0 default, ((pdCuts pX23).getD 0 default).2.1) : TX × Tm)] := hq
  obtain rfl := List.mem_singleton.mp hq
  exact ⟨by decide, rfl, fun v ws' e1 e2 => ⟨iC2, (List.mem_cons_of_mem _ List.mem_cons_self), thrB_ok it_unpack_2_7 e1 e2⟩⟩
abbrev mC_pack : MI := (⟨RX11, "pack", "(II)I"⟩, prog_1_method_3_code, 3, (some .int), 2)
set_option maxRecDepth 100000 in
theorem sC_pack {l : Launch} (hl : l.stackTraces = false) (x y : Int32) {D : va_G} {cy : Nat → ClassId} {ads : List Nat} {H : Heap} {a : Nat} (h : Lies D nCl cy iCs ads H) (ha : ads[0]? = some a) : vx_Met l mC_pack.1 (wsM TB mC_pack) rmX (stP D cy gC ads H [.ref a, .int x, .int y]) (stQ D cy iCs ads H rtI) (stT D cy iCs ads H ["java/lang/IllegalArgumentException", "java/lang/UnsupportedOperationException"]) 1 6 (stA ads H.size) := by
  obtain ⟨T, hT, ws, hI, hP, hD⟩ := h
  rcases List.mem_cons.mp hT with rfl | hT
  · skip
    by_cases c0 : x.toInt ≤ -1
    · refine stpX_one (u := [x.toInt, y.toInt]) (K := kX1) (xX1 hl aC285) hI hP hD ip_packn_3 (SB.cons0 (by have := x.le_toInt; omega) (by omega) (SB.int0 SB.nil0)) (fun mu hmu => argsI ha [x, y] 23 mu hmu) rfl (fun _ _ _ hr => rsI hr) (fun mu w ws' e1 e2 e3 => ⟨iC3, List.mem_cons_self, postB_ok iq_packn_3 e1 e2 sc0 e3⟩) (fun q hq => ?_)
      have hq : q ∈ [((lX1.getD 0 default, ((pdCuts pX1).getD 0 default).2.1) : TX × Tm)] := hq
      obtain rfl := List.mem_singleton.mp hq
      exact ⟨by decide, rfl, fun v ws' e1 e2 => ⟨iC3, List.mem_cons_self, thrB_ok it_packn_3_7 e1 e2⟩⟩
    by_cases c1 : x.toInt ≤ 4
    · refine stpX_one (u := [x.toInt, y.toInt]) (K := kX0) (xX0 hl aC285) hI hP hD ip_pack_3 (SB.cons0 (by omega) (by omega) (SB.int0 SB.nil0)) (fun mu hmu => argsI ha [x, y] 23 mu hmu) rfl (fun _ _ _ hr => rsI hr) (fun mu w ws' e1 e2 e3 => ⟨iC2, (List.mem_cons_of_mem _ List.mem_cons_self), postB_ok iq_pack_3 e1 e2 sc0 e3⟩) (fun q hq => ?_)
      have hq : q ∈ [((lX0.getD 0 default, ((pdCuts pX0).getD 0 default).2.1) : TX × Tm), ((lX0.getD 1 default, ((pdCuts pX0).getD 1 default).2.1) : TX × Tm)] := hq
      rcases List.mem_cons.mp hq with rfl | hq
      · exact ⟨by decide, rfl, fun v ws' e1 e2 => ⟨iC3, List.mem_cons_self, thrB_ok it_pack_3_30 e1 e2⟩⟩
      obtain rfl := List.mem_singleton.mp hq
      exact ⟨by decide, rfl, fun v ws' e1 e2 => ⟨iC3, List.mem_cons_self, thrB_ok it_pack_3_61 e1 e2⟩⟩
    refine stpX_one (u := [x.toInt, y.toInt]) (K := kX2) (xX2 hl aC285) hI hP hD ip_packp_3 (SB.cons0 (by omega) (by have := x.toInt_lt; omega) (SB.int0 SB.nil0)) (fun mu hmu => argsI ha [x, y] 23 mu hmu) rfl (fun _ _ _ hr => rsI hr) (fun mu w ws' e1 e2 e3 => ⟨iC3, List.mem_cons_self, postB_ok iq_packp_3 e1 e2 sc0 e3⟩) (fun q hq => ?_)
    have hq : q ∈ [((lX2.getD 0 default, ((pdCuts pX2).getD 0 default).2.1) : TX × Tm)] := hq
    obtain rfl := List.mem_singleton.mp hq
    exact ⟨by decide, rfl, fun v ws' e1 e2 => ⟨iC3, List.mem_cons_self, thrB_ok it_packp_3_7 e1 e2⟩⟩
  obtain rfl := List.mem_singleton.mp hT
  by_cases c0 : x.toInt ≤ -1
  · refine stpX_one (u := [x.toInt, y.toInt]) (K := kX13) (xX13 hl aC285) hI hP hD ip_packn_2 (SB.cons0 (by have := x.le_toInt; omega) (by omega) (SB.int0 SB.nil0)) (fun mu hmu => argsI ha [x, y] 23 mu hmu) rfl (fun _ _ _ hr => rsI hr) (fun mu w ws' e1 e2 e3 => ⟨iC2, (List.mem_cons_of_mem _ List.mem_cons_self), postB_ok iq_packn_2 e1 e2 sc0 e3⟩) (fun q hq => ?_)
    have hq : q ∈ [((lX13.getD 0 default, ((pdCuts pX13).getD 0 default).2.1) : TX × Tm)] := hq
    obtain rfl := List.mem_singleton.mp hq
    exact ⟨by decide, rfl, fun v ws' e1 e2 => ⟨iC2, (List.mem_cons_of_mem _ List.mem_cons_self), thrB_ok it_packn_2_7 e1 e2⟩⟩
  by_cases c1 : x.toInt ≤ 4
  · refine stpX_one (u := [x.toInt, y.toInt]) (K := kX12) (xX12 hl aC285) hI hP hD ip_pack_2 (SB.cons0 (by omega) (by omega) (SB.int0 SB.nil0)) (fun mu hmu => argsI ha [x, y] 23 mu hmu) rfl (fun _ _ _ hr => rsI hr) (fun mu w ws' e1 e2 e3 => ⟨iC3, List.mem_cons_self, postB_ok iq_pack_2 e1 e2 sc0 e3⟩) (fun q hq => ?_)
    have hq : q ∈ [((lX12.getD 0 default, ((pdCuts pX12).getD 0 default).2.1) : TX × Tm), ((lX12.getD 1 default, ((pdCuts pX12).getD 1 default).2.1) : TX × Tm)] := hq
    rcases List.mem_cons.mp hq with rfl | hq
    · exact ⟨by decide, rfl, fun v ws' e1 e2 => ⟨iC2, (List.mem_cons_of_mem _ List.mem_cons_self), thrB_ok it_pack_2_30 e1 e2⟩⟩
    obtain rfl := List.mem_singleton.mp hq
    exact ⟨by decide, rfl, fun v ws' e1 e2 => ⟨iC2, (List.mem_cons_of_mem _ List.mem_cons_self), thrB_ok it_pack_2_61 e1 e2⟩⟩
  refine stpX_one (u := [x.toInt, y.toInt]) (K := kX14) (xX14 hl aC285) hI hP hD ip_packp_2 (SB.cons0 (by omega) (by have := x.toInt_lt; omega) (SB.int0 SB.nil0)) (fun mu hmu => argsI ha [x, y] 23 mu hmu) rfl (fun _ _ _ hr => rsI hr) (fun mu w ws' e1 e2 e3 => ⟨iC2, (List.mem_cons_of_mem _ List.mem_cons_self), postB_ok iq_packp_2 e1 e2 sc0 e3⟩) (fun q hq => ?_)
  have hq : q ∈ [((lX14.getD 0 default, ((pdCuts pX14).getD 0 default).2.1) : TX × Tm)] := hq
  obtain rfl := List.mem_singleton.mp hq
  exact ⟨by decide, rfl, fun v ws' e1 e2 => ⟨iC2, (List.mem_cons_of_mem _ List.mem_cons_self), thrB_ok it_packp_2_7 e1 e2⟩⟩
abbrev mC_chain : MI := (⟨RX11, "chain", "(I)I"⟩, prog_1_method_10_code, 3, (some .int), 1)
set_option maxRecDepth 100000 in
theorem sC_chain {l : Launch} (hl : l.stackTraces = false) (x : Int32) {D : va_G} {cy : Nat → ClassId} {ads : List Nat} {H : Heap} {a : Nat} (h : Lies D nCl cy iCs ads H) (ha : ads[0]? = some a) : vx_Met l mC_chain.1 (wsM TB mC_chain) rmX (stP D cy gC ads H [.ref a, .int x]) (stQ D cy iCs ads H rtI) (stT D cy iCs ads H ["java/lang/IllegalArgumentException", "java/lang/UnsupportedOperationException"]) 1 6 (stA ads H.size) := by
  obtain ⟨T, hT, ws, hI, hP, hD⟩ := h
  rcases List.mem_cons.mp hT with rfl | hT
  · skip
    by_cases c0 : x.toInt ≤ -2
    · refine stpX_one (u := [x.toInt]) (K := kX5) (xX5 hl aC285) hI hP hD ip_chainn_3 (SB.cons0 (by have := x.le_toInt; omega) (by omega) SB.nil0) (fun mu hmu => argsI ha [x] 23 mu hmu) rfl (fun _ _ _ hr => rsI hr) (fun mu w ws' e1 e2 e3 => ⟨iC3, List.mem_cons_self, postB_ok iq_chainn_3 e1 e2 sc0 e3⟩) (fun q hq => ?_)
      have hq : q ∈ [((lX5.getD 0 default, ((pdCuts pX5).getD 0 default).2.1) : TX × Tm)] := hq
      obtain rfl := List.mem_singleton.mp hq
      exact ⟨by decide, rfl, fun v ws' e1 e2 => ⟨iC3, List.mem_cons_self, thrB_ok it_chainn_3_12 e1 e2⟩⟩
    by_cases c1 : x.toInt ≤ -1
    · refine stpX_one (u := [x.toInt]) (K := kX4) (xX4 hl aC285) hI hP hD ip_chainm_3 (SB.cons0 (by omega) (by omega) SB.nil0) (fun mu hmu => argsI ha [x] 23 mu hmu) rfl (fun _ _ _ hr => rsI hr) (fun mu w ws' e1 e2 e3 => ⟨iC3, List.mem_cons_self, postB_ok iq_chainm_3 e1 e2 sc0 e3⟩) (fun q hq => ?_)
      cases hq
    by_cases c2 : x.toInt ≤ 4
    · refine stpX_one (u := [x.toInt]) (K := kX3) (xX3 hl aC285) hI hP hD ip_chain_3 (SB.cons0 (by omega) (by omega) SB.nil0) (fun mu hmu => argsI ha [x] 23 mu hmu) rfl (fun _ _ _ hr => rsI hr) (fun mu w ws' e1 e2 e3 => ⟨iC2, (List.mem_cons_of_mem _ List.mem_cons_self), postB_ok iq_chain_3 e1 e2 sc0 e3⟩) (fun q hq => ?_)
      have hq : q ∈ [((lX3.getD 0 default, ((pdCuts pX3).getD 0 default).2.1) : TX × Tm)] := hq
      obtain rfl := List.mem_singleton.mp hq
      exact ⟨by decide, rfl, fun v ws' e1 e2 => ⟨iC3, List.mem_cons_self, thrB_ok it_chain_3_66 e1 e2⟩⟩
    refine stpX_one (u := [x.toInt]) (K := kX6) (xX6 hl aC285) hI hP hD ip_chainp_3 (SB.cons0 (by omega) (by have := x.toInt_lt; omega) SB.nil0) (fun mu hmu => argsI ha [x] 23 mu hmu) rfl (fun _ _ _ hr => rsI hr) (fun mu w ws' e1 e2 e3 => ⟨iC3, List.mem_cons_self, postB_ok iq_chainp_3 e1 e2 sc0 e3⟩) (fun q hq => ?_)
    have hq : q ∈ [((lX6.getD 0 default, ((pdCuts pX6).getD 0 default).2.1) : TX × Tm)] := hq
    obtain rfl := List.mem_singleton.mp hq
    exact ⟨by decide, rfl, fun v ws' e1 e2 => ⟨iC3, List.mem_cons_self, thrB_ok it_chainp_3_12 e1 e2⟩⟩
  obtain rfl := List.mem_singleton.mp hT
  by_cases c0 : x.toInt ≤ -2
  · refine stpX_one (u := [x.toInt]) (K := kX17) (xX17 hl aC285) hI hP hD ip_chainn_2 (SB.cons0 (by have := x.le_toInt; omega) (by omega) SB.nil0) (fun mu hmu => argsI ha [x] 23 mu hmu) rfl (fun _ _ _ hr => rsI hr) (fun mu w ws' e1 e2 e3 => ⟨iC2, (List.mem_cons_of_mem _ List.mem_cons_self), postB_ok iq_chainn_2 e1 e2 sc0 e3⟩) (fun q hq => ?_)
    have hq : q ∈ [((lX17.getD 0 default, ((pdCuts pX17).getD 0 default).2.1) : TX × Tm)] := hq
    obtain rfl := List.mem_singleton.mp hq
    exact ⟨by decide, rfl, fun v ws' e1 e2 => ⟨iC2, (List.mem_cons_of_mem _ List.mem_cons_self), thrB_ok it_chainn_2_12 e1 e2⟩⟩
  by_cases c1 : x.toInt ≤ -1
  · refine stpX_one (u := [x.toInt]) (K := kX16) (xX16 hl aC285) hI hP hD ip_chainm_2 (SB.cons0 (by omega) (by omega) SB.nil0) (fun mu hmu => argsI ha [x] 23 mu hmu) rfl (fun _ _ _ hr => rsI hr) (fun mu w ws' e1 e2 e3 => ⟨iC2, (List.mem_cons_of_mem _ List.mem_cons_self), postB_ok iq_chainm_2 e1 e2 sc0 e3⟩) (fun q hq => ?_)
    cases hq
  by_cases c2 : x.toInt ≤ 4
  · refine stpX_one (u := [x.toInt]) (K := kX15) (xX15 hl aC285) hI hP hD ip_chain_2 (SB.cons0 (by omega) (by omega) SB.nil0) (fun mu hmu => argsI ha [x] 23 mu hmu) rfl (fun _ _ _ hr => rsI hr) (fun mu w ws' e1 e2 e3 => ⟨iC3, List.mem_cons_self, postB_ok iq_chain_2 e1 e2 sc0 e3⟩) (fun q hq => ?_)
    have hq : q ∈ [((lX15.getD 0 default, ((pdCuts pX15).getD 0 default).2.1) : TX × Tm)] := hq
    obtain rfl := List.mem_singleton.mp hq
    exact ⟨by decide, rfl, fun v ws' e1 e2 => ⟨iC2, (List.mem_cons_of_mem _ List.mem_cons_self), thrB_ok it_chain_2_66 e1 e2⟩⟩
  refine stpX_one (u := [x.toInt]) (K := kX18) (xX18 hl aC285) hI hP hD ip_chainp_2 (SB.cons0 (by omega) (by have := x.toInt_lt; omega) SB.nil0) (fun mu hmu => argsI ha [x] 23 mu hmu) rfl (fun _ _ _ hr => rsI hr) (fun mu w ws' e1 e2 e3 => ⟨iC2, (List.mem_cons_of_mem _ List.mem_cons_self), postB_ok iq_chainp_2 e1 e2 sc0 e3⟩) (fun q hq => ?_)
  have hq : q ∈ [((lX18.getD 0 default, ((pdCuts pX18).getD 0 default).2.1) : TX × Tm)] := hq
  obtain rfl := List.mem_singleton.mp hq
  exact ⟨by decide, rfl, fun v ws' e1 e2 => ⟨iC2, (List.mem_cons_of_mem _ List.mem_cons_self), thrB_ok it_chainp_2_12 e1 e2⟩⟩
