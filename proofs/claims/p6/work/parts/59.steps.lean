/-! each method of class and reference as a step (by program) -/
def iMs : List IT := [iM0, iM2, iM10]
def iCs : List IT := [iC3, iC2]
theorem SB.nil0 : SB [] [] := ⟨rfl, fun i lo hi h => by simp at h⟩
theorem SB.cons0 {v : List Int} {b : Bnd} {x lo hi : Int} (h0 : lo ≤ x) (h1 : x ≤ hi) (h : SB v b) : SB (x :: v) ((lo, hi) :: b) := by
  refine ⟨by rw [List.length_cons, List.length_cons, h.1], fun i lo' hi' hi9 => ?_⟩
  cases i with
  | zero =>
    rw [List.getElem?_cons_zero] at hi9
    cases hi9
    exact ⟨x, rfl, h0, h1⟩
  | succ i =>
    rw [List.getElem?_cons_succ] at hi9 ⊢
    exact h.2 i lo' hi' hi9
theorem SB.int0 {v : List Int} {b : Bnd} {x : Int32} (h : SB v b) : SB (x.toInt :: v) (((-2147483648), 2147483647) :: b) := SB.cons0 (by have := x.le_toInt; omega) (by have := x.toInt_lt; omega) h
theorem rsI {ads : List Nat} {v : List Int} {e : LE} {r : Option Value} (h : RS ads v (some (some (.inr (.inl e)))) r) : rtI r := by
  cases r with
  | none => exact h.elim
  | some x =>
    obtain ⟨n, rfl, -⟩ := h
    exact ⟨n, rfl⟩
theorem rsL {ads : List Nat} {v : List Int} {e : Option LE} {r : Option Value} (h : RS ads v (some (some (.inr (.inr e)))) r) : rtL r := by
  cases r with
  | none => exact h.elim
  | some x =>
    obtain ⟨n, rfl, -⟩ := h
    exact ⟨n, rfl⟩
theorem rsV {ads : List Nat} {v : List Int} {r : Option Value} (h : RS ads v none r) : rtV r := by
  cases r with
  | none => rfl
  | some x => exact h.elim
theorem sc0 {v : List Int} : SC v [] := fun e he => by cases he
abbrev rmM : Room := { frames := 9, cells := 0, slots := 0, locals := 205 }
abbrev rmC : Room := { frames := 8, cells := 0, slots := 0, locals := 189 }
abbrev rmX : Room := { frames := 8, cells := 1, slots := 6, locals := 189 }

/-- one contract as a step: with what is known of the arguments -/
theorem stp_oneR {l : Launch} {G : List Nat → State → Prop} {mi : MI} {K : CK} {T : IT} {Ts : List IT} {D : va_G} {cy : Nat → ClassId} {ads : List Nat} {ws : va_W} {H : Heap} {xs : List Value} {b : Bnd} {as : List SV} {cs : List Cert} {u : List Int} {rt : Option Value → Prop} (hV : Valid l TB nCl G mi K) (hI : Inv cy T ads ws) (hP : va_P D nCl ws H) (hD : va_D (fun _ => True) ws)
    (hpre : preB T b as K cs = true) (hu : SB u b) (hxs : ∀ mu : List Int, mu.length = T.1.length → FS ads (mu ++ u) as xs) (hlen : K.2.2.2.2.2.length = T.2.2.length) (hrt : ∀ (mu w : List Int) (r : Option Value), FS ads mu K.2.1.2.2.1 xs → SC (mu ++ w) K.2.2.2.1 → RS ads (mu ++ w) K.2.2.2.2.1 r → rt r)
    (hpost : ∀ (mu w : List Int) (ws' : va_W), SX mu (K.2.1.1, K.2.1.2.1) → SX (mu ++ w) (K.2.1.1 ++ K.2.2.1, K.2.2.2.1) → HS cy ads (mu ++ w) ws K.2.2.2.2.2 ws' → ∃ T' ∈ Ts, Inv cy T' ads ws') :
    Met l mi.1 (wsM TB mi) (rmK K) (stP D cy G ads H xs) (stQ D cy Ts ads H rt) K.1.2.2.2.1 K.1.2.2.2.2 (stA ads H.size) := by
  obtain ⟨mu, m1, m2, m3⟩ := preB_ok hpre hI hu hxs
  have hads := m3.1
  have hl : ads.length = K.2.2.2.2.2.length := by
    obtain ⟨nu, -, hH⟩ := hI
    rw [hlen, ← hH.1, List.length_map, hH.2.1]
  refine (hV D cy mu ads ws xs H.size m1 m2 m3).imp (fun a U h => ?_) (fun a st o t h hq => ?_) (fun q h => ?_)
  · obtain ⟨h0, h1, h2, h3⟩ := h
    exact ⟨h0, by rw [h1], by rw [h1]; exact hP, h2, hD, by rw [hads]; exact h3⟩
  · obtain ⟨⟨r, hr, w, bs, ws', y1, y2, y3, y4, y5, y6⟩, hF1, hF2⟩ := hq
    have hbs : bs = [] := by
      have e1 := congrArg List.length y3.1
      rw [List.length_map, List.length_append, y3.2.1] at e1
      exact List.length_eq_zero_iff.mp (by omega)
    subst hbs
    rw [List.append_nil] at y3 y2
    obtain ⟨T', hT', hI'⟩ := hpost mu w ws' m1 y1 y3
    refine ⟨⟨r, hr, hrt mu w r m2 y1.2 y2, T', hT', ws', hI', y4, y5.weaken fun _ _ _ _ => trivial⟩, hF1, fun q h1 h2 => hF2 q h1 fun z => h2 ?_⟩
    have := va_A.of.mp z
    rwa [hads] at this
  · have := va_A.of.mp h
    rwa [hads] at this
/-- how many bytes a row takes, or 0 -/
def prR (x y z t : Int) : Int := if (x = 0 ∨ (x = 2 ∧ z = 8) ∨ (10 ≤ x ∧ x ≤ 15)) ∧ 1 ≤ y ∧ y ≤ 4 ∧ 1 ≤ t ∧ t ≤ 64 ∧ (z = 1 ∨ z = 2 ∨ z = 4 ∨ z = 8) then (y * z * t + 7) / 8 else 0
def rtP (x y z t : Int32) (r : Option Value) : Prop := ∃ n : Int32, r = some (.int n) ∧ n.toInt = prR x.toInt y.toInt z.toInt t.toInt
theorem prI {x y z t : Int32} {ads : List Nat} {v : List Int} {r : Option Value} (hx : ¬ ((x.toInt = 0 ∨ (x.toInt = 2 ∧ z.toInt = 8) ∨ (10 ≤ x.toInt ∧ x.toInt ≤ 15)) ∧ 1 ≤ y.toInt ∧ y.toInt ≤ 4 ∧ 1 ≤ t.toInt ∧ t.toInt ≤ 64 ∧ (z.toInt = 1 ∨ z.toInt = 2 ∨ z.toInt = 4 ∨ z.toInt = 8))) (h : RS ads v (some (some (.inr (.inl (0, []))))) r) : rtP x y z t r := by
  cases r with
  | none => exact h.elim
  | some q =>
    obtain ⟨n, rfl, hn⟩ := h
    exact ⟨n, rfl, by rw [prR, if_neg hx]; exact hn.const_inv rfl⟩
theorem EV.two {v : List Int} {c k k' : Int} {i j : Nat} {x p q : Int} (h : EV v (c, [(k, i), (k', j)]) x) (hi : v[i]? = some p) (hj : v[j]? = some q) : x = c + (k * p + k' * q) := by
  obtain ⟨y, h1, rfl⟩ := h
  obtain ⟨p', y', g1, g2, rfl⟩ := evl_cons h1
  obtain ⟨q', y'', g3, g4, rfl⟩ := evl_cons g2
  cases g4
  rw [hi] at g1; cases g1
  rw [hj] at g3; cases g3
  show c + (k * p + (k' * q + 0)) = _
  omega
theorem prV {x y z t : Int32} {a0 a1 a2 a3 : SV} {x0 : Value} {ads : List Nat} {mu w : List Int} {j : Nat} {cs : List LE} {r : Option Value} (c b : Int) (hy : y.toInt = c) (hz : z.toInt = b) (h1 : ((0, [(-(c * b), 1), (8, j)]) : LE) ∈ cs) (h2 : ((7, [(c * b, 1), (-8, j)]) : LE) ∈ cs) (hx : (x.toInt = 0 ∨ (x.toInt = 2 ∧ b = 8) ∨ (10 ≤ x.toInt ∧ x.toInt ≤ 15)) ∧ 1 ≤ c ∧ c ≤ 4 ∧ 1 ≤ t.toInt ∧ t.toInt ≤ 64 ∧ (b = 1 ∨ b = 2 ∨ b = 4 ∨ b = 8))
    (f : FS ads mu [a0, a1, a2, a3, some (.inr (.inl (0, [(1, 1)])))] [x0, .int x, .int y, .int z, .int t]) (s : SC (mu ++ w) cs) (h : RS ads (mu ++ w) (some (some (.inr (.inl (0, [(1, j)]))))) r) : rtP x y z t r := by
  cases r with
  | none => exact h.elim
  | some q =>
    obtain ⟨n, rfl, hn⟩ := h
    obtain ⟨-, -, -, -, ⟨t', ht, g⟩, -⟩ := f
    cases ht
    have g := g.mono (w := w)
    obtain ⟨p0, h0, e0⟩ := hn
    obtain ⟨p1, y1, g1, g2, rfl⟩ := evl_cons h0
    cases g2
    obtain ⟨p2, h3, e3⟩ := g
    obtain ⟨p4, y4, g4, g5, rfl⟩ := evl_cons h3
    cases g5
    have n1 : n.toInt = p1 := by show n.toInt = p1; rw [e0]; show (0 : Int) + (1 * p1 + 0) = p1; omega
    have t1 : t.toInt = p4 := by rw [e3]; show (0 : Int) + (1 * p4 + 0) = p4; omega
    obtain ⟨u1, u2, u3⟩ := s _ h1
    obtain ⟨v1, v2, v3⟩ := s _ h2
    have w1 := u2.two g4 g1
    have w2 := v2.two g4 g1
    refine ⟨n, rfl, ?_⟩
    rw [prR, hy, hz, if_pos hx, n1, t1]
    rw [Int.neg_mul] at w1
    generalize c * b * p4 = Z at w1 w2 ⊢
    omega
theorem argsV {ads : List Nat} {a : Nat} (ha : ads[0]? = some a) (x y z t : Int32) (c b : Int) (hy : y.toInt = c) (hz : z.toInt = b) (n : Nat) (mu : List Int) (hn : mu.length = n) : FS ads (mu ++ [x.toInt, t.toInt]) [some (.inl 0), some (.inr (.inl (0, [(1, n)]))), some (.inr (.inl (c, []))), some (.inr (.inl (b, []))), some (.inr (.inl (0, [(1, n + 1)])))] [.ref a, .int x, .int y, .int z, .int t] := by
  subst hn
  have e0 : (mu ++ [x.toInt, t.toInt])[mu.length]? = some x.toInt := by simp
  have e1 : (mu ++ [x.toInt, t.toInt])[mu.length + 1]? = some t.toInt := by simp
  exact ⟨⟨a, ha, rfl⟩, ⟨x, rfl, EV.atom e0⟩, ⟨y, rfl, ⟨0, rfl, by rw [hy]; show c = c + 0; omega⟩⟩, ⟨z, rfl, ⟨0, rfl, by rw [hz]; show b = b + 0; omega⟩⟩, ⟨t, rfl, EV.atom e1⟩, trivial⟩

abbrev mM_table : MI := (⟨RX12, "table", "(I)I"⟩, prog_14_method_76_code, 3, (some .int), 1)
set_option maxRecDepth 100000 in
theorem sM_table {l : Launch} (x : Int32) {D : va_G} {cy : Nat → ClassId} {ads : List Nat} {H : Heap} {a : Nat} (h : Lies D nCl cy iMs ads H) (ha : ads[0]? = some a) : Met l mM_table.1 (wsM TB mM_table) rmM (stP D cy gM ads H [.ref a, .int x]) (stQ D cy iMs ads H rtI) 0 0 (stA ads H.size) := by
  obtain ⟨T, hT, ws, hI, hP, hD⟩ := h
  rcases List.mem_cons.mp hT with rfl | hT
  · refine stp_one (u := [x.toInt]) (K := kM106) (aM213 106 kM106 mM_table rfl rfl) hI hP hD jp_table_0 (SB.int0 SB.nil0) (fun mu hmu => argsI ha [x] 22 mu hmu) rfl (fun _ _ _ hr => rsI hr) ?_
    exact fun mu w ws' e1 e2 e3 => ⟨iM0, List.mem_cons_self, postB_ok jq_table_0 e1 e2 sc0 e3⟩
  rcases List.mem_cons.mp hT with rfl | hT
  · skip
    refine stp_one (u := [x.toInt]) (K := kM107) (aM213 107 kM107 mM_table rfl rfl) hI hP hD jp_table_2 (SB.int0 SB.nil0) (fun mu hmu => argsI ha [x] 22 mu hmu) rfl (fun _ _ _ hr => rsI hr) ?_
    exact fun mu w ws' e1 e2 e3 => ⟨iM2, (List.mem_cons_of_mem _ List.mem_cons_self), postB_ok jq_table_2 e1 e2 sc0 e3⟩
  obtain rfl := List.mem_singleton.mp hT
  refine stp_one (u := [x.toInt]) (K := kM108) (aM213 108 kM108 mM_table rfl rfl) hI hP hD jp_table_10 (SB.int0 SB.nil0) (fun mu hmu => argsI ha [x] 22 mu hmu) rfl (fun _ _ _ hr => rsI hr) ?_
  exact fun mu w ws' e1 e2 e3 => ⟨iM10, (List.mem_cons_of_mem _ (List.mem_cons_of_mem _ List.mem_cons_self)), postB_ok jq_table_10 e1 e2 sc0 e3⟩
abbrev mM_add : MI := (⟨RX12, "add", "(B)V"⟩, prog_14_method_3_code, 2, none, 1)
set_option maxRecDepth 100000 in
theorem sM_add {l : Launch} (x : Int32) (hx0 : -128 ≤ x.toInt) (hx1 : x.toInt ≤ 127) {D : va_G} {cy : Nat → ClassId} {ads : List Nat} {H : Heap} {a : Nat} (h : Lies D nCl cy iMs ads H) (ha : ads[0]? = some a) : Met l mM_add.1 (wsM TB mM_add) rmM (stP D cy gM ads H [.ref a, .int x]) (stQ D cy iMs ads H rtV) 0 0 (stA ads H.size) := by
  obtain ⟨T, hT, ws, hI, hP, hD⟩ := h
  rcases List.mem_cons.mp hT with rfl | hT
  · refine stp_one (u := [x.toInt]) (K := kM100) (aM213 100 kM100 mM_add rfl rfl) hI hP hD jp_add_0 (SB.cons0 hx0 hx1 SB.nil0) (fun mu hmu => argsI ha [x] 22 mu hmu) rfl (fun _ _ _ hr => rsV hr) ?_
    exact fun mu w ws' e1 e2 e3 => ⟨iM0, List.mem_cons_self, postB_ok jq_add_0 e1 e2 sc0 e3⟩
  rcases List.mem_cons.mp hT with rfl | hT
  · skip
    refine stp_one (u := [x.toInt]) (K := kM101) (aM213 101 kM101 mM_add rfl rfl) hI hP hD jp_add_2 (SB.cons0 hx0 hx1 SB.nil0) (fun mu hmu => argsI ha [x] 22 mu hmu) rfl (fun _ _ _ hr => rsV hr) ?_
    exact fun mu w ws' e1 e2 e3 => ⟨iM2, (List.mem_cons_of_mem _ List.mem_cons_self), postB_ok jq_add_2 e1 e2 sc0 e3⟩
  obtain rfl := List.mem_singleton.mp hT
  refine stp_one (u := [x.toInt]) (K := kM102) (aM213 102 kM102 mM_add rfl rfl) hI hP hD jp_add_10 (SB.cons0 hx0 hx1 SB.nil0) (fun mu hmu => argsI ha [x] 22 mu hmu) rfl (fun _ _ _ hr => rsV hr) ?_
  exact fun mu w ws' e1 e2 e3 => ⟨iM10, (List.mem_cons_of_mem _ (List.mem_cons_of_mem _ List.mem_cons_self)), postB_ok jq_add_10 e1 e2 sc0 e3⟩
abbrev mM_pack : MI := (⟨RX12, "pack", "(II)I"⟩, prog_14_method_49_code, 3, (some .int), 2)
set_option maxRecDepth 100000 in
theorem sM_pack {l : Launch} (x y : Int32) {D : va_G} {cy : Nat → ClassId} {ads : List Nat} {H : Heap} {a : Nat} (h : Lies D nCl cy iMs ads H) (ha : ads[0]? = some a) : Met l mM_pack.1 (wsM TB mM_pack) rmM (stP D cy gM ads H [.ref a, .int x, .int y]) (stQ D cy iMs ads H rtI) 0 0 (stA ads H.size) := by
  obtain ⟨T, hT, ws, hI, hP, hD⟩ := h
  rcases List.mem_cons.mp hT with rfl | hT
  · refine stp_one (u := [x.toInt, y.toInt]) (K := kM90) (aM213 90 kM90 mM_pack rfl rfl) hI hP hD jp_pack_0 (SB.int0 (SB.int0 SB.nil0)) (fun mu hmu => argsI ha [x, y] 22 mu hmu) rfl (fun _ _ _ hr => rsI hr) ?_
    exact fun mu w ws' e1 e2 e3 => ⟨iM0, List.mem_cons_self, postB_ok jq_pack_0 e1 e2 sc0 e3⟩
  rcases List.mem_cons.mp hT with rfl | hT
  · skip
    refine stp_one (u := [x.toInt, y.toInt]) (K := kM92) (aM213 92 kM92 mM_pack rfl rfl) hI hP hD jp_pack_2 (SB.int0 (SB.int0 SB.nil0)) (fun mu hmu => argsI ha [x, y] 22 mu hmu) rfl (fun _ _ _ hr => rsI hr) ?_
    exact fun mu w ws' e1 e2 e3 => ⟨iM2, (List.mem_cons_of_mem _ List.mem_cons_self), postB_ok jq_pack_2 e1 e2 sc0 e3⟩
  obtain rfl := List.mem_singleton.mp hT
  refine stp_one (u := [x.toInt, y.toInt]) (K := kM94) (aM213 94 kM94 mM_pack rfl rfl) hI hP hD jp_pack_10 (SB.int0 (SB.int0 SB.nil0)) (fun mu hmu => argsI ha [x, y] 22 mu hmu) rfl (fun _ _ _ hr => rsI hr) ?_
  exact fun mu w ws' e1 e2 e3 => ⟨iM10, (List.mem_cons_of_mem _ (List.mem_cons_of_mem _ List.mem_cons_self)), postB_ok jq_pack_10 e1 e2 sc0 e3⟩
abbrev mM_unpack : MI := (⟨RX12, "unpack", "(I)I"⟩, prog_14_method_73_code, 2, (some .int), 1)
set_option maxRecDepth 100000 in
theorem sM_unpack {l : Launch} (x : Int32) {D : va_G} {cy : Nat → ClassId} {ads : List Nat} {H : Heap} {a : Nat} (h : Lies D nCl cy iMs ads H) (ha : ads[0]? = some a) : Met l mM_unpack.1 (wsM TB mM_unpack) rmM (stP D cy gM ads H [.ref a, .int x]) (stQ D cy iMs ads H rtI) 0 0 (stA ads H.size) := by
  obtain ⟨T, hT, ws, hI, hP, hD⟩ := h
  rcases List.mem_cons.mp hT with rfl | hT
  · refine stp_one (u := [x.toInt]) (K := kM97) (aM213 97 kM97 mM_unpack rfl rfl) hI hP hD jp_unpack_0 (SB.int0 SB.nil0) (fun mu hmu => argsI ha [x] 22 mu hmu) rfl (fun _ _ _ hr => rsI hr) ?_
    exact fun mu w ws' e1 e2 e3 => ⟨iM0, List.mem_cons_self, postB_ok jq_unpack_0 e1 e2 sc0 e3⟩
  rcases List.mem_cons.mp hT with rfl | hT
  · skip
    refine stp_one (u := [x.toInt]) (K := kM98) (aM213 98 kM98 mM_unpack rfl rfl) hI hP hD jp_unpack_2 (SB.int0 SB.nil0) (fun mu hmu => argsI ha [x] 22 mu hmu) rfl (fun _ _ _ hr => rsI hr) ?_
    exact fun mu w ws' e1 e2 e3 => ⟨iM2, (List.mem_cons_of_mem _ List.mem_cons_self), postB_ok jq_unpack_2 e1 e2 sc0 e3⟩
  obtain rfl := List.mem_singleton.mp hT
  refine stp_one (u := [x.toInt]) (K := kM99) (aM213 99 kM99 mM_unpack rfl rfl) hI hP hD jp_unpack_10 (SB.int0 SB.nil0) (fun mu hmu => argsI ha [x] 22 mu hmu) rfl (fun _ _ _ hr => rsI hr) ?_
  exact fun mu w ws' e1 e2 e3 => ⟨iM10, (List.mem_cons_of_mem _ (List.mem_cons_of_mem _ List.mem_cons_self)), postB_ok jq_unpack_10 e1 e2 sc0 e3⟩
abbrev mM_out : MI := (⟨RX12, "out", "(I)B"⟩, prog_14_method_74_code, 2, (some .byte), 1)
set_option maxRecDepth 100000 in
theorem sM_out {l : Launch} (x : Int32) {D : va_G} {cy : Nat → ClassId} {ads : List Nat} {H : Heap} {a : Nat} (h : Lies D nCl cy iMs ads H) (ha : ads[0]? = some a) : Met l mM_out.1 (wsM TB mM_out) rmM (stP D cy gM ads H [.ref a, .int x]) (stQ D cy iMs ads H rtI) 0 0 (stA ads H.size) := by
  obtain ⟨T, hT, ws, hI, hP, hD⟩ := h
  rcases List.mem_cons.mp hT with rfl | hT
  · refine stp_one (u := [x.toInt]) (K := kM103) (aM213 103 kM103 mM_out rfl rfl) hI hP hD jp_out_0 (SB.int0 SB.nil0) (fun mu hmu => argsI ha [x] 22 mu hmu) rfl (fun _ _ _ hr => rsI hr) ?_
    exact fun mu w ws' e1 e2 e3 => ⟨iM0, List.mem_cons_self, postB_ok jq_out_0 e1 e2 sc0 e3⟩
  rcases List.mem_cons.mp hT with rfl | hT
  · skip
    refine stp_one (u := [x.toInt]) (K := kM104) (aM213 104 kM104 mM_out rfl rfl) hI hP hD jp_out_2 (SB.int0 SB.nil0) (fun mu hmu => argsI ha [x] 22 mu hmu) rfl (fun _ _ _ hr => rsI hr) ?_
    exact fun mu w ws' e1 e2 e3 => ⟨iM2, (List.mem_cons_of_mem _ List.mem_cons_self), postB_ok jq_out_2 e1 e2 sc0 e3⟩
  obtain rfl := List.mem_singleton.mp hT
  refine stp_one (u := [x.toInt]) (K := kM105) (aM213 105 kM105 mM_out rfl rfl) hI hP hD jp_out_10 (SB.int0 SB.nil0) (fun mu hmu => argsI ha [x] 22 mu hmu) rfl (fun _ _ _ hr => rsI hr) ?_
  exact fun mu w ws' e1 e2 e3 => ⟨iM10, (List.mem_cons_of_mem _ (List.mem_cons_of_mem _ List.mem_cons_self)), postB_ok jq_out_10 e1 e2 sc0 e3⟩
abbrev mM_predictor : MI := (⟨RX12, "predictor", "(IIII)I"⟩, prog_14_method_75_code, 7, (some .int), 4)
set_option maxRecDepth 100000 in
set_option maxHeartbeats 4000000 in
theorem sM_predictor_0 {l : Launch} (x y z t : Int32) {D : va_G} {cy : Nat → ClassId} {ads : List Nat} {ws : va_W} {H : Heap} {a : Nat} (hI : Inv cy iM0 ads ws) (hP : va_P D nCl ws H) (hD : va_D (fun _ => True) ws) (ha : ads[0]? = some a) : Met l mM_predictor.1 (wsM TB mM_predictor) rmM (stP D cy gM ads H [.ref a, .int x, .int y, .int z, .int t]) (stQ D cy iMs ads H (rtP x y z t)) 0 0 (stA ads H.size) := by
  by_cases c60 : x.toInt ≤ -1
  · exact stp_oneR (u := [x.toInt, y.toInt, z.toInt, t.toInt]) (K := kM134) (aM213 134 kM134 mM_predictor rfl rfl) hI hP hD jp_predictor_0_kn (SB.cons0 (by have := x.le_toInt; omega) (by omega) (SB.int0 (SB.int0 (SB.int0 SB.nil0)))) (fun mu hmu => argsI ha [x, y, z, t] 22 mu hmu) rfl (fun mu w r _ _ hr => prI (by omega) hr) (fun mu w ws' e1 e2 e3 => ⟨iM0, List.mem_cons_self, postB_ok jq_predictor_0_kn e1 e2 sc0 e3⟩)
  by_cases c61 : x.toInt ≤ 0
  · by_cases c13 : y.toInt ≤ 0
    · exact stp_oneR (u := [x.toInt, y.toInt, z.toInt, t.toInt]) (K := kM138) (aM213 138 kM138 mM_predictor rfl rfl) hI hP hD jp_predictor_0_cn (SB.int0 (SB.cons0 (by have := y.le_toInt; omega) (by omega) (SB.int0 (SB.int0 SB.nil0)))) (fun mu hmu => argsI ha [x, y, z, t] 22 mu hmu) rfl (fun mu w r _ _ hr => prI (by omega) hr) (fun mu w ws' e1 e2 e3 => ⟨iM0, List.mem_cons_self, postB_ok jq_predictor_0_cn e1 e2 sc0 e3⟩)
    by_cases c14 : 5 ≤ y.toInt
    · exact stp_oneR (u := [x.toInt, y.toInt, z.toInt, t.toInt]) (K := kM139) (aM213 139 kM139 mM_predictor rfl rfl) hI hP hD jp_predictor_0_c5 (SB.int0 (SB.cons0 (by omega) (by have := y.toInt_lt; omega) (SB.int0 (SB.int0 SB.nil0)))) (fun mu hmu => argsI ha [x, y, z, t] 22 mu hmu) rfl (fun mu w r _ _ hr => prI (by omega) hr) (fun mu w ws' e1 e2 e3 => ⟨iM0, List.mem_cons_self, postB_ok jq_predictor_0_c5 e1 e2 sc0 e3⟩)
    by_cases c15 : t.toInt ≤ 0
    · exact stp_oneR (u := [x.toInt, y.toInt, z.toInt, t.toInt]) (K := kM140) (aM213 140 kM140 mM_predictor rfl rfl) hI hP hD jp_predictor_0_wn (SB.int0 (SB.int0 (SB.int0 (SB.cons0 (by have := t.le_toInt; omega) (by omega) SB.nil0)))) (fun mu hmu => argsI ha [x, y, z, t] 22 mu hmu) rfl (fun mu w r _ _ hr => prI (by omega) hr) (fun mu w ws' e1 e2 e3 => ⟨iM0, List.mem_cons_self, postB_ok jq_predictor_0_wn e1 e2 sc0 e3⟩)
    by_cases c16 : 65 ≤ t.toInt
    · exact stp_oneR (u := [x.toInt, y.toInt, z.toInt, t.toInt]) (K := kM141) (aM213 141 kM141 mM_predictor rfl rfl) hI hP hD jp_predictor_0_w65 (SB.int0 (SB.int0 (SB.int0 (SB.cons0 (by omega) (by have := t.toInt_lt; omega) SB.nil0)))) (fun mu hmu => argsI ha [x, y, z, t] 22 mu hmu) rfl (fun mu w r _ _ hr => prI (by omega) hr) (fun mu w ws' e1 e2 e3 => ⟨iM0, List.mem_cons_self, postB_ok jq_predictor_0_w65 e1 e2 sc0 e3⟩)
    by_cases c17 : z.toInt ≤ 0
    · exact stp_oneR (u := [x.toInt, y.toInt, z.toInt, t.toInt]) (K := kM142) (aM213 142 kM142 mM_predictor rfl rfl) hI hP hD jp_predictor_0_bn (SB.int0 (SB.int0 (SB.cons0 (by have := z.le_toInt; omega) (by omega) (SB.int0 SB.nil0)))) (fun mu hmu => argsI ha [x, y, z, t] 22 mu hmu) rfl (fun mu w r _ _ hr => prI (by omega) hr) (fun mu w ws' e1 e2 e3 => ⟨iM0, List.mem_cons_self, postB_ok jq_predictor_0_bn e1 e2 sc0 e3⟩)
    by_cases c18 : z.toInt ≤ 1
    · by_cases c1 : y.toInt ≤ 1
      · exact stp_oneR (u := [x.toInt, t.toInt]) (K := kM176) (aM213 176 kM176 mM_predictor rfl rfl) hI hP hD jp_predictor_0_0_1_1 (SB.cons0 (by omega) (by omega) (SB.cons0 (by omega) (by omega) SB.nil0)) (fun mu hmu => argsV ha x y z t 1 1 (by omega) (by omega) 22 mu hmu) rfl (fun mu w r f s hr => prV 1 1 (by omega) (by omega) (by decide +kernel) (by decide +kernel) (by omega) f s hr) (fun mu w ws' e1 e2 e3 => ⟨iM0, List.mem_cons_self, postB_ok jq_predictor_0_1_1 e1 e2 sc0 e3⟩)
      by_cases c2 : y.toInt ≤ 2
      · exact stp_oneR (u := [x.toInt, t.toInt]) (K := kM180) (aM213 180 kM180 mM_predictor rfl rfl) hI hP hD jp_predictor_0_0_2_1 (SB.cons0 (by omega) (by omega) (SB.cons0 (by omega) (by omega) SB.nil0)) (fun mu hmu => argsV ha x y z t 2 1 (by omega) (by omega) 22 mu hmu) rfl (fun mu w r f s hr => prV 2 1 (by omega) (by omega) (by decide +kernel) (by decide +kernel) (by omega) f s hr) (fun mu w ws' e1 e2 e3 => ⟨iM0, List.mem_cons_self, postB_ok jq_predictor_0_2_1 e1 e2 sc0 e3⟩)
      by_cases c3 : y.toInt ≤ 3
      · exact stp_oneR (u := [x.toInt, t.toInt]) (K := kM184) (aM213 184 kM184 mM_predictor rfl rfl) hI hP hD jp_predictor_0_0_3_1 (SB.cons0 (by omega) (by omega) (SB.cons0 (by omega) (by omega) SB.nil0)) (fun mu hmu => argsV ha x y z t 3 1 (by omega) (by omega) 22 mu hmu) rfl (fun mu w r f s hr => prV 3 1 (by omega) (by omega) (by decide +kernel) (by decide +kernel) (by omega) f s hr) (fun mu w ws' e1 e2 e3 => ⟨iM0, List.mem_cons_self, postB_ok jq_predictor_0_3_1 e1 e2 sc0 e3⟩)
      exact stp_oneR (u := [x.toInt, t.toInt]) (K := kM188) (aM213 188 kM188 mM_predictor rfl rfl) hI hP hD jp_predictor_0_0_4_1 (SB.cons0 (by omega) (by omega) (SB.cons0 (by omega) (by omega) SB.nil0)) (fun mu hmu => argsV ha x y z t 4 1 (by omega) (by omega) 22 mu hmu) rfl (fun mu w r f s hr => prV 4 1 (by omega) (by omega) (by decide +kernel) (by decide +kernel) (by omega) f s hr) (fun mu w ws' e1 e2 e3 => ⟨iM0, List.mem_cons_self, postB_ok jq_predictor_0_4_1 e1 e2 sc0 e3⟩)
    by_cases c19 : z.toInt ≤ 2
    · by_cases c4 : y.toInt ≤ 1
      · exact stp_oneR (u := [x.toInt, t.toInt]) (K := kM177) (aM213 177 kM177 mM_predictor rfl rfl) hI hP hD jp_predictor_0_0_1_2 (SB.cons0 (by omega) (by omega) (SB.cons0 (by omega) (by omega) SB.nil0)) (fun mu hmu => argsV ha x y z t 1 2 (by omega) (by omega) 22 mu hmu) rfl (fun mu w r f s hr => prV 1 2 (by omega) (by omega) (by decide +kernel) (by decide +kernel) (by omega) f s hr) (fun mu w ws' e1 e2 e3 => ⟨iM0, List.mem_cons_self, postB_ok jq_predictor_0_1_2 e1 e2 sc0 e3⟩)
      by_cases c5 : y.toInt ≤ 2
      · exact stp_oneR (u := [x.toInt, t.toInt]) (K := kM181) (aM213 181 kM181 mM_predictor rfl rfl) hI hP hD jp_predictor_0_0_2_2 (SB.cons0 (by omega) (by omega) (SB.cons0 (by omega) (by omega) SB.nil0)) (fun mu hmu => argsV ha x y z t 2 2 (by omega) (by omega) 22 mu hmu) rfl (fun mu w r f s hr => prV 2 2 (by omega) (by omega) (by decide +kernel) (by decide +kernel) (by omega) f s hr) (fun mu w ws' e1 e2 e3 => ⟨iM0, List.mem_cons_self, postB_ok jq_predictor_0_2_2 e1 e2 sc0 e3⟩)
      by_cases c6 : y.toInt ≤ 3
      · exact stp_oneR (u := [x.toInt, t.toInt]) (K := kM185) (aM213 185 kM185 mM_predictor rfl rfl) hI hP hD jp_predictor_0_0_3_2 (SB.cons0 (by omega) (by omega) (SB.cons0 (by omega) (by omega) SB.nil0)) (fun mu hmu => argsV ha x y z t 3 2 (by omega) (by omega) 22 mu hmu) rfl (fun mu w r f s hr => prV 3 2 (by omega) (by omega) (by decide +kernel) (by decide +kernel) (by omega) f s hr) (fun mu w ws' e1 e2 e3 => ⟨iM0, List.mem_cons_self, postB_ok jq_predictor_0_3_2 e1 e2 sc0 e3⟩)
      exact stp_oneR (u := [x.toInt, t.toInt]) (K := kM189) (aM213 189 kM189 mM_predictor rfl rfl) hI hP hD jp_predictor_0_0_4_2 (SB.cons0 (by omega) (by omega) (SB.cons0 (by omega) (by omega) SB.nil0)) (fun mu hmu => argsV ha x y z t 4 2 (by omega) (by omega) 22 mu hmu) rfl (fun mu w r f s hr => prV 4 2 (by omega) (by omega) (by decide +kernel) (by decide +kernel) (by omega) f s hr) (fun mu w ws' e1 e2 e3 => ⟨iM0, List.mem_cons_self, postB_ok jq_predictor_0_4_2 e1 e2 sc0 e3⟩)
    by_cases c20 : z.toInt ≤ 3
    · exact stp_oneR (u := [x.toInt, y.toInt, z.toInt, t.toInt]) (K := kM143) (aM213 143 kM143 mM_predictor rfl rfl) hI hP hD jp_predictor_0_b3 (SB.int0 (SB.int0 (SB.cons0 (by omega) (by omega) (SB.int0 SB.nil0)))) (fun mu hmu => argsI ha [x, y, z, t] 22 mu hmu) rfl (fun mu w r _ _ hr => prI (by omega) hr) (fun mu w ws' e1 e2 e3 => ⟨iM0, List.mem_cons_self, postB_ok jq_predictor_0_b3 e1 e2 sc0 e3⟩)
    by_cases c21 : z.toInt ≤ 4
    · by_cases c7 : y.toInt ≤ 1
      · exact stp_oneR (u := [x.toInt, t.toInt]) (K := kM178) (aM213 178 kM178 mM_predictor rfl rfl) hI hP hD jp_predictor_0_0_1_4 (SB.cons0 (by omega) (by omega) (SB.cons0 (by omega) (by omega) SB.nil0)) (fun mu hmu => argsV ha x y z t 1 4 (by omega) (by omega) 22 mu hmu) rfl (fun mu w r f s hr => prV 1 4 (by omega) (by omega) (by decide +kernel) (by decide +kernel) (by omega) f s hr) (fun mu w ws' e1 e2 e3 => ⟨iM0, List.mem_cons_self, postB_ok jq_predictor_0_1_4 e1 e2 sc0 e3⟩)
      by_cases c8 : y.toInt ≤ 2
      · exact stp_oneR (u := [x.toInt, t.toInt]) (K := kM182) (aM213 182 kM182 mM_predictor rfl rfl) hI hP hD jp_predictor_0_0_2_4 (SB.cons0 (by omega) (by omega) (SB.cons0 (by omega) (by omega) SB.nil0)) (fun mu hmu => argsV ha x y z t 2 4 (by omega) (by omega) 22 mu hmu) rfl (fun mu w r f s hr => prV 2 4 (by omega) (by omega) (by decide +kernel) (by decide +kernel) (by omega) f s hr) (fun mu w ws' e1 e2 e3 => ⟨iM0, List.mem_cons_self, postB_ok jq_predictor_0_2_4 e1 e2 sc0 e3⟩)
      by_cases c9 : y.toInt ≤ 3
      · exact stp_oneR (u := [x.toInt, t.toInt]) (K := kM186) (aM213 186 kM186 mM_predictor rfl rfl) hI hP hD jp_predictor_0_0_3_4 (SB.cons0 (by omega) (by omega) (SB.cons0 (by omega) (by omega) SB.nil0)) (fun mu hmu => argsV ha x y z t 3 4 (by omega) (by omega) 22 mu hmu) rfl (fun mu w r f s hr => prV 3 4 (by omega) (by omega) (by decide +kernel) (by decide +kernel) (by omega) f s hr) (fun mu w ws' e1 e2 e3 => ⟨iM0, List.mem_cons_self, postB_ok jq_predictor_0_3_4 e1 e2 sc0 e3⟩)
      exact stp_oneR (u := [x.toInt, t.toInt]) (K := kM190) (aM213 190 kM190 mM_predictor rfl rfl) hI hP hD jp_predictor_0_0_4_4 (SB.cons0 (by omega) (by omega) (SB.cons0 (by omega) (by omega) SB.nil0)) (fun mu hmu => argsV ha x y z t 4 4 (by omega) (by omega) 22 mu hmu) rfl (fun mu w r f s hr => prV 4 4 (by omega) (by omega) (by decide +kernel) (by decide +kernel) (by omega) f s hr) (fun mu w ws' e1 e2 e3 => ⟨iM0, List.mem_cons_self, postB_ok jq_predictor_0_4_4 e1 e2 sc0 e3⟩)
    by_cases c22 : z.toInt ≤ 7
    · exact stp_oneR (u := [x.toInt, y.toInt, z.toInt, t.toInt]) (K := kM144) (aM213 144 kM144 mM_predictor rfl rfl) hI hP hD jp_predictor_0_b5 (SB.int0 (SB.int0 (SB.cons0 (by omega) (by omega) (SB.int0 SB.nil0)))) (fun mu hmu => argsI ha [x, y, z, t] 22 mu hmu) rfl (fun mu w r _ _ hr => prI (by omega) hr) (fun mu w ws' e1 e2 e3 => ⟨iM0, List.mem_cons_self, postB_ok jq_predictor_0_b5 e1 e2 sc0 e3⟩)
    by_cases c23 : z.toInt ≤ 8
    · by_cases c10 : y.toInt ≤ 1
      · exact stp_oneR (u := [x.toInt, t.toInt]) (K := kM179) (aM213 179 kM179 mM_predictor rfl rfl) hI hP hD jp_predictor_0_0_1_8 (SB.cons0 (by omega) (by omega) (SB.cons0 (by omega) (by omega) SB.nil0)) (fun mu hmu => argsV ha x y z t 1 8 (by omega) (by omega) 22 mu hmu) rfl (fun mu w r f s hr => prV 1 8 (by omega) (by omega) (by decide +kernel) (by decide +kernel) (by omega) f s hr) (fun mu w ws' e1 e2 e3 => ⟨iM0, List.mem_cons_self, postB_ok jq_predictor_0_1_8 e1 e2 sc0 e3⟩)
      by_cases c11 : y.toInt ≤ 2
      · exact stp_oneR (u := [x.toInt, t.toInt]) (K := kM183) (aM213 183 kM183 mM_predictor rfl rfl) hI hP hD jp_predictor_0_0_2_8 (SB.cons0 (by omega) (by omega) (SB.cons0 (by omega) (by omega) SB.nil0)) (fun mu hmu => argsV ha x y z t 2 8 (by omega) (by omega) 22 mu hmu) rfl (fun mu w r f s hr => prV 2 8 (by omega) (by omega) (by decide +kernel) (by decide +kernel) (by omega) f s hr) (fun mu w ws' e1 e2 e3 => ⟨iM0, List.mem_cons_self, postB_ok jq_predictor_0_2_8 e1 e2 sc0 e3⟩)
      by_cases c12 : y.toInt ≤ 3
      · exact stp_oneR (u := [x.toInt, t.toInt]) (K := kM187) (aM213 187 kM187 mM_predictor rfl rfl) hI hP hD jp_predictor_0_0_3_8 (SB.cons0 (by omega) (by omega) (SB.cons0 (by omega) (by omega) SB.nil0)) (fun mu hmu => argsV ha x y z t 3 8 (by omega) (by omega) 22 mu hmu) rfl (fun mu w r f s hr => prV 3 8 (by omega) (by omega) (by decide +kernel) (by decide +kernel) (by omega) f s hr) (fun mu w ws' e1 e2 e3 => ⟨iM0, List.mem_cons_self, postB_ok jq_predictor_0_3_8 e1 e2 sc0 e3⟩)
      exact stp_oneR (u := [x.toInt, t.toInt]) (K := kM191) (aM213 191 kM191 mM_predictor rfl rfl) hI hP hD jp_predictor_0_0_4_8 (SB.cons0 (by omega) (by omega) (SB.cons0 (by omega) (by omega) SB.nil0)) (fun mu hmu => argsV ha x y z t 4 8 (by omega) (by omega) 22 mu hmu) rfl (fun mu w r f s hr => prV 4 8 (by omega) (by omega) (by decide +kernel) (by decide +kernel) (by omega) f s hr) (fun mu w ws' e1 e2 e3 => ⟨iM0, List.mem_cons_self, postB_ok jq_predictor_0_4_8 e1 e2 sc0 e3⟩)
    exact stp_oneR (u := [x.toInt, y.toInt, z.toInt, t.toInt]) (K := kM145) (aM213 145 kM145 mM_predictor rfl rfl) hI hP hD jp_predictor_0_b9 (SB.int0 (SB.int0 (SB.cons0 (by omega) (by have := z.toInt_lt; omega) (SB.int0 SB.nil0)))) (fun mu hmu => argsI ha [x, y, z, t] 22 mu hmu) rfl (fun mu w r _ _ hr => prI (by omega) hr) (fun mu w ws' e1 e2 e3 => ⟨iM0, List.mem_cons_self, postB_ok jq_predictor_0_b9 e1 e2 sc0 e3⟩)
  by_cases c62 : x.toInt ≤ 1
  · exact stp_oneR (u := [x.toInt, y.toInt, z.toInt, t.toInt]) (K := kM135) (aM213 135 kM135 mM_predictor rfl rfl) hI hP hD jp_predictor_0_k1 (SB.cons0 (by omega) (by omega) (SB.int0 (SB.int0 (SB.int0 SB.nil0)))) (fun mu hmu => argsI ha [x, y, z, t] 22 mu hmu) rfl (fun mu w r _ _ hr => prI (by omega) hr) (fun mu w ws' e1 e2 e3 => ⟨iM0, List.mem_cons_self, postB_ok jq_predictor_0_k1 e1 e2 sc0 e3⟩)
  by_cases c63 : x.toInt ≤ 2
  · by_cases c27 : y.toInt ≤ 0
    · exact stp_oneR (u := [x.toInt, y.toInt, z.toInt, t.toInt]) (K := kM138) (aM213 138 kM138 mM_predictor rfl rfl) hI hP hD jp_predictor_0_cn (SB.int0 (SB.cons0 (by have := y.le_toInt; omega) (by omega) (SB.int0 (SB.int0 SB.nil0)))) (fun mu hmu => argsI ha [x, y, z, t] 22 mu hmu) rfl (fun mu w r _ _ hr => prI (by omega) hr) (fun mu w ws' e1 e2 e3 => ⟨iM0, List.mem_cons_self, postB_ok jq_predictor_0_cn e1 e2 sc0 e3⟩)
    by_cases c28 : 5 ≤ y.toInt
    · exact stp_oneR (u := [x.toInt, y.toInt, z.toInt, t.toInt]) (K := kM139) (aM213 139 kM139 mM_predictor rfl rfl) hI hP hD jp_predictor_0_c5 (SB.int0 (SB.cons0 (by omega) (by have := y.toInt_lt; omega) (SB.int0 (SB.int0 SB.nil0)))) (fun mu hmu => argsI ha [x, y, z, t] 22 mu hmu) rfl (fun mu w r _ _ hr => prI (by omega) hr) (fun mu w ws' e1 e2 e3 => ⟨iM0, List.mem_cons_self, postB_ok jq_predictor_0_c5 e1 e2 sc0 e3⟩)
    by_cases c29 : t.toInt ≤ 0
    · exact stp_oneR (u := [x.toInt, y.toInt, z.toInt, t.toInt]) (K := kM140) (aM213 140 kM140 mM_predictor rfl rfl) hI hP hD jp_predictor_0_wn (SB.int0 (SB.int0 (SB.int0 (SB.cons0 (by have := t.le_toInt; omega) (by omega) SB.nil0)))) (fun mu hmu => argsI ha [x, y, z, t] 22 mu hmu) rfl (fun mu w r _ _ hr => prI (by omega) hr) (fun mu w ws' e1 e2 e3 => ⟨iM0, List.mem_cons_self, postB_ok jq_predictor_0_wn e1 e2 sc0 e3⟩)
    by_cases c30 : 65 ≤ t.toInt
    · exact stp_oneR (u := [x.toInt, y.toInt, z.toInt, t.toInt]) (K := kM141) (aM213 141 kM141 mM_predictor rfl rfl) hI hP hD jp_predictor_0_w65 (SB.int0 (SB.int0 (SB.int0 (SB.cons0 (by omega) (by have := t.toInt_lt; omega) SB.nil0)))) (fun mu hmu => argsI ha [x, y, z, t] 22 mu hmu) rfl (fun mu w r _ _ hr => prI (by omega) hr) (fun mu w ws' e1 e2 e3 => ⟨iM0, List.mem_cons_self, postB_ok jq_predictor_0_w65 e1 e2 sc0 e3⟩)
    by_cases c31 : z.toInt ≤ 0
    · exact stp_oneR (u := [x.toInt, y.toInt, z.toInt, t.toInt]) (K := kM142) (aM213 142 kM142 mM_predictor rfl rfl) hI hP hD jp_predictor_0_bn (SB.int0 (SB.int0 (SB.cons0 (by have := z.le_toInt; omega) (by omega) (SB.int0 SB.nil0)))) (fun mu hmu => argsI ha [x, y, z, t] 22 mu hmu) rfl (fun mu w r _ _ hr => prI (by omega) hr) (fun mu w ws' e1 e2 e3 => ⟨iM0, List.mem_cons_self, postB_ok jq_predictor_0_bn e1 e2 sc0 e3⟩)
    by_cases c32 : z.toInt ≤ 2
    · exact stp_oneR (u := [x.toInt, y.toInt, z.toInt, t.toInt]) (K := kM146) (aM213 146 kM146 mM_predictor rfl rfl) hI hP hD jp_predictor_0_t1 (SB.cons0 (by omega) (by omega) (SB.int0 (SB.cons0 (by omega) (by omega) (SB.int0 SB.nil0)))) (fun mu hmu => argsI ha [x, y, z, t] 22 mu hmu) rfl (fun mu w r _ _ hr => prI (by omega) hr) (fun mu w ws' e1 e2 e3 => ⟨iM0, List.mem_cons_self, postB_ok jq_predictor_0_t1 e1 e2 sc0 e3⟩)
    by_cases c33 : z.toInt ≤ 3
    · exact stp_oneR (u := [x.toInt, y.toInt, z.toInt, t.toInt]) (K := kM143) (aM213 143 kM143 mM_predictor rfl rfl) hI hP hD jp_predictor_0_b3 (SB.int0 (SB.int0 (SB.cons0 (by omega) (by omega) (SB.int0 SB.nil0)))) (fun mu hmu => argsI ha [x, y, z, t] 22 mu hmu) rfl (fun mu w r _ _ hr => prI (by omega) hr) (fun mu w ws' e1 e2 e3 => ⟨iM0, List.mem_cons_self, postB_ok jq_predictor_0_b3 e1 e2 sc0 e3⟩)
    by_cases c34 : z.toInt ≤ 4
    · exact stp_oneR (u := [x.toInt, y.toInt, z.toInt, t.toInt]) (K := kM147) (aM213 147 kM147 mM_predictor rfl rfl) hI hP hD jp_predictor_0_t4 (SB.cons0 (by omega) (by omega) (SB.int0 (SB.cons0 (by omega) (by omega) (SB.int0 SB.nil0)))) (fun mu hmu => argsI ha [x, y, z, t] 22 mu hmu) rfl (fun mu w r _ _ hr => prI (by omega) hr) (fun mu w ws' e1 e2 e3 => ⟨iM0, List.mem_cons_self, postB_ok jq_predictor_0_t4 e1 e2 sc0 e3⟩)
    by_cases c35 : z.toInt ≤ 7
    · exact stp_oneR (u := [x.toInt, y.toInt, z.toInt, t.toInt]) (K := kM144) (aM213 144 kM144 mM_predictor rfl rfl) hI hP hD jp_predictor_0_b5 (SB.int0 (SB.int0 (SB.cons0 (by omega) (by omega) (SB.int0 SB.nil0)))) (fun mu hmu => argsI ha [x, y, z, t] 22 mu hmu) rfl (fun mu w r _ _ hr => prI (by omega) hr) (fun mu w ws' e1 e2 e3 => ⟨iM0, List.mem_cons_self, postB_ok jq_predictor_0_b5 e1 e2 sc0 e3⟩)
    by_cases c36 : z.toInt ≤ 8
    · by_cases c24 : y.toInt ≤ 1
      · exact stp_oneR (u := [x.toInt, t.toInt]) (K := kM192) (aM213 192 kM192 mM_predictor rfl rfl) hI hP hD jp_predictor_0_2_1_8 (SB.cons0 (by omega) (by omega) (SB.cons0 (by omega) (by omega) SB.nil0)) (fun mu hmu => argsV ha x y z t 1 8 (by omega) (by omega) 22 mu hmu) rfl (fun mu w r f s hr => prV 1 8 (by omega) (by omega) (by decide +kernel) (by decide +kernel) (by omega) f s hr) (fun mu w ws' e1 e2 e3 => ⟨iM2, (List.mem_cons_of_mem _ List.mem_cons_self), postB_ok jq_predictor_2_1_8 e1 e2 sc0 e3⟩)
      by_cases c25 : y.toInt ≤ 2
      · exact stp_oneR (u := [x.toInt, t.toInt]) (K := kM193) (aM213 193 kM193 mM_predictor rfl rfl) hI hP hD jp_predictor_0_2_2_8 (SB.cons0 (by omega) (by omega) (SB.cons0 (by omega) (by omega) SB.nil0)) (fun mu hmu => argsV ha x y z t 2 8 (by omega) (by omega) 22 mu hmu) rfl (fun mu w r f s hr => prV 2 8 (by omega) (by omega) (by decide +kernel) (by decide +kernel) (by omega) f s hr) (fun mu w ws' e1 e2 e3 => ⟨iM2, (List.mem_cons_of_mem _ List.mem_cons_self), postB_ok jq_predictor_2_2_8 e1 e2 sc0 e3⟩)
      by_cases c26 : y.toInt ≤ 3
      · exact stp_oneR (u := [x.toInt, t.toInt]) (K := kM194) (aM213 194 kM194 mM_predictor rfl rfl) hI hP hD jp_predictor_0_2_3_8 (SB.cons0 (by omega) (by omega) (SB.cons0 (by omega) (by omega) SB.nil0)) (fun mu hmu => argsV ha x y z t 3 8 (by omega) (by omega) 22 mu hmu) rfl (fun mu w r f s hr => prV 3 8 (by omega) (by omega) (by decide +kernel) (by decide +kernel) (by omega) f s hr) (fun mu w ws' e1 e2 e3 => ⟨iM2, (List.mem_cons_of_mem _ List.mem_cons_self), postB_ok jq_predictor_2_3_8 e1 e2 sc0 e3⟩)
      exact stp_oneR (u := [x.toInt, t.toInt]) (K := kM195) (aM213 195 kM195 mM_predictor rfl rfl) hI hP hD jp_predictor_0_2_4_8 (SB.cons0 (by omega) (by omega) (SB.cons0 (by omega) (by omega) SB.nil0)) (fun mu hmu => argsV ha x y z t 4 8 (by omega) (by omega) 22 mu hmu) rfl (fun mu w r f s hr => prV 4 8 (by omega) (by omega) (by decide +kernel) (by decide +kernel) (by omega) f s hr) (fun mu w ws' e1 e2 e3 => ⟨iM2, (List.mem_cons_of_mem _ List.mem_cons_self), postB_ok jq_predictor_2_4_8 e1 e2 sc0 e3⟩)
    exact stp_oneR (u := [x.toInt, y.toInt, z.toInt, t.toInt]) (K := kM145) (aM213 145 kM145 mM_predictor rfl rfl) hI hP hD jp_predictor_0_b9 (SB.int0 (SB.int0 (SB.cons0 (by omega) (by have := z.toInt_lt; omega) (SB.int0 SB.nil0)))) (fun mu hmu => argsI ha [x, y, z, t] 22 mu hmu) rfl (fun mu w r _ _ hr => prI (by omega) hr) (fun mu w ws' e1 e2 e3 => ⟨iM0, List.mem_cons_self, postB_ok jq_predictor_0_b9 e1 e2 sc0 e3⟩)
  by_cases c64 : x.toInt ≤ 9
  · exact stp_oneR (u := [x.toInt, y.toInt, z.toInt, t.toInt]) (K := kM136) (aM213 136 kM136 mM_predictor rfl rfl) hI hP hD jp_predictor_0_k3 (SB.cons0 (by omega) (by omega) (SB.int0 (SB.int0 (SB.int0 SB.nil0)))) (fun mu hmu => argsI ha [x, y, z, t] 22 mu hmu) rfl (fun mu w r _ _ hr => prI (by omega) hr) (fun mu w ws' e1 e2 e3 => ⟨iM0, List.mem_cons_self, postB_ok jq_predictor_0_k3 e1 e2 sc0 e3⟩)
  by_cases c65 : x.toInt ≤ 15
  · by_cases c49 : y.toInt ≤ 0
    · exact stp_oneR (u := [x.toInt, y.toInt, z.toInt, t.toInt]) (K := kM138) (aM213 138 kM138 mM_predictor rfl rfl) hI hP hD jp_predictor_0_cn (SB.int0 (SB.cons0 (by have := y.le_toInt; omega) (by omega) (SB.int0 (SB.int0 SB.nil0)))) (fun mu hmu => argsI ha [x, y, z, t] 22 mu hmu) rfl (fun mu w r _ _ hr => prI (by omega) hr) (fun mu w ws' e1 e2 e3 => ⟨iM0, List.mem_cons_self, postB_ok jq_predictor_0_cn e1 e2 sc0 e3⟩)
    by_cases c50 : 5 ≤ y.toInt
    · exact stp_oneR (u := [x.toInt, y.toInt, z.toInt, t.toInt]) (K := kM139) (aM213 139 kM139 mM_predictor rfl rfl) hI hP hD jp_predictor_0_c5 (SB.int0 (SB.cons0 (by omega) (by have := y.toInt_lt; omega) (SB.int0 (SB.int0 SB.nil0)))) (fun mu hmu => argsI ha [x, y, z, t] 22 mu hmu) rfl (fun mu w r _ _ hr => prI (by omega) hr) (fun mu w ws' e1 e2 e3 => ⟨iM0, List.mem_cons_self, postB_ok jq_predictor_0_c5 e1 e2 sc0 e3⟩)
    by_cases c51 : t.toInt ≤ 0
    · exact stp_oneR (u := [x.toInt, y.toInt, z.toInt, t.toInt]) (K := kM140) (aM213 140 kM140 mM_predictor rfl rfl) hI hP hD jp_predictor_0_wn (SB.int0 (SB.int0 (SB.int0 (SB.cons0 (by have := t.le_toInt; omega) (by omega) SB.nil0)))) (fun mu hmu => argsI ha [x, y, z, t] 22 mu hmu) rfl (fun mu w r _ _ hr => prI (by omega) hr) (fun mu w ws' e1 e2 e3 => ⟨iM0, List.mem_cons_self, postB_ok jq_predictor_0_wn e1 e2 sc0 e3⟩)
    by_cases c52 : 65 ≤ t.toInt
    · exact stp_oneR (u := [x.toInt, y.toInt, z.toInt, t.toInt]) (K := kM141) (aM213 141 kM141 mM_predictor rfl rfl) hI hP hD jp_predictor_0_w65 (SB.int0 (SB.int0 (SB.int0 (SB.cons0 (by omega) (by have := t.toInt_lt; omega) SB.nil0)))) (fun mu hmu => argsI ha [x, y, z, t] 22 mu hmu) rfl (fun mu w r _ _ hr => prI (by omega) hr) (fun mu w ws' e1 e2 e3 => ⟨iM0, List.mem_cons_self, postB_ok jq_predictor_0_w65 e1 e2 sc0 e3⟩)
    by_cases c53 : z.toInt ≤ 0
    · exact stp_oneR (u := [x.toInt, y.toInt, z.toInt, t.toInt]) (K := kM142) (aM213 142 kM142 mM_predictor rfl rfl) hI hP hD jp_predictor_0_bn (SB.int0 (SB.int0 (SB.cons0 (by have := z.le_toInt; omega) (by omega) (SB.int0 SB.nil0)))) (fun mu hmu => argsI ha [x, y, z, t] 22 mu hmu) rfl (fun mu w r _ _ hr => prI (by omega) hr) (fun mu w ws' e1 e2 e3 => ⟨iM0, List.mem_cons_self, postB_ok jq_predictor_0_bn e1 e2 sc0 e3⟩)
    by_cases c54 : z.toInt ≤ 1
    · by_cases c37 : y.toInt ≤ 1
      · exact stp_oneR (u := [x.toInt, t.toInt]) (K := kM196) (aM213 196 kM196 mM_predictor rfl rfl) hI hP hD jp_predictor_0_10_1_1 (SB.cons0 (by omega) (by omega) (SB.cons0 (by omega) (by omega) SB.nil0)) (fun mu hmu => argsV ha x y z t 1 1 (by omega) (by omega) 22 mu hmu) rfl (fun mu w r f s hr => prV 1 1 (by omega) (by omega) (by decide +kernel) (by decide +kernel) (by omega) f s hr) (fun mu w ws' e1 e2 e3 => ⟨iM10, (List.mem_cons_of_mem _ (List.mem_cons_of_mem _ List.mem_cons_self)), postB_ok jq_predictor_10_1_1 e1 e2 sc0 e3⟩)
      by_cases c38 : y.toInt ≤ 2
      · exact stp_oneR (u := [x.toInt, t.toInt]) (K := kM200) (aM213 200 kM200 mM_predictor rfl rfl) hI hP hD jp_predictor_0_10_2_1 (SB.cons0 (by omega) (by omega) (SB.cons0 (by omega) (by omega) SB.nil0)) (fun mu hmu => argsV ha x y z t 2 1 (by omega) (by omega) 22 mu hmu) rfl (fun mu w r f s hr => prV 2 1 (by omega) (by omega) (by decide +kernel) (by decide +kernel) (by omega) f s hr) (fun mu w ws' e1 e2 e3 => ⟨iM10, (List.mem_cons_of_mem _ (List.mem_cons_of_mem _ List.mem_cons_self)), postB_ok jq_predictor_10_2_1 e1 e2 sc0 e3⟩)
      by_cases c39 : y.toInt ≤ 3
      · exact stp_oneR (u := [x.toInt, t.toInt]) (K := kM204) (aM213 204 kM204 mM_predictor rfl rfl) hI hP hD jp_predictor_0_10_3_1 (SB.cons0 (by omega) (by omega) (SB.cons0 (by omega) (by omega) SB.nil0)) (fun mu hmu => argsV ha x y z t 3 1 (by omega) (by omega) 22 mu hmu) rfl (fun mu w r f s hr => prV 3 1 (by omega) (by omega) (by decide +kernel) (by decide +kernel) (by omega) f s hr) (fun mu w ws' e1 e2 e3 => ⟨iM10, (List.mem_cons_of_mem _ (List.mem_cons_of_mem _ List.mem_cons_self)), postB_ok jq_predictor_10_3_1 e1 e2 sc0 e3⟩)
      exact stp_oneR (u := [x.toInt, t.toInt]) (K := kM208) (aM213 208 kM208 mM_predictor rfl rfl) hI hP hD jp_predictor_0_10_4_1 (SB.cons0 (by omega) (by omega) (SB.cons0 (by omega) (by omega) SB.nil0)) (fun mu hmu => argsV ha x y z t 4 1 (by omega) (by omega) 22 mu hmu) rfl (fun mu w r f s hr => prV 4 1 (by omega) (by omega) (by decide +kernel) (by decide +kernel) (by omega) f s hr) (fun mu w ws' e1 e2 e3 => ⟨iM10, (List.mem_cons_of_mem _ (List.mem_cons_of_mem _ List.mem_cons_self)), postB_ok jq_predictor_10_4_1 e1 e2 sc0 e3⟩)
    by_cases c55 : z.toInt ≤ 2
    · by_cases c40 : y.toInt ≤ 1
      · exact stp_oneR (u := [x.toInt, t.toInt]) (K := kM197) (aM213 197 kM197 mM_predictor rfl rfl) hI hP hD jp_predictor_0_10_1_2 (SB.cons0 (by omega) (by omega) (SB.cons0 (by omega) (by omega) SB.nil0)) (fun mu hmu => argsV ha x y z t 1 2 (by omega) (by omega) 22 mu hmu) rfl (fun mu w r f s hr => prV 1 2 (by omega) (by omega) (by decide +kernel) (by decide +kernel) (by omega) f s hr) (fun mu w ws' e1 e2 e3 => ⟨iM10, (List.mem_cons_of_mem _ (List.mem_cons_of_mem _ List.mem_cons_self)), postB_ok jq_predictor_10_1_2 e1 e2 sc0 e3⟩)
      by_cases c41 : y.toInt ≤ 2
      · exact stp_oneR (u := [x.toInt, t.toInt]) (K := kM201) (aM213 201 kM201 mM_predictor rfl rfl) hI hP hD jp_predictor_0_10_2_2 (SB.cons0 (by omega) (by omega) (SB.cons0 (by omega) (by omega) SB.nil0)) (fun mu hmu => argsV ha x y z t 2 2 (by omega) (by omega) 22 mu hmu) rfl (fun mu w r f s hr => prV 2 2 (by omega) (by omega) (by decide +kernel) (by decide +kernel) (by omega) f s hr) (fun mu w ws' e1 e2 e3 => ⟨iM10, (List.mem_cons_of_mem _ (List.mem_cons_of_mem _ List.mem_cons_self)), postB_ok jq_predictor_10_2_2 e1 e2 sc0 e3⟩)
      by_cases c42 : y.toInt ≤ 3
      · exact stp_oneR (u := [x.toInt, t.toInt]) (K := kM205) (aM213 205 kM205 mM_predictor rfl rfl) hI hP hD jp_predictor_0_10_3_2 (SB.cons0 (by omega) (by omega) (SB.cons0 (by omega) (by omega) SB.nil0)) (fun mu hmu => argsV ha x y z t 3 2 (by omega) (by omega) 22 mu hmu) rfl (fun mu w r f s hr => prV 3 2 (by omega) (by omega) (by decide +kernel) (by decide +kernel) (by omega) f s hr) (fun mu w ws' e1 e2 e3 => ⟨iM10, (List.mem_cons_of_mem _ (List.mem_cons_of_mem _ List.mem_cons_self)), postB_ok jq_predictor_10_3_2 e1 e2 sc0 e3⟩)
      exact stp_oneR (u := [x.toInt, t.toInt]) (K := kM209) (aM213 209 kM209 mM_predictor rfl rfl) hI hP hD jp_predictor_0_10_4_2 (SB.cons0 (by omega) (by omega) (SB.cons0 (by omega) (by omega) SB.nil0)) (fun mu hmu => argsV ha x y z t 4 2 (by omega) (by omega) 22 mu hmu) rfl (fun mu w r f s hr => prV 4 2 (by omega) (by omega) (by decide +kernel) (by decide +kernel) (by omega) f s hr) (fun mu w ws' e1 e2 e3 => ⟨iM10, (List.mem_cons_of_mem _ (List.mem_cons_of_mem _ List.mem_cons_self)), postB_ok jq_predictor_10_4_2 e1 e2 sc0 e3⟩)
    by_cases c56 : z.toInt ≤ 3
    · exact stp_oneR (u := [x.toInt, y.toInt, z.toInt, t.toInt]) (K := kM143) (aM213 143 kM143 mM_predictor rfl rfl) hI hP hD jp_predictor_0_b3 (SB.int0 (SB.int0 (SB.cons0 (by omega) (by omega) (SB.int0 SB.nil0)))) (fun mu hmu => argsI ha [x, y, z, t] 22 mu hmu) rfl (fun mu w r _ _ hr => prI (by omega) hr) (fun mu w ws' e1 e2 e3 => ⟨iM0, List.mem_cons_self, postB_ok jq_predictor_0_b3 e1 e2 sc0 e3⟩)
    by_cases c57 : z.toInt ≤ 4
    · by_cases c43 : y.toInt ≤ 1
      · exact stp_oneR (u := [x.toInt, t.toInt]) (K := kM198) (aM213 198 kM198 mM_predictor rfl rfl) hI hP hD jp_predictor_0_10_1_4 (SB.cons0 (by omega) (by omega) (SB.cons0 (by omega) (by omega) SB.nil0)) (fun mu hmu => argsV ha x y z t 1 4 (by omega) (by omega) 22 mu hmu) rfl (fun mu w r f s hr => prV 1 4 (by omega) (by omega) (by decide +kernel) (by decide +kernel) (by omega) f s hr) (fun mu w ws' e1 e2 e3 => ⟨iM10, (List.mem_cons_of_mem _ (List.mem_cons_of_mem _ List.mem_cons_self)), postB_ok jq_predictor_10_1_4 e1 e2 sc0 e3⟩)
      by_cases c44 : y.toInt ≤ 2
      · exact stp_oneR (u := [x.toInt, t.toInt]) (K := kM202) (aM213 202 kM202 mM_predictor rfl rfl) hI hP hD jp_predictor_0_10_2_4 (SB.cons0 (by omega) (by omega) (SB.cons0 (by omega) (by omega) SB.nil0)) (fun mu hmu => argsV ha x y z t 2 4 (by omega) (by omega) 22 mu hmu) rfl (fun mu w r f s hr => prV 2 4 (by omega) (by omega) (by decide +kernel) (by decide +kernel) (by omega) f s hr) (fun mu w ws' e1 e2 e3 => ⟨iM10, (List.mem_cons_of_mem _ (List.mem_cons_of_mem _ List.mem_cons_self)), postB_ok jq_predictor_10_2_4 e1 e2 sc0 e3⟩)
      by_cases c45 : y.toInt ≤ 3
      · exact stp_oneR (u := [x.toInt, t.toInt]) (K := kM206) (aM213 206 kM206 mM_predictor rfl rfl) hI hP hD jp_predictor_0_10_3_4 (SB.cons0 (by omega) (by omega) (SB.cons0 (by omega) (by omega) SB.nil0)) (fun mu hmu => argsV ha x y z t 3 4 (by omega) (by omega) 22 mu hmu) rfl (fun mu w r f s hr => prV 3 4 (by omega) (by omega) (by decide +kernel) (by decide +kernel) (by omega) f s hr) (fun mu w ws' e1 e2 e3 => ⟨iM10, (List.mem_cons_of_mem _ (List.mem_cons_of_mem _ List.mem_cons_self)), postB_ok jq_predictor_10_3_4 e1 e2 sc0 e3⟩)
      exact stp_oneR (u := [x.toInt, t.toInt]) (K := kM210) (aM213 210 kM210 mM_predictor rfl rfl) hI hP hD jp_predictor_0_10_4_4 (SB.cons0 (by omega) (by omega) (SB.cons0 (by omega) (by omega) SB.nil0)) (fun mu hmu => argsV ha x y z t 4 4 (by omega) (by omega) 22 mu hmu) rfl (fun mu w r f s hr => prV 4 4 (by omega) (by omega) (by decide +kernel) (by decide +kernel) (by omega) f s hr) (fun mu w ws' e1 e2 e3 => ⟨iM10, (List.mem_cons_of_mem _ (List.mem_cons_of_mem _ List.mem_cons_self)), postB_ok jq_predictor_10_4_4 e1 e2 sc0 e3⟩)
    by_cases c58 : z.toInt ≤ 7
    · exact stp_oneR (u := [x.toInt, y.toInt, z.toInt, t.toInt]) (K := kM144) (aM213 144 kM144 mM_predictor rfl rfl) hI hP hD jp_predictor_0_b5 (SB.int0 (SB.int0 (SB.cons0 (by omega) (by omega) (SB.int0 SB.nil0)))) (fun mu hmu => argsI ha [x, y, z, t] 22 mu hmu) rfl (fun mu w r _ _ hr => prI (by omega) hr) (fun mu w ws' e1 e2 e3 => ⟨iM0, List.mem_cons_self, postB_ok jq_predictor_0_b5 e1 e2 sc0 e3⟩)
    by_cases c59 : z.toInt ≤ 8
    · by_cases c46 : y.toInt ≤ 1
      · exact stp_oneR (u := [x.toInt, t.toInt]) (K := kM199) (aM213 199 kM199 mM_predictor rfl rfl) hI hP hD jp_predictor_0_10_1_8 (SB.cons0 (by omega) (by omega) (SB.cons0 (by omega) (by omega) SB.nil0)) (fun mu hmu => argsV ha x y z t 1 8 (by omega) (by omega) 22 mu hmu) rfl (fun mu w r f s hr => prV 1 8 (by omega) (by omega) (by decide +kernel) (by decide +kernel) (by omega) f s hr) (fun mu w ws' e1 e2 e3 => ⟨iM10, (List.mem_cons_of_mem _ (List.mem_cons_of_mem _ List.mem_cons_self)), postB_ok jq_predictor_10_1_8 e1 e2 sc0 e3⟩)
      by_cases c47 : y.toInt ≤ 2
      · exact stp_oneR (u := [x.toInt, t.toInt]) (K := kM203) (aM213 203 kM203 mM_predictor rfl rfl) hI hP hD jp_predictor_0_10_2_8 (SB.cons0 (by omega) (by omega) (SB.cons0 (by omega) (by omega) SB.nil0)) (fun mu hmu => argsV ha x y z t 2 8 (by omega) (by omega) 22 mu hmu) rfl (fun mu w r f s hr => prV 2 8 (by omega) (by omega) (by decide +kernel) (by decide +kernel) (by omega) f s hr) (fun mu w ws' e1 e2 e3 => ⟨iM10, (List.mem_cons_of_mem _ (List.mem_cons_of_mem _ List.mem_cons_self)), postB_ok jq_predictor_10_2_8 e1 e2 sc0 e3⟩)
      by_cases c48 : y.toInt ≤ 3
      · exact stp_oneR (u := [x.toInt, t.toInt]) (K := kM207) (aM213 207 kM207 mM_predictor rfl rfl) hI hP hD jp_predictor_0_10_3_8 (SB.cons0 (by omega) (by omega) (SB.cons0 (by omega) (by omega) SB.nil0)) (fun mu hmu => argsV ha x y z t 3 8 (by omega) (by omega) 22 mu hmu) rfl (fun mu w r f s hr => prV 3 8 (by omega) (by omega) (by decide +kernel) (by decide +kernel) (by omega) f s hr) (fun mu w ws' e1 e2 e3 => ⟨iM10, (List.mem_cons_of_mem _ (List.mem_cons_of_mem _ List.mem_cons_self)), postB_ok jq_predictor_10_3_8 e1 e2 sc0 e3⟩)
      exact stp_oneR (u := [x.toInt, t.toInt]) (K := kM211) (aM213 211 kM211 mM_predictor rfl rfl) hI hP hD jp_predictor_0_10_4_8 (SB.cons0 (by omega) (by omega) (SB.cons0 (by omega) (by omega) SB.nil0)) (fun mu hmu => argsV ha x y z t 4 8 (by omega) (by omega) 22 mu hmu) rfl (fun mu w r f s hr => prV 4 8 (by omega) (by omega) (by decide +kernel) (by decide +kernel) (by omega) f s hr) (fun mu w ws' e1 e2 e3 => ⟨iM10, (List.mem_cons_of_mem _ (List.mem_cons_of_mem _ List.mem_cons_self)), postB_ok jq_predictor_10_4_8 e1 e2 sc0 e3⟩)
    exact stp_oneR (u := [x.toInt, y.toInt, z.toInt, t.toInt]) (K := kM145) (aM213 145 kM145 mM_predictor rfl rfl) hI hP hD jp_predictor_0_b9 (SB.int0 (SB.int0 (SB.cons0 (by omega) (by have := z.toInt_lt; omega) (SB.int0 SB.nil0)))) (fun mu hmu => argsI ha [x, y, z, t] 22 mu hmu) rfl (fun mu w r _ _ hr => prI (by omega) hr) (fun mu w ws' e1 e2 e3 => ⟨iM0, List.mem_cons_self, postB_ok jq_predictor_0_b9 e1 e2 sc0 e3⟩)
  exact stp_oneR (u := [x.toInt, y.toInt, z.toInt, t.toInt]) (K := kM137) (aM213 137 kM137 mM_predictor rfl rfl) hI hP hD jp_predictor_0_k16 (SB.cons0 (by omega) (by have := x.toInt_lt; omega) (SB.int0 (SB.int0 (SB.int0 SB.nil0)))) (fun mu hmu => argsI ha [x, y, z, t] 22 mu hmu) rfl (fun mu w r _ _ hr => prI (by omega) hr) (fun mu w ws' e1 e2 e3 => ⟨iM0, List.mem_cons_self, postB_ok jq_predictor_0_k16 e1 e2 sc0 e3⟩)
set_option maxRecDepth 100000 in
set_option maxHeartbeats 4000000 in
theorem sM_predictor_2 {l : Launch} (x y z t : Int32) {D : va_G} {cy : Nat → ClassId} {ads : List Nat} {ws : va_W} {H : Heap} {a : Nat} (hI : Inv cy iM2 ads ws) (hP : va_P D nCl ws H) (hD : va_D (fun _ => True) ws) (ha : ads[0]? = some a) : Met l mM_predictor.1 (wsM TB mM_predictor) rmM (stP D cy gM ads H [.ref a, .int x, .int y, .int z, .int t]) (stQ D cy iMs ads H (rtP x y z t)) 0 0 (stA ads H.size) := by
  by_cases c60 : x.toInt ≤ -1
  · exact stp_oneR (u := [x.toInt, y.toInt, z.toInt, t.toInt]) (K := kM148) (aM213 148 kM148 mM_predictor rfl rfl) hI hP hD jp_predictor_2_kn (SB.cons0 (by have := x.le_toInt; omega) (by omega) (SB.int0 (SB.int0 (SB.int0 SB.nil0)))) (fun mu hmu => argsI ha [x, y, z, t] 22 mu hmu) rfl (fun mu w r _ _ hr => prI (by omega) hr) (fun mu w ws' e1 e2 e3 => ⟨iM2, (List.mem_cons_of_mem _ List.mem_cons_self), postB_ok jq_predictor_2_kn e1 e2 sc0 e3⟩)
  by_cases c61 : x.toInt ≤ 0
  · by_cases c13 : y.toInt ≤ 0
    · exact stp_oneR (u := [x.toInt, y.toInt, z.toInt, t.toInt]) (K := kM152) (aM213 152 kM152 mM_predictor rfl rfl) hI hP hD jp_predictor_2_cn (SB.int0 (SB.cons0 (by have := y.le_toInt; omega) (by omega) (SB.int0 (SB.int0 SB.nil0)))) (fun mu hmu => argsI ha [x, y, z, t] 22 mu hmu) rfl (fun mu w r _ _ hr => prI (by omega) hr) (fun mu w ws' e1 e2 e3 => ⟨iM2, (List.mem_cons_of_mem _ List.mem_cons_self), postB_ok jq_predictor_2_cn e1 e2 sc0 e3⟩)
    by_cases c14 : 5 ≤ y.toInt
    · exact stp_oneR (u := [x.toInt, y.toInt, z.toInt, t.toInt]) (K := kM153) (aM213 153 kM153 mM_predictor rfl rfl) hI hP hD jp_predictor_2_c5 (SB.int0 (SB.cons0 (by omega) (by have := y.toInt_lt; omega) (SB.int0 (SB.int0 SB.nil0)))) (fun mu hmu => argsI ha [x, y, z, t] 22 mu hmu) rfl (fun mu w r _ _ hr => prI (by omega) hr) (fun mu w ws' e1 e2 e3 => ⟨iM2, (List.mem_cons_of_mem _ List.mem_cons_self), postB_ok jq_predictor_2_c5 e1 e2 sc0 e3⟩)
    by_cases c15 : t.toInt ≤ 0
    · exact stp_oneR (u := [x.toInt, y.toInt, z.toInt, t.toInt]) (K := kM154) (aM213 154 kM154 mM_predictor rfl rfl) hI hP hD jp_predictor_2_wn (SB.int0 (SB.int0 (SB.int0 (SB.cons0 (by have := t.le_toInt; omega) (by omega) SB.nil0)))) (fun mu hmu => argsI ha [x, y, z, t] 22 mu hmu) rfl (fun mu w r _ _ hr => prI (by omega) hr) (fun mu w ws' e1 e2 e3 => ⟨iM2, (List.mem_cons_of_mem _ List.mem_cons_self), postB_ok jq_predictor_2_wn e1 e2 sc0 e3⟩)
    by_cases c16 : 65 ≤ t.toInt
    · exact stp_oneR (u := [x.toInt, y.toInt, z.toInt, t.toInt]) (K := kM155) (aM213 155 kM155 mM_predictor rfl rfl) hI hP hD jp_predictor_2_w65 (SB.int0 (SB.int0 (SB.int0 (SB.cons0 (by omega) (by have := t.toInt_lt; omega) SB.nil0)))) (fun mu hmu => argsI ha [x, y, z, t] 22 mu hmu) rfl (fun mu w r _ _ hr => prI (by omega) hr) (fun mu w ws' e1 e2 e3 => ⟨iM2, (List.mem_cons_of_mem _ List.mem_cons_self), postB_ok jq_predictor_2_w65 e1 e2 sc0 e3⟩)
    by_cases c17 : z.toInt ≤ 0
    · exact stp_oneR (u := [x.toInt, y.toInt, z.toInt, t.toInt]) (K := kM156) (aM213 156 kM156 mM_predictor rfl rfl) hI hP hD jp_predictor_2_bn (SB.int0 (SB.int0 (SB.cons0 (by have := z.le_toInt; omega) (by omega) (SB.int0 SB.nil0)))) (fun mu hmu => argsI ha [x, y, z, t] 22 mu hmu) rfl (fun mu w r _ _ hr => prI (by omega) hr) (fun mu w ws' e1 e2 e3 => ⟨iM2, (List.mem_cons_of_mem _ List.mem_cons_self), postB_ok jq_predictor_2_bn e1 e2 sc0 e3⟩)
    by_cases c18 : z.toInt ≤ 1
    · by_cases c1 : y.toInt ≤ 1
      · exact stp_oneR (u := [x.toInt, t.toInt]) (K := kM176) (aM213 176 kM176 mM_predictor rfl rfl) hI hP hD jp_predictor_2_0_1_1 (SB.cons0 (by omega) (by omega) (SB.cons0 (by omega) (by omega) SB.nil0)) (fun mu hmu => argsV ha x y z t 1 1 (by omega) (by omega) 22 mu hmu) rfl (fun mu w r f s hr => prV 1 1 (by omega) (by omega) (by decide +kernel) (by decide +kernel) (by omega) f s hr) (fun mu w ws' e1 e2 e3 => ⟨iM0, List.mem_cons_self, postB_ok jq_predictor_0_1_1 e1 e2 sc0 e3⟩)
      by_cases c2 : y.toInt ≤ 2
      · exact stp_oneR (u := [x.toInt, t.toInt]) (K := kM180) (aM213 180 kM180 mM_predictor rfl rfl) hI hP hD jp_predictor_2_0_2_1 (SB.cons0 (by omega) (by omega) (SB.cons0 (by omega) (by omega) SB.nil0)) (fun mu hmu => argsV ha x y z t 2 1 (by omega) (by omega) 22 mu hmu) rfl (fun mu w r f s hr => prV 2 1 (by omega) (by omega) (by decide +kernel) (by decide +kernel) (by omega) f s hr) (fun mu w ws' e1 e2 e3 => ⟨iM0, List.mem_cons_self, postB_ok jq_predictor_0_2_1 e1 e2 sc0 e3⟩)
      by_cases c3 : y.toInt ≤ 3
      · exact stp_oneR (u := [x.toInt, t.toInt]) (K := kM184) (aM213 184 kM184 mM_predictor rfl rfl) hI hP hD jp_predictor_2_0_3_1 (SB.cons0 (by omega) (by omega) (SB.cons0 (by omega) (by omega) SB.nil0)) (fun mu hmu => argsV ha x y z t 3 1 (by omega) (by omega) 22 mu hmu) rfl (fun mu w r f s hr => prV 3 1 (by omega) (by omega) (by decide +kernel) (by decide +kernel) (by omega) f s hr) (fun mu w ws' e1 e2 e3 => ⟨iM0, List.mem_cons_self, postB_ok jq_predictor_0_3_1 e1 e2 sc0 e3⟩)
      exact stp_oneR (u := [x.toInt, t.toInt]) (K := kM188) (aM213 188 kM188 mM_predictor rfl rfl) hI hP hD jp_predictor_2_0_4_1 (SB.cons0 (by omega) (by omega) (SB.cons0 (by omega) (by omega) SB.nil0)) (fun mu hmu => argsV ha x y z t 4 1 (by omega) (by omega) 22 mu hmu) rfl (fun mu w r f s hr => prV 4 1 (by omega) (by omega) (by decide +kernel) (by decide +kernel) (by omega) f s hr) (fun mu w ws' e1 e2 e3 => ⟨iM0, List.mem_cons_self, postB_ok jq_predictor_0_4_1 e1 e2 sc0 e3⟩)
    by_cases c19 : z.toInt ≤ 2
    · by_cases c4 : y.toInt ≤ 1
      · exact stp_oneR (u := [x.toInt, t.toInt]) (K := kM177) (aM213 177 kM177 mM_predictor rfl rfl) hI hP hD jp_predictor_2_0_1_2 (SB.cons0 (by omega) (by omega) (SB.cons0 (by omega) (by omega) SB.nil0)) (fun mu hmu => argsV ha x y z t 1 2 (by omega) (by omega) 22 mu hmu) rfl (fun mu w r f s hr => prV 1 2 (by omega) (by omega) (by decide +kernel) (by decide +kernel) (by omega) f s hr) (fun mu w ws' e1 e2 e3 => ⟨iM0, List.mem_cons_self, postB_ok jq_predictor_0_1_2 e1 e2 sc0 e3⟩)
      by_cases c5 : y.toInt ≤ 2
      · exact stp_oneR (u := [x.toInt, t.toInt]) (K := kM181) (aM213 181 kM181 mM_predictor rfl rfl) hI hP hD jp_predictor_2_0_2_2 (SB.cons0 (by omega) (by omega) (SB.cons0 (by omega) (by omega) SB.nil0)) (fun mu hmu => argsV ha x y z t 2 2 (by omega) (by omega) 22 mu hmu) rfl (fun mu w r f s hr => prV 2 2 (by omega) (by omega) (by decide +kernel) (by decide +kernel) (by omega) f s hr) (fun mu w ws' e1 e2 e3 => ⟨iM0, List.mem_cons_self, postB_ok jq_predictor_0_2_2 e1 e2 sc0 e3⟩)
      by_cases c6 : y.toInt ≤ 3
      · exact stp_oneR (u := [x.toInt, t.toInt]) (K := kM185) (aM213 185 kM185 mM_predictor rfl rfl) hI hP hD jp_predictor_2_0_3_2 (SB.cons0 (by omega) (by omega) (SB.cons0 (by omega) (by omega) SB.nil0)) (fun mu hmu => argsV ha x y z t 3 2 (by omega) (by omega) 22 mu hmu) rfl (fun mu w r f s hr => prV 3 2 (by omega) (by omega) (by decide +kernel) (by decide +kernel) (by omega) f s hr) (fun mu w ws' e1 e2 e3 => ⟨iM0, List.mem_cons_self, postB_ok jq_predictor_0_3_2 e1 e2 sc0 e3⟩)
      exact stp_oneR (u := [x.toInt, t.toInt]) (K := kM189) (aM213 189 kM189 mM_predictor rfl rfl) hI hP hD jp_predictor_2_0_4_2 (SB.cons0 (by omega) (by omega) (SB.cons0 (by omega) (by omega) SB.nil0)) (fun mu hmu => argsV ha x y z t 4 2 (by omega) (by omega) 22 mu hmu) rfl (fun mu w r f s hr => prV 4 2 (by omega) (by omega) (by decide +kernel) (by decide +kernel) (by omega) f s hr) (fun mu w ws' e1 e2 e3 => ⟨iM0, List.mem_cons_self, postB_ok jq_predictor_0_4_2 e1 e2 sc0 e3⟩)
    by_cases c20 : z.toInt ≤ 3
    · exact stp_oneR (u := [x.toInt, y.toInt, z.toInt, t.toInt]) (K := kM157) (aM213 157 kM157 mM_predictor rfl rfl) hI hP hD jp_predictor_2_b3 (SB.int0 (SB.int0 (SB.cons0 (by omega) (by omega) (SB.int0 SB.nil0)))) (fun mu hmu => argsI ha [x, y, z, t] 22 mu hmu) rfl (fun mu w r _ _ hr => prI (by omega) hr) (fun mu w ws' e1 e2 e3 => ⟨iM2, (List.mem_cons_of_mem _ List.mem_cons_self), postB_ok jq_predictor_2_b3 e1 e2 sc0 e3⟩)
    by_cases c21 : z.toInt ≤ 4
    · by_cases c7 : y.toInt ≤ 1
      · exact stp_oneR (u := [x.toInt, t.toInt]) (K := kM178) (aM213 178 kM178 mM_predictor rfl rfl) hI hP hD jp_predictor_2_0_1_4 (SB.cons0 (by omega) (by omega) (SB.cons0 (by omega) (by omega) SB.nil0)) (fun mu hmu => argsV ha x y z t 1 4 (by omega) (by omega) 22 mu hmu) rfl (fun mu w r f s hr => prV 1 4 (by omega) (by omega) (by decide +kernel) (by decide +kernel) (by omega) f s hr) (fun mu w ws' e1 e2 e3 => ⟨iM0, List.mem_cons_self, postB_ok jq_predictor_0_1_4 e1 e2 sc0 e3⟩)
      by_cases c8 : y.toInt ≤ 2
      · exact stp_oneR (u := [x.toInt, t.toInt]) (K := kM182) (aM213 182 kM182 mM_predictor rfl rfl) hI hP hD jp_predictor_2_0_2_4 (SB.cons0 (by omega) (by omega) (SB.cons0 (by omega) (by omega) SB.nil0)) (fun mu hmu => argsV ha x y z t 2 4 (by omega) (by omega) 22 mu hmu) rfl (fun mu w r f s hr => prV 2 4 (by omega) (by omega) (by decide +kernel) (by decide +kernel) (by omega) f s hr) (fun mu w ws' e1 e2 e3 => ⟨iM0, List.mem_cons_self, postB_ok jq_predictor_0_2_4 e1 e2 sc0 e3⟩)
      by_cases c9 : y.toInt ≤ 3
      · exact stp_oneR (u := [x.toInt, t.toInt]) (K := kM186) (aM213 186 kM186 mM_predictor rfl rfl) hI hP hD jp_predictor_2_0_3_4 (SB.cons0 (by omega) (by omega) (SB.cons0 (by omega) (by omega) SB.nil0)) (fun mu hmu => argsV ha x y z t 3 4 (by omega) (by omega) 22 mu hmu) rfl (fun mu w r f s hr => prV 3 4 (by omega) (by omega) (by decide +kernel) (by decide +kernel) (by omega) f s hr) (fun mu w ws' e1 e2 e3 => ⟨iM0, List.mem_cons_self, postB_ok jq_predictor_0_3_4 e1 e2 sc0 e3⟩)
      exact stp_oneR (u := [x.toInt, t.toInt]) (K := kM190) (aM213 190 kM190 mM_predictor rfl rfl) hI hP hD jp_predictor_2_0_4_4 (SB.cons0 (by omega) (by omega) (SB.cons0 (by omega) (by omega) SB.nil0)) (fun mu hmu => argsV ha x y z t 4 4 (by omega) (by omega) 22 mu hmu) rfl (fun mu w r f s hr => prV 4 4 (by omega) (by omega) (by decide +kernel) (by decide +kernel) (by omega) f s hr) (fun mu w ws' e1 e2 e3 => ⟨iM0, List.mem_cons_self, postB_ok jq_predictor_0_4_4 e1 e2 sc0 e3⟩)
    by_cases c22 : z.toInt ≤ 7
    · exact stp_oneR (u := [x.toInt, y.toInt, z.toInt, t.toInt]) (K := kM158) (aM213 158 kM158 mM_predictor rfl rfl) hI hP hD jp_predictor_2_b5 (SB.int0 (SB.int0 (SB.cons0 (by omega) (by omega) (SB.int0 SB.nil0)))) (fun mu hmu => argsI ha [x, y, z, t] 22 mu hmu) rfl (fun mu w r _ _ hr => prI (by omega) hr) (fun mu w ws' e1 e2 e3 => ⟨iM2, (List.mem_cons_of_mem _ List.mem_cons_self), postB_ok jq_predictor_2_b5 e1 e2 sc0 e3⟩)
    by_cases c23 : z.toInt ≤ 8
    · by_cases c10 : y.toInt ≤ 1
      · exact stp_oneR (u := [x.toInt, t.toInt]) (K := kM179) (aM213 179 kM179 mM_predictor rfl rfl) hI hP hD jp_predictor_2_0_1_8 (SB.cons0 (by omega) (by omega) (SB.cons0 (by omega) (by omega) SB.nil0)) (fun mu hmu => argsV ha x y z t 1 8 (by omega) (by omega) 22 mu hmu) rfl (fun mu w r f s hr => prV 1 8 (by omega) (by omega) (by decide +kernel) (by decide +kernel) (by omega) f s hr) (fun mu w ws' e1 e2 e3 => ⟨iM0, List.mem_cons_self, postB_ok jq_predictor_0_1_8 e1 e2 sc0 e3⟩)
      by_cases c11 : y.toInt ≤ 2
      · exact stp_oneR (u := [x.toInt, t.toInt]) (K := kM183) (aM213 183 kM183 mM_predictor rfl rfl) hI hP hD jp_predictor_2_0_2_8 (SB.cons0 (by omega) (by omega) (SB.cons0 (by omega) (by omega) SB.nil0)) (fun mu hmu => argsV ha x y z t 2 8 (by omega) (by omega) 22 mu hmu) rfl (fun mu w r f s hr => prV 2 8 (by omega) (by omega) (by decide +kernel) (by decide +kernel) (by omega) f s hr) (fun mu w ws' e1 e2 e3 => ⟨iM0, List.mem_cons_self, postB_ok jq_predictor_0_2_8 e1 e2 sc0 e3⟩)
      by_cases c12 : y.toInt ≤ 3
      · exact stp_oneR (u := [x.toInt, t.toInt]) (K := kM187) (aM213 187 kM187 mM_predictor rfl rfl) hI hP hD jp_predictor_2_0_3_8 (SB.cons0 (by omega) (by omega) (SB.cons0 (by omega) (by omega) SB.nil0)) (fun mu hmu => argsV ha x y z t 3 8 (by omega) (by omega) 22 mu hmu) rfl (fun mu w r f s hr => prV 3 8 (by omega) (by omega) (by decide +kernel) (by decide +kernel) (by omega) f s hr) (fun mu w ws' e1 e2 e3 => ⟨iM0, List.mem_cons_self, postB_ok jq_predictor_0_3_8 e1 e2 sc0 e3⟩)
      exact stp_oneR (u := [x.toInt, t.toInt]) (K := kM191) (aM213 191 kM191 mM_predictor rfl rfl) hI hP hD jp_predictor_2_0_4_8 (SB.cons0 (by omega) (by omega) (SB.cons0 (by omega) (by omega) SB.nil0)) (fun mu hmu => argsV ha x y z t 4 8 (by omega) (by omega) 22 mu hmu) rfl (fun mu w r f s hr => prV 4 8 (by omega) (by omega) (by decide +kernel) (by decide +kernel) (by omega) f s hr) (fun mu w ws' e1 e2 e3 => ⟨iM0, List.mem_cons_self, postB_ok jq_predictor_0_4_8 e1 e2 sc0 e3⟩)
    exact stp_oneR (u := [x.toInt, y.toInt, z.toInt, t.toInt]) (K := kM159) (aM213 159 kM159 mM_predictor rfl rfl) hI hP hD jp_predictor_2_b9 (SB.int0 (SB.int0 (SB.cons0 (by omega) (by have := z.toInt_lt; omega) (SB.int0 SB.nil0)))) (fun mu hmu => argsI ha [x, y, z, t] 22 mu hmu) rfl (fun mu w r _ _ hr => prI (by omega) hr) (fun mu w ws' e1 e2 e3 => ⟨iM2, (List.mem_cons_of_mem _ List.mem_cons_self), postB_ok jq_predictor_2_b9 e1 e2 sc0 e3⟩)
  by_cases c62 : x.toInt ≤ 1
  · exact stp_oneR (u := [x.toInt, y.toInt, z.toInt, t.toInt]) (K := kM149) (aM213 149 kM149 mM_predictor rfl rfl) hI hP hD jp_predictor_2_k1 (SB.cons0 (by omega) (by omega) (SB.int0 (SB.int0 (SB.int0 SB.nil0)))) (fun mu hmu => argsI ha [x, y, z, t] 22 mu hmu) rfl (fun mu w r _ _ hr => prI (by omega) hr) (fun mu w ws' e1 e2 e3 => ⟨iM2, (List.mem_cons_of_mem _ List.mem_cons_self), postB_ok jq_predictor_2_k1 e1 e2 sc0 e3⟩)
  by_cases c63 : x.toInt ≤ 2
  · by_cases c27 : y.toInt ≤ 0
    · exact stp_oneR (u := [x.toInt, y.toInt, z.toInt, t.toInt]) (K := kM152) (aM213 152 kM152 mM_predictor rfl rfl) hI hP hD jp_predictor_2_cn (SB.int0 (SB.cons0 (by have := y.le_toInt; omega) (by omega) (SB.int0 (SB.int0 SB.nil0)))) (fun mu hmu => argsI ha [x, y, z, t] 22 mu hmu) rfl (fun mu w r _ _ hr => prI (by omega) hr) (fun mu w ws' e1 e2 e3 => ⟨iM2, (List.mem_cons_of_mem _ List.mem_cons_self), postB_ok jq_predictor_2_cn e1 e2 sc0 e3⟩)
    by_cases c28 : 5 ≤ y.toInt
    · exact stp_oneR (u := [x.toInt, y.toInt, z.toInt, t.toInt]) (K := kM153) (aM213 153 kM153 mM_predictor rfl rfl) hI hP hD jp_predictor_2_c5 (SB.int0 (SB.cons0 (by omega) (by have := y.toInt_lt; omega) (SB.int0 (SB.int0 SB.nil0)))) (fun mu hmu => argsI ha [x, y, z, t] 22 mu hmu) rfl (fun mu w r _ _ hr => prI (by omega) hr) (fun mu w ws' e1 e2 e3 => ⟨iM2, (List.mem_cons_of_mem _ List.mem_cons_self), postB_ok jq_predictor_2_c5 e1 e2 sc0 e3⟩)
    by_cases c29 : t.toInt ≤ 0
    · exact stp_oneR (u := [x.toInt, y.toInt, z.toInt, t.toInt]) (K := kM154) (aM213 154 kM154 mM_predictor rfl rfl) hI hP hD jp_predictor_2_wn (SB.int0 (SB.int0 (SB.int0 (SB.cons0 (by have := t.le_toInt; omega) (by omega) SB.nil0)))) (fun mu hmu => argsI ha [x, y, z, t] 22 mu hmu) rfl (fun mu w r _ _ hr => prI (by omega) hr) (fun mu w ws' e1 e2 e3 => ⟨iM2, (List.mem_cons_of_mem _ List.mem_cons_self), postB_ok jq_predictor_2_wn e1 e2 sc0 e3⟩)
    by_cases c30 : 65 ≤ t.toInt
    · exact stp_oneR (u := [x.toInt, y.toInt, z.toInt, t.toInt]) (K := kM155) (aM213 155 kM155 mM_predictor rfl rfl) hI hP hD jp_predictor_2_w65 (SB.int0 (SB.int0 (SB.int0 (SB.cons0 (by omega) (by have := t.toInt_lt; omega) SB.nil0)))) (fun mu hmu => argsI ha [x, y, z, t] 22 mu hmu) rfl (fun mu w r _ _ hr => prI (by omega) hr) (fun mu w ws' e1 e2 e3 => ⟨iM2, (List.mem_cons_of_mem _ List.mem_cons_self), postB_ok jq_predictor_2_w65 e1 e2 sc0 e3⟩)
    by_cases c31 : z.toInt ≤ 0
    · exact stp_oneR (u := [x.toInt, y.toInt, z.toInt, t.toInt]) (K := kM156) (aM213 156 kM156 mM_predictor rfl rfl) hI hP hD jp_predictor_2_bn (SB.int0 (SB.int0 (SB.cons0 (by have := z.le_toInt; omega) (by omega) (SB.int0 SB.nil0)))) (fun mu hmu => argsI ha [x, y, z, t] 22 mu hmu) rfl (fun mu w r _ _ hr => prI (by omega) hr) (fun mu w ws' e1 e2 e3 => ⟨iM2, (List.mem_cons_of_mem _ List.mem_cons_self), postB_ok jq_predictor_2_bn e1 e2 sc0 e3⟩)
    by_cases c32 : z.toInt ≤ 2
    · exact stp_oneR (u := [x.toInt, y.toInt, z.toInt, t.toInt]) (K := kM160) (aM213 160 kM160 mM_predictor rfl rfl) hI hP hD jp_predictor_2_t1 (SB.cons0 (by omega) (by omega) (SB.int0 (SB.cons0 (by omega) (by omega) (SB.int0 SB.nil0)))) (fun mu hmu => argsI ha [x, y, z, t] 22 mu hmu) rfl (fun mu w r _ _ hr => prI (by omega) hr) (fun mu w ws' e1 e2 e3 => ⟨iM2, (List.mem_cons_of_mem _ List.mem_cons_self), postB_ok jq_predictor_2_t1 e1 e2 sc0 e3⟩)
    by_cases c33 : z.toInt ≤ 3
    · exact stp_oneR (u := [x.toInt, y.toInt, z.toInt, t.toInt]) (K := kM157) (aM213 157 kM157 mM_predictor rfl rfl) hI hP hD jp_predictor_2_b3 (SB.int0 (SB.int0 (SB.cons0 (by omega) (by omega) (SB.int0 SB.nil0)))) (fun mu hmu => argsI ha [x, y, z, t] 22 mu hmu) rfl (fun mu w r _ _ hr => prI (by omega) hr) (fun mu w ws' e1 e2 e3 => ⟨iM2, (List.mem_cons_of_mem _ List.mem_cons_self), postB_ok jq_predictor_2_b3 e1 e2 sc0 e3⟩)
    by_cases c34 : z.toInt ≤ 4
    · exact stp_oneR (u := [x.toInt, y.toInt, z.toInt, t.toInt]) (K := kM161) (aM213 161 kM161 mM_predictor rfl rfl) hI hP hD jp_predictor_2_t4 (SB.cons0 (by omega) (by omega) (SB.int0 (SB.cons0 (by omega) (by omega) (SB.int0 SB.nil0)))) (fun mu hmu => argsI ha [x, y, z, t] 22 mu hmu) rfl (fun mu w r _ _ hr => prI (by omega) hr) (fun mu w ws' e1 e2 e3 => ⟨iM2, (List.mem_cons_of_mem _ List.mem_cons_self), postB_ok jq_predictor_2_t4 e1 e2 sc0 e3⟩)
    by_cases c35 : z.toInt ≤ 7
    · exact stp_oneR (u := [x.toInt, y.toInt, z.toInt, t.toInt]) (K := kM158) (aM213 158 kM158 mM_predictor rfl rfl) hI hP hD jp_predictor_2_b5 (SB.int0 (SB.int0 (SB.cons0 (by omega) (by omega) (SB.int0 SB.nil0)))) (fun mu hmu => argsI ha [x, y, z, t] 22 mu hmu) rfl (fun mu w r _ _ hr => prI (by omega) hr) (fun mu w ws' e1 e2 e3 => ⟨iM2, (List.mem_cons_of_mem _ List.mem_cons_self), postB_ok jq_predictor_2_b5 e1 e2 sc0 e3⟩)
    by_cases c36 : z.toInt ≤ 8
    · by_cases c24 : y.toInt ≤ 1
      · exact stp_oneR (u := [x.toInt, t.toInt]) (K := kM192) (aM213 192 kM192 mM_predictor rfl rfl) hI hP hD jp_predictor_2_2_1_8 (SB.cons0 (by omega) (by omega) (SB.cons0 (by omega) (by omega) SB.nil0)) (fun mu hmu => argsV ha x y z t 1 8 (by omega) (by omega) 22 mu hmu) rfl (fun mu w r f s hr => prV 1 8 (by omega) (by omega) (by decide +kernel) (by decide +kernel) (by omega) f s hr) (fun mu w ws' e1 e2 e3 => ⟨iM2, (List.mem_cons_of_mem _ List.mem_cons_self), postB_ok jq_predictor_2_1_8 e1 e2 sc0 e3⟩)
      by_cases c25 : y.toInt ≤ 2
      · exact stp_oneR (u := [x.toInt, t.toInt]) (K := kM193) (aM213 193 kM193 mM_predictor rfl rfl) hI hP hD jp_predictor_2_2_2_8 (SB.cons0 (by omega) (by omega) (SB.cons0 (by omega) (by omega) SB.nil0)) (fun mu hmu => argsV ha x y z t 2 8 (by omega) (by omega) 22 mu hmu) rfl (fun mu w r f s hr => prV 2 8 (by omega) (by omega) (by decide +kernel) (by decide +kernel) (by omega) f s hr) (fun mu w ws' e1 e2 e3 => ⟨iM2, (List.mem_cons_of_mem _ List.mem_cons_self), postB_ok jq_predictor_2_2_8 e1 e2 sc0 e3⟩)
      by_cases c26 : y.toInt ≤ 3
      · exact stp_oneR (u := [x.toInt, t.toInt]) (K := kM194) (aM213 194 kM194 mM_predictor rfl rfl) hI hP hD jp_predictor_2_2_3_8 (SB.cons0 (by omega) (by omega) (SB.cons0 (by omega) (by omega) SB.nil0)) (fun mu hmu => argsV ha x y z t 3 8 (by omega) (by omega) 22 mu hmu) rfl (fun mu w r f s hr => prV 3 8 (by omega) (by omega) (by decide +kernel) (by decide +kernel) (by omega) f s hr) (fun mu w ws' e1 e2 e3 => ⟨iM2, (List.mem_cons_of_mem _ List.mem_cons_self), postB_ok jq_predictor_2_3_8 e1 e2 sc0 e3⟩)
      exact stp_oneR (u := [x.toInt, t.toInt]) (K := kM195) (aM213 195 kM195 mM_predictor rfl rfl) hI hP hD jp_predictor_2_2_4_8 (SB.cons0 (by omega) (by omega) (SB.cons0 (by omega) (by omega) SB.nil0)) (fun mu hmu => argsV ha x y z t 4 8 (by omega) (by omega) 22 mu hmu) rfl (fun mu w r f s hr => prV 4 8 (by omega) (by omega) (by decide +kernel) (by decide +kernel) (by omega) f s hr) (fun mu w ws' e1 e2 e3 => ⟨iM2, (List.mem_cons_of_mem _ List.mem_cons_self), postB_ok jq_predictor_2_4_8 e1 e2 sc0 e3⟩)
    exact stp_oneR (u := [x.toInt, y.toInt, z.toInt, t.toInt]) (K := kM159) (aM213 159 kM159 mM_predictor rfl rfl) hI hP hD jp_predictor_2_b9 (SB.int0 (SB.int0 (SB.cons0 (by omega) (by have := z.toInt_lt; omega) (SB.int0 SB.nil0)))) (fun mu hmu => argsI ha [x, y, z, t] 22 mu hmu) rfl (fun mu w r _ _ hr => prI (by omega) hr) (fun mu w ws' e1 e2 e3 => ⟨iM2, (List.mem_cons_of_mem _ List.mem_cons_self), postB_ok jq_predictor_2_b9 e1 e2 sc0 e3⟩)
  by_cases c64 : x.toInt ≤ 9
  · exact stp_oneR (u := [x.toInt, y.toInt, z.toInt, t.toInt]) (K := kM150) (aM213 150 kM150 mM_predictor rfl rfl) hI hP hD jp_predictor_2_k3 (SB.cons0 (by omega) (by omega) (SB.int0 (SB.int0 (SB.int0 SB.nil0)))) (fun mu hmu => argsI ha [x, y, z, t] 22 mu hmu) rfl (fun mu w r _ _ hr => prI (by omega) hr) (fun mu w ws' e1 e2 e3 => ⟨iM2, (List.mem_cons_of_mem _ List.mem_cons_self), postB_ok jq_predictor_2_k3 e1 e2 sc0 e3⟩)
  by_cases c65 : x.toInt ≤ 15
  · by_cases c49 : y.toInt ≤ 0
    · exact stp_oneR (u := [x.toInt, y.toInt, z.toInt, t.toInt]) (K := kM152) (aM213 152 kM152 mM_predictor rfl rfl) hI hP hD jp_predictor_2_cn (SB.int0 (SB.cons0 (by have := y.le_toInt; omega) (by omega) (SB.int0 (SB.int0 SB.nil0)))) (fun mu hmu => argsI ha [x, y, z, t] 22 mu hmu) rfl (fun mu w r _ _ hr => prI (by omega) hr) (fun mu w ws' e1 e2 e3 => ⟨iM2, (List.mem_cons_of_mem _ List.mem_cons_self), postB_ok jq_predictor_2_cn e1 e2 sc0 e3⟩)
    by_cases c50 : 5 ≤ y.toInt
    · exact stp_oneR (u := [x.toInt, y.toInt, z.toInt, t.toInt]) (K := kM153) (aM213 153 kM153 mM_predictor rfl rfl) hI hP hD jp_predictor_2_c5 (SB.int0 (SB.cons0 (by omega) (by have := y.toInt_lt; omega) (SB.int0 (SB.int0 SB.nil0)))) (fun mu hmu => argsI ha [x, y, z, t] 22 mu hmu) rfl (fun mu w r _ _ hr => prI (by omega) hr) (fun mu w ws' e1 e2 e3 => ⟨iM2, (List.mem_cons_of_mem _ List.mem_cons_self), postB_ok jq_predictor_2_c5 e1 e2 sc0 e3⟩)
    by_cases c51 : t.toInt ≤ 0
    · exact stp_oneR (u := [x.toInt, y.toInt, z.toInt, t.toInt]) (K := kM154) (aM213 154 kM154 mM_predictor rfl rfl) hI hP hD jp_predictor_2_wn (SB.int0 (SB.int0 (SB.int0 (SB.cons0 (by have := t.le_toInt; omega) (by omega) SB.nil0)))) (fun mu hmu => argsI ha [x, y, z, t] 22 mu hmu) rfl (fun mu w r _ _ hr => prI (by omega) hr) (fun mu w ws' e1 e2 e3 => ⟨iM2, (List.mem_cons_of_mem _ List.mem_cons_self), postB_ok jq_predictor_2_wn e1 e2 sc0 e3⟩)
    by_cases c52 : 65 ≤ t.toInt
    · exact stp_oneR (u := [x.toInt, y.toInt, z.toInt, t.toInt]) (K := kM155) (aM213 155 kM155 mM_predictor rfl rfl) hI hP hD jp_predictor_2_w65 (SB.int0 (SB.int0 (SB.int0 (SB.cons0 (by omega) (by have := t.toInt_lt; omega) SB.nil0)))) (fun mu hmu => argsI ha [x, y, z, t] 22 mu hmu) rfl (fun mu w r _ _ hr => prI (by omega) hr) (fun mu w ws' e1 e2 e3 => ⟨iM2, (List.mem_cons_of_mem _ List.mem_cons_self), postB_ok jq_predictor_2_w65 e1 e2 sc0 e3⟩)
    by_cases c53 : z.toInt ≤ 0
    · exact stp_oneR (u := [x.toInt, y.toInt, z.toInt, t.toInt]) (K := kM156) (aM213 156 kM156 mM_predictor rfl rfl) hI hP hD jp_predictor_2_bn (SB.int0 (SB.int0 (SB.cons0 (by have := z.le_toInt; omega) (by omega) (SB.int0 SB.nil0)))) (fun mu hmu => argsI ha [x, y, z, t] 22 mu hmu) rfl (fun mu w r _ _ hr => prI (by omega) hr) (fun mu w ws' e1 e2 e3 => ⟨iM2, (List.mem_cons_of_mem _ List.mem_cons_self), postB_ok jq_predictor_2_bn e1 e2 sc0 e3⟩)
    by_cases c54 : z.toInt ≤ 1
    · by_cases c37 : y.toInt ≤ 1
      · exact stp_oneR (u := [x.toInt, t.toInt]) (K := kM196) (aM213 196 kM196 mM_predictor rfl rfl) hI hP hD jp_predictor_2_10_1_1 (SB.cons0 (by omega) (by omega) (SB.cons0 (by omega) (by omega) SB.nil0)) (fun mu hmu => argsV ha x y z t 1 1 (by omega) (by omega) 22 mu hmu) rfl (fun mu w r f s hr => prV 1 1 (by omega) (by omega) (by decide +kernel) (by decide +kernel) (by omega) f s hr) (fun mu w ws' e1 e2 e3 => ⟨iM10, (List.mem_cons_of_mem _ (List.mem_cons_of_mem _ List.mem_cons_self)), postB_ok jq_predictor_10_1_1 e1 e2 sc0 e3⟩)
      by_cases c38 : y.toInt ≤ 2
      · exact stp_oneR (u := [x.toInt, t.toInt]) (K := kM200) (aM213 200 kM200 mM_predictor rfl rfl) hI hP hD jp_predictor_2_10_2_1 (SB.cons0 (by omega) (by omega) (SB.cons0 (by omega) (by omega) SB.nil0)) (fun mu hmu => argsV ha x y z t 2 1 (by omega) (by omega) 22 mu hmu) rfl (fun mu w r f s hr => prV 2 1 (by omega) (by omega) (by decide +kernel) (by decide +kernel) (by omega) f s hr) (fun mu w ws' e1 e2 e3 => ⟨iM10, (List.mem_cons_of_mem _ (List.mem_cons_of_mem _ List.mem_cons_self)), postB_ok jq_predictor_10_2_1 e1 e2 sc0 e3⟩)
      by_cases c39 : y.toInt ≤ 3
      · exact stp_oneR (u := [x.toInt, t.toInt]) (K := kM204) (aM213 204 kM204 mM_predictor rfl rfl) hI hP hD jp_predictor_2_10_3_1 (SB.cons0 (by omega) (by omega) (SB.cons0 (by omega) (by omega) SB.nil0)) (fun mu hmu => argsV ha x y z t 3 1 (by omega) (by omega) 22 mu hmu) rfl (fun mu w r f s hr => prV 3 1 (by omega) (by omega) (by decide +kernel) (by decide +kernel) (by omega) f s hr) (fun mu w ws' e1 e2 e3 => ⟨iM10, (List.mem_cons_of_mem _ (List.mem_cons_of_mem _ List.mem_cons_self)), postB_ok jq_predictor_10_3_1 e1 e2 sc0 e3⟩)
      exact stp_oneR (u := [x.toInt, t.toInt]) (K := kM208) (aM213 208 kM208 mM_predictor rfl rfl) hI hP hD jp_predictor_2_10_4_1 (SB.cons0 (by omega) (by omega) (SB.cons0 (by omega) (by omega) SB.nil0)) (fun mu hmu => argsV ha x y z t 4 1 (by omega) (by omega) 22 mu hmu) rfl (fun mu w r f s hr => prV 4 1 (by omega) (by omega) (by decide +kernel) (by decide +kernel) (by omega) f s hr) (fun mu w ws' e1 e2 e3 => ⟨iM10, (List.mem_cons_of_mem _ (List.mem_cons_of_mem _ List.mem_cons_self)), postB_ok jq_predictor_10_4_1 e1 e2 sc0 e3⟩)
    by_cases c55 : z.toInt ≤ 2
    · by_cases c40 : y.toInt ≤ 1
      · exact stp_oneR (u := [x.toInt, t.toInt]) (K := kM197) (aM213 197 kM197 mM_predictor rfl rfl) hI hP hD jp_predictor_2_10_1_2 (SB.cons0 (by omega) (by omega) (SB.cons0 (by omega) (by omega) SB.nil0)) (fun mu hmu => argsV ha x y z t 1 2 (by omega) (by omega) 22 mu hmu) rfl (fun mu w r f s hr => prV 1 2 (by omega) (by omega) (by decide +kernel) (by decide +kernel) (by omega) f s hr) (fun mu w ws' e1 e2 e3 => ⟨iM10, (List.mem_cons_of_mem _ (List.mem_cons_of_mem _ List.mem_cons_self)), postB_ok jq_predictor_10_1_2 e1 e2 sc0 e3⟩)
      by_cases c41 : y.toInt ≤ 2
      · exact stp_oneR (u := [x.toInt, t.toInt]) (K := kM201) (aM213 201 kM201 mM_predictor rfl rfl) hI hP hD jp_predictor_2_10_2_2 (SB.cons0 (by omega) (by omega) (SB.cons0 (by omega) (by omega) SB.nil0)) (fun mu hmu => argsV ha x y z t 2 2 (by omega) (by omega) 22 mu hmu) rfl (fun mu w r f s hr => prV 2 2 (by omega) (by omega) (by decide +kernel) (by decide +kernel) (by omega) f s hr) (fun mu w ws' e1 e2 e3 => ⟨iM10, (List.mem_cons_of_mem _ (List.mem_cons_of_mem _ List.mem_cons_self)), postB_ok jq_predictor_10_2_2 e1 e2 sc0 e3⟩)
      by_cases c42 : y.toInt ≤ 3
      · exact stp_oneR (u := [x.toInt, t.toInt]) (K := kM205) (aM213 205 kM205 mM_predictor rfl rfl) hI hP hD jp_predictor_2_10_3_2 (SB.cons0 (by omega) (by omega) (SB.cons0 (by omega) (by omega) SB.nil0)) (fun mu hmu => argsV ha x y z t 3 2 (by omega) (by omega) 22 mu hmu) rfl (fun mu w r f s hr => prV 3 2 (by omega) (by omega) (by decide +kernel) (by decide +kernel) (by omega) f s hr) (fun mu w ws' e1 e2 e3 => ⟨iM10, (List.mem_cons_of_mem _ (List.mem_cons_of_mem _ List.mem_cons_self)), postB_ok jq_predictor_10_3_2 e1 e2 sc0 e3⟩)
      exact stp_oneR (u := [x.toInt, t.toInt]) (K := kM209) (aM213 209 kM209 mM_predictor rfl rfl) hI hP hD jp_predictor_2_10_4_2 (SB.cons0 (by omega) (by omega) (SB.cons0 (by omega) (by omega) SB.nil0)) (fun mu hmu => argsV ha x y z t 4 2 (by omega) (by omega) 22 mu hmu) rfl (fun mu w r f s hr => prV 4 2 (by omega) (by omega) (by decide +kernel) (by decide +kernel) (by omega) f s hr) (fun mu w ws' e1 e2 e3 => ⟨iM10, (List.mem_cons_of_mem _ (List.mem_cons_of_mem _ List.mem_cons_self)), postB_ok jq_predictor_10_4_2 e1 e2 sc0 e3⟩)
    by_cases c56 : z.toInt ≤ 3
    · exact stp_oneR (u := [x.toInt, y.toInt, z.toInt, t.toInt]) (K := kM157) (aM213 157 kM157 mM_predictor rfl rfl) hI hP hD jp_predictor_2_b3 (SB.int0 (SB.int0 (SB.cons0 (by omega) (by omega) (SB.int0 SB.nil0)))) (fun mu hmu => argsI ha [x, y, z, t] 22 mu hmu) rfl (fun mu w r _ _ hr => prI (by omega) hr) (fun mu w ws' e1 e2 e3 => ⟨iM2, (List.mem_cons_of_mem _ List.mem_cons_self), postB_ok jq_predictor_2_b3 e1 e2 sc0 e3⟩)
    by_cases c57 : z.toInt ≤ 4
    · by_cases c43 : y.toInt ≤ 1
      · exact stp_oneR (u := [x.toInt, t.toInt]) (K := kM198) (aM213 198 kM198 mM_predictor rfl rfl) hI hP hD jp_predictor_2_10_1_4 (SB.cons0 (by omega) (by omega) (SB.cons0 (by omega) (by omega) SB.nil0)) (fun mu hmu => argsV ha x y z t 1 4 (by omega) (by omega) 22 mu hmu) rfl (fun mu w r f s hr => prV 1 4 (by omega) (by omega) (by decide +kernel) (by decide +kernel) (by omega) f s hr) (fun mu w ws' e1 e2 e3 => ⟨iM10, (List.mem_cons_of_mem _ (List.mem_cons_of_mem _ List.mem_cons_self)), postB_ok jq_predictor_10_1_4 e1 e2 sc0 e3⟩)
      by_cases c44 : y.toInt ≤ 2
      · exact stp_oneR (u := [x.toInt, t.toInt]) (K := kM202) (aM213 202 kM202 mM_predictor rfl rfl) hI hP hD jp_predictor_2_10_2_4 (SB.cons0 (by omega) (by omega) (SB.cons0 (by omega) (by omega) SB.nil0)) (fun mu hmu => argsV ha x y z t 2 4 (by omega) (by omega) 22 mu hmu) rfl (fun mu w r f s hr => prV 2 4 (by omega) (by omega) (by decide +kernel) (by decide +kernel) (by omega) f s hr) (fun mu w ws' e1 e2 e3 => ⟨iM10, (List.mem_cons_of_mem _ (List.mem_cons_of_mem _ List.mem_cons_self)), postB_ok jq_predictor_10_2_4 e1 e2 sc0 e3⟩)
      by_cases c45 : y.toInt ≤ 3
      · exact stp_oneR (u := [x.toInt, t.toInt]) (K := kM206) (aM213 206 kM206 mM_predictor rfl rfl) hI hP hD jp_predictor_2_10_3_4 (SB.cons0 (by omega) (by omega) (SB.cons0 (by omega) (by omega) SB.nil0)) (fun mu hmu => argsV ha x y z t 3 4 (by omega) (by omega) 22 mu hmu) rfl (fun mu w r f s hr => prV 3 4 (by omega) (by omega) (by decide +kernel) (by decide +kernel) (by omega) f s hr) (fun mu w ws' e1 e2 e3 => ⟨iM10, (List.mem_cons_of_mem _ (List.mem_cons_of_mem _ List.mem_cons_self)), postB_ok jq_predictor_10_3_4 e1 e2 sc0 e3⟩)
      exact stp_oneR (u := [x.toInt, t.toInt]) (K := kM210) (aM213 210 kM210 mM_predictor rfl rfl) hI hP hD jp_predictor_2_10_4_4 (SB.cons0 (by omega) (by omega) (SB.cons0 (by omega) (by omega) SB.nil0)) (fun mu hmu => argsV ha x y z t 4 4 (by omega) (by omega) 22 mu hmu) rfl (fun mu w r f s hr => prV 4 4 (by omega) (by omega) (by decide +kernel) (by decide +kernel) (by omega) f s hr) (fun mu w ws' e1 e2 e3 => ⟨iM10, (List.mem_cons_of_mem _ (List.mem_cons_of_mem _ List.mem_cons_self)), postB_ok jq_predictor_10_4_4 e1 e2 sc0 e3⟩)
    by_cases c58 : z.toInt ≤ 7
    · exact stp_oneR (u := [x.toInt, y.toInt, z.toInt, t.toInt]) (K := kM158) (aM213 158 kM158 mM_predictor rfl rfl) hI hP hD jp_predictor_2_b5 (SB.int0 (SB.int0 (SB.cons0 (by omega) (by omega) (SB.int0 SB.nil0)))) (fun mu hmu => argsI ha [x, y, z, t] 22 mu hmu) rfl (fun mu w r _ _ hr => prI (by omega) hr) (fun mu w ws' e1 e2 e3 => ⟨iM2, (List.mem_cons_of_mem _ List.mem_cons_self), postB_ok jq_predictor_2_b5 e1 e2 sc0 e3⟩)
    by_cases c59 : z.toInt ≤ 8
    · by_cases c46 : y.toInt ≤ 1
      · exact stp_oneR (u := [x.toInt, t.toInt]) (K := kM199) (aM213 199 kM199 mM_predictor rfl rfl) hI hP hD jp_predictor_2_10_1_8 (SB.cons0 (by omega) (by omega) (SB.cons0 (by omega) (by omega) SB.nil0)) (fun mu hmu => argsV ha x y z t 1 8 (by omega) (by omega) 22 mu hmu) rfl (fun mu w r f s hr => prV 1 8 (by omega) (by omega) (by decide +kernel) (by decide +kernel) (by omega) f s hr) (fun mu w ws' e1 e2 e3 => ⟨iM10, (List.mem_cons_of_mem _ (List.mem_cons_of_mem _ List.mem_cons_self)), postB_ok jq_predictor_10_1_8 e1 e2 sc0 e3⟩)
      by_cases c47 : y.toInt ≤ 2
      · exact stp_oneR (u := [x.toInt, t.toInt]) (K := kM203) (aM213 203 kM203 mM_predictor rfl rfl) hI hP hD jp_predictor_2_10_2_8 (SB.cons0 (by omega) (by omega) (SB.cons0 (by omega) (by omega) SB.nil0)) (fun mu hmu => argsV ha x y z t 2 8 (by omega) (by omega) 22 mu hmu) rfl (fun mu w r f s hr => prV 2 8 (by omega) (by omega) (by decide +kernel) (by decide +kernel) (by omega) f s hr) (fun mu w ws' e1 e2 e3 => ⟨iM10, (List.mem_cons_of_mem _ (List.mem_cons_of_mem _ List.mem_cons_self)), postB_ok jq_predictor_10_2_8 e1 e2 sc0 e3⟩)
      by_cases c48 : y.toInt ≤ 3
      · exact stp_oneR (u := [x.toInt, t.toInt]) (K := kM207) (aM213 207 kM207 mM_predictor rfl rfl) hI hP hD jp_predictor_2_10_3_8 (SB.cons0 (by omega) (by omega) (SB.cons0 (by omega) (by omega) SB.nil0)) (fun mu hmu => argsV ha x y z t 3 8 (by omega) (by omega) 22 mu hmu) rfl (fun mu w r f s hr => prV 3 8 (by omega) (by omega) (by decide +kernel) (by decide +kernel) (by omega) f s hr) (fun mu w ws' e1 e2 e3 => ⟨iM10, (List.mem_cons_of_mem _ (List.mem_cons_of_mem _ List.mem_cons_self)), postB_ok jq_predictor_10_3_8 e1 e2 sc0 e3⟩)
      exact stp_oneR (u := [x.toInt, t.toInt]) (K := kM211) (aM213 211 kM211 mM_predictor rfl rfl) hI hP hD jp_predictor_2_10_4_8 (SB.cons0 (by omega) (by omega) (SB.cons0 (by omega) (by omega) SB.nil0)) (fun mu hmu => argsV ha x y z t 4 8 (by omega) (by omega) 22 mu hmu) rfl (fun mu w r f s hr => prV 4 8 (by omega) (by omega) (by decide +kernel) (by decide +kernel) (by omega) f s hr) (fun mu w ws' e1 e2 e3 => ⟨iM10, (List.mem_cons_of_mem _ (List.mem_cons_of_mem _ List.mem_cons_self)), postB_ok jq_predictor_10_4_8 e1 e2 sc0 e3⟩)
    exact stp_oneR (u := [x.toInt, y.toInt, z.toInt, t.toInt]) (K := kM159) (aM213 159 kM159 mM_predictor rfl rfl) hI hP hD jp_predictor_2_b9 (SB.int0 (SB.int0 (SB.cons0 (by omega) (by have := z.toInt_lt; omega) (SB.int0 SB.nil0)))) (fun mu hmu => argsI ha [x, y, z, t] 22 mu hmu) rfl (fun mu w r _ _ hr => prI (by omega) hr) (fun mu w ws' e1 e2 e3 => ⟨iM2, (List.mem_cons_of_mem _ List.mem_cons_self), postB_ok jq_predictor_2_b9 e1 e2 sc0 e3⟩)
  exact stp_oneR (u := [x.toInt, y.toInt, z.toInt, t.toInt]) (K := kM151) (aM213 151 kM151 mM_predictor rfl rfl) hI hP hD jp_predictor_2_k16 (SB.cons0 (by omega) (by have := x.toInt_lt; omega) (SB.int0 (SB.int0 (SB.int0 SB.nil0)))) (fun mu hmu => argsI ha [x, y, z, t] 22 mu hmu) rfl (fun mu w r _ _ hr => prI (by omega) hr) (fun mu w ws' e1 e2 e3 => ⟨iM2, (List.mem_cons_of_mem _ List.mem_cons_self), postB_ok jq_predictor_2_k16 e1 e2 sc0 e3⟩)
set_option maxRecDepth 100000 in
set_option maxHeartbeats 4000000 in
theorem sM_predictor_10 {l : Launch} (x y z t : Int32) {D : va_G} {cy : Nat → ClassId} {ads : List Nat} {ws : va_W} {H : Heap} {a : Nat} (hI : Inv cy iM10 ads ws) (hP : va_P D nCl ws H) (hD : va_D (fun _ => True) ws) (ha : ads[0]? = some a) : Met l mM_predictor.1 (wsM TB mM_predictor) rmM (stP D cy gM ads H [.ref a, .int x, .int y, .int z, .int t]) (stQ D cy iMs ads H (rtP x y z t)) 0 0 (stA ads H.size) := by
  by_cases c60 : x.toInt ≤ -1
  · exact stp_oneR (u := [x.toInt, y.toInt, z.toInt, t.toInt]) (K := kM162) (aM213 162 kM162 mM_predictor rfl rfl) hI hP hD jp_predictor_10_kn (SB.cons0 (by have := x.le_toInt; omega) (by omega) (SB.int0 (SB.int0 (SB.int0 SB.nil0)))) (fun mu hmu => argsI ha [x, y, z, t] 22 mu hmu) rfl (fun mu w r _ _ hr => prI (by omega) hr) (fun mu w ws' e1 e2 e3 => ⟨iM10, (List.mem_cons_of_mem _ (List.mem_cons_of_mem _ List.mem_cons_self)), postB_ok jq_predictor_10_kn e1 e2 sc0 e3⟩)
  by_cases c61 : x.toInt ≤ 0
  · by_cases c13 : y.toInt ≤ 0
    · exact stp_oneR (u := [x.toInt, y.toInt, z.toInt, t.toInt]) (K := kM166) (aM213 166 kM166 mM_predictor rfl rfl) hI hP hD jp_predictor_10_cn (SB.int0 (SB.cons0 (by have := y.le_toInt; omega) (by omega) (SB.int0 (SB.int0 SB.nil0)))) (fun mu hmu => argsI ha [x, y, z, t] 22 mu hmu) rfl (fun mu w r _ _ hr => prI (by omega) hr) (fun mu w ws' e1 e2 e3 => ⟨iM10, (List.mem_cons_of_mem _ (List.mem_cons_of_mem _ List.mem_cons_self)), postB_ok jq_predictor_10_cn e1 e2 sc0 e3⟩)
    by_cases c14 : 5 ≤ y.toInt
    · exact stp_oneR (u := [x.toInt, y.toInt, z.toInt, t.toInt]) (K := kM167) (aM213 167 kM167 mM_predictor rfl rfl) hI hP hD jp_predictor_10_c5 (SB.int0 (SB.cons0 (by omega) (by have := y.toInt_lt; omega) (SB.int0 (SB.int0 SB.nil0)))) (fun mu hmu => argsI ha [x, y, z, t] 22 mu hmu) rfl (fun mu w r _ _ hr => prI (by omega) hr) (fun mu w ws' e1 e2 e3 => ⟨iM10, (List.mem_cons_of_mem _ (List.mem_cons_of_mem _ List.mem_cons_self)), postB_ok jq_predictor_10_c5 e1 e2 sc0 e3⟩)
    by_cases c15 : t.toInt ≤ 0
    · exact stp_oneR (u := [x.toInt, y.toInt, z.toInt, t.toInt]) (K := kM168) (aM213 168 kM168 mM_predictor rfl rfl) hI hP hD jp_predictor_10_wn (SB.int0 (SB.int0 (SB.int0 (SB.cons0 (by have := t.le_toInt; omega) (by omega) SB.nil0)))) (fun mu hmu => argsI ha [x, y, z, t] 22 mu hmu) rfl (fun mu w r _ _ hr => prI (by omega) hr) (fun mu w ws' e1 e2 e3 => ⟨iM10, (List.mem_cons_of_mem _ (List.mem_cons_of_mem _ List.mem_cons_self)), postB_ok jq_predictor_10_wn e1 e2 sc0 e3⟩)
    by_cases c16 : 65 ≤ t.toInt
    · exact stp_oneR (u := [x.toInt, y.toInt, z.toInt, t.toInt]) (K := kM169) (aM213 169 kM169 mM_predictor rfl rfl) hI hP hD jp_predictor_10_w65 (SB.int0 (SB.int0 (SB.int0 (SB.cons0 (by omega) (by have := t.toInt_lt; omega) SB.nil0)))) (fun mu hmu => argsI ha [x, y, z, t] 22 mu hmu) rfl (fun mu w r _ _ hr => prI (by omega) hr) (fun mu w ws' e1 e2 e3 => ⟨iM10, (List.mem_cons_of_mem _ (List.mem_cons_of_mem _ List.mem_cons_self)), postB_ok jq_predictor_10_w65 e1 e2 sc0 e3⟩)
    by_cases c17 : z.toInt ≤ 0
    · exact stp_oneR (u := [x.toInt, y.toInt, z.toInt, t.toInt]) (K := kM170) (aM213 170 kM170 mM_predictor rfl rfl) hI hP hD jp_predictor_10_bn (SB.int0 (SB.int0 (SB.cons0 (by have := z.le_toInt; omega) (by omega) (SB.int0 SB.nil0)))) (fun mu hmu => argsI ha [x, y, z, t] 22 mu hmu) rfl (fun mu w r _ _ hr => prI (by omega) hr) (fun mu w ws' e1 e2 e3 => ⟨iM10, (List.mem_cons_of_mem _ (List.mem_cons_of_mem _ List.mem_cons_self)), postB_ok jq_predictor_10_bn e1 e2 sc0 e3⟩)
    by_cases c18 : z.toInt ≤ 1
    · by_cases c1 : y.toInt ≤ 1
      · exact stp_oneR (u := [x.toInt, t.toInt]) (K := kM176) (aM213 176 kM176 mM_predictor rfl rfl) hI hP hD jp_predictor_10_0_1_1 (SB.cons0 (by omega) (by omega) (SB.cons0 (by omega) (by omega) SB.nil0)) (fun mu hmu => argsV ha x y z t 1 1 (by omega) (by omega) 22 mu hmu) rfl (fun mu w r f s hr => prV 1 1 (by omega) (by omega) (by decide +kernel) (by decide +kernel) (by omega) f s hr) (fun mu w ws' e1 e2 e3 => ⟨iM0, List.mem_cons_self, postB_ok jq_predictor_0_1_1 e1 e2 sc0 e3⟩)
      by_cases c2 : y.toInt ≤ 2
      · exact stp_oneR (u := [x.toInt, t.toInt]) (K := kM180) (aM213 180 kM180 mM_predictor rfl rfl) hI hP hD jp_predictor_10_0_2_1 (SB.cons0 (by omega) (by omega) (SB.cons0 (by omega) (by omega) SB.nil0)) (fun mu hmu => argsV ha x y z t 2 1 (by omega) (by omega) 22 mu hmu) rfl (fun mu w r f s hr => prV 2 1 (by omega) (by omega) (by decide +kernel) (by decide +kernel) (by omega) f s hr) (fun mu w ws' e1 e2 e3 => ⟨iM0, List.mem_cons_self, postB_ok jq_predictor_0_2_1 e1 e2 sc0 e3⟩)
      by_cases c3 : y.toInt ≤ 3
      · exact stp_oneR (u := [x.toInt, t.toInt]) (K := kM184) (aM213 184 kM184 mM_predictor rfl rfl) hI hP hD jp_predictor_10_0_3_1 (SB.cons0 (by omega) (by omega) (SB.cons0 (by omega) (by omega) SB.nil0)) (fun mu hmu => argsV ha x y z t 3 1 (by omega) (by omega) 22 mu hmu) rfl (fun mu w r f s hr => prV 3 1 (by omega) (by omega) (by decide +kernel) (by decide +kernel) (by omega) f s hr) (fun mu w ws' e1 e2 e3 => ⟨iM0, List.mem_cons_self, postB_ok jq_predictor_0_3_1 e1 e2 sc0 e3⟩)
      exact stp_oneR (u := [x.toInt, t.toInt]) (K := kM188) (aM213 188 kM188 mM_predictor rfl rfl) hI hP hD jp_predictor_10_0_4_1 (SB.cons0 (by omega) (by omega) (SB.cons0 (by omega) (by omega) SB.nil0)) (fun mu hmu => argsV ha x y z t 4 1 (by omega) (by omega) 22 mu hmu) rfl (fun mu w r f s hr => prV 4 1 (by omega) (by omega) (by decide +kernel) (by decide +kernel) (by omega) f s hr) (fun mu w ws' e1 e2 e3 => ⟨iM0, List.mem_cons_self, postB_ok jq_predictor_0_4_1 e1 e2 sc0 e3⟩)
    by_cases c19 : z.toInt ≤ 2
    · by_cases c4 : y.toInt ≤ 1
      · exact stp_oneR (u := [x.toInt, t.toInt]) (K := kM177) (aM213 177 kM177 mM_predictor rfl rfl) hI hP hD jp_predictor_10_0_1_2 (SB.cons0 (by omega) (by omega) (SB.cons0 (by omega) (by omega) SB.nil0)) (fun mu hmu => argsV ha x y z t 1 2 (by omega) (by omega) 22 mu hmu) rfl (fun mu w r f s hr => prV 1 2 (by omega) (by omega) (by decide +kernel) (by decide +kernel) (by omega) f s hr) (fun mu w ws' e1 e2 e3 => ⟨iM0, List.mem_cons_self, postB_ok jq_predictor_0_1_2 e1 e2 sc0 e3⟩)
      by_cases c5 : y.toInt ≤ 2
      · exact stp_oneR (u := [x.toInt, t.toInt]) (K := kM181) (aM213 181 kM181 mM_predictor rfl rfl) hI hP hD jp_predictor_10_0_2_2 (SB.cons0 (by omega) (by omega) (SB.cons0 (by omega) (by omega) SB.nil0)) (fun mu hmu => argsV ha x y z t 2 2 (by omega) (by omega) 22 mu hmu) rfl (fun mu w r f s hr => prV 2 2 (by omega) (by omega) (by decide +kernel) (by decide +kernel) (by omega) f s hr) (fun mu w ws' e1 e2 e3 => ⟨iM0, List.mem_cons_self, postB_ok jq_predictor_0_2_2 e1 e2 sc0 e3⟩)
      by_cases c6 : y.toInt ≤ 3
      · exact stp_oneR (u := [x.toInt, t.toInt]) (K := kM185) (aM213 185 kM185 mM_predictor rfl rfl) hI hP hD jp_predictor_10_0_3_2 (SB.cons0 (by omega) (by omega) (SB.cons0 (by omega) (by omega) SB.nil0)) (fun mu hmu => argsV ha x y z t 3 2 (by omega) (by omega) 22 mu hmu) rfl (fun mu w r f s hr => prV 3 2 (by omega) (by omega) (by decide +kernel) (by decide +kernel) (by omega) f s hr) (fun mu w ws' e1 e2 e3 => ⟨iM0, List.mem_cons_self, postB_ok jq_predictor_0_3_2 e1 e2 sc0 e3⟩)
      exact stp_oneR (u := [x.toInt, t.toInt]) (K := kM189) (aM213 189 kM189 mM_predictor rfl rfl) hI hP hD jp_predictor_10_0_4_2 (SB.cons0 (by omega) (by omega) (SB.cons0 (by omega) (by omega) SB.nil0)) (fun mu hmu => argsV ha x y z t 4 2 (by omega) (by omega) 22 mu hmu) rfl (fun mu w r f s hr => prV 4 2 (by omega) (by omega) (by decide +kernel) (by decide +kernel) (by omega) f s hr) (fun mu w ws' e1 e2 e3 => ⟨iM0, List.mem_cons_self, postB_ok jq_predictor_0_4_2 e1 e2 sc0 e3⟩)
    by_cases c20 : z.toInt ≤ 3
    · exact stp_oneR (u := [x.toInt, y.toInt, z.toInt, t.toInt]) (K := kM171) (aM213 171 kM171 mM_predictor rfl rfl) hI hP hD jp_predictor_10_b3 (SB.int0 (SB.int0 (SB.cons0 (by omega) (by omega) (SB.int0 SB.nil0)))) (fun mu hmu => argsI ha [x, y, z, t] 22 mu hmu) rfl (fun mu w r _ _ hr => prI (by omega) hr) (fun mu w ws' e1 e2 e3 => ⟨iM10, (List.mem_cons_of_mem _ (List.mem_cons_of_mem _ List.mem_cons_self)), postB_ok jq_predictor_10_b3 e1 e2 sc0 e3⟩)
    by_cases c21 : z.toInt ≤ 4
    · by_cases c7 : y.toInt ≤ 1
      · exact stp_oneR (u := [x.toInt, t.toInt]) (K := kM178) (aM213 178 kM178 mM_predictor rfl rfl) hI hP hD jp_predictor_10_0_1_4 (SB.cons0 (by omega) (by omega) (SB.cons0 (by omega) (by omega) SB.nil0)) (fun mu hmu => argsV ha x y z t 1 4 (by omega) (by omega) 22 mu hmu) rfl (fun mu w r f s hr => prV 1 4 (by omega) (by omega) (by decide +kernel) (by decide +kernel) (by omega) f s hr) (fun mu w ws' e1 e2 e3 => ⟨iM0, List.mem_cons_self, postB_ok jq_predictor_0_1_4 e1 e2 sc0 e3⟩)
      by_cases c8 : y.toInt ≤ 2
      · exact stp_oneR (u := [x.toInt, t.toInt]) (K := kM182) (aM213 182 kM182 mM_predictor rfl rfl) hI hP hD jp_predictor_10_0_2_4 (SB.cons0 (by omega) (by omega) (SB.cons0 (by omega) (by omega) SB.nil0)) (fun mu hmu => argsV ha x y z t 2 4 (by omega) (by omega) 22 mu hmu) rfl (fun mu w r f s hr => prV 2 4 (by omega) (by omega) (by decide +kernel) (by decide +kernel) (by omega) f s hr) (fun mu w ws' e1 e2 e3 => ⟨iM0, List.mem_cons_self, postB_ok jq_predictor_0_2_4 e1 e2 sc0 e3⟩)
      by_cases c9 : y.toInt ≤ 3
      · exact stp_oneR (u := [x.toInt, t.toInt]) (K := kM186) (aM213 186 kM186 mM_predictor rfl rfl) hI hP hD jp_predictor_10_0_3_4 (SB.cons0 (by omega) (by omega) (SB.cons0 (by omega) (by omega) SB.nil0)) (fun mu hmu => argsV ha x y z t 3 4 (by omega) (by omega) 22 mu hmu) rfl (fun mu w r f s hr => prV 3 4 (by omega) (by omega) (by decide +kernel) (by decide +kernel) (by omega) f s hr) (fun mu w ws' e1 e2 e3 => ⟨iM0, List.mem_cons_self, postB_ok jq_predictor_0_3_4 e1 e2 sc0 e3⟩)
      exact stp_oneR (u := [x.toInt, t.toInt]) (K := kM190) (aM213 190 kM190 mM_predictor rfl rfl) hI hP hD jp_predictor_10_0_4_4 (SB.cons0 (by omega) (by omega) (SB.cons0 (by omega) (by omega) SB.nil0)) (fun mu hmu => argsV ha x y z t 4 4 (by omega) (by omega) 22 mu hmu) rfl (fun mu w r f s hr => prV 4 4 (by omega) (by omega) (by decide +kernel) (by decide +kernel) (by omega) f s hr) (fun mu w ws' e1 e2 e3 => ⟨iM0, List.mem_cons_self, postB_ok jq_predictor_0_4_4 e1 e2 sc0 e3⟩)
    by_cases c22 : z.toInt ≤ 7
    · exact stp_oneR (u := [x.toInt, y.toInt, z.toInt, t.toInt]) (K := kM172) (aM213 172 kM172 mM_predictor rfl rfl) hI hP hD jp_predictor_10_b5 (SB.int0 (SB.int0 (SB.cons0 (by omega) (by omega) (SB.int0 SB.nil0)))) (fun mu hmu => argsI ha [x, y, z, t] 22 mu hmu) rfl (fun mu w r _ _ hr => prI (by omega) hr) (fun mu w ws' e1 e2 e3 => ⟨iM10, (List.mem_cons_of_mem _ (List.mem_cons_of_mem _ List.mem_cons_self)), postB_ok jq_predictor_10_b5 e1 e2 sc0 e3⟩)
    by_cases c23 : z.toInt ≤ 8
    · by_cases c10 : y.toInt ≤ 1
      · exact stp_oneR (u := [x.toInt, t.toInt]) (K := kM179) (aM213 179 kM179 mM_predictor rfl rfl) hI hP hD jp_predictor_10_0_1_8 (SB.cons0 (by omega) (by omega) (SB.cons0 (by omega) (by omega) SB.nil0)) (fun mu hmu => argsV ha x y z t 1 8 (by omega) (by omega) 22 mu hmu) rfl (fun mu w r f s hr => prV 1 8 (by omega) (by omega) (by decide +kernel) (by decide +kernel) (by omega) f s hr) (fun mu w ws' e1 e2 e3 => ⟨iM0, List.mem_cons_self, postB_ok jq_predictor_0_1_8 e1 e2 sc0 e3⟩)
      by_cases c11 : y.toInt ≤ 2
      · exact stp_oneR (u := [x.toInt, t.toInt]) (K := kM183) (aM213 183 kM183 mM_predictor rfl rfl) hI hP hD jp_predictor_10_0_2_8 (SB.cons0 (by omega) (by omega) (SB.cons0 (by omega) (by omega) SB.nil0)) (fun mu hmu => argsV ha x y z t 2 8 (by omega) (by omega) 22 mu hmu) rfl (fun mu w r f s hr => prV 2 8 (by omega) (by omega) (by decide +kernel) (by decide +kernel) (by omega) f s hr) (fun mu w ws' e1 e2 e3 => ⟨iM0, List.mem_cons_self, postB_ok jq_predictor_0_2_8 e1 e2 sc0 e3⟩)
      by_cases c12 : y.toInt ≤ 3
      · exact stp_oneR (u := [x.toInt, t.toInt]) (K := kM187) (aM213 187 kM187 mM_predictor rfl rfl) hI hP hD jp_predictor_10_0_3_8 (SB.cons0 (by omega) (by omega) (SB.cons0 (by omega) (by omega) SB.nil0)) (fun mu hmu => argsV ha x y z t 3 8 (by omega) (by omega) 22 mu hmu) rfl (fun mu w r f s hr => prV 3 8 (by omega) (by omega) (by decide +kernel) (by decide +kernel) (by omega) f s hr) (fun mu w ws' e1 e2 e3 => ⟨iM0, List.mem_cons_self, postB_ok jq_predictor_0_3_8 e1 e2 sc0 e3⟩)
      exact stp_oneR (u := [x.toInt, t.toInt]) (K := kM191) (aM213 191 kM191 mM_predictor rfl rfl) hI hP hD jp_predictor_10_0_4_8 (SB.cons0 (by omega) (by omega) (SB.cons0 (by omega) (by omega) SB.nil0)) (fun mu hmu => argsV ha x y z t 4 8 (by omega) (by omega) 22 mu hmu) rfl (fun mu w r f s hr => prV 4 8 (by omega) (by omega) (by decide +kernel) (by decide +kernel) (by omega) f s hr) (fun mu w ws' e1 e2 e3 => ⟨iM0, List.mem_cons_self, postB_ok jq_predictor_0_4_8 e1 e2 sc0 e3⟩)
    exact stp_oneR (u := [x.toInt, y.toInt, z.toInt, t.toInt]) (K := kM173) (aM213 173 kM173 mM_predictor rfl rfl) hI hP hD jp_predictor_10_b9 (SB.int0 (SB.int0 (SB.cons0 (by omega) (by have := z.toInt_lt; omega) (SB.int0 SB.nil0)))) (fun mu hmu => argsI ha [x, y, z, t] 22 mu hmu) rfl (fun mu w r _ _ hr => prI (by omega) hr) (fun mu w ws' e1 e2 e3 => ⟨iM10, (List.mem_cons_of_mem _ (List.mem_cons_of_mem _ List.mem_cons_self)), postB_ok jq_predictor_10_b9 e1 e2 sc0 e3⟩)
  by_cases c62 : x.toInt ≤ 1
  · exact stp_oneR (u := [x.toInt, y.toInt, z.toInt, t.toInt]) (K := kM163) (aM213 163 kM163 mM_predictor rfl rfl) hI hP hD jp_predictor_10_k1 (SB.cons0 (by omega) (by omega) (SB.int0 (SB.int0 (SB.int0 SB.nil0)))) (fun mu hmu => argsI ha [x, y, z, t] 22 mu hmu) rfl (fun mu w r _ _ hr => prI (by omega) hr) (fun mu w ws' e1 e2 e3 => ⟨iM10, (List.mem_cons_of_mem _ (List.mem_cons_of_mem _ List.mem_cons_self)), postB_ok jq_predictor_10_k1 e1 e2 sc0 e3⟩)
  by_cases c63 : x.toInt ≤ 2
  · by_cases c27 : y.toInt ≤ 0
    · exact stp_oneR (u := [x.toInt, y.toInt, z.toInt, t.toInt]) (K := kM166) (aM213 166 kM166 mM_predictor rfl rfl) hI hP hD jp_predictor_10_cn (SB.int0 (SB.cons0 (by have := y.le_toInt; omega) (by omega) (SB.int0 (SB.int0 SB.nil0)))) (fun mu hmu => argsI ha [x, y, z, t] 22 mu hmu) rfl (fun mu w r _ _ hr => prI (by omega) hr) (fun mu w ws' e1 e2 e3 => ⟨iM10, (List.mem_cons_of_mem _ (List.mem_cons_of_mem _ List.mem_cons_self)), postB_ok jq_predictor_10_cn e1 e2 sc0 e3⟩)
    by_cases c28 : 5 ≤ y.toInt
    · exact stp_oneR (u := [x.toInt, y.toInt, z.toInt, t.toInt]) (K := kM167) (aM213 167 kM167 mM_predictor rfl rfl) hI hP hD jp_predictor_10_c5 (SB.int0 (SB.cons0 (by omega) (by have := y.toInt_lt; omega) (SB.int0 (SB.int0 SB.nil0)))) (fun mu hmu => argsI ha [x, y, z, t] 22 mu hmu) rfl (fun mu w r _ _ hr => prI (by omega) hr) (fun mu w ws' e1 e2 e3 => ⟨iM10, (List.mem_cons_of_mem _ (List.mem_cons_of_mem _ List.mem_cons_self)), postB_ok jq_predictor_10_c5 e1 e2 sc0 e3⟩)
    by_cases c29 : t.toInt ≤ 0
    · exact stp_oneR (u := [x.toInt, y.toInt, z.toInt, t.toInt]) (K := kM168) (aM213 168 kM168 mM_predictor rfl rfl) hI hP hD jp_predictor_10_wn (SB.int0 (SB.int0 (SB.int0 (SB.cons0 (by have := t.le_toInt; omega) (by omega) SB.nil0)))) (fun mu hmu => argsI ha [x, y, z, t] 22 mu hmu) rfl (fun mu w r _ _ hr => prI (by omega) hr) (fun mu w ws' e1 e2 e3 => ⟨iM10, (List.mem_cons_of_mem _ (List.mem_cons_of_mem _ List.mem_cons_self)), postB_ok jq_predictor_10_wn e1 e2 sc0 e3⟩)
    by_cases c30 : 65 ≤ t.toInt
    · exact stp_oneR (u := [x.toInt, y.toInt, z.toInt, t.toInt]) (K := kM169) (aM213 169 kM169 mM_predictor rfl rfl) hI hP hD jp_predictor_10_w65 (SB.int0 (SB.int0 (SB.int0 (SB.cons0 (by omega) (by have := t.toInt_lt; omega) SB.nil0)))) (fun mu hmu => argsI ha [x, y, z, t] 22 mu hmu) rfl (fun mu w r _ _ hr => prI (by omega) hr) (fun mu w ws' e1 e2 e3 => ⟨iM10, (List.mem_cons_of_mem _ (List.mem_cons_of_mem _ List.mem_cons_self)), postB_ok jq_predictor_10_w65 e1 e2 sc0 e3⟩)
    by_cases c31 : z.toInt ≤ 0
    · exact stp_oneR (u := [x.toInt, y.toInt, z.toInt, t.toInt]) (K := kM170) (aM213 170 kM170 mM_predictor rfl rfl) hI hP hD jp_predictor_10_bn (SB.int0 (SB.int0 (SB.cons0 (by have := z.le_toInt; omega) (by omega) (SB.int0 SB.nil0)))) (fun mu hmu => argsI ha [x, y, z, t] 22 mu hmu) rfl (fun mu w r _ _ hr => prI (by omega) hr) (fun mu w ws' e1 e2 e3 => ⟨iM10, (List.mem_cons_of_mem _ (List.mem_cons_of_mem _ List.mem_cons_self)), postB_ok jq_predictor_10_bn e1 e2 sc0 e3⟩)
    by_cases c32 : z.toInt ≤ 2
    · exact stp_oneR (u := [x.toInt, y.toInt, z.toInt, t.toInt]) (K := kM174) (aM213 174 kM174 mM_predictor rfl rfl) hI hP hD jp_predictor_10_t1 (SB.cons0 (by omega) (by omega) (SB.int0 (SB.cons0 (by omega) (by omega) (SB.int0 SB.nil0)))) (fun mu hmu => argsI ha [x, y, z, t] 22 mu hmu) rfl (fun mu w r _ _ hr => prI (by omega) hr) (fun mu w ws' e1 e2 e3 => ⟨iM10, (List.mem_cons_of_mem _ (List.mem_cons_of_mem _ List.mem_cons_self)), postB_ok jq_predictor_10_t1 e1 e2 sc0 e3⟩)
    by_cases c33 : z.toInt ≤ 3
    · exact stp_oneR (u := [x.toInt, y.toInt, z.toInt, t.toInt]) (K := kM171) (aM213 171 kM171 mM_predictor rfl rfl) hI hP hD jp_predictor_10_b3 (SB.int0 (SB.int0 (SB.cons0 (by omega) (by omega) (SB.int0 SB.nil0)))) (fun mu hmu => argsI ha [x, y, z, t] 22 mu hmu) rfl (fun mu w r _ _ hr => prI (by omega) hr) (fun mu w ws' e1 e2 e3 => ⟨iM10, (List.mem_cons_of_mem _ (List.mem_cons_of_mem _ List.mem_cons_self)), postB_ok jq_predictor_10_b3 e1 e2 sc0 e3⟩)
    by_cases c34 : z.toInt ≤ 4
    · exact stp_oneR (u := [x.toInt, y.toInt, z.toInt, t.toInt]) (K := kM175) (aM213 175 kM175 mM_predictor rfl rfl) hI hP hD jp_predictor_10_t4 (SB.cons0 (by omega) (by omega) (SB.int0 (SB.cons0 (by omega) (by omega) (SB.int0 SB.nil0)))) (fun mu hmu => argsI ha [x, y, z, t] 22 mu hmu) rfl (fun mu w r _ _ hr => prI (by omega) hr) (fun mu w ws' e1 e2 e3 => ⟨iM10, (List.mem_cons_of_mem _ (List.mem_cons_of_mem _ List.mem_cons_self)), postB_ok jq_predictor_10_t4 e1 e2 sc0 e3⟩)
    by_cases c35 : z.toInt ≤ 7
    · exact stp_oneR (u := [x.toInt, y.toInt, z.toInt, t.toInt]) (K := kM172) (aM213 172 kM172 mM_predictor rfl rfl) hI hP hD jp_predictor_10_b5 (SB.int0 (SB.int0 (SB.cons0 (by omega) (by omega) (SB.int0 SB.nil0)))) (fun mu hmu => argsI ha [x, y, z, t] 22 mu hmu) rfl (fun mu w r _ _ hr => prI (by omega) hr) (fun mu w ws' e1 e2 e3 => ⟨iM10, (List.mem_cons_of_mem _ (List.mem_cons_of_mem _ List.mem_cons_self)), postB_ok jq_predictor_10_b5 e1 e2 sc0 e3⟩)
    by_cases c36 : z.toInt ≤ 8
    · by_cases c24 : y.toInt ≤ 1
      · exact stp_oneR (u := [x.toInt, t.toInt]) (K := kM192) (aM213 192 kM192 mM_predictor rfl rfl) hI hP hD jp_predictor_10_2_1_8 (SB.cons0 (by omega) (by omega) (SB.cons0 (by omega) (by omega) SB.nil0)) (fun mu hmu => argsV ha x y z t 1 8 (by omega) (by omega) 22 mu hmu) rfl (fun mu w r f s hr => prV 1 8 (by omega) (by omega) (by decide +kernel) (by decide +kernel) (by omega) f s hr) (fun mu w ws' e1 e2 e3 => ⟨iM2, (List.mem_cons_of_mem _ List.mem_cons_self), postB_ok jq_predictor_2_1_8 e1 e2 sc0 e3⟩)
      by_cases c25 : y.toInt ≤ 2
      · exact stp_oneR (u := [x.toInt, t.toInt]) (K := kM193) (aM213 193 kM193 mM_predictor rfl rfl) hI hP hD jp_predictor_10_2_2_8 (SB.cons0 (by omega) (by omega) (SB.cons0 (by omega) (by omega) SB.nil0)) (fun mu hmu => argsV ha x y z t 2 8 (by omega) (by omega) 22 mu hmu) rfl (fun mu w r f s hr => prV 2 8 (by omega) (by omega) (by decide +kernel) (by decide +kernel) (by omega) f s hr) (fun mu w ws' e1 e2 e3 => ⟨iM2, (List.mem_cons_of_mem _ List.mem_cons_self), postB_ok jq_predictor_2_2_8 e1 e2 sc0 e3⟩)
      by_cases c26 : y.toInt ≤ 3
      · exact stp_oneR (u := [x.toInt, t.toInt]) (K := kM194) (aM213 194 kM194 mM_predictor rfl rfl) hI hP hD jp_predictor_10_2_3_8 (SB.cons0 (by omega) (by omega) (SB.cons0 (by omega) (by omega) SB.nil0)) (fun mu hmu => argsV ha x y z t 3 8 (by omega) (by omega) 22 mu hmu) rfl (fun mu w r f s hr => prV 3 8 (by omega) (by omega) (by decide +kernel) (by decide +kernel) (by omega) f s hr) (fun mu w ws' e1 e2 e3 => ⟨iM2, (List.mem_cons_of_mem _ List.mem_cons_self), postB_ok jq_predictor_2_3_8 e1 e2 sc0 e3⟩)
      exact stp_oneR (u := [x.toInt, t.toInt]) (K := kM195) (aM213 195 kM195 mM_predictor rfl rfl) hI hP hD jp_predictor_10_2_4_8 (SB.cons0 (by omega) (by omega) (SB.cons0 (by omega) (by omega) SB.nil0)) (fun mu hmu => argsV ha x y z t 4 8 (by omega) (by omega) 22 mu hmu) rfl (fun mu w r f s hr => prV 4 8 (by omega) (by omega) (by decide +kernel) (by decide +kernel) (by omega) f s hr) (fun mu w ws' e1 e2 e3 => ⟨iM2, (List.mem_cons_of_mem _ List.mem_cons_self), postB_ok jq_predictor_2_4_8 e1 e2 sc0 e3⟩)
    exact stp_oneR (u := [x.toInt, y.toInt, z.toInt, t.toInt]) (K := kM173) (aM213 173 kM173 mM_predictor rfl rfl) hI hP hD jp_predictor_10_b9 (SB.int0 (SB.int0 (SB.cons0 (by omega) (by have := z.toInt_lt; omega) (SB.int0 SB.nil0)))) (fun mu hmu => argsI ha [x, y, z, t] 22 mu hmu) rfl (fun mu w r _ _ hr => prI (by omega) hr) (fun mu w ws' e1 e2 e3 => ⟨iM10, (List.mem_cons_of_mem _ (List.mem_cons_of_mem _ List.mem_cons_self)), postB_ok jq_predictor_10_b9 e1 e2 sc0 e3⟩)
  by_cases c64 : x.toInt ≤ 9
  · exact stp_oneR (u := [x.toInt, y.toInt, z.toInt, t.toInt]) (K := kM164) (aM213 164 kM164 mM_predictor rfl rfl) hI hP hD jp_predictor_10_k3 (SB.cons0 (by omega) (by omega) (SB.int0 (SB.int0 (SB.int0 SB.nil0)))) (fun mu hmu => argsI ha [x, y, z, t] 22 mu hmu) rfl (fun mu w r _ _ hr => prI (by omega) hr) (fun mu w ws' e1 e2 e3 => ⟨iM10, (List.mem_cons_of_mem _ (List.mem_cons_of_mem _ List.mem_cons_self)), postB_ok jq_predictor_10_k3 e1 e2 sc0 e3⟩)
  by_cases c65 : x.toInt ≤ 15
  · by_cases c49 : y.toInt ≤ 0
    · exact stp_oneR (u := [x.toInt, y.toInt, z.toInt, t.toInt]) (K := kM166) (aM213 166 kM166 mM_predictor rfl rfl) hI hP hD jp_predictor_10_cn (SB.int0 (SB.cons0 (by have := y.le_toInt; omega) (by omega) (SB.int0 (SB.int0 SB.nil0)))) (fun mu hmu => argsI ha [x, y, z, t] 22 mu hmu) rfl (fun mu w r _ _ hr => prI (by omega) hr) (fun mu w ws' e1 e2 e3 => ⟨iM10, (List.mem_cons_of_mem _ (List.mem_cons_of_mem _ List.mem_cons_self)), postB_ok jq_predictor_10_cn e1 e2 sc0 e3⟩)
    by_cases c50 : 5 ≤ y.toInt
    · exact stp_oneR (u := [x.toInt, y.toInt, z.toInt, t.toInt]) (K := kM167) (aM213 167 kM167 mM_predictor rfl rfl) hI hP hD jp_predictor_10_c5 (SB.int0 (SB.cons0 (by omega) (by have := y.toInt_lt; omega) (SB.int0 (SB.int0 SB.nil0)))) (fun mu hmu => argsI ha [x, y, z, t] 22 mu hmu) rfl (fun mu w r _ _ hr => prI (by omega) hr) (fun mu w ws' e1 e2 e3 => ⟨iM10, (List.mem_cons_of_mem _ (List.mem_cons_of_mem _ List.mem_cons_self)), postB_ok jq_predictor_10_c5 e1 e2 sc0 e3⟩)
    by_cases c51 : t.toInt ≤ 0
    · exact stp_oneR (u := [x.toInt, y.toInt, z.toInt, t.toInt]) (K := kM168) (aM213 168 kM168 mM_predictor rfl rfl) hI hP hD jp_predictor_10_wn (SB.int0 (SB.int0 (SB.int0 (SB.cons0 (by have := t.le_toInt; omega) (by omega) SB.nil0)))) (fun mu hmu => argsI ha [x, y, z, t] 22 mu hmu) rfl (fun mu w r _ _ hr => prI (by omega) hr) (fun mu w ws' e1 e2 e3 => ⟨iM10, (List.mem_cons_of_mem _ (List.mem_cons_of_mem _ List.mem_cons_self)), postB_ok jq_predictor_10_wn e1 e2 sc0 e3⟩)
    by_cases c52 : 65 ≤ t.toInt
    · exact stp_oneR (u := [x.toInt, y.toInt, z.toInt, t.toInt]) (K := kM169) (aM213 169 kM169 mM_predictor rfl rfl) hI hP hD jp_predictor_10_w65 (SB.int0 (SB.int0 (SB.int0 (SB.cons0 (by omega) (by have := t.toInt_lt; omega) SB.nil0)))) (fun mu hmu => argsI ha [x, y, z, t] 22 mu hmu) rfl (fun mu w r _ _ hr => prI (by omega) hr) (fun mu w ws' e1 e2 e3 => ⟨iM10, (List.mem_cons_of_mem _ (List.mem_cons_of_mem _ List.mem_cons_self)), postB_ok jq_predictor_10_w65 e1 e2 sc0 e3⟩)
    by_cases c53 : z.toInt ≤ 0
    · exact stp_oneR (u := [x.toInt, y.toInt, z.toInt, t.toInt]) (K := kM170) (aM213 170 kM170 mM_predictor rfl rfl) hI hP hD jp_predictor_10_bn (SB.int0 (SB.int0 (SB.cons0 (by have := z.le_toInt; omega) (by omega) (SB.int0 SB.nil0)))) (fun mu hmu => argsI ha [x, y, z, t] 22 mu hmu) rfl (fun mu w r _ _ hr => prI (by omega) hr) (fun mu w ws' e1 e2 e3 => ⟨iM10, (List.mem_cons_of_mem _ (List.mem_cons_of_mem _ List.mem_cons_self)), postB_ok jq_predictor_10_bn e1 e2 sc0 e3⟩)
    by_cases c54 : z.toInt ≤ 1
    · by_cases c37 : y.toInt ≤ 1
      · exact stp_oneR (u := [x.toInt, t.toInt]) (K := kM196) (aM213 196 kM196 mM_predictor rfl rfl) hI hP hD jp_predictor_10_10_1_1 (SB.cons0 (by omega) (by omega) (SB.cons0 (by omega) (by omega) SB.nil0)) (fun mu hmu => argsV ha x y z t 1 1 (by omega) (by omega) 22 mu hmu) rfl (fun mu w r f s hr => prV 1 1 (by omega) (by omega) (by decide +kernel) (by decide +kernel) (by omega) f s hr) (fun mu w ws' e1 e2 e3 => ⟨iM10, (List.mem_cons_of_mem _ (List.mem_cons_of_mem _ List.mem_cons_self)), postB_ok jq_predictor_10_1_1 e1 e2 sc0 e3⟩)
      by_cases c38 : y.toInt ≤ 2
      · exact stp_oneR (u := [x.toInt, t.toInt]) (K := kM200) (aM213 200 kM200 mM_predictor rfl rfl) hI hP hD jp_predictor_10_10_2_1 (SB.cons0 (by omega) (by omega) (SB.cons0 (by omega) (by omega) SB.nil0)) (fun mu hmu => argsV ha x y z t 2 1 (by omega) (by omega) 22 mu hmu) rfl (fun mu w r f s hr => prV 2 1 (by omega) (by omega) (by decide +kernel) (by decide +kernel) (by omega) f s hr) (fun mu w ws' e1 e2 e3 => ⟨iM10, (List.mem_cons_of_mem _ (List.mem_cons_of_mem _ List.mem_cons_self)), postB_ok jq_predictor_10_2_1 e1 e2 sc0 e3⟩)
      by_cases c39 : y.toInt ≤ 3
      · exact stp_oneR (u := [x.toInt, t.toInt]) (K := kM204) (aM213 204 kM204 mM_predictor rfl rfl) hI hP hD jp_predictor_10_10_3_1 (SB.cons0 (by omega) (by omega) (SB.cons0 (by omega) (by omega) SB.nil0)) (fun mu hmu => argsV ha x y z t 3 1 (by omega) (by omega) 22 mu hmu) rfl (fun mu w r f s hr => prV 3 1 (by omega) (by omega) (by decide +kernel) (by decide +kernel) (by omega) f s hr) (fun mu w ws' e1 e2 e3 => ⟨iM10, (List.mem_cons_of_mem _ (List.mem_cons_of_mem _ List.mem_cons_self)), postB_ok jq_predictor_10_3_1 e1 e2 sc0 e3⟩)
      exact stp_oneR (u := [x.toInt, t.toInt]) (K := kM208) (aM213 208 kM208 mM_predictor rfl rfl) hI hP hD jp_predictor_10_10_4_1 (SB.cons0 (by omega) (by omega) (SB.cons0 (by omega) (by omega) SB.nil0)) (fun mu hmu => argsV ha x y z t 4 1 (by omega) (by omega) 22 mu hmu) rfl (fun mu w r f s hr => prV 4 1 (by omega) (by omega) (by decide +kernel) (by decide +kernel) (by omega) f s hr) (fun mu w ws' e1 e2 e3 => ⟨iM10, (List.mem_cons_of_mem _ (List.mem_cons_of_mem _ List.mem_cons_self)), postB_ok jq_predictor_10_4_1 e1 e2 sc0 e3⟩)
    by_cases c55 : z.toInt ≤ 2
    · by_cases c40 : y.toInt ≤ 1
      · exact stp_oneR (u := [x.toInt, t.toInt]) (K := kM197) (aM213 197 kM197 mM_predictor rfl rfl) hI hP hD jp_predictor_10_10_1_2 (SB.cons0 (by omega) (by omega) (SB.cons0 (by omega) (by omega) SB.nil0)) (fun mu hmu => argsV ha x y z t 1 2 (by omega) (by omega) 22 mu hmu) rfl (fun mu w r f s hr => prV 1 2 (by omega) (by omega) (by decide +kernel) (by decide +kernel) (by omega) f s hr) (fun mu w ws' e1 e2 e3 => ⟨iM10, (List.mem_cons_of_mem _ (List.mem_cons_of_mem _ List.mem_cons_self)), postB_ok jq_predictor_10_1_2 e1 e2 sc0 e3⟩)
      by_cases c41 : y.toInt ≤ 2
      · exact stp_oneR (u := [x.toInt, t.toInt]) (K := kM201) (aM213 201 kM201 mM_predictor rfl rfl) hI hP hD jp_predictor_10_10_2_2 (SB.cons0 (by omega) (by omega) (SB.cons0 (by omega) (by omega) SB.nil0)) (fun mu hmu => argsV ha x y z t 2 2 (by omega) (by omega) 22 mu hmu) rfl (fun mu w r f s hr => prV 2 2 (by omega) (by omega) (by decide +kernel) (by decide +kernel) (by omega) f s hr) (fun mu w ws' e1 e2 e3 => ⟨iM10, (List.mem_cons_of_mem _ (List.mem_cons_of_mem _ List.mem_cons_self)), postB_ok jq_predictor_10_2_2 e1 e2 sc0 e3⟩)
      by_cases c42 : y.toInt ≤ 3
      · exact stp_oneR (u := [x.toInt, t.toInt]) (K := kM205) (aM213 205 kM205 mM_predictor rfl rfl) hI hP hD jp_predictor_10_10_3_2 (SB.cons0 (by omega) (by omega) (SB.cons0 (by omega) (by omega) SB.nil0)) (fun mu hmu => argsV ha x y z t 3 2 (by omega) (by omega) 22 mu hmu) rfl (fun mu w r f s hr => prV 3 2 (by omega) (by omega) (by decide +kernel) (by decide +kernel) (by omega) f s hr) (fun mu w ws' e1 e2 e3 => ⟨iM10, (List.mem_cons_of_mem _ (List.mem_cons_of_mem _ List.mem_cons_self)), postB_ok jq_predictor_10_3_2 e1 e2 sc0 e3⟩)
      exact stp_oneR (u := [x.toInt, t.toInt]) (K := kM209) (aM213 209 kM209 mM_predictor rfl rfl) hI hP hD jp_predictor_10_10_4_2 (SB.cons0 (by omega) (by omega) (SB.cons0 (by omega) (by omega) SB.nil0)) (fun mu hmu => argsV ha x y z t 4 2 (by omega) (by omega) 22 mu hmu) rfl (fun mu w r f s hr => prV 4 2 (by omega) (by omega) (by decide +kernel) (by decide +kernel) (by omega) f s hr) (fun mu w ws' e1 e2 e3 => ⟨iM10, (List.mem_cons_of_mem _ (List.mem_cons_of_mem _ List.mem_cons_self)), postB_ok jq_predictor_10_4_2 e1 e2 sc0 e3⟩)
    by_cases c56 : z.toInt ≤ 3
    · exact stp_oneR (u := [x.toInt, y.toInt, z.toInt, t.toInt]) (K := kM171) (aM213 171 kM171 mM_predictor rfl rfl) hI hP hD jp_predictor_10_b3 (SB.int0 (SB.int0 (SB.cons0 (by omega) (by omega) (SB.int0 SB.nil0)))) (fun mu hmu => argsI ha [x, y, z, t] 22 mu hmu) rfl (fun mu w r _ _ hr => prI (by omega) hr) (fun mu w ws' e1 e2 e3 => ⟨iM10, (List.mem_cons_of_mem _ (List.mem_cons_of_mem _ List.mem_cons_self)), postB_ok jq_predictor_10_b3 e1 e2 sc0 e3⟩)
    by_cases c57 : z.toInt ≤ 4
    · by_cases c43 : y.toInt ≤ 1
      · exact stp_oneR (u := [x.toInt, t.toInt]) (K := kM198) (aM213 198 kM198 mM_predictor rfl rfl) hI hP hD jp_predictor_10_10_1_4 (SB.cons0 (by omega) (by omega) (SB.cons0 (by omega) (by omega) SB.nil0)) (fun mu hmu => argsV ha x y z t 1 4 (by omega) (by omega) 22 mu hmu) rfl (fun mu w r f s hr => prV 1 4 (by omega) (by omega) (by decide +kernel) (by decide +kernel) (by omega) f s hr) (fun mu w ws' e1 e2 e3 => ⟨iM10, (List.mem_cons_of_mem _ (List.mem_cons_of_mem _ List.mem_cons_self)), postB_ok jq_predictor_10_1_4 e1 e2 sc0 e3⟩)
      by_cases c44 : y.toInt ≤ 2
      · exact stp_oneR (u := [x.toInt, t.toInt]) (K := kM202) (aM213 202 kM202 mM_predictor rfl rfl) hI hP hD jp_predictor_10_10_2_4 (SB.cons0 (by omega) (by omega) (SB.cons0 (by omega) (by omega) SB.nil0)) (fun mu hmu => argsV ha x y z t 2 4 (by omega) (by omega) 22 mu hmu) rfl (fun mu w r f s hr => prV 2 4 (by omega) (by omega) (by decide +kernel) (by decide +kernel) (by omega) f s hr) (fun mu w ws' e1 e2 e3 => ⟨iM10, (List.mem_cons_of_mem _ (List.mem_cons_of_mem _ List.mem_cons_self)), postB_ok jq_predictor_10_2_4 e1 e2 sc0 e3⟩)
      by_cases c45 : y.toInt ≤ 3
      · exact stp_oneR (u := [x.toInt, t.toInt]) (K := kM206) (aM213 206 kM206 mM_predictor rfl rfl) hI hP hD jp_predictor_10_10_3_4 (SB.cons0 (by omega) (by omega) (SB.cons0 (by omega) (by omega) SB.nil0)) (fun mu hmu => argsV ha x y z t 3 4 (by omega) (by omega) 22 mu hmu) rfl (fun mu w r f s hr => prV 3 4 (by omega) (by omega) (by decide +kernel) (by decide +kernel) (by omega) f s hr) (fun mu w ws' e1 e2 e3 => ⟨iM10, (List.mem_cons_of_mem _ (List.mem_cons_of_mem _ List.mem_cons_self)), postB_ok jq_predictor_10_3_4 e1 e2 sc0 e3⟩)
      exact stp_oneR (u := [x.toInt, t.toInt]) (K := kM210) (aM213 210 kM210 mM_predictor rfl rfl) hI hP hD jp_predictor_10_10_4_4 (SB.cons0 (by omega) (by omega) (SB.cons0 (by omega) (by omega) SB.nil0)) (fun mu hmu => argsV ha x y z t 4 4 (by omega) (by omega) 22 mu hmu) rfl (fun mu w r f s hr => prV 4 4 (by omega) (by omega) (by decide +kernel) (by decide +kernel) (by omega) f s hr) (fun mu w ws' e1 e2 e3 => ⟨iM10, (List.mem_cons_of_mem _ (List.mem_cons_of_mem _ List.mem_cons_self)), postB_ok jq_predictor_10_4_4 e1 e2 sc0 e3⟩)
    by_cases c58 : z.toInt ≤ 7
    · exact stp_oneR (u := [x.toInt, y.toInt, z.toInt, t.toInt]) (K := kM172) (aM213 172 kM172 mM_predictor rfl rfl) hI hP hD jp_predictor_10_b5 (SB.int0 (SB.int0 (SB.cons0 (by omega) (by omega) (SB.int0 SB.nil0)))) (fun mu hmu => argsI ha [x, y, z, t] 22 mu hmu) rfl (fun mu w r _ _ hr => prI (by omega) hr) (fun mu w ws' e1 e2 e3 => ⟨iM10, (List.mem_cons_of_mem _ (List.mem_cons_of_mem _ List.mem_cons_self)), postB_ok jq_predictor_10_b5 e1 e2 sc0 e3⟩)
    by_cases c59 : z.toInt ≤ 8
    · by_cases c46 : y.toInt ≤ 1
      · exact stp_oneR (u := [x.toInt, t.toInt]) (K := kM199) (aM213 199 kM199 mM_predictor rfl rfl) hI hP hD jp_predictor_10_10_1_8 (SB.cons0 (by omega) (by omega) (SB.cons0 (by omega) (by omega) SB.nil0)) (fun mu hmu => argsV ha x y z t 1 8 (by omega) (by omega) 22 mu hmu) rfl (fun mu w r f s hr => prV 1 8 (by omega) (by omega) (by decide +kernel) (by decide +kernel) (by omega) f s hr) (fun mu w ws' e1 e2 e3 => ⟨iM10, (List.mem_cons_of_mem _ (List.mem_cons_of_mem _ List.mem_cons_self)), postB_ok jq_predictor_10_1_8 e1 e2 sc0 e3⟩)
      by_cases c47 : y.toInt ≤ 2
      · exact stp_oneR (u := [x.toInt, t.toInt]) (K := kM203) (aM213 203 kM203 mM_predictor rfl rfl) hI hP hD jp_predictor_10_10_2_8 (SB.cons0 (by omega) (by omega) (SB.cons0 (by omega) (by omega) SB.nil0)) (fun mu hmu => argsV ha x y z t 2 8 (by omega) (by omega) 22 mu hmu) rfl (fun mu w r f s hr => prV 2 8 (by omega) (by omega) (by decide +kernel) (by decide +kernel) (by omega) f s hr) (fun mu w ws' e1 e2 e3 => ⟨iM10, (List.mem_cons_of_mem _ (List.mem_cons_of_mem _ List.mem_cons_self)), postB_ok jq_predictor_10_2_8 e1 e2 sc0 e3⟩)
      by_cases c48 : y.toInt ≤ 3
      · exact stp_oneR (u := [x.toInt, t.toInt]) (K := kM207) (aM213 207 kM207 mM_predictor rfl rfl) hI hP hD jp_predictor_10_10_3_8 (SB.cons0 (by omega) (by omega) (SB.cons0 (by omega) (by omega) SB.nil0)) (fun mu hmu => argsV ha x y z t 3 8 (by omega) (by omega) 22 mu hmu) rfl (fun mu w r f s hr => prV 3 8 (by omega) (by omega) (by decide +kernel) (by decide +kernel) (by omega) f s hr) (fun mu w ws' e1 e2 e3 => ⟨iM10, (List.mem_cons_of_mem _ (List.mem_cons_of_mem _ List.mem_cons_self)), postB_ok jq_predictor_10_3_8 e1 e2 sc0 e3⟩)
      exact stp_oneR (u := [x.toInt, t.toInt]) (K := kM211) (aM213 211 kM211 mM_predictor rfl rfl) hI hP hD jp_predictor_10_10_4_8 (SB.cons0 (by omega) (by omega) (SB.cons0 (by omega) (by omega) SB.nil0)) (fun mu hmu => argsV ha x y z t 4 8 (by omega) (by omega) 22 mu hmu) rfl (fun mu w r f s hr => prV 4 8 (by omega) (by omega) (by decide +kernel) (by decide +kernel) (by omega) f s hr) (fun mu w ws' e1 e2 e3 => ⟨iM10, (List.mem_cons_of_mem _ (List.mem_cons_of_mem _ List.mem_cons_self)), postB_ok jq_predictor_10_4_8 e1 e2 sc0 e3⟩)
    exact stp_oneR (u := [x.toInt, y.toInt, z.toInt, t.toInt]) (K := kM173) (aM213 173 kM173 mM_predictor rfl rfl) hI hP hD jp_predictor_10_b9 (SB.int0 (SB.int0 (SB.cons0 (by omega) (by have := z.toInt_lt; omega) (SB.int0 SB.nil0)))) (fun mu hmu => argsI ha [x, y, z, t] 22 mu hmu) rfl (fun mu w r _ _ hr => prI (by omega) hr) (fun mu w ws' e1 e2 e3 => ⟨iM10, (List.mem_cons_of_mem _ (List.mem_cons_of_mem _ List.mem_cons_self)), postB_ok jq_predictor_10_b9 e1 e2 sc0 e3⟩)
  exact stp_oneR (u := [x.toInt, y.toInt, z.toInt, t.toInt]) (K := kM165) (aM213 165 kM165 mM_predictor rfl rfl) hI hP hD jp_predictor_10_k16 (SB.cons0 (by omega) (by have := x.toInt_lt; omega) (SB.int0 (SB.int0 (SB.int0 SB.nil0)))) (fun mu hmu => argsI ha [x, y, z, t] 22 mu hmu) rfl (fun mu w r _ _ hr => prI (by omega) hr) (fun mu w ws' e1 e2 e3 => ⟨iM10, (List.mem_cons_of_mem _ (List.mem_cons_of_mem _ List.mem_cons_self)), postB_ok jq_predictor_10_k16 e1 e2 sc0 e3⟩)
theorem sM_predictor {l : Launch} (x y z t : Int32) {D : va_G} {cy : Nat → ClassId} {ads : List Nat} {H : Heap} {a : Nat} (h : Lies D nCl cy iMs ads H) (ha : ads[0]? = some a) : Met l mM_predictor.1 (wsM TB mM_predictor) rmM (stP D cy gM ads H [.ref a, .int x, .int y, .int z, .int t]) (stQ D cy iMs ads H (rtP x y z t)) 0 0 (stA ads H.size) := by
  obtain ⟨T, hT, ws, hI, hP, hD⟩ := h
  rcases List.mem_cons.mp hT with rfl | hT
  · exact sM_predictor_0 x y z t hI hP hD ha
  rcases List.mem_cons.mp hT with rfl | hT
  · exact sM_predictor_2 x y z t hI hP hD ha
  obtain rfl := List.mem_singleton.mp hT
  exact sM_predictor_10 x y z t hI hP hD ha
abbrev mM_sum : MI := (⟨RX12, "sum", "(I)J"⟩, prog_14_method_77_code, 2, (some .long), 1)
set_option maxRecDepth 100000 in
theorem sM_sum {l : Launch} (x : Int32) {D : va_G} {cy : Nat → ClassId} {ads : List Nat} {H : Heap} {a : Nat} (h : Lies D nCl cy iMs ads H) (ha : ads[0]? = some a) : Met l mM_sum.1 (wsM TB mM_sum) rmM (stP D cy gM ads H [.ref a, .int x]) (stQ D cy iMs ads H rtL) 0 0 (stA ads H.size) := by
  obtain ⟨T, hT, ws, hI, hP, hD⟩ := h
  rcases List.mem_cons.mp hT with rfl | hT
  · refine stp_one (u := [x.toInt]) (K := kM109) (aM213 109 kM109 mM_sum rfl rfl) hI hP hD jp_sum_0 (SB.int0 SB.nil0) (fun mu hmu => argsI ha [x] 22 mu hmu) rfl (fun _ _ _ hr => rsL hr) ?_
    exact fun mu w ws' e1 e2 e3 => ⟨iM0, List.mem_cons_self, postB_ok jq_sum_0 e1 e2 sc0 e3⟩
  rcases List.mem_cons.mp hT with rfl | hT
  · skip
    refine stp_one (u := [x.toInt]) (K := kM110) (aM213 110 kM110 mM_sum rfl rfl) hI hP hD jp_sum_2 (SB.int0 SB.nil0) (fun mu hmu => argsI ha [x] 22 mu hmu) rfl (fun _ _ _ hr => rsL hr) ?_
    exact fun mu w ws' e1 e2 e3 => ⟨iM2, (List.mem_cons_of_mem _ List.mem_cons_self), postB_ok jq_sum_2 e1 e2 sc0 e3⟩
  obtain rfl := List.mem_singleton.mp hT
  refine stp_one (u := [x.toInt]) (K := kM111) (aM213 111 kM111 mM_sum rfl rfl) hI hP hD jp_sum_10 (SB.int0 SB.nil0) (fun mu hmu => argsI ha [x] 22 mu hmu) rfl (fun _ _ _ hr => rsL hr) ?_
  exact fun mu w ws' e1 e2 e3 => ⟨iM10, (List.mem_cons_of_mem _ (List.mem_cons_of_mem _ List.mem_cons_self)), postB_ok jq_sum_10 e1 e2 sc0 e3⟩
abbrev mM_differs : MI := (⟨RX12, "differs", "()Z"⟩, prog_14_method_78_code, 1, (some .boolean), 0)
set_option maxRecDepth 100000 in
theorem sM_differs {l : Launch} {D : va_G} {cy : Nat → ClassId} {ads : List Nat} {H : Heap} {a : Nat} (h : Lies D nCl cy iMs ads H) (ha : ads[0]? = some a) : Met l mM_differs.1 (wsM TB mM_differs) rmM (stP D cy gM ads H [.ref a]) (stQ D cy iMs ads H rtI) 0 0 (stA ads H.size) := by
  obtain ⟨T, hT, ws, hI, hP, hD⟩ := h
  rcases List.mem_cons.mp hT with rfl | hT
  · refine stp_one (u := []) (K := kM112) (aM213 112 kM112 mM_differs rfl rfl) hI hP hD jp_differs_0 SB.nil0 (fun mu hmu => argsI ha [] 22 mu hmu) rfl (fun _ _ _ hr => rsI hr) ?_
    exact fun mu w ws' e1 e2 e3 => ⟨iM0, List.mem_cons_self, postB_ok jq_differs_0 e1 e2 sc0 e3⟩
  rcases List.mem_cons.mp hT with rfl | hT
  · skip
    refine stp_one (u := []) (K := kM113) (aM213 113 kM113 mM_differs rfl rfl) hI hP hD jp_differs_2 SB.nil0 (fun mu hmu => argsI ha [] 22 mu hmu) rfl (fun _ _ _ hr => rsI hr) ?_
    exact fun mu w ws' e1 e2 e3 => ⟨iM2, (List.mem_cons_of_mem _ List.mem_cons_self), postB_ok jq_differs_2 e1 e2 sc0 e3⟩
  obtain rfl := List.mem_singleton.mp hT
  refine stp_one (u := []) (K := kM114) (aM213 114 kM114 mM_differs rfl rfl) hI hP hD jp_differs_10 SB.nil0 (fun mu hmu => argsI ha [] 22 mu hmu) rfl (fun _ _ _ hr => rsI hr) ?_
  exact fun mu w ws' e1 e2 e3 => ⟨iM10, (List.mem_cons_of_mem _ (List.mem_cons_of_mem _ List.mem_cons_self)), postB_ok jq_differs_10 e1 e2 sc0 e3⟩
abbrev mM_chain : MI := (⟨RX12, "chain", "(I)I"⟩, prog_14_method_50_code, 4, (some .int), 1)
set_option maxRecDepth 100000 in
theorem sM_chain {l : Launch} (x : Int32) {D : va_G} {cy : Nat → ClassId} {ads : List Nat} {H : Heap} {a : Nat} (h : Lies D nCl cy iMs ads H) (ha : ads[0]? = some a) : Met l mM_chain.1 (wsM TB mM_chain) rmM (stP D cy gM ads H [.ref a, .int x]) (stQ D cy iMs ads H rtI) 0 0 (stA ads H.size) := by
  obtain ⟨T, hT, ws, hI, hP, hD⟩ := h
  rcases List.mem_cons.mp hT with rfl | hT
  · refine stp_one (u := [x.toInt]) (K := kM91) (aM213 91 kM91 mM_chain rfl rfl) hI hP hD jp_chain_0 (SB.int0 SB.nil0) (fun mu hmu => argsI ha [x] 22 mu hmu) rfl (fun _ _ _ hr => rsI hr) ?_
    exact fun mu w ws' e1 e2 e3 => ⟨iM0, List.mem_cons_self, postB_ok jq_chain_0 e1 e2 sc0 e3⟩
  rcases List.mem_cons.mp hT with rfl | hT
  · skip
    refine stp_one (u := [x.toInt]) (K := kM93) (aM213 93 kM93 mM_chain rfl rfl) hI hP hD jp_chain_2 (SB.int0 SB.nil0) (fun mu hmu => argsI ha [x] 22 mu hmu) rfl (fun _ _ _ hr => rsI hr) ?_
    exact fun mu w ws' e1 e2 e3 => ⟨iM2, (List.mem_cons_of_mem _ List.mem_cons_self), postB_ok jq_chain_2 e1 e2 sc0 e3⟩
  obtain rfl := List.mem_singleton.mp hT
  refine stp_one (u := [x.toInt]) (K := kM95) (aM213 95 kM95 mM_chain rfl rfl) hI hP hD jp_chain_10 (SB.int0 SB.nil0) (fun mu hmu => argsI ha [x] 22 mu hmu) rfl (fun _ _ _ hr => rsI hr) ?_
  exact fun mu w ws' e1 e2 e3 => ⟨iM10, (List.mem_cons_of_mem _ (List.mem_cons_of_mem _ List.mem_cons_self)), postB_ok jq_chain_10 e1 e2 sc0 e3⟩
abbrev mM_cell : MI := (⟨RX12, "cell", "(I)I"⟩, prog_14_method_79_code, 2, (some .int), 1)
set_option maxRecDepth 100000 in
theorem sM_cell {l : Launch} (x : Int32) {D : va_G} {cy : Nat → ClassId} {ads : List Nat} {H : Heap} {a : Nat} (h : Lies D nCl cy iMs ads H) (ha : ads[0]? = some a) : Met l mM_cell.1 (wsM TB mM_cell) rmM (stP D cy gM ads H [.ref a, .int x]) (stQ D cy iMs ads H rtI) 0 0 (stA ads H.size) := by
  obtain ⟨T, hT, ws, hI, hP, hD⟩ := h
  rcases List.mem_cons.mp hT with rfl | hT
  · refine stp_one (u := [x.toInt]) (K := kM115) (aM213 115 kM115 mM_cell rfl rfl) hI hP hD jp_cell_0 (SB.int0 SB.nil0) (fun mu hmu => argsI ha [x] 22 mu hmu) rfl (fun _ _ _ hr => rsI hr) ?_
    exact fun mu w ws' e1 e2 e3 => ⟨iM0, List.mem_cons_self, postB_ok jq_cell_0 e1 e2 sc0 e3⟩
  rcases List.mem_cons.mp hT with rfl | hT
  · skip
    refine stp_one (u := [x.toInt]) (K := kM116) (aM213 116 kM116 mM_cell rfl rfl) hI hP hD jp_cell_2 (SB.int0 SB.nil0) (fun mu hmu => argsI ha [x] 22 mu hmu) rfl (fun _ _ _ hr => rsI hr) ?_
    exact fun mu w ws' e1 e2 e3 => ⟨iM2, (List.mem_cons_of_mem _ List.mem_cons_self), postB_ok jq_cell_2 e1 e2 sc0 e3⟩
  obtain rfl := List.mem_singleton.mp hT
  refine stp_one (u := [x.toInt]) (K := kM117) (aM213 117 kM117 mM_cell rfl rfl) hI hP hD jp_cell_10 (SB.int0 SB.nil0) (fun mu hmu => argsI ha [x] 22 mu hmu) rfl (fun _ _ _ hr => rsI hr) ?_
  exact fun mu w ws' e1 e2 e3 => ⟨iM10, (List.mem_cons_of_mem _ (List.mem_cons_of_mem _ List.mem_cons_self)), postB_ok jq_cell_10 e1 e2 sc0 e3⟩
abbrev mC_predictor : MI := (⟨RX11, "predictor", "(IIII)I"⟩, prog_1_method_6_code, 5, (some .int), 4)
set_option maxRecDepth 100000 in
set_option maxHeartbeats 4000000 in
theorem sC_predictor_3 {l : Launch} (x y z t : Int32) {D : va_G} {cy : Nat → ClassId} {ads : List Nat} {ws : va_W} {H : Heap} {a : Nat} (hI : Inv cy iC3 ads ws) (hP : va_P D nCl ws H) (hD : va_D (fun _ => True) ws) (ha : ads[0]? = some a) : Met l mC_predictor.1 (wsM TB mC_predictor) rmC (stP D cy gC ads H [.ref a, .int x, .int y, .int z, .int t]) (stQ D cy iCs ads H (rtP x y z t)) 0 0 (stA ads H.size) := by
  by_cases c60 : x.toInt ≤ -1
  · exact stp_oneR (u := [x.toInt, y.toInt, z.toInt, t.toInt]) (K := kC303) (aC432 303 kC303 mC_predictor rfl rfl) hI hP hD ip_predictor_3_kn (SB.cons0 (by have := x.le_toInt; omega) (by omega) (SB.int0 (SB.int0 (SB.int0 SB.nil0)))) (fun mu hmu => argsI ha [x, y, z, t] 23 mu hmu) rfl (fun mu w r _ _ hr => prI (by omega) hr) (fun mu w ws' e1 e2 e3 => ⟨iC3, List.mem_cons_self, postB_ok iq_predictor_3_kn e1 e2 sc0 e3⟩)
  by_cases c61 : x.toInt ≤ 0
  · by_cases c13 : y.toInt ≤ 0
    · exact stp_oneR (u := [x.toInt, y.toInt, z.toInt, t.toInt]) (K := kC307) (aC432 307 kC307 mC_predictor rfl rfl) hI hP hD ip_predictor_3_cn (SB.int0 (SB.cons0 (by have := y.le_toInt; omega) (by omega) (SB.int0 (SB.int0 SB.nil0)))) (fun mu hmu => argsI ha [x, y, z, t] 23 mu hmu) rfl (fun mu w r _ _ hr => prI (by omega) hr) (fun mu w ws' e1 e2 e3 => ⟨iC3, List.mem_cons_self, postB_ok iq_predictor_3_cn e1 e2 sc0 e3⟩)
    by_cases c14 : 5 ≤ y.toInt
    · exact stp_oneR (u := [x.toInt, y.toInt, z.toInt, t.toInt]) (K := kC308) (aC432 308 kC308 mC_predictor rfl rfl) hI hP hD ip_predictor_3_c5 (SB.int0 (SB.cons0 (by omega) (by have := y.toInt_lt; omega) (SB.int0 (SB.int0 SB.nil0)))) (fun mu hmu => argsI ha [x, y, z, t] 23 mu hmu) rfl (fun mu w r _ _ hr => prI (by omega) hr) (fun mu w ws' e1 e2 e3 => ⟨iC3, List.mem_cons_self, postB_ok iq_predictor_3_c5 e1 e2 sc0 e3⟩)
    by_cases c15 : t.toInt ≤ 0
    · exact stp_oneR (u := [x.toInt, y.toInt, z.toInt, t.toInt]) (K := kC309) (aC432 309 kC309 mC_predictor rfl rfl) hI hP hD ip_predictor_3_wn (SB.int0 (SB.int0 (SB.int0 (SB.cons0 (by have := t.le_toInt; omega) (by omega) SB.nil0)))) (fun mu hmu => argsI ha [x, y, z, t] 23 mu hmu) rfl (fun mu w r _ _ hr => prI (by omega) hr) (fun mu w ws' e1 e2 e3 => ⟨iC3, List.mem_cons_self, postB_ok iq_predictor_3_wn e1 e2 sc0 e3⟩)
    by_cases c16 : 65 ≤ t.toInt
    · exact stp_oneR (u := [x.toInt, y.toInt, z.toInt, t.toInt]) (K := kC310) (aC432 310 kC310 mC_predictor rfl rfl) hI hP hD ip_predictor_3_w65 (SB.int0 (SB.int0 (SB.int0 (SB.cons0 (by omega) (by have := t.toInt_lt; omega) SB.nil0)))) (fun mu hmu => argsI ha [x, y, z, t] 23 mu hmu) rfl (fun mu w r _ _ hr => prI (by omega) hr) (fun mu w ws' e1 e2 e3 => ⟨iC3, List.mem_cons_self, postB_ok iq_predictor_3_w65 e1 e2 sc0 e3⟩)
    by_cases c17 : z.toInt ≤ 0
    · exact stp_oneR (u := [x.toInt, y.toInt, z.toInt, t.toInt]) (K := kC311) (aC432 311 kC311 mC_predictor rfl rfl) hI hP hD ip_predictor_3_bn (SB.int0 (SB.int0 (SB.cons0 (by have := z.le_toInt; omega) (by omega) (SB.int0 SB.nil0)))) (fun mu hmu => argsI ha [x, y, z, t] 23 mu hmu) rfl (fun mu w r _ _ hr => prI (by omega) hr) (fun mu w ws' e1 e2 e3 => ⟨iC3, List.mem_cons_self, postB_ok iq_predictor_3_bn e1 e2 sc0 e3⟩)
    by_cases c18 : z.toInt ≤ 1
    · by_cases c1 : y.toInt ≤ 1
      · exact stp_oneR (u := [x.toInt, t.toInt]) (K := kC317) (aC432 317 kC317 mC_predictor rfl rfl) hI hP hD ip_predictor_3_0_1_1 (SB.cons0 (by omega) (by omega) (SB.cons0 (by omega) (by omega) SB.nil0)) (fun mu hmu => argsV ha x y z t 1 1 (by omega) (by omega) 23 mu hmu) rfl (fun mu w r f s hr => prV 1 1 (by omega) (by omega) (by decide +kernel) (by decide +kernel) (by omega) f s hr) (fun mu w ws' e1 e2 e3 => ⟨iC3, List.mem_cons_self, postB_ok iq_predictor_3_0_1_1 e1 e2 sc0 e3⟩)
      by_cases c2 : y.toInt ≤ 2
      · exact stp_oneR (u := [x.toInt, t.toInt]) (K := kC321) (aC432 321 kC321 mC_predictor rfl rfl) hI hP hD ip_predictor_3_0_2_1 (SB.cons0 (by omega) (by omega) (SB.cons0 (by omega) (by omega) SB.nil0)) (fun mu hmu => argsV ha x y z t 2 1 (by omega) (by omega) 23 mu hmu) rfl (fun mu w r f s hr => prV 2 1 (by omega) (by omega) (by decide +kernel) (by decide +kernel) (by omega) f s hr) (fun mu w ws' e1 e2 e3 => ⟨iC3, List.mem_cons_self, postB_ok iq_predictor_3_0_2_1 e1 e2 sc0 e3⟩)
      by_cases c3 : y.toInt ≤ 3
      · exact stp_oneR (u := [x.toInt, t.toInt]) (K := kC325) (aC432 325 kC325 mC_predictor rfl rfl) hI hP hD ip_predictor_3_0_3_1 (SB.cons0 (by omega) (by omega) (SB.cons0 (by omega) (by omega) SB.nil0)) (fun mu hmu => argsV ha x y z t 3 1 (by omega) (by omega) 23 mu hmu) rfl (fun mu w r f s hr => prV 3 1 (by omega) (by omega) (by decide +kernel) (by decide +kernel) (by omega) f s hr) (fun mu w ws' e1 e2 e3 => ⟨iC3, List.mem_cons_self, postB_ok iq_predictor_3_0_3_1 e1 e2 sc0 e3⟩)
      exact stp_oneR (u := [x.toInt, t.toInt]) (K := kC329) (aC432 329 kC329 mC_predictor rfl rfl) hI hP hD ip_predictor_3_0_4_1 (SB.cons0 (by omega) (by omega) (SB.cons0 (by omega) (by omega) SB.nil0)) (fun mu hmu => argsV ha x y z t 4 1 (by omega) (by omega) 23 mu hmu) rfl (fun mu w r f s hr => prV 4 1 (by omega) (by omega) (by decide +kernel) (by decide +kernel) (by omega) f s hr) (fun mu w ws' e1 e2 e3 => ⟨iC3, List.mem_cons_self, postB_ok iq_predictor_3_0_4_1 e1 e2 sc0 e3⟩)
    by_cases c19 : z.toInt ≤ 2
    · by_cases c4 : y.toInt ≤ 1
      · exact stp_oneR (u := [x.toInt, t.toInt]) (K := kC318) (aC432 318 kC318 mC_predictor rfl rfl) hI hP hD ip_predictor_3_0_1_2 (SB.cons0 (by omega) (by omega) (SB.cons0 (by omega) (by omega) SB.nil0)) (fun mu hmu => argsV ha x y z t 1 2 (by omega) (by omega) 23 mu hmu) rfl (fun mu w r f s hr => prV 1 2 (by omega) (by omega) (by decide +kernel) (by decide +kernel) (by omega) f s hr) (fun mu w ws' e1 e2 e3 => ⟨iC3, List.mem_cons_self, postB_ok iq_predictor_3_0_1_2 e1 e2 sc0 e3⟩)
      by_cases c5 : y.toInt ≤ 2
      · exact stp_oneR (u := [x.toInt, t.toInt]) (K := kC322) (aC432 322 kC322 mC_predictor rfl rfl) hI hP hD ip_predictor_3_0_2_2 (SB.cons0 (by omega) (by omega) (SB.cons0 (by omega) (by omega) SB.nil0)) (fun mu hmu => argsV ha x y z t 2 2 (by omega) (by omega) 23 mu hmu) rfl (fun mu w r f s hr => prV 2 2 (by omega) (by omega) (by decide +kernel) (by decide +kernel) (by omega) f s hr) (fun mu w ws' e1 e2 e3 => ⟨iC3, List.mem_cons_self, postB_ok iq_predictor_3_0_2_2 e1 e2 sc0 e3⟩)
      by_cases c6 : y.toInt ≤ 3
      · exact stp_oneR (u := [x.toInt, t.toInt]) (K := kC326) (aC432 326 kC326 mC_predictor rfl rfl) hI hP hD ip_predictor_3_0_3_2 (SB.cons0 (by omega) (by omega) (SB.cons0 (by omega) (by omega) SB.nil0)) (fun mu hmu => argsV ha x y z t 3 2 (by omega) (by omega) 23 mu hmu) rfl (fun mu w r f s hr => prV 3 2 (by omega) (by omega) (by decide +kernel) (by decide +kernel) (by omega) f s hr) (fun mu w ws' e1 e2 e3 => ⟨iC3, List.mem_cons_self, postB_ok iq_predictor_3_0_3_2 e1 e2 sc0 e3⟩)
      exact stp_oneR (u := [x.toInt, t.toInt]) (K := kC330) (aC432 330 kC330 mC_predictor rfl rfl) hI hP hD ip_predictor_3_0_4_2 (SB.cons0 (by omega) (by omega) (SB.cons0 (by omega) (by omega) SB.nil0)) (fun mu hmu => argsV ha x y z t 4 2 (by omega) (by omega) 23 mu hmu) rfl (fun mu w r f s hr => prV 4 2 (by omega) (by omega) (by decide +kernel) (by decide +kernel) (by omega) f s hr) (fun mu w ws' e1 e2 e3 => ⟨iC3, List.mem_cons_self, postB_ok iq_predictor_3_0_4_2 e1 e2 sc0 e3⟩)
    by_cases c20 : z.toInt ≤ 3
    · exact stp_oneR (u := [x.toInt, y.toInt, z.toInt, t.toInt]) (K := kC312) (aC432 312 kC312 mC_predictor rfl rfl) hI hP hD ip_predictor_3_b3 (SB.int0 (SB.int0 (SB.cons0 (by omega) (by omega) (SB.int0 SB.nil0)))) (fun mu hmu => argsI ha [x, y, z, t] 23 mu hmu) rfl (fun mu w r _ _ hr => prI (by omega) hr) (fun mu w ws' e1 e2 e3 => ⟨iC3, List.mem_cons_self, postB_ok iq_predictor_3_b3 e1 e2 sc0 e3⟩)
    by_cases c21 : z.toInt ≤ 4
    · by_cases c7 : y.toInt ≤ 1
      · exact stp_oneR (u := [x.toInt, t.toInt]) (K := kC319) (aC432 319 kC319 mC_predictor rfl rfl) hI hP hD ip_predictor_3_0_1_4 (SB.cons0 (by omega) (by omega) (SB.cons0 (by omega) (by omega) SB.nil0)) (fun mu hmu => argsV ha x y z t 1 4 (by omega) (by omega) 23 mu hmu) rfl (fun mu w r f s hr => prV 1 4 (by omega) (by omega) (by decide +kernel) (by decide +kernel) (by omega) f s hr) (fun mu w ws' e1 e2 e3 => ⟨iC3, List.mem_cons_self, postB_ok iq_predictor_3_0_1_4 e1 e2 sc0 e3⟩)
      by_cases c8 : y.toInt ≤ 2
      · exact stp_oneR (u := [x.toInt, t.toInt]) (K := kC323) (aC432 323 kC323 mC_predictor rfl rfl) hI hP hD ip_predictor_3_0_2_4 (SB.cons0 (by omega) (by omega) (SB.cons0 (by omega) (by omega) SB.nil0)) (fun mu hmu => argsV ha x y z t 2 4 (by omega) (by omega) 23 mu hmu) rfl (fun mu w r f s hr => prV 2 4 (by omega) (by omega) (by decide +kernel) (by decide +kernel) (by omega) f s hr) (fun mu w ws' e1 e2 e3 => ⟨iC3, List.mem_cons_self, postB_ok iq_predictor_3_0_2_4 e1 e2 sc0 e3⟩)
      by_cases c9 : y.toInt ≤ 3
      · exact stp_oneR (u := [x.toInt, t.toInt]) (K := kC327) (aC432 327 kC327 mC_predictor rfl rfl) hI hP hD ip_predictor_3_0_3_4 (SB.cons0 (by omega) (by omega) (SB.cons0 (by omega) (by omega) SB.nil0)) (fun mu hmu => argsV ha x y z t 3 4 (by omega) (by omega) 23 mu hmu) rfl (fun mu w r f s hr => prV 3 4 (by omega) (by omega) (by decide +kernel) (by decide +kernel) (by omega) f s hr) (fun mu w ws' e1 e2 e3 => ⟨iC3, List.mem_cons_self, postB_ok iq_predictor_3_0_3_4 e1 e2 sc0 e3⟩)
      exact stp_oneR (u := [x.toInt, t.toInt]) (K := kC331) (aC432 331 kC331 mC_predictor rfl rfl) hI hP hD ip_predictor_3_0_4_4 (SB.cons0 (by omega) (by omega) (SB.cons0 (by omega) (by omega) SB.nil0)) (fun mu hmu => argsV ha x y z t 4 4 (by omega) (by omega) 23 mu hmu) rfl (fun mu w r f s hr => prV 4 4 (by omega) (by omega) (by decide +kernel) (by decide +kernel) (by omega) f s hr) (fun mu w ws' e1 e2 e3 => ⟨iC3, List.mem_cons_self, postB_ok iq_predictor_3_0_4_4 e1 e2 sc0 e3⟩)
    by_cases c22 : z.toInt ≤ 7
    · exact stp_oneR (u := [x.toInt, y.toInt, z.toInt, t.toInt]) (K := kC313) (aC432 313 kC313 mC_predictor rfl rfl) hI hP hD ip_predictor_3_b5 (SB.int0 (SB.int0 (SB.cons0 (by omega) (by omega) (SB.int0 SB.nil0)))) (fun mu hmu => argsI ha [x, y, z, t] 23 mu hmu) rfl (fun mu w r _ _ hr => prI (by omega) hr) (fun mu w ws' e1 e2 e3 => ⟨iC3, List.mem_cons_self, postB_ok iq_predictor_3_b5 e1 e2 sc0 e3⟩)
    by_cases c23 : z.toInt ≤ 8
    · by_cases c10 : y.toInt ≤ 1
      · exact stp_oneR (u := [x.toInt, t.toInt]) (K := kC320) (aC432 320 kC320 mC_predictor rfl rfl) hI hP hD ip_predictor_3_0_1_8 (SB.cons0 (by omega) (by omega) (SB.cons0 (by omega) (by omega) SB.nil0)) (fun mu hmu => argsV ha x y z t 1 8 (by omega) (by omega) 23 mu hmu) rfl (fun mu w r f s hr => prV 1 8 (by omega) (by omega) (by decide +kernel) (by decide +kernel) (by omega) f s hr) (fun mu w ws' e1 e2 e3 => ⟨iC3, List.mem_cons_self, postB_ok iq_predictor_3_0_1_8 e1 e2 sc0 e3⟩)
      by_cases c11 : y.toInt ≤ 2
      · exact stp_oneR (u := [x.toInt, t.toInt]) (K := kC324) (aC432 324 kC324 mC_predictor rfl rfl) hI hP hD ip_predictor_3_0_2_8 (SB.cons0 (by omega) (by omega) (SB.cons0 (by omega) (by omega) SB.nil0)) (fun mu hmu => argsV ha x y z t 2 8 (by omega) (by omega) 23 mu hmu) rfl (fun mu w r f s hr => prV 2 8 (by omega) (by omega) (by decide +kernel) (by decide +kernel) (by omega) f s hr) (fun mu w ws' e1 e2 e3 => ⟨iC3, List.mem_cons_self, postB_ok iq_predictor_3_0_2_8 e1 e2 sc0 e3⟩)
      by_cases c12 : y.toInt ≤ 3
      · exact stp_oneR (u := [x.toInt, t.toInt]) (K := kC328) (aC432 328 kC328 mC_predictor rfl rfl) hI hP hD ip_predictor_3_0_3_8 (SB.cons0 (by omega) (by omega) (SB.cons0 (by omega) (by omega) SB.nil0)) (fun mu hmu => argsV ha x y z t 3 8 (by omega) (by omega) 23 mu hmu) rfl (fun mu w r f s hr => prV 3 8 (by omega) (by omega) (by decide +kernel) (by decide +kernel) (by omega) f s hr) (fun mu w ws' e1 e2 e3 => ⟨iC3, List.mem_cons_self, postB_ok iq_predictor_3_0_3_8 e1 e2 sc0 e3⟩)
      exact stp_oneR (u := [x.toInt, t.toInt]) (K := kC332) (aC432 332 kC332 mC_predictor rfl rfl) hI hP hD ip_predictor_3_0_4_8 (SB.cons0 (by omega) (by omega) (SB.cons0 (by omega) (by omega) SB.nil0)) (fun mu hmu => argsV ha x y z t 4 8 (by omega) (by omega) 23 mu hmu) rfl (fun mu w r f s hr => prV 4 8 (by omega) (by omega) (by decide +kernel) (by decide +kernel) (by omega) f s hr) (fun mu w ws' e1 e2 e3 => ⟨iC3, List.mem_cons_self, postB_ok iq_predictor_3_0_4_8 e1 e2 sc0 e3⟩)
    exact stp_oneR (u := [x.toInt, y.toInt, z.toInt, t.toInt]) (K := kC314) (aC432 314 kC314 mC_predictor rfl rfl) hI hP hD ip_predictor_3_b9 (SB.int0 (SB.int0 (SB.cons0 (by omega) (by have := z.toInt_lt; omega) (SB.int0 SB.nil0)))) (fun mu hmu => argsI ha [x, y, z, t] 23 mu hmu) rfl (fun mu w r _ _ hr => prI (by omega) hr) (fun mu w ws' e1 e2 e3 => ⟨iC3, List.mem_cons_self, postB_ok iq_predictor_3_b9 e1 e2 sc0 e3⟩)
  by_cases c62 : x.toInt ≤ 1
  · exact stp_oneR (u := [x.toInt, y.toInt, z.toInt, t.toInt]) (K := kC304) (aC432 304 kC304 mC_predictor rfl rfl) hI hP hD ip_predictor_3_k1 (SB.cons0 (by omega) (by omega) (SB.int0 (SB.int0 (SB.int0 SB.nil0)))) (fun mu hmu => argsI ha [x, y, z, t] 23 mu hmu) rfl (fun mu w r _ _ hr => prI (by omega) hr) (fun mu w ws' e1 e2 e3 => ⟨iC3, List.mem_cons_self, postB_ok iq_predictor_3_k1 e1 e2 sc0 e3⟩)
  by_cases c63 : x.toInt ≤ 2
  · by_cases c27 : y.toInt ≤ 0
    · exact stp_oneR (u := [x.toInt, y.toInt, z.toInt, t.toInt]) (K := kC307) (aC432 307 kC307 mC_predictor rfl rfl) hI hP hD ip_predictor_3_cn (SB.int0 (SB.cons0 (by have := y.le_toInt; omega) (by omega) (SB.int0 (SB.int0 SB.nil0)))) (fun mu hmu => argsI ha [x, y, z, t] 23 mu hmu) rfl (fun mu w r _ _ hr => prI (by omega) hr) (fun mu w ws' e1 e2 e3 => ⟨iC3, List.mem_cons_self, postB_ok iq_predictor_3_cn e1 e2 sc0 e3⟩)
    by_cases c28 : 5 ≤ y.toInt
    · exact stp_oneR (u := [x.toInt, y.toInt, z.toInt, t.toInt]) (K := kC308) (aC432 308 kC308 mC_predictor rfl rfl) hI hP hD ip_predictor_3_c5 (SB.int0 (SB.cons0 (by omega) (by have := y.toInt_lt; omega) (SB.int0 (SB.int0 SB.nil0)))) (fun mu hmu => argsI ha [x, y, z, t] 23 mu hmu) rfl (fun mu w r _ _ hr => prI (by omega) hr) (fun mu w ws' e1 e2 e3 => ⟨iC3, List.mem_cons_self, postB_ok iq_predictor_3_c5 e1 e2 sc0 e3⟩)
    by_cases c29 : t.toInt ≤ 0
    · exact stp_oneR (u := [x.toInt, y.toInt, z.toInt, t.toInt]) (K := kC309) (aC432 309 kC309 mC_predictor rfl rfl) hI hP hD ip_predictor_3_wn (SB.int0 (SB.int0 (SB.int0 (SB.cons0 (by have := t.le_toInt; omega) (by omega) SB.nil0)))) (fun mu hmu => argsI ha [x, y, z, t] 23 mu hmu) rfl (fun mu w r _ _ hr => prI (by omega) hr) (fun mu w ws' e1 e2 e3 => ⟨iC3, List.mem_cons_self, postB_ok iq_predictor_3_wn e1 e2 sc0 e3⟩)
    by_cases c30 : 65 ≤ t.toInt
    · exact stp_oneR (u := [x.toInt, y.toInt, z.toInt, t.toInt]) (K := kC310) (aC432 310 kC310 mC_predictor rfl rfl) hI hP hD ip_predictor_3_w65 (SB.int0 (SB.int0 (SB.int0 (SB.cons0 (by omega) (by have := t.toInt_lt; omega) SB.nil0)))) (fun mu hmu => argsI ha [x, y, z, t] 23 mu hmu) rfl (fun mu w r _ _ hr => prI (by omega) hr) (fun mu w ws' e1 e2 e3 => ⟨iC3, List.mem_cons_self, postB_ok iq_predictor_3_w65 e1 e2 sc0 e3⟩)
    by_cases c31 : z.toInt ≤ 0
    · exact stp_oneR (u := [x.toInt, y.toInt, z.toInt, t.toInt]) (K := kC311) (aC432 311 kC311 mC_predictor rfl rfl) hI hP hD ip_predictor_3_bn (SB.int0 (SB.int0 (SB.cons0 (by have := z.le_toInt; omega) (by omega) (SB.int0 SB.nil0)))) (fun mu hmu => argsI ha [x, y, z, t] 23 mu hmu) rfl (fun mu w r _ _ hr => prI (by omega) hr) (fun mu w ws' e1 e2 e3 => ⟨iC3, List.mem_cons_self, postB_ok iq_predictor_3_bn e1 e2 sc0 e3⟩)
    by_cases c32 : z.toInt ≤ 2
    · exact stp_oneR (u := [x.toInt, y.toInt, z.toInt, t.toInt]) (K := kC315) (aC432 315 kC315 mC_predictor rfl rfl) hI hP hD ip_predictor_3_t1 (SB.cons0 (by omega) (by omega) (SB.int0 (SB.cons0 (by omega) (by omega) (SB.int0 SB.nil0)))) (fun mu hmu => argsI ha [x, y, z, t] 23 mu hmu) rfl (fun mu w r _ _ hr => prI (by omega) hr) (fun mu w ws' e1 e2 e3 => ⟨iC3, List.mem_cons_self, postB_ok iq_predictor_3_t1 e1 e2 sc0 e3⟩)
    by_cases c33 : z.toInt ≤ 3
    · exact stp_oneR (u := [x.toInt, y.toInt, z.toInt, t.toInt]) (K := kC312) (aC432 312 kC312 mC_predictor rfl rfl) hI hP hD ip_predictor_3_b3 (SB.int0 (SB.int0 (SB.cons0 (by omega) (by omega) (SB.int0 SB.nil0)))) (fun mu hmu => argsI ha [x, y, z, t] 23 mu hmu) rfl (fun mu w r _ _ hr => prI (by omega) hr) (fun mu w ws' e1 e2 e3 => ⟨iC3, List.mem_cons_self, postB_ok iq_predictor_3_b3 e1 e2 sc0 e3⟩)
    by_cases c34 : z.toInt ≤ 4
    · exact stp_oneR (u := [x.toInt, y.toInt, z.toInt, t.toInt]) (K := kC316) (aC432 316 kC316 mC_predictor rfl rfl) hI hP hD ip_predictor_3_t4 (SB.cons0 (by omega) (by omega) (SB.int0 (SB.cons0 (by omega) (by omega) (SB.int0 SB.nil0)))) (fun mu hmu => argsI ha [x, y, z, t] 23 mu hmu) rfl (fun mu w r _ _ hr => prI (by omega) hr) (fun mu w ws' e1 e2 e3 => ⟨iC3, List.mem_cons_self, postB_ok iq_predictor_3_t4 e1 e2 sc0 e3⟩)
    by_cases c35 : z.toInt ≤ 7
    · exact stp_oneR (u := [x.toInt, y.toInt, z.toInt, t.toInt]) (K := kC313) (aC432 313 kC313 mC_predictor rfl rfl) hI hP hD ip_predictor_3_b5 (SB.int0 (SB.int0 (SB.cons0 (by omega) (by omega) (SB.int0 SB.nil0)))) (fun mu hmu => argsI ha [x, y, z, t] 23 mu hmu) rfl (fun mu w r _ _ hr => prI (by omega) hr) (fun mu w ws' e1 e2 e3 => ⟨iC3, List.mem_cons_self, postB_ok iq_predictor_3_b5 e1 e2 sc0 e3⟩)
    by_cases c36 : z.toInt ≤ 8
    · by_cases c24 : y.toInt ≤ 1
      · exact stp_oneR (u := [x.toInt, t.toInt]) (K := kC333) (aC432 333 kC333 mC_predictor rfl rfl) hI hP hD ip_predictor_3_2_1_8 (SB.cons0 (by omega) (by omega) (SB.cons0 (by omega) (by omega) SB.nil0)) (fun mu hmu => argsV ha x y z t 1 8 (by omega) (by omega) 23 mu hmu) rfl (fun mu w r f s hr => prV 1 8 (by omega) (by omega) (by decide +kernel) (by decide +kernel) (by omega) f s hr) (fun mu w ws' e1 e2 e3 => ⟨iC3, List.mem_cons_self, postB_ok iq_predictor_3_2_1_8 e1 e2 sc0 e3⟩)
      by_cases c25 : y.toInt ≤ 2
      · exact stp_oneR (u := [x.toInt, t.toInt]) (K := kC334) (aC432 334 kC334 mC_predictor rfl rfl) hI hP hD ip_predictor_3_2_2_8 (SB.cons0 (by omega) (by omega) (SB.cons0 (by omega) (by omega) SB.nil0)) (fun mu hmu => argsV ha x y z t 2 8 (by omega) (by omega) 23 mu hmu) rfl (fun mu w r f s hr => prV 2 8 (by omega) (by omega) (by decide +kernel) (by decide +kernel) (by omega) f s hr) (fun mu w ws' e1 e2 e3 => ⟨iC3, List.mem_cons_self, postB_ok iq_predictor_3_2_2_8 e1 e2 sc0 e3⟩)
      by_cases c26 : y.toInt ≤ 3
      · exact stp_oneR (u := [x.toInt, t.toInt]) (K := kC335) (aC432 335 kC335 mC_predictor rfl rfl) hI hP hD ip_predictor_3_2_3_8 (SB.cons0 (by omega) (by omega) (SB.cons0 (by omega) (by omega) SB.nil0)) (fun mu hmu => argsV ha x y z t 3 8 (by omega) (by omega) 23 mu hmu) rfl (fun mu w r f s hr => prV 3 8 (by omega) (by omega) (by decide +kernel) (by decide +kernel) (by omega) f s hr) (fun mu w ws' e1 e2 e3 => ⟨iC3, List.mem_cons_self, postB_ok iq_predictor_3_2_3_8 e1 e2 sc0 e3⟩)
      exact stp_oneR (u := [x.toInt, t.toInt]) (K := kC336) (aC432 336 kC336 mC_predictor rfl rfl) hI hP hD ip_predictor_3_2_4_8 (SB.cons0 (by omega) (by omega) (SB.cons0 (by omega) (by omega) SB.nil0)) (fun mu hmu => argsV ha x y z t 4 8 (by omega) (by omega) 23 mu hmu) rfl (fun mu w r f s hr => prV 4 8 (by omega) (by omega) (by decide +kernel) (by decide +kernel) (by omega) f s hr) (fun mu w ws' e1 e2 e3 => ⟨iC3, List.mem_cons_self, postB_ok iq_predictor_3_2_4_8 e1 e2 sc0 e3⟩)
    exact stp_oneR (u := [x.toInt, y.toInt, z.toInt, t.toInt]) (K := kC314) (aC432 314 kC314 mC_predictor rfl rfl) hI hP hD ip_predictor_3_b9 (SB.int0 (SB.int0 (SB.cons0 (by omega) (by have := z.toInt_lt; omega) (SB.int0 SB.nil0)))) (fun mu hmu => argsI ha [x, y, z, t] 23 mu hmu) rfl (fun mu w r _ _ hr => prI (by omega) hr) (fun mu w ws' e1 e2 e3 => ⟨iC3, List.mem_cons_self, postB_ok iq_predictor_3_b9 e1 e2 sc0 e3⟩)
  by_cases c64 : x.toInt ≤ 9
  · exact stp_oneR (u := [x.toInt, y.toInt, z.toInt, t.toInt]) (K := kC305) (aC432 305 kC305 mC_predictor rfl rfl) hI hP hD ip_predictor_3_k3 (SB.cons0 (by omega) (by omega) (SB.int0 (SB.int0 (SB.int0 SB.nil0)))) (fun mu hmu => argsI ha [x, y, z, t] 23 mu hmu) rfl (fun mu w r _ _ hr => prI (by omega) hr) (fun mu w ws' e1 e2 e3 => ⟨iC3, List.mem_cons_self, postB_ok iq_predictor_3_k3 e1 e2 sc0 e3⟩)
  by_cases c65 : x.toInt ≤ 15
  · by_cases c49 : y.toInt ≤ 0
    · exact stp_oneR (u := [x.toInt, y.toInt, z.toInt, t.toInt]) (K := kC307) (aC432 307 kC307 mC_predictor rfl rfl) hI hP hD ip_predictor_3_cn (SB.int0 (SB.cons0 (by have := y.le_toInt; omega) (by omega) (SB.int0 (SB.int0 SB.nil0)))) (fun mu hmu => argsI ha [x, y, z, t] 23 mu hmu) rfl (fun mu w r _ _ hr => prI (by omega) hr) (fun mu w ws' e1 e2 e3 => ⟨iC3, List.mem_cons_self, postB_ok iq_predictor_3_cn e1 e2 sc0 e3⟩)
    by_cases c50 : 5 ≤ y.toInt
    · exact stp_oneR (u := [x.toInt, y.toInt, z.toInt, t.toInt]) (K := kC308) (aC432 308 kC308 mC_predictor rfl rfl) hI hP hD ip_predictor_3_c5 (SB.int0 (SB.cons0 (by omega) (by have := y.toInt_lt; omega) (SB.int0 (SB.int0 SB.nil0)))) (fun mu hmu => argsI ha [x, y, z, t] 23 mu hmu) rfl (fun mu w r _ _ hr => prI (by omega) hr) (fun mu w ws' e1 e2 e3 => ⟨iC3, List.mem_cons_self, postB_ok iq_predictor_3_c5 e1 e2 sc0 e3⟩)
    by_cases c51 : t.toInt ≤ 0
    · exact stp_oneR (u := [x.toInt, y.toInt, z.toInt, t.toInt]) (K := kC309) (aC432 309 kC309 mC_predictor rfl rfl) hI hP hD ip_predictor_3_wn (SB.int0 (SB.int0 (SB.int0 (SB.cons0 (by have := t.le_toInt; omega) (by omega) SB.nil0)))) (fun mu hmu => argsI ha [x, y, z, t] 23 mu hmu) rfl (fun mu w r _ _ hr => prI (by omega) hr) (fun mu w ws' e1 e2 e3 => ⟨iC3, List.mem_cons_self, postB_ok iq_predictor_3_wn e1 e2 sc0 e3⟩)
    by_cases c52 : 65 ≤ t.toInt
    · exact stp_oneR (u := [x.toInt, y.toInt, z.toInt, t.toInt]) (K := kC310) (aC432 310 kC310 mC_predictor rfl rfl) hI hP hD ip_predictor_3_w65 (SB.int0 (SB.int0 (SB.int0 (SB.cons0 (by omega) (by have := t.toInt_lt; omega) SB.nil0)))) (fun mu hmu => argsI ha [x, y, z, t] 23 mu hmu) rfl (fun mu w r _ _ hr => prI (by omega) hr) (fun mu w ws' e1 e2 e3 => ⟨iC3, List.mem_cons_self, postB_ok iq_predictor_3_w65 e1 e2 sc0 e3⟩)
    by_cases c53 : z.toInt ≤ 0
    · exact stp_oneR (u := [x.toInt, y.toInt, z.toInt, t.toInt]) (K := kC311) (aC432 311 kC311 mC_predictor rfl rfl) hI hP hD ip_predictor_3_bn (SB.int0 (SB.int0 (SB.cons0 (by have := z.le_toInt; omega) (by omega) (SB.int0 SB.nil0)))) (fun mu hmu => argsI ha [x, y, z, t] 23 mu hmu) rfl (fun mu w r _ _ hr => prI (by omega) hr) (fun mu w ws' e1 e2 e3 => ⟨iC3, List.mem_cons_self, postB_ok iq_predictor_3_bn e1 e2 sc0 e3⟩)
    by_cases c54 : z.toInt ≤ 1
    · by_cases c37 : y.toInt ≤ 1
      · exact stp_oneR (u := [x.toInt, t.toInt]) (K := kC337) (aC432 337 kC337 mC_predictor rfl rfl) hI hP hD ip_predictor_3_10_1_1 (SB.cons0 (by omega) (by omega) (SB.cons0 (by omega) (by omega) SB.nil0)) (fun mu hmu => argsV ha x y z t 1 1 (by omega) (by omega) 23 mu hmu) rfl (fun mu w r f s hr => prV 1 1 (by omega) (by omega) (by decide +kernel) (by decide +kernel) (by omega) f s hr) (fun mu w ws' e1 e2 e3 => ⟨iC3, List.mem_cons_self, postB_ok iq_predictor_3_10_1_1 e1 e2 sc0 e3⟩)
      by_cases c38 : y.toInt ≤ 2
      · exact stp_oneR (u := [x.toInt, t.toInt]) (K := kC341) (aC432 341 kC341 mC_predictor rfl rfl) hI hP hD ip_predictor_3_10_2_1 (SB.cons0 (by omega) (by omega) (SB.cons0 (by omega) (by omega) SB.nil0)) (fun mu hmu => argsV ha x y z t 2 1 (by omega) (by omega) 23 mu hmu) rfl (fun mu w r f s hr => prV 2 1 (by omega) (by omega) (by decide +kernel) (by decide +kernel) (by omega) f s hr) (fun mu w ws' e1 e2 e3 => ⟨iC3, List.mem_cons_self, postB_ok iq_predictor_3_10_2_1 e1 e2 sc0 e3⟩)
      by_cases c39 : y.toInt ≤ 3
      · exact stp_oneR (u := [x.toInt, t.toInt]) (K := kC345) (aC432 345 kC345 mC_predictor rfl rfl) hI hP hD ip_predictor_3_10_3_1 (SB.cons0 (by omega) (by omega) (SB.cons0 (by omega) (by omega) SB.nil0)) (fun mu hmu => argsV ha x y z t 3 1 (by omega) (by omega) 23 mu hmu) rfl (fun mu w r f s hr => prV 3 1 (by omega) (by omega) (by decide +kernel) (by decide +kernel) (by omega) f s hr) (fun mu w ws' e1 e2 e3 => ⟨iC3, List.mem_cons_self, postB_ok iq_predictor_3_10_3_1 e1 e2 sc0 e3⟩)
      exact stp_oneR (u := [x.toInt, t.toInt]) (K := kC349) (aC432 349 kC349 mC_predictor rfl rfl) hI hP hD ip_predictor_3_10_4_1 (SB.cons0 (by omega) (by omega) (SB.cons0 (by omega) (by omega) SB.nil0)) (fun mu hmu => argsV ha x y z t 4 1 (by omega) (by omega) 23 mu hmu) rfl (fun mu w r f s hr => prV 4 1 (by omega) (by omega) (by decide +kernel) (by decide +kernel) (by omega) f s hr) (fun mu w ws' e1 e2 e3 => ⟨iC3, List.mem_cons_self, postB_ok iq_predictor_3_10_4_1 e1 e2 sc0 e3⟩)
    by_cases c55 : z.toInt ≤ 2
    · by_cases c40 : y.toInt ≤ 1
      · exact stp_oneR (u := [x.toInt, t.toInt]) (K := kC338) (aC432 338 kC338 mC_predictor rfl rfl) hI hP hD ip_predictor_3_10_1_2 (SB.cons0 (by omega) (by omega) (SB.cons0 (by omega) (by omega) SB.nil0)) (fun mu hmu => argsV ha x y z t 1 2 (by omega) (by omega) 23 mu hmu) rfl (fun mu w r f s hr => prV 1 2 (by omega) (by omega) (by decide +kernel) (by decide +kernel) (by omega) f s hr) (fun mu w ws' e1 e2 e3 => ⟨iC3, List.mem_cons_self, postB_ok iq_predictor_3_10_1_2 e1 e2 sc0 e3⟩)
      by_cases c41 : y.toInt ≤ 2
      · exact stp_oneR (u := [x.toInt, t.toInt]) (K := kC342) (aC432 342 kC342 mC_predictor rfl rfl) hI hP hD ip_predictor_3_10_2_2 (SB.cons0 (by omega) (by omega) (SB.cons0 (by omega) (by omega) SB.nil0)) (fun mu hmu => argsV ha x y z t 2 2 (by omega) (by omega) 23 mu hmu) rfl (fun mu w r f s hr => prV 2 2 (by omega) (by omega) (by decide +kernel) (by decide +kernel) (by omega) f s hr) (fun mu w ws' e1 e2 e3 => ⟨iC3, List.mem_cons_self, postB_ok iq_predictor_3_10_2_2 e1 e2 sc0 e3⟩)
      by_cases c42 : y.toInt ≤ 3
      · exact stp_oneR (u := [x.toInt, t.toInt]) (K := kC346) (aC432 346 kC346 mC_predictor rfl rfl) hI hP hD ip_predictor_3_10_3_2 (SB.cons0 (by omega) (by omega) (SB.cons0 (by omega) (by omega) SB.nil0)) (fun mu hmu => argsV ha x y z t 3 2 (by omega) (by omega) 23 mu hmu) rfl (fun mu w r f s hr => prV 3 2 (by omega) (by omega) (by decide +kernel) (by decide +kernel) (by omega) f s hr) (fun mu w ws' e1 e2 e3 => ⟨iC3, List.mem_cons_self, postB_ok iq_predictor_3_10_3_2 e1 e2 sc0 e3⟩)
      exact stp_oneR (u := [x.toInt, t.toInt]) (K := kC350) (aC432 350 kC350 mC_predictor rfl rfl) hI hP hD ip_predictor_3_10_4_2 (SB.cons0 (by omega) (by omega) (SB.cons0 (by omega) (by omega) SB.nil0)) (fun mu hmu => argsV ha x y z t 4 2 (by omega) (by omega) 23 mu hmu) rfl (fun mu w r f s hr => prV 4 2 (by omega) (by omega) (by decide +kernel) (by decide +kernel) (by omega) f s hr) (fun mu w ws' e1 e2 e3 => ⟨iC3, List.mem_cons_self, postB_ok iq_predictor_3_10_4_2 e1 e2 sc0 e3⟩)
    by_cases c56 : z.toInt ≤ 3
    · exact stp_oneR (u := [x.toInt, y.toInt, z.toInt, t.toInt]) (K := kC312) (aC432 312 kC312 mC_predictor rfl rfl) hI hP hD ip_predictor_3_b3 (SB.int0 (SB.int0 (SB.cons0 (by omega) (by omega) (SB.int0 SB.nil0)))) (fun mu hmu => argsI ha [x, y, z, t] 23 mu hmu) rfl (fun mu w r _ _ hr => prI (by omega) hr) (fun mu w ws' e1 e2 e3 => ⟨iC3, List.mem_cons_self, postB_ok iq_predictor_3_b3 e1 e2 sc0 e3⟩)
    by_cases c57 : z.toInt ≤ 4
    · by_cases c43 : y.toInt ≤ 1
      · exact stp_oneR (u := [x.toInt, t.toInt]) (K := kC339) (aC432 339 kC339 mC_predictor rfl rfl) hI hP hD ip_predictor_3_10_1_4 (SB.cons0 (by omega) (by omega) (SB.cons0 (by omega) (by omega) SB.nil0)) (fun mu hmu => argsV ha x y z t 1 4 (by omega) (by omega) 23 mu hmu) rfl (fun mu w r f s hr => prV 1 4 (by omega) (by omega) (by decide +kernel) (by decide +kernel) (by omega) f s hr) (fun mu w ws' e1 e2 e3 => ⟨iC3, List.mem_cons_self, postB_ok iq_predictor_3_10_1_4 e1 e2 sc0 e3⟩)
      by_cases c44 : y.toInt ≤ 2
      · exact stp_oneR (u := [x.toInt, t.toInt]) (K := kC343) (aC432 343 kC343 mC_predictor rfl rfl) hI hP hD ip_predictor_3_10_2_4 (SB.cons0 (by omega) (by omega) (SB.cons0 (by omega) (by omega) SB.nil0)) (fun mu hmu => argsV ha x y z t 2 4 (by omega) (by omega) 23 mu hmu) rfl (fun mu w r f s hr => prV 2 4 (by omega) (by omega) (by decide +kernel) (by decide +kernel) (by omega) f s hr) (fun mu w ws' e1 e2 e3 => ⟨iC3, List.mem_cons_self, postB_ok iq_predictor_3_10_2_4 e1 e2 sc0 e3⟩)
      by_cases c45 : y.toInt ≤ 3
      · exact stp_oneR (u := [x.toInt, t.toInt]) (K := kC347) (aC432 347 kC347 mC_predictor rfl rfl) hI hP hD ip_predictor_3_10_3_4 (SB.cons0 (by omega) (by omega) (SB.cons0 (by omega) (by omega) SB.nil0)) (fun mu hmu => argsV ha x y z t 3 4 (by omega) (by omega) 23 mu hmu) rfl (fun mu w r f s hr => prV 3 4 (by omega) (by omega) (by decide +kernel) (by decide +kernel) (by omega) f s hr) (fun mu w ws' e1 e2 e3 => ⟨iC3, List.mem_cons_self, postB_ok iq_predictor_3_10_3_4 e1 e2 sc0 e3⟩)
      exact stp_oneR (u := [x.toInt, t.toInt]) (K := kC351) (aC432 351 kC351 mC_predictor rfl rfl) hI hP hD ip_predictor_3_10_4_4 (SB.cons0 (by omega) (by omega) (SB.cons0 (by omega) (by omega) SB.nil0)) (fun mu hmu => argsV ha x y z t 4 4 (by omega) (by omega) 23 mu hmu) rfl (fun mu w r f s hr => prV 4 4 (by omega) (by omega) (by decide +kernel) (by decide +kernel) (by omega) f s hr) (fun mu w ws' e1 e2 e3 => ⟨iC3, List.mem_cons_self, postB_ok iq_predictor_3_10_4_4 e1 e2 sc0 e3⟩)
    by_cases c58 : z.toInt ≤ 7
    · exact stp_oneR (u := [x.toInt, y.toInt, z.toInt, t.toInt]) (K := kC313) (aC432 313 kC313 mC_predictor rfl rfl) hI hP hD ip_predictor_3_b5 (SB.int0 (SB.int0 (SB.cons0 (by omega) (by omega) (SB.int0 SB.nil0)))) (fun mu hmu => argsI ha [x, y, z, t] 23 mu hmu) rfl (fun mu w r _ _ hr => prI (by omega) hr) (fun mu w ws' e1 e2 e3 => ⟨iC3, List.mem_cons_self, postB_ok iq_predictor_3_b5 e1 e2 sc0 e3⟩)
    by_cases c59 : z.toInt ≤ 8
    · by_cases c46 : y.toInt ≤ 1
      · exact stp_oneR (u := [x.toInt, t.toInt]) (K := kC340) (aC432 340 kC340 mC_predictor rfl rfl) hI hP hD ip_predictor_3_10_1_8 (SB.cons0 (by omega) (by omega) (SB.cons0 (by omega) (by omega) SB.nil0)) (fun mu hmu => argsV ha x y z t 1 8 (by omega) (by omega) 23 mu hmu) rfl (fun mu w r f s hr => prV 1 8 (by omega) (by omega) (by decide +kernel) (by decide +kernel) (by omega) f s hr) (fun mu w ws' e1 e2 e3 => ⟨iC3, List.mem_cons_self, postB_ok iq_predictor_3_10_1_8 e1 e2 sc0 e3⟩)
      by_cases c47 : y.toInt ≤ 2
      · exact stp_oneR (u := [x.toInt, t.toInt]) (K := kC344) (aC432 344 kC344 mC_predictor rfl rfl) hI hP hD ip_predictor_3_10_2_8 (SB.cons0 (by omega) (by omega) (SB.cons0 (by omega) (by omega) SB.nil0)) (fun mu hmu => argsV ha x y z t 2 8 (by omega) (by omega) 23 mu hmu) rfl (fun mu w r f s hr => prV 2 8 (by omega) (by omega) (by decide +kernel) (by decide +kernel) (by omega) f s hr) (fun mu w ws' e1 e2 e3 => ⟨iC3, List.mem_cons_self, postB_ok iq_predictor_3_10_2_8 e1 e2 sc0 e3⟩)
      by_cases c48 : y.toInt ≤ 3
      · exact stp_oneR (u := [x.toInt, t.toInt]) (K := kC348) (aC432 348 kC348 mC_predictor rfl rfl) hI hP hD ip_predictor_3_10_3_8 (SB.cons0 (by omega) (by omega) (SB.cons0 (by omega) (by omega) SB.nil0)) (fun mu hmu => argsV ha x y z t 3 8 (by omega) (by omega) 23 mu hmu) rfl (fun mu w r f s hr => prV 3 8 (by omega) (by omega) (by decide +kernel) (by decide +kernel) (by omega) f s hr) (fun mu w ws' e1 e2 e3 => ⟨iC3, List.mem_cons_self, postB_ok iq_predictor_3_10_3_8 e1 e2 sc0 e3⟩)
      exact stp_oneR (u := [x.toInt, t.toInt]) (K := kC352) (aC432 352 kC352 mC_predictor rfl rfl) hI hP hD ip_predictor_3_10_4_8 (SB.cons0 (by omega) (by omega) (SB.cons0 (by omega) (by omega) SB.nil0)) (fun mu hmu => argsV ha x y z t 4 8 (by omega) (by omega) 23 mu hmu) rfl (fun mu w r f s hr => prV 4 8 (by omega) (by omega) (by decide +kernel) (by decide +kernel) (by omega) f s hr) (fun mu w ws' e1 e2 e3 => ⟨iC3, List.mem_cons_self, postB_ok iq_predictor_3_10_4_8 e1 e2 sc0 e3⟩)
    exact stp_oneR (u := [x.toInt, y.toInt, z.toInt, t.toInt]) (K := kC314) (aC432 314 kC314 mC_predictor rfl rfl) hI hP hD ip_predictor_3_b9 (SB.int0 (SB.int0 (SB.cons0 (by omega) (by have := z.toInt_lt; omega) (SB.int0 SB.nil0)))) (fun mu hmu => argsI ha [x, y, z, t] 23 mu hmu) rfl (fun mu w r _ _ hr => prI (by omega) hr) (fun mu w ws' e1 e2 e3 => ⟨iC3, List.mem_cons_self, postB_ok iq_predictor_3_b9 e1 e2 sc0 e3⟩)
  exact stp_oneR (u := [x.toInt, y.toInt, z.toInt, t.toInt]) (K := kC306) (aC432 306 kC306 mC_predictor rfl rfl) hI hP hD ip_predictor_3_k16 (SB.cons0 (by omega) (by have := x.toInt_lt; omega) (SB.int0 (SB.int0 (SB.int0 SB.nil0)))) (fun mu hmu => argsI ha [x, y, z, t] 23 mu hmu) rfl (fun mu w r _ _ hr => prI (by omega) hr) (fun mu w ws' e1 e2 e3 => ⟨iC3, List.mem_cons_self, postB_ok iq_predictor_3_k16 e1 e2 sc0 e3⟩)
set_option maxRecDepth 100000 in
set_option maxHeartbeats 4000000 in
theorem sC_predictor_2 {l : Launch} (x y z t : Int32) {D : va_G} {cy : Nat → ClassId} {ads : List Nat} {ws : va_W} {H : Heap} {a : Nat} (hI : Inv cy iC2 ads ws) (hP : va_P D nCl ws H) (hD : va_D (fun _ => True) ws) (ha : ads[0]? = some a) : Met l mC_predictor.1 (wsM TB mC_predictor) rmC (stP D cy gC ads H [.ref a, .int x, .int y, .int z, .int t]) (stQ D cy iCs ads H (rtP x y z t)) 0 0 (stA ads H.size) := by
  by_cases c60 : x.toInt ≤ -1
  · exact stp_oneR (u := [x.toInt, y.toInt, z.toInt, t.toInt]) (K := kC364) (aC432 364 kC364 mC_predictor rfl rfl) hI hP hD ip_predictor_2_kn (SB.cons0 (by have := x.le_toInt; omega) (by omega) (SB.int0 (SB.int0 (SB.int0 SB.nil0)))) (fun mu hmu => argsI ha [x, y, z, t] 23 mu hmu) rfl (fun mu w r _ _ hr => prI (by omega) hr) (fun mu w ws' e1 e2 e3 => ⟨iC2, (List.mem_cons_of_mem _ List.mem_cons_self), postB_ok iq_predictor_2_kn e1 e2 sc0 e3⟩)
  by_cases c61 : x.toInt ≤ 0
  · by_cases c13 : y.toInt ≤ 0
    · exact stp_oneR (u := [x.toInt, y.toInt, z.toInt, t.toInt]) (K := kC368) (aC432 368 kC368 mC_predictor rfl rfl) hI hP hD ip_predictor_2_cn (SB.int0 (SB.cons0 (by have := y.le_toInt; omega) (by omega) (SB.int0 (SB.int0 SB.nil0)))) (fun mu hmu => argsI ha [x, y, z, t] 23 mu hmu) rfl (fun mu w r _ _ hr => prI (by omega) hr) (fun mu w ws' e1 e2 e3 => ⟨iC2, (List.mem_cons_of_mem _ List.mem_cons_self), postB_ok iq_predictor_2_cn e1 e2 sc0 e3⟩)
    by_cases c14 : 5 ≤ y.toInt
    · exact stp_oneR (u := [x.toInt, y.toInt, z.toInt, t.toInt]) (K := kC369) (aC432 369 kC369 mC_predictor rfl rfl) hI hP hD ip_predictor_2_c5 (SB.int0 (SB.cons0 (by omega) (by have := y.toInt_lt; omega) (SB.int0 (SB.int0 SB.nil0)))) (fun mu hmu => argsI ha [x, y, z, t] 23 mu hmu) rfl (fun mu w r _ _ hr => prI (by omega) hr) (fun mu w ws' e1 e2 e3 => ⟨iC2, (List.mem_cons_of_mem _ List.mem_cons_self), postB_ok iq_predictor_2_c5 e1 e2 sc0 e3⟩)
    by_cases c15 : t.toInt ≤ 0
    · exact stp_oneR (u := [x.toInt, y.toInt, z.toInt, t.toInt]) (K := kC370) (aC432 370 kC370 mC_predictor rfl rfl) hI hP hD ip_predictor_2_wn (SB.int0 (SB.int0 (SB.int0 (SB.cons0 (by have := t.le_toInt; omega) (by omega) SB.nil0)))) (fun mu hmu => argsI ha [x, y, z, t] 23 mu hmu) rfl (fun mu w r _ _ hr => prI (by omega) hr) (fun mu w ws' e1 e2 e3 => ⟨iC2, (List.mem_cons_of_mem _ List.mem_cons_self), postB_ok iq_predictor_2_wn e1 e2 sc0 e3⟩)
    by_cases c16 : 65 ≤ t.toInt
    · exact stp_oneR (u := [x.toInt, y.toInt, z.toInt, t.toInt]) (K := kC371) (aC432 371 kC371 mC_predictor rfl rfl) hI hP hD ip_predictor_2_w65 (SB.int0 (SB.int0 (SB.int0 (SB.cons0 (by omega) (by have := t.toInt_lt; omega) SB.nil0)))) (fun mu hmu => argsI ha [x, y, z, t] 23 mu hmu) rfl (fun mu w r _ _ hr => prI (by omega) hr) (fun mu w ws' e1 e2 e3 => ⟨iC2, (List.mem_cons_of_mem _ List.mem_cons_self), postB_ok iq_predictor_2_w65 e1 e2 sc0 e3⟩)
    by_cases c17 : z.toInt ≤ 0
    · exact stp_oneR (u := [x.toInt, y.toInt, z.toInt, t.toInt]) (K := kC372) (aC432 372 kC372 mC_predictor rfl rfl) hI hP hD ip_predictor_2_bn (SB.int0 (SB.int0 (SB.cons0 (by have := z.le_toInt; omega) (by omega) (SB.int0 SB.nil0)))) (fun mu hmu => argsI ha [x, y, z, t] 23 mu hmu) rfl (fun mu w r _ _ hr => prI (by omega) hr) (fun mu w ws' e1 e2 e3 => ⟨iC2, (List.mem_cons_of_mem _ List.mem_cons_self), postB_ok iq_predictor_2_bn e1 e2 sc0 e3⟩)
    by_cases c18 : z.toInt ≤ 1
    · by_cases c1 : y.toInt ≤ 1
      · exact stp_oneR (u := [x.toInt, t.toInt]) (K := kC378) (aC432 378 kC378 mC_predictor rfl rfl) hI hP hD ip_predictor_2_0_1_1 (SB.cons0 (by omega) (by omega) (SB.cons0 (by omega) (by omega) SB.nil0)) (fun mu hmu => argsV ha x y z t 1 1 (by omega) (by omega) 23 mu hmu) rfl (fun mu w r f s hr => prV 1 1 (by omega) (by omega) (by decide +kernel) (by decide +kernel) (by omega) f s hr) (fun mu w ws' e1 e2 e3 => ⟨iC2, (List.mem_cons_of_mem _ List.mem_cons_self), postB_ok iq_predictor_2_0_1_1 e1 e2 sc0 e3⟩)
      by_cases c2 : y.toInt ≤ 2
      · exact stp_oneR (u := [x.toInt, t.toInt]) (K := kC382) (aC432 382 kC382 mC_predictor rfl rfl) hI hP hD ip_predictor_2_0_2_1 (SB.cons0 (by omega) (by omega) (SB.cons0 (by omega) (by omega) SB.nil0)) (fun mu hmu => argsV ha x y z t 2 1 (by omega) (by omega) 23 mu hmu) rfl (fun mu w r f s hr => prV 2 1 (by omega) (by omega) (by decide +kernel) (by decide +kernel) (by omega) f s hr) (fun mu w ws' e1 e2 e3 => ⟨iC2, (List.mem_cons_of_mem _ List.mem_cons_self), postB_ok iq_predictor_2_0_2_1 e1 e2 sc0 e3⟩)
      by_cases c3 : y.toInt ≤ 3
      · exact stp_oneR (u := [x.toInt, t.toInt]) (K := kC386) (aC432 386 kC386 mC_predictor rfl rfl) hI hP hD ip_predictor_2_0_3_1 (SB.cons0 (by omega) (by omega) (SB.cons0 (by omega) (by omega) SB.nil0)) (fun mu hmu => argsV ha x y z t 3 1 (by omega) (by omega) 23 mu hmu) rfl (fun mu w r f s hr => prV 3 1 (by omega) (by omega) (by decide +kernel) (by decide +kernel) (by omega) f s hr) (fun mu w ws' e1 e2 e3 => ⟨iC2, (List.mem_cons_of_mem _ List.mem_cons_self), postB_ok iq_predictor_2_0_3_1 e1 e2 sc0 e3⟩)
      exact stp_oneR (u := [x.toInt, t.toInt]) (K := kC390) (aC432 390 kC390 mC_predictor rfl rfl) hI hP hD ip_predictor_2_0_4_1 (SB.cons0 (by omega) (by omega) (SB.cons0 (by omega) (by omega) SB.nil0)) (fun mu hmu => argsV ha x y z t 4 1 (by omega) (by omega) 23 mu hmu) rfl (fun mu w r f s hr => prV 4 1 (by omega) (by omega) (by decide +kernel) (by decide +kernel) (by omega) f s hr) (fun mu w ws' e1 e2 e3 => ⟨iC2, (List.mem_cons_of_mem _ List.mem_cons_self), postB_ok iq_predictor_2_0_4_1 e1 e2 sc0 e3⟩)
    by_cases c19 : z.toInt ≤ 2
    · by_cases c4 : y.toInt ≤ 1
      · exact stp_oneR (u := [x.toInt, t.toInt]) (K := kC379) (aC432 379 kC379 mC_predictor rfl rfl) hI hP hD ip_predictor_2_0_1_2 (SB.cons0 (by omega) (by omega) (SB.cons0 (by omega) (by omega) SB.nil0)) (fun mu hmu => argsV ha x y z t 1 2 (by omega) (by omega) 23 mu hmu) rfl (fun mu w r f s hr => prV 1 2 (by omega) (by omega) (by decide +kernel) (by decide +kernel) (by omega) f s hr) (fun mu w ws' e1 e2 e3 => ⟨iC2, (List.mem_cons_of_mem _ List.mem_cons_self), postB_ok iq_predictor_2_0_1_2 e1 e2 sc0 e3⟩)
      by_cases c5 : y.toInt ≤ 2
      · exact stp_oneR (u := [x.toInt, t.toInt]) (K := kC383) (aC432 383 kC383 mC_predictor rfl rfl) hI hP hD ip_predictor_2_0_2_2 (SB.cons0 (by omega) (by omega) (SB.cons0 (by omega) (by omega) SB.nil0)) (fun mu hmu => argsV ha x y z t 2 2 (by omega) (by omega) 23 mu hmu) rfl (fun mu w r f s hr => prV 2 2 (by omega) (by omega) (by decide +kernel) (by decide +kernel) (by omega) f s hr) (fun mu w ws' e1 e2 e3 => ⟨iC2, (List.mem_cons_of_mem _ List.mem_cons_self), postB_ok iq_predictor_2_0_2_2 e1 e2 sc0 e3⟩)
      by_cases c6 : y.toInt ≤ 3
      · exact stp_oneR (u := [x.toInt, t.toInt]) (K := kC387) (aC432 387 kC387 mC_predictor rfl rfl) hI hP hD ip_predictor_2_0_3_2 (SB.cons0 (by omega) (by omega) (SB.cons0 (by omega) (by omega) SB.nil0)) (fun mu hmu => argsV ha x y z t 3 2 (by omega) (by omega) 23 mu hmu) rfl (fun mu w r f s hr => prV 3 2 (by omega) (by omega) (by decide +kernel) (by decide +kernel) (by omega) f s hr) (fun mu w ws' e1 e2 e3 => ⟨iC2, (List.mem_cons_of_mem _ List.mem_cons_self), postB_ok iq_predictor_2_0_3_2 e1 e2 sc0 e3⟩)
      exact stp_oneR (u := [x.toInt, t.toInt]) (K := kC391) (aC432 391 kC391 mC_predictor rfl rfl) hI hP hD ip_predictor_2_0_4_2 (SB.cons0 (by omega) (by omega) (SB.cons0 (by omega) (by omega) SB.nil0)) (fun mu hmu => argsV ha x y z t 4 2 (by omega) (by omega) 23 mu hmu) rfl (fun mu w r f s hr => prV 4 2 (by omega) (by omega) (by decide +kernel) (by decide +kernel) (by omega) f s hr) (fun mu w ws' e1 e2 e3 => ⟨iC2, (List.mem_cons_of_mem _ List.mem_cons_self), postB_ok iq_predictor_2_0_4_2 e1 e2 sc0 e3⟩)
    by_cases c20 : z.toInt ≤ 3
    · exact stp_oneR (u := [x.toInt, y.toInt, z.toInt, t.toInt]) (K := kC373) (aC432 373 kC373 mC_predictor rfl rfl) hI hP hD ip_predictor_2_b3 (SB.int0 (SB.int0 (SB.cons0 (by omega) (by omega) (SB.int0 SB.nil0)))) (fun mu hmu => argsI ha [x, y, z, t] 23 mu hmu) rfl (fun mu w r _ _ hr => prI (by omega) hr) (fun mu w ws' e1 e2 e3 => ⟨iC2, (List.mem_cons_of_mem _ List.mem_cons_self), postB_ok iq_predictor_2_b3 e1 e2 sc0 e3⟩)
    by_cases c21 : z.toInt ≤ 4
    · by_cases c7 : y.toInt ≤ 1
      · exact stp_oneR (u := [x.toInt, t.toInt]) (K := kC380) (aC432 380 kC380 mC_predictor rfl rfl) hI hP hD ip_predictor_2_0_1_4 (SB.cons0 (by omega) (by omega) (SB.cons0 (by omega) (by omega) SB.nil0)) (fun mu hmu => argsV ha x y z t 1 4 (by omega) (by omega) 23 mu hmu) rfl (fun mu w r f s hr => prV 1 4 (by omega) (by omega) (by decide +kernel) (by decide +kernel) (by omega) f s hr) (fun mu w ws' e1 e2 e3 => ⟨iC2, (List.mem_cons_of_mem _ List.mem_cons_self), postB_ok iq_predictor_2_0_1_4 e1 e2 sc0 e3⟩)
      by_cases c8 : y.toInt ≤ 2
      · exact stp_oneR (u := [x.toInt, t.toInt]) (K := kC384) (aC432 384 kC384 mC_predictor rfl rfl) hI hP hD ip_predictor_2_0_2_4 (SB.cons0 (by omega) (by omega) (SB.cons0 (by omega) (by omega) SB.nil0)) (fun mu hmu => argsV ha x y z t 2 4 (by omega) (by omega) 23 mu hmu) rfl (fun mu w r f s hr => prV 2 4 (by omega) (by omega) (by decide +kernel) (by decide +kernel) (by omega) f s hr) (fun mu w ws' e1 e2 e3 => ⟨iC2, (List.mem_cons_of_mem _ List.mem_cons_self), postB_ok iq_predictor_2_0_2_4 e1 e2 sc0 e3⟩)
      by_cases c9 : y.toInt ≤ 3
      · exact stp_oneR (u := [x.toInt, t.toInt]) (K := kC388) (aC432 388 kC388 mC_predictor rfl rfl) hI hP hD ip_predictor_2_0_3_4 (SB.cons0 (by omega) (by omega) (SB.cons0 (by omega) (by omega) SB.nil0)) (fun mu hmu => argsV ha x y z t 3 4 (by omega) (by omega) 23 mu hmu) rfl (fun mu w r f s hr => prV 3 4 (by omega) (by omega) (by decide +kernel) (by decide +kernel) (by omega) f s hr) (fun mu w ws' e1 e2 e3 => ⟨iC2, (List.mem_cons_of_mem _ List.mem_cons_self), postB_ok iq_predictor_2_0_3_4 e1 e2 sc0 e3⟩)
      exact stp_oneR (u := [x.toInt, t.toInt]) (K := kC392) (aC432 392 kC392 mC_predictor rfl rfl) hI hP hD ip_predictor_2_0_4_4 (SB.cons0 (by omega) (by omega) (SB.cons0 (by omega) (by omega) SB.nil0)) (fun mu hmu => argsV ha x y z t 4 4 (by omega) (by omega) 23 mu hmu) rfl (fun mu w r f s hr => prV 4 4 (by omega) (by omega) (by decide +kernel) (by decide +kernel) (by omega) f s hr) (fun mu w ws' e1 e2 e3 => ⟨iC2, (List.mem_cons_of_mem _ List.mem_cons_self), postB_ok iq_predictor_2_0_4_4 e1 e2 sc0 e3⟩)
    by_cases c22 : z.toInt ≤ 7
    · exact stp_oneR (u := [x.toInt, y.toInt, z.toInt, t.toInt]) (K := kC374) (aC432 374 kC374 mC_predictor rfl rfl) hI hP hD ip_predictor_2_b5 (SB.int0 (SB.int0 (SB.cons0 (by omega) (by omega) (SB.int0 SB.nil0)))) (fun mu hmu => argsI ha [x, y, z, t] 23 mu hmu) rfl (fun mu w r _ _ hr => prI (by omega) hr) (fun mu w ws' e1 e2 e3 => ⟨iC2, (List.mem_cons_of_mem _ List.mem_cons_self), postB_ok iq_predictor_2_b5 e1 e2 sc0 e3⟩)
    by_cases c23 : z.toInt ≤ 8
    · by_cases c10 : y.toInt ≤ 1
      · exact stp_oneR (u := [x.toInt, t.toInt]) (K := kC381) (aC432 381 kC381 mC_predictor rfl rfl) hI hP hD ip_predictor_2_0_1_8 (SB.cons0 (by omega) (by omega) (SB.cons0 (by omega) (by omega) SB.nil0)) (fun mu hmu => argsV ha x y z t 1 8 (by omega) (by omega) 23 mu hmu) rfl (fun mu w r f s hr => prV 1 8 (by omega) (by omega) (by decide +kernel) (by decide +kernel) (by omega) f s hr) (fun mu w ws' e1 e2 e3 => ⟨iC2, (List.mem_cons_of_mem _ List.mem_cons_self), postB_ok iq_predictor_2_0_1_8 e1 e2 sc0 e3⟩)
      by_cases c11 : y.toInt ≤ 2
      · exact stp_oneR (u := [x.toInt, t.toInt]) (K := kC385) (aC432 385 kC385 mC_predictor rfl rfl) hI hP hD ip_predictor_2_0_2_8 (SB.cons0 (by omega) (by omega) (SB.cons0 (by omega) (by omega) SB.nil0)) (fun mu hmu => argsV ha x y z t 2 8 (by omega) (by omega) 23 mu hmu) rfl (fun mu w r f s hr => prV 2 8 (by omega) (by omega) (by decide +kernel) (by decide +kernel) (by omega) f s hr) (fun mu w ws' e1 e2 e3 => ⟨iC2, (List.mem_cons_of_mem _ List.mem_cons_self), postB_ok iq_predictor_2_0_2_8 e1 e2 sc0 e3⟩)
      by_cases c12 : y.toInt ≤ 3
      · exact stp_oneR (u := [x.toInt, t.toInt]) (K := kC389) (aC432 389 kC389 mC_predictor rfl rfl) hI hP hD ip_predictor_2_0_3_8 (SB.cons0 (by omega) (by omega) (SB.cons0 (by omega) (by omega) SB.nil0)) (fun mu hmu => argsV ha x y z t 3 8 (by omega) (by omega) 23 mu hmu) rfl (fun mu w r f s hr => prV 3 8 (by omega) (by omega) (by decide +kernel) (by decide +kernel) (by omega) f s hr) (fun mu w ws' e1 e2 e3 => ⟨iC2, (List.mem_cons_of_mem _ List.mem_cons_self), postB_ok iq_predictor_2_0_3_8 e1 e2 sc0 e3⟩)
      exact stp_oneR (u := [x.toInt, t.toInt]) (K := kC393) (aC432 393 kC393 mC_predictor rfl rfl) hI hP hD ip_predictor_2_0_4_8 (SB.cons0 (by omega) (by omega) (SB.cons0 (by omega) (by omega) SB.nil0)) (fun mu hmu => argsV ha x y z t 4 8 (by omega) (by omega) 23 mu hmu) rfl (fun mu w r f s hr => prV 4 8 (by omega) (by omega) (by decide +kernel) (by decide +kernel) (by omega) f s hr) (fun mu w ws' e1 e2 e3 => ⟨iC2, (List.mem_cons_of_mem _ List.mem_cons_self), postB_ok iq_predictor_2_0_4_8 e1 e2 sc0 e3⟩)
    exact stp_oneR (u := [x.toInt, y.toInt, z.toInt, t.toInt]) (K := kC375) (aC432 375 kC375 mC_predictor rfl rfl) hI hP hD ip_predictor_2_b9 (SB.int0 (SB.int0 (SB.cons0 (by omega) (by have := z.toInt_lt; omega) (SB.int0 SB.nil0)))) (fun mu hmu => argsI ha [x, y, z, t] 23 mu hmu) rfl (fun mu w r _ _ hr => prI (by omega) hr) (fun mu w ws' e1 e2 e3 => ⟨iC2, (List.mem_cons_of_mem _ List.mem_cons_self), postB_ok iq_predictor_2_b9 e1 e2 sc0 e3⟩)
  by_cases c62 : x.toInt ≤ 1
  · exact stp_oneR (u := [x.toInt, y.toInt, z.toInt, t.toInt]) (K := kC365) (aC432 365 kC365 mC_predictor rfl rfl) hI hP hD ip_predictor_2_k1 (SB.cons0 (by omega) (by omega) (SB.int0 (SB.int0 (SB.int0 SB.nil0)))) (fun mu hmu => argsI ha [x, y, z, t] 23 mu hmu) rfl (fun mu w r _ _ hr => prI (by omega) hr) (fun mu w ws' e1 e2 e3 => ⟨iC2, (List.mem_cons_of_mem _ List.mem_cons_self), postB_ok iq_predictor_2_k1 e1 e2 sc0 e3⟩)
  by_cases c63 : x.toInt ≤ 2
  · by_cases c27 : y.toInt ≤ 0
    · exact stp_oneR (u := [x.toInt, y.toInt, z.toInt, t.toInt]) (K := kC368) (aC432 368 kC368 mC_predictor rfl rfl) hI hP hD ip_predictor_2_cn (SB.int0 (SB.cons0 (by have := y.le_toInt; omega) (by omega) (SB.int0 (SB.int0 SB.nil0)))) (fun mu hmu => argsI ha [x, y, z, t] 23 mu hmu) rfl (fun mu w r _ _ hr => prI (by omega) hr) (fun mu w ws' e1 e2 e3 => ⟨iC2, (List.mem_cons_of_mem _ List.mem_cons_self), postB_ok iq_predictor_2_cn e1 e2 sc0 e3⟩)
    by_cases c28 : 5 ≤ y.toInt
    · exact stp_oneR (u := [x.toInt, y.toInt, z.toInt, t.toInt]) (K := kC369) (aC432 369 kC369 mC_predictor rfl rfl) hI hP hD ip_predictor_2_c5 (SB.int0 (SB.cons0 (by omega) (by have := y.toInt_lt; omega) (SB.int0 (SB.int0 SB.nil0)))) (fun mu hmu => argsI ha [x, y, z, t] 23 mu hmu) rfl (fun mu w r _ _ hr => prI (by omega) hr) (fun mu w ws' e1 e2 e3 => ⟨iC2, (List.mem_cons_of_mem _ List.mem_cons_self), postB_ok iq_predictor_2_c5 e1 e2 sc0 e3⟩)
    by_cases c29 : t.toInt ≤ 0
    · exact stp_oneR (u := [x.toInt, y.toInt, z.toInt, t.toInt]) (K := kC370) (aC432 370 kC370 mC_predictor rfl rfl) hI hP hD ip_predictor_2_wn (SB.int0 (SB.int0 (SB.int0 (SB.cons0 (by have := t.le_toInt; omega) (by omega) SB.nil0)))) (fun mu hmu => argsI ha [x, y, z, t] 23 mu hmu) rfl (fun mu w r _ _ hr => prI (by omega) hr) (fun mu w ws' e1 e2 e3 => ⟨iC2, (List.mem_cons_of_mem _ List.mem_cons_self), postB_ok iq_predictor_2_wn e1 e2 sc0 e3⟩)
    by_cases c30 : 65 ≤ t.toInt
    · exact stp_oneR (u := [x.toInt, y.toInt, z.toInt, t.toInt]) (K := kC371) (aC432 371 kC371 mC_predictor rfl rfl) hI hP hD ip_predictor_2_w65 (SB.int0 (SB.int0 (SB.int0 (SB.cons0 (by omega) (by have := t.toInt_lt; omega) SB.nil0)))) (fun mu hmu => argsI ha [x, y, z, t] 23 mu hmu) rfl (fun mu w r _ _ hr => prI (by omega) hr) (fun mu w ws' e1 e2 e3 => ⟨iC2, (List.mem_cons_of_mem _ List.mem_cons_self), postB_ok iq_predictor_2_w65 e1 e2 sc0 e3⟩)
    by_cases c31 : z.toInt ≤ 0
    · exact stp_oneR (u := [x.toInt, y.toInt, z.toInt, t.toInt]) (K := kC372) (aC432 372 kC372 mC_predictor rfl rfl) hI hP hD ip_predictor_2_bn (SB.int0 (SB.int0 (SB.cons0 (by have := z.le_toInt; omega) (by omega) (SB.int0 SB.nil0)))) (fun mu hmu => argsI ha [x, y, z, t] 23 mu hmu) rfl (fun mu w r _ _ hr => prI (by omega) hr) (fun mu w ws' e1 e2 e3 => ⟨iC2, (List.mem_cons_of_mem _ List.mem_cons_self), postB_ok iq_predictor_2_bn e1 e2 sc0 e3⟩)
    by_cases c32 : z.toInt ≤ 2
    · exact stp_oneR (u := [x.toInt, y.toInt, z.toInt, t.toInt]) (K := kC376) (aC432 376 kC376 mC_predictor rfl rfl) hI hP hD ip_predictor_2_t1 (SB.cons0 (by omega) (by omega) (SB.int0 (SB.cons0 (by omega) (by omega) (SB.int0 SB.nil0)))) (fun mu hmu => argsI ha [x, y, z, t] 23 mu hmu) rfl (fun mu w r _ _ hr => prI (by omega) hr) (fun mu w ws' e1 e2 e3 => ⟨iC2, (List.mem_cons_of_mem _ List.mem_cons_self), postB_ok iq_predictor_2_t1 e1 e2 sc0 e3⟩)
    by_cases c33 : z.toInt ≤ 3
    · exact stp_oneR (u := [x.toInt, y.toInt, z.toInt, t.toInt]) (K := kC373) (aC432 373 kC373 mC_predictor rfl rfl) hI hP hD ip_predictor_2_b3 (SB.int0 (SB.int0 (SB.cons0 (by omega) (by omega) (SB.int0 SB.nil0)))) (fun mu hmu => argsI ha [x, y, z, t] 23 mu hmu) rfl (fun mu w r _ _ hr => prI (by omega) hr) (fun mu w ws' e1 e2 e3 => ⟨iC2, (List.mem_cons_of_mem _ List.mem_cons_self), postB_ok iq_predictor_2_b3 e1 e2 sc0 e3⟩)
    by_cases c34 : z.toInt ≤ 4
    · exact stp_oneR (u := [x.toInt, y.toInt, z.toInt, t.toInt]) (K := kC377) (aC432 377 kC377 mC_predictor rfl rfl) hI hP hD ip_predictor_2_t4 (SB.cons0 (by omega) (by omega) (SB.int0 (SB.cons0 (by omega) (by omega) (SB.int0 SB.nil0)))) (fun mu hmu => argsI ha [x, y, z, t] 23 mu hmu) rfl (fun mu w r _ _ hr => prI (by omega) hr) (fun mu w ws' e1 e2 e3 => ⟨iC2, (List.mem_cons_of_mem _ List.mem_cons_self), postB_ok iq_predictor_2_t4 e1 e2 sc0 e3⟩)
    by_cases c35 : z.toInt ≤ 7
    · exact stp_oneR (u := [x.toInt, y.toInt, z.toInt, t.toInt]) (K := kC374) (aC432 374 kC374 mC_predictor rfl rfl) hI hP hD ip_predictor_2_b5 (SB.int0 (SB.int0 (SB.cons0 (by omega) (by omega) (SB.int0 SB.nil0)))) (fun mu hmu => argsI ha [x, y, z, t] 23 mu hmu) rfl (fun mu w r _ _ hr => prI (by omega) hr) (fun mu w ws' e1 e2 e3 => ⟨iC2, (List.mem_cons_of_mem _ List.mem_cons_self), postB_ok iq_predictor_2_b5 e1 e2 sc0 e3⟩)
    by_cases c36 : z.toInt ≤ 8
    · by_cases c24 : y.toInt ≤ 1
      · exact stp_oneR (u := [x.toInt, t.toInt]) (K := kC394) (aC432 394 kC394 mC_predictor rfl rfl) hI hP hD ip_predictor_2_2_1_8 (SB.cons0 (by omega) (by omega) (SB.cons0 (by omega) (by omega) SB.nil0)) (fun mu hmu => argsV ha x y z t 1 8 (by omega) (by omega) 23 mu hmu) rfl (fun mu w r f s hr => prV 1 8 (by omega) (by omega) (by decide +kernel) (by decide +kernel) (by omega) f s hr) (fun mu w ws' e1 e2 e3 => ⟨iC2, (List.mem_cons_of_mem _ List.mem_cons_self), postB_ok iq_predictor_2_2_1_8 e1 e2 sc0 e3⟩)
      by_cases c25 : y.toInt ≤ 2
      · exact stp_oneR (u := [x.toInt, t.toInt]) (K := kC395) (aC432 395 kC395 mC_predictor rfl rfl) hI hP hD ip_predictor_2_2_2_8 (SB.cons0 (by omega) (by omega) (SB.cons0 (by omega) (by omega) SB.nil0)) (fun mu hmu => argsV ha x y z t 2 8 (by omega) (by omega) 23 mu hmu) rfl (fun mu w r f s hr => prV 2 8 (by omega) (by omega) (by decide +kernel) (by decide +kernel) (by omega) f s hr) (fun mu w ws' e1 e2 e3 => ⟨iC2, (List.mem_cons_of_mem _ List.mem_cons_self), postB_ok iq_predictor_2_2_2_8 e1 e2 sc0 e3⟩)
      by_cases c26 : y.toInt ≤ 3
      · exact stp_oneR (u := [x.toInt, t.toInt]) (K := kC396) (aC432 396 kC396 mC_predictor rfl rfl) hI hP hD ip_predictor_2_2_3_8 (SB.cons0 (by omega) (by omega) (SB.cons0 (by omega) (by omega) SB.nil0)) (fun mu hmu => argsV ha x y z t 3 8 (by omega) (by omega) 23 mu hmu) rfl (fun mu w r f s hr => prV 3 8 (by omega) (by omega) (by decide +kernel) (by decide +kernel) (by omega) f s hr) (fun mu w ws' e1 e2 e3 => ⟨iC2, (List.mem_cons_of_mem _ List.mem_cons_self), postB_ok iq_predictor_2_2_3_8 e1 e2 sc0 e3⟩)
      exact stp_oneR (u := [x.toInt, t.toInt]) (K := kC397) (aC432 397 kC397 mC_predictor rfl rfl) hI hP hD ip_predictor_2_2_4_8 (SB.cons0 (by omega) (by omega) (SB.cons0 (by omega) (by omega) SB.nil0)) (fun mu hmu => argsV ha x y z t 4 8 (by omega) (by omega) 23 mu hmu) rfl (fun mu w r f s hr => prV 4 8 (by omega) (by omega) (by decide +kernel) (by decide +kernel) (by omega) f s hr) (fun mu w ws' e1 e2 e3 => ⟨iC2, (List.mem_cons_of_mem _ List.mem_cons_self), postB_ok iq_predictor_2_2_4_8 e1 e2 sc0 e3⟩)
    exact stp_oneR (u := [x.toInt, y.toInt, z.toInt, t.toInt]) (K := kC375) (aC432 375 kC375 mC_predictor rfl rfl) hI hP hD ip_predictor_2_b9 (SB.int0 (SB.int0 (SB.cons0 (by omega) (by have := z.toInt_lt; omega) (SB.int0 SB.nil0)))) (fun mu hmu => argsI ha [x, y, z, t] 23 mu hmu) rfl (fun mu w r _ _ hr => prI (by omega) hr) (fun mu w ws' e1 e2 e3 => ⟨iC2, (List.mem_cons_of_mem _ List.mem_cons_self), postB_ok iq_predictor_2_b9 e1 e2 sc0 e3⟩)
  by_cases c64 : x.toInt ≤ 9
  · exact stp_oneR (u := [x.toInt, y.toInt, z.toInt, t.toInt]) (K := kC366) (aC432 366 kC366 mC_predictor rfl rfl) hI hP hD ip_predictor_2_k3 (SB.cons0 (by omega) (by omega) (SB.int0 (SB.int0 (SB.int0 SB.nil0)))) (fun mu hmu => argsI ha [x, y, z, t] 23 mu hmu) rfl (fun mu w r _ _ hr => prI (by omega) hr) (fun mu w ws' e1 e2 e3 => ⟨iC2, (List.mem_cons_of_mem _ List.mem_cons_self), postB_ok iq_predictor_2_k3 e1 e2 sc0 e3⟩)
  by_cases c65 : x.toInt ≤ 15
  · by_cases c49 : y.toInt ≤ 0
    · exact stp_oneR (u := [x.toInt, y.toInt, z.toInt, t.toInt]) (K := kC368) (aC432 368 kC368 mC_predictor rfl rfl) hI hP hD ip_predictor_2_cn (SB.int0 (SB.cons0 (by have := y.le_toInt; omega) (by omega) (SB.int0 (SB.int0 SB.nil0)))) (fun mu hmu => argsI ha [x, y, z, t] 23 mu hmu) rfl (fun mu w r _ _ hr => prI (by omega) hr) (fun mu w ws' e1 e2 e3 => ⟨iC2, (List.mem_cons_of_mem _ List.mem_cons_self), postB_ok iq_predictor_2_cn e1 e2 sc0 e3⟩)
    by_cases c50 : 5 ≤ y.toInt
    · exact stp_oneR (u := [x.toInt, y.toInt, z.toInt, t.toInt]) (K := kC369) (aC432 369 kC369 mC_predictor rfl rfl) hI hP hD ip_predictor_2_c5 (SB.int0 (SB.cons0 (by omega) (by have := y.toInt_lt; omega) (SB.int0 (SB.int0 SB.nil0)))) (fun mu hmu => argsI ha [x, y, z, t] 23 mu hmu) rfl (fun mu w r _ _ hr => prI (by omega) hr) (fun mu w ws' e1 e2 e3 => ⟨iC2, (List.mem_cons_of_mem _ List.mem_cons_self), postB_ok iq_predictor_2_c5 e1 e2 sc0 e3⟩)
    by_cases c51 : t.toInt ≤ 0
    · exact stp_oneR (u := [x.toInt, y.toInt, z.toInt, t.toInt]) (K := kC370) (aC432 370 kC370 mC_predictor rfl rfl) hI hP hD ip_predictor_2_wn (SB.int0 (SB.int0 (SB.int0 (SB.cons0 (by have := t.le_toInt; omega) (by omega) SB.nil0)))) (fun mu hmu => argsI ha [x, y, z, t] 23 mu hmu) rfl (fun mu w r _ _ hr => prI (by omega) hr) (fun mu w ws' e1 e2 e3 => ⟨iC2, (List.mem_cons_of_mem _ List.mem_cons_self), postB_ok iq_predictor_2_wn e1 e2 sc0 e3⟩)
    by_cases c52 : 65 ≤ t.toInt
    · exact stp_oneR (u := [x.toInt, y.toInt, z.toInt, t.toInt]) (K := kC371) (aC432 371 kC371 mC_predictor rfl rfl) hI hP hD ip_predictor_2_w65 (SB.int0 (SB.int0 (SB.int0 (SB.cons0 (by omega) (by have := t.toInt_lt; omega) SB.nil0)))) (fun mu hmu => argsI ha [x, y, z, t] 23 mu hmu) rfl (fun mu w r _ _ hr => prI (by omega) hr) (fun mu w ws' e1 e2 e3 => ⟨iC2, (List.mem_cons_of_mem _ List.mem_cons_self), postB_ok iq_predictor_2_w65 e1 e2 sc0 e3⟩)
    by_cases c53 : z.toInt ≤ 0
    · exact stp_oneR (u := [x.toInt, y.toInt, z.toInt, t.toInt]) (K := kC372) (aC432 372 kC372 mC_predictor rfl rfl) hI hP hD ip_predictor_2_bn (SB.int0 (SB.int0 (SB.cons0 (by have := z.le_toInt; omega) (by omega) (SB.int0 SB.nil0)))) (fun mu hmu => argsI ha [x, y, z, t] 23 mu hmu) rfl (fun mu w r _ _ hr => prI (by omega) hr) (fun mu w ws' e1 e2 e3 => ⟨iC2, (List.mem_cons_of_mem _ List.mem_cons_self), postB_ok iq_predictor_2_bn e1 e2 sc0 e3⟩)
    by_cases c54 : z.toInt ≤ 1
    · by_cases c37 : y.toInt ≤ 1
      · exact stp_oneR (u := [x.toInt, t.toInt]) (K := kC398) (aC432 398 kC398 mC_predictor rfl rfl) hI hP hD ip_predictor_2_10_1_1 (SB.cons0 (by omega) (by omega) (SB.cons0 (by omega) (by omega) SB.nil0)) (fun mu hmu => argsV ha x y z t 1 1 (by omega) (by omega) 23 mu hmu) rfl (fun mu w r f s hr => prV 1 1 (by omega) (by omega) (by decide +kernel) (by decide +kernel) (by omega) f s hr) (fun mu w ws' e1 e2 e3 => ⟨iC2, (List.mem_cons_of_mem _ List.mem_cons_self), postB_ok iq_predictor_2_10_1_1 e1 e2 sc0 e3⟩)
      by_cases c38 : y.toInt ≤ 2
      · exact stp_oneR (u := [x.toInt, t.toInt]) (K := kC402) (aC432 402 kC402 mC_predictor rfl rfl) hI hP hD ip_predictor_2_10_2_1 (SB.cons0 (by omega) (by omega) (SB.cons0 (by omega) (by omega) SB.nil0)) (fun mu hmu => argsV ha x y z t 2 1 (by omega) (by omega) 23 mu hmu) rfl (fun mu w r f s hr => prV 2 1 (by omega) (by omega) (by decide +kernel) (by decide +kernel) (by omega) f s hr) (fun mu w ws' e1 e2 e3 => ⟨iC2, (List.mem_cons_of_mem _ List.mem_cons_self), postB_ok iq_predictor_2_10_2_1 e1 e2 sc0 e3⟩)
      by_cases c39 : y.toInt ≤ 3
      · exact stp_oneR (u := [x.toInt, t.toInt]) (K := kC406) (aC432 406 kC406 mC_predictor rfl rfl) hI hP hD ip_predictor_2_10_3_1 (SB.cons0 (by omega) (by omega) (SB.cons0 (by omega) (by omega) SB.nil0)) (fun mu hmu => argsV ha x y z t 3 1 (by omega) (by omega) 23 mu hmu) rfl (fun mu w r f s hr => prV 3 1 (by omega) (by omega) (by decide +kernel) (by decide +kernel) (by omega) f s hr) (fun mu w ws' e1 e2 e3 => ⟨iC2, (List.mem_cons_of_mem _ List.mem_cons_self), postB_ok iq_predictor_2_10_3_1 e1 e2 sc0 e3⟩)
      exact stp_oneR (u := [x.toInt, t.toInt]) (K := kC410) (aC432 410 kC410 mC_predictor rfl rfl) hI hP hD ip_predictor_2_10_4_1 (SB.cons0 (by omega) (by omega) (SB.cons0 (by omega) (by omega) SB.nil0)) (fun mu hmu => argsV ha x y z t 4 1 (by omega) (by omega) 23 mu hmu) rfl (fun mu w r f s hr => prV 4 1 (by omega) (by omega) (by decide +kernel) (by decide +kernel) (by omega) f s hr) (fun mu w ws' e1 e2 e3 => ⟨iC2, (List.mem_cons_of_mem _ List.mem_cons_self), postB_ok iq_predictor_2_10_4_1 e1 e2 sc0 e3⟩)
    by_cases c55 : z.toInt ≤ 2
    · by_cases c40 : y.toInt ≤ 1
      · exact stp_oneR (u := [x.toInt, t.toInt]) (K := kC399) (aC432 399 kC399 mC_predictor rfl rfl) hI hP hD ip_predictor_2_10_1_2 (SB.cons0 (by omega) (by omega) (SB.cons0 (by omega) (by omega) SB.nil0)) (fun mu hmu => argsV ha x y z t 1 2 (by omega) (by omega) 23 mu hmu) rfl (fun mu w r f s hr => prV 1 2 (by omega) (by omega) (by decide +kernel) (by decide +kernel) (by omega) f s hr) (fun mu w ws' e1 e2 e3 => ⟨iC2, (List.mem_cons_of_mem _ List.mem_cons_self), postB_ok iq_predictor_2_10_1_2 e1 e2 sc0 e3⟩)
      by_cases c41 : y.toInt ≤ 2
      · exact stp_oneR (u := [x.toInt, t.toInt]) (K := kC403) (aC432 403 kC403 mC_predictor rfl rfl) hI hP hD ip_predictor_2_10_2_2 (SB.cons0 (by omega) (by omega) (SB.cons0 (by omega) (by omega) SB.nil0)) (fun mu hmu => argsV ha x y z t 2 2 (by omega) (by omega) 23 mu hmu) rfl (fun mu w r f s hr => prV 2 2 (by omega) (by omega) (by decide +kernel) (by decide +kernel) (by omega) f s hr) (fun mu w ws' e1 e2 e3 => ⟨iC2, (List.mem_cons_of_mem _ List.mem_cons_self), postB_ok iq_predictor_2_10_2_2 e1 e2 sc0 e3⟩)
      by_cases c42 : y.toInt ≤ 3
      · exact stp_oneR (u := [x.toInt, t.toInt]) (K := kC407) (aC432 407 kC407 mC_predictor rfl rfl) hI hP hD ip_predictor_2_10_3_2 (SB.cons0 (by omega) (by omega) (SB.cons0 (by omega) (by omega) SB.nil0)) (fun mu hmu => argsV ha x y z t 3 2 (by omega) (by omega) 23 mu hmu) rfl (fun mu w r f s hr => prV 3 2 (by omega) (by omega) (by decide +kernel) (by decide +kernel) (by omega) f s hr) (fun mu w ws' e1 e2 e3 => ⟨iC2, (List.mem_cons_of_mem _ List.mem_cons_self), postB_ok iq_predictor_2_10_3_2 e1 e2 sc0 e3⟩)
      exact stp_oneR (u := [x.toInt, t.toInt]) (K := kC411) (aC432 411 kC411 mC_predictor rfl rfl) hI hP hD ip_predictor_2_10_4_2 (SB.cons0 (by omega) (by omega) (SB.cons0 (by omega) (by omega) SB.nil0)) (fun mu hmu => argsV ha x y z t 4 2 (by omega) (by omega) 23 mu hmu) rfl (fun mu w r f s hr => prV 4 2 (by omega) (by omega) (by decide +kernel) (by decide +kernel) (by omega) f s hr) (fun mu w ws' e1 e2 e3 => ⟨iC2, (List.mem_cons_of_mem _ List.mem_cons_self), postB_ok iq_predictor_2_10_4_2 e1 e2 sc0 e3⟩)
    by_cases c56 : z.toInt ≤ 3
    · exact stp_oneR (u := [x.toInt, y.toInt, z.toInt, t.toInt]) (K := kC373) (aC432 373 kC373 mC_predictor rfl rfl) hI hP hD ip_predictor_2_b3 (SB.int0 (SB.int0 (SB.cons0 (by omega) (by omega) (SB.int0 SB.nil0)))) (fun mu hmu => argsI ha [x, y, z, t] 23 mu hmu) rfl (fun mu w r _ _ hr => prI (by omega) hr) (fun mu w ws' e1 e2 e3 => ⟨iC2, (List.mem_cons_of_mem _ List.mem_cons_self), postB_ok iq_predictor_2_b3 e1 e2 sc0 e3⟩)
    by_cases c57 : z.toInt ≤ 4
    · by_cases c43 : y.toInt ≤ 1
      · exact stp_oneR (u := [x.toInt, t.toInt]) (K := kC400) (aC432 400 kC400 mC_predictor rfl rfl) hI hP hD ip_predictor_2_10_1_4 (SB.cons0 (by omega) (by omega) (SB.cons0 (by omega) (by omega) SB.nil0)) (fun mu hmu => argsV ha x y z t 1 4 (by omega) (by omega) 23 mu hmu) rfl (fun mu w r f s hr => prV 1 4 (by omega) (by omega) (by decide +kernel) (by decide +kernel) (by omega) f s hr) (fun mu w ws' e1 e2 e3 => ⟨iC2, (List.mem_cons_of_mem _ List.mem_cons_self), postB_ok iq_predictor_2_10_1_4 e1 e2 sc0 e3⟩)
      by_cases c44 : y.toInt ≤ 2
      · exact stp_oneR (u := [x.toInt, t.toInt]) (K := kC404) (aC432 404 kC404 mC_predictor rfl rfl) hI hP hD ip_predictor_2_10_2_4 (SB.cons0 (by omega) (by omega) (SB.cons0 (by omega) (by omega) SB.nil0)) (fun mu hmu => argsV ha x y z t 2 4 (by omega) (by omega) 23 mu hmu) rfl (fun mu w r f s hr => prV 2 4 (by omega) (by omega) (by decide +kernel) (by decide +kernel) (by omega) f s hr) (fun mu w ws' e1 e2 e3 => ⟨iC2, (List.mem_cons_of_mem _ List.mem_cons_self), postB_ok iq_predictor_2_10_2_4 e1 e2 sc0 e3⟩)
      by_cases c45 : y.toInt ≤ 3
      · exact stp_oneR (u := [x.toInt, t.toInt]) (K := kC408) (aC432 408 kC408 mC_predictor rfl rfl) hI hP hD ip_predictor_2_10_3_4 (SB.cons0 (by omega) (by omega) (SB.cons0 (by omega) (by omega) SB.nil0)) (fun mu hmu => argsV ha x y z t 3 4 (by omega) (by omega) 23 mu hmu) rfl (fun mu w r f s hr => prV 3 4 (by omega) (by omega) (by decide +kernel) (by decide +kernel) (by omega) f s hr) (fun mu w ws' e1 e2 e3 => ⟨iC2, (List.mem_cons_of_mem _ List.mem_cons_self), postB_ok iq_predictor_2_10_3_4 e1 e2 sc0 e3⟩)
      exact stp_oneR (u := [x.toInt, t.toInt]) (K := kC412) (aC432 412 kC412 mC_predictor rfl rfl) hI hP hD ip_predictor_2_10_4_4 (SB.cons0 (by omega) (by omega) (SB.cons0 (by omega) (by omega) SB.nil0)) (fun mu hmu => argsV ha x y z t 4 4 (by omega) (by omega) 23 mu hmu) rfl (fun mu w r f s hr => prV 4 4 (by omega) (by omega) (by decide +kernel) (by decide +kernel) (by omega) f s hr) (fun mu w ws' e1 e2 e3 => ⟨iC2, (List.mem_cons_of_mem _ List.mem_cons_self), postB_ok iq_predictor_2_10_4_4 e1 e2 sc0 e3⟩)
    by_cases c58 : z.toInt ≤ 7
    · exact stp_oneR (u := [x.toInt, y.toInt, z.toInt, t.toInt]) (K := kC374) (aC432 374 kC374 mC_predictor rfl rfl) hI hP hD ip_predictor_2_b5 (SB.int0 (SB.int0 (SB.cons0 (by omega) (by omega) (SB.int0 SB.nil0)))) (fun mu hmu => argsI ha [x, y, z, t] 23 mu hmu) rfl (fun mu w r _ _ hr => prI (by omega) hr) (fun mu w ws' e1 e2 e3 => ⟨iC2, (List.mem_cons_of_mem _ List.mem_cons_self), postB_ok iq_predictor_2_b5 e1 e2 sc0 e3⟩)
    by_cases c59 : z.toInt ≤ 8
    · by_cases c46 : y.toInt ≤ 1
      · exact stp_oneR (u := [x.toInt, t.toInt]) (K := kC401) (aC432 401 kC401 mC_predictor rfl rfl) hI hP hD ip_predictor_2_10_1_8 (SB.cons0 (by omega) (by omega) (SB.cons0 (by omega) (by omega) SB.nil0)) (fun mu hmu => argsV ha x y z t 1 8 (by omega) (by omega) 23 mu hmu) rfl (fun mu w r f s hr => prV 1 8 (by omega) (by omega) (by decide +kernel) (by decide +kernel) (by omega) f s hr) (fun mu w ws' e1 e2 e3 => ⟨iC2, (List.mem_cons_of_mem _ List.mem_cons_self), postB_ok iq_predictor_2_10_1_8 e1 e2 sc0 e3⟩)
      by_cases c47 : y.toInt ≤ 2
      · exact stp_oneR (u := [x.toInt, t.toInt]) (K := kC405) (aC432 405 kC405 mC_predictor rfl rfl) hI hP hD ip_predictor_2_10_2_8 (SB.cons0 (by omega) (by omega) (SB.cons0 (by omega) (by omega) SB.nil0)) (fun mu hmu => argsV ha x y z t 2 8 (by omega) (by omega) 23 mu hmu) rfl (fun mu w r f s hr => prV 2 8 (by omega) (by omega) (by decide +kernel) (by decide +kernel) (by omega) f s hr) (fun mu w ws' e1 e2 e3 => ⟨iC2, (List.mem_cons_of_mem _ List.mem_cons_self), postB_ok iq_predictor_2_10_2_8 e1 e2 sc0 e3⟩)
      by_cases c48 : y.toInt ≤ 3
      · exact stp_oneR (u := [x.toInt, t.toInt]) (K := kC409) (aC432 409 kC409 mC_predictor rfl rfl) hI hP hD ip_predictor_2_10_3_8 (SB.cons0 (by omega) (by omega) (SB.cons0 (by omega) (by omega) SB.nil0)) (fun mu hmu => argsV ha x y z t 3 8 (by omega) (by omega) 23 mu hmu) rfl (fun mu w r f s hr => prV 3 8 (by omega) (by omega) (by decide +kernel) (by decide +kernel) (by omega) f s hr) (fun mu w ws' e1 e2 e3 => ⟨iC2, (List.mem_cons_of_mem _ List.mem_cons_self), postB_ok iq_predictor_2_10_3_8 e1 e2 sc0 e3⟩)
      exact stp_oneR (u := [x.toInt, t.toInt]) (K := kC413) (aC432 413 kC413 mC_predictor rfl rfl) hI hP hD ip_predictor_2_10_4_8 (SB.cons0 (by omega) (by omega) (SB.cons0 (by omega) (by omega) SB.nil0)) (fun mu hmu => argsV ha x y z t 4 8 (by omega) (by omega) 23 mu hmu) rfl (fun mu w r f s hr => prV 4 8 (by omega) (by omega) (by decide +kernel) (by decide +kernel) (by omega) f s hr) (fun mu w ws' e1 e2 e3 => ⟨iC2, (List.mem_cons_of_mem _ List.mem_cons_self), postB_ok iq_predictor_2_10_4_8 e1 e2 sc0 e3⟩)
    exact stp_oneR (u := [x.toInt, y.toInt, z.toInt, t.toInt]) (K := kC375) (aC432 375 kC375 mC_predictor rfl rfl) hI hP hD ip_predictor_2_b9 (SB.int0 (SB.int0 (SB.cons0 (by omega) (by have := z.toInt_lt; omega) (SB.int0 SB.nil0)))) (fun mu hmu => argsI ha [x, y, z, t] 23 mu hmu) rfl (fun mu w r _ _ hr => prI (by omega) hr) (fun mu w ws' e1 e2 e3 => ⟨iC2, (List.mem_cons_of_mem _ List.mem_cons_self), postB_ok iq_predictor_2_b9 e1 e2 sc0 e3⟩)
  exact stp_oneR (u := [x.toInt, y.toInt, z.toInt, t.toInt]) (K := kC367) (aC432 367 kC367 mC_predictor rfl rfl) hI hP hD ip_predictor_2_k16 (SB.cons0 (by omega) (by have := x.toInt_lt; omega) (SB.int0 (SB.int0 (SB.int0 SB.nil0)))) (fun mu hmu => argsI ha [x, y, z, t] 23 mu hmu) rfl (fun mu w r _ _ hr => prI (by omega) hr) (fun mu w ws' e1 e2 e3 => ⟨iC2, (List.mem_cons_of_mem _ List.mem_cons_self), postB_ok iq_predictor_2_k16 e1 e2 sc0 e3⟩)
theorem sC_predictor {l : Launch} (x y z t : Int32) {D : va_G} {cy : Nat → ClassId} {ads : List Nat} {H : Heap} {a : Nat} (h : Lies D nCl cy iCs ads H) (ha : ads[0]? = some a) : Met l mC_predictor.1 (wsM TB mC_predictor) rmC (stP D cy gC ads H [.ref a, .int x, .int y, .int z, .int t]) (stQ D cy iCs ads H (rtP x y z t)) 0 0 (stA ads H.size) := by
  obtain ⟨T, hT, ws, hI, hP, hD⟩ := h
  rcases List.mem_cons.mp hT with rfl | hT
  · exact sC_predictor_3 x y z t hI hP hD ha
  obtain rfl := List.mem_singleton.mp hT
  exact sC_predictor_2 x y z t hI hP hD ha
abbrev mC_differs : MI := (⟨RX11, "differs", "()Z"⟩, prog_1_method_9_code, 1, (some .boolean), 0)
set_option maxRecDepth 100000 in
theorem sC_differs {l : Launch} {D : va_G} {cy : Nat → ClassId} {ads : List Nat} {H : Heap} {a : Nat} (h : Lies D nCl cy iCs ads H) (ha : ads[0]? = some a) : Met l mC_differs.1 (wsM TB mC_differs) rmC (stP D cy gC ads H [.ref a]) (stQ D cy iCs ads H rtI) 0 0 (stA ads H.size) := by
  obtain ⟨T, hT, ws, hI, hP, hD⟩ := h
  rcases List.mem_cons.mp hT with rfl | hT
  · refine stp_one (u := []) (K := kC302) (aC432 302 kC302 mC_differs rfl rfl) hI hP hD ip_differs_3 SB.nil0 (fun mu hmu => argsI ha [] 23 mu hmu) rfl (fun _ _ _ hr => rsI hr) ?_
    exact fun mu w ws' e1 e2 e3 => ⟨iC3, List.mem_cons_self, postB_ok iq_differs_3 e1 e2 sc0 e3⟩
  obtain rfl := List.mem_singleton.mp hT
  refine stp_one (u := []) (K := kC363) (aC432 363 kC363 mC_differs rfl rfl) hI hP hD ip_differs_2 SB.nil0 (fun mu hmu => argsI ha [] 23 mu hmu) rfl (fun _ _ _ hr => rsI hr) ?_
  exact fun mu w ws' e1 e2 e3 => ⟨iC2, (List.mem_cons_of_mem _ List.mem_cons_self), postB_ok iq_differs_2 e1 e2 sc0 e3⟩
abbrev mC_table : MI := (⟨RX11, "table", "(I)I"⟩, prog_1_method_7_code, 5, (some .int), 1)
set_option maxRecDepth 100000 in
theorem sC_table {l : Launch} (x : Int32) {D : va_G} {cy : Nat → ClassId} {ads : List Nat} {H : Heap} {a : Nat} (h : Lies D nCl cy iCs ads H) (ha : ads[0]? = some a) : Met l mC_table.1 (wsM TB mC_table) rmC (stP D cy gC ads H [.ref a, .int x]) (stQ D cy iCs ads H rtI) 0 0 (stA ads H.size) := by
  obtain ⟨T, hT, ws, hI, hP, hD⟩ := h
  rcases List.mem_cons.mp hT with rfl | hT
  · refine stp_one (u := [x.toInt]) (K := kC353) (aC432 353 kC353 mC_table rfl rfl) hI hP hD ip_table_3 (SB.int0 SB.nil0) (fun mu hmu => argsI ha [x] 23 mu hmu) rfl (fun _ _ _ hr => rsI hr) ?_
    exact fun mu w ws' e1 e2 e3 => ⟨iC3, List.mem_cons_self, postB_ok iq_table_3 e1 e2 sc0 e3⟩
  obtain rfl := List.mem_singleton.mp hT
  refine stp_one (u := [x.toInt]) (K := kC414) (aC432 414 kC414 mC_table rfl rfl) hI hP hD ip_table_2 (SB.int0 SB.nil0) (fun mu hmu => argsI ha [x] 23 mu hmu) rfl (fun _ _ _ hr => rsI hr) ?_
  exact fun mu w ws' e1 e2 e3 => ⟨iC2, (List.mem_cons_of_mem _ List.mem_cons_self), postB_ok iq_table_2 e1 e2 sc0 e3⟩
abbrev mC_add : MI := (⟨RX11, "add", "(B)V"⟩, prog_1_method_2_code, 2, none, 1)
set_option maxRecDepth 100000 in
theorem sC_add {l : Launch} (hl : l.stackTraces = false) (x : Int32) (hx0 : -128 ≤ x.toInt) (hx1 : x.toInt ≤ 127) {D : va_G} {cy : Nat → ClassId} {ads : List Nat} {H : Heap} {a : Nat} (h : Lies D nCl cy iCs ads H) (ha : ads[0]? = some a) : vx_Met l mC_add.1 (wsM TB mC_add) rmX (stP D cy gC ads H [.ref a, .int x]) (stQ D cy iCs ads H rtV) (stT D cy iCs ads H ["java/lang/UnsupportedOperationException"]) 1 6 (stA ads H.size) := by
  obtain ⟨T, hT, ws, hI, hP, hD⟩ := h
  rcases List.mem_cons.mp hT with rfl | hT
  · skip
    refine stpX_one (u := [x.toInt]) (K := kX7) (xX7 hl aC432) hI hP hD ip_add_3 (SB.cons0 hx0 hx1 SB.nil0) (fun mu hmu => argsI ha [x] 23 mu hmu) rfl (fun _ _ _ hr => rsV hr) (fun mu w ws' e1 e2 e3 => ⟨iC3, List.mem_cons_self, postB_ok iq_add_3 e1 e2 sc0 e3⟩) (fun q hq => ?_)
    have hq : q ∈ [((lX7.getD 0 default, ((pdCuts pX7).getD 0 default).2.1) : TX × Tm)] := hq
    obtain rfl := List.mem_singleton.mp hq
    exact ⟨by decide, rfl, fun v ws' e1 e2 => ⟨iC3, List.mem_cons_self, thrB_ok it_add_3_12 e1 e2⟩⟩
  obtain rfl := List.mem_singleton.mp hT
  refine stpX_one (u := [x.toInt]) (K := kX19) (xX19 hl aC432) hI hP hD ip_add_2 (SB.cons0 hx0 hx1 SB.nil0) (fun mu hmu => argsI ha [x] 23 mu hmu) rfl (fun _ _ _ hr => rsV hr) (fun mu w ws' e1 e2 e3 => ⟨iC2, (List.mem_cons_of_mem _ List.mem_cons_self), postB_ok iq_add_2 e1 e2 sc0 e3⟩) (fun q hq => ?_)
  have hq : q ∈ [((lX19.getD 0 default, ((pdCuts pX19).getD 0 default).2.1) : TX × Tm)] := hq
  obtain rfl := List.mem_singleton.mp hq
  exact ⟨by decide, rfl, fun v ws' e1 e2 => ⟨iC2, (List.mem_cons_of_mem _ List.mem_cons_self), thrB_ok it_add_2_12 e1 e2⟩⟩
abbrev mC_out : MI := (⟨RX11, "out", "(I)B"⟩, prog_1_method_5_code, 2, (some .byte), 1)
set_option maxRecDepth 100000 in
theorem sC_out {l : Launch} (hl : l.stackTraces = false) (x : Int32) {D : va_G} {cy : Nat → ClassId} {ads : List Nat} {H : Heap} {a : Nat} (h : Lies D nCl cy iCs ads H) (ha : ads[0]? = some a) : vx_Met l mC_out.1 (wsM TB mC_out) rmX (stP D cy gC ads H [.ref a, .int x]) (stQ D cy iCs ads H rtI) (stT D cy iCs ads H ["java/lang/ArrayIndexOutOfBoundsException"]) 1 6 (stA ads H.size) := by
  obtain ⟨T, hT, ws, hI, hP, hD⟩ := h
  rcases List.mem_cons.mp hT with rfl | hT
  · skip
    refine stpX_one (u := [x.toInt]) (K := kX8) (xX8 hl aC432) hI hP hD ip_out_3 (SB.int0 SB.nil0) (fun mu hmu => argsI ha [x] 23 mu hmu) rfl (fun _ _ _ hr => rsI hr) (fun mu w ws' e1 e2 e3 => ⟨iC3, List.mem_cons_self, postB_ok iq_out_3 e1 e2 sc0 e3⟩) (fun q hq => ?_)
    have hq : q ∈ [((lX8.getD 0 default, ((pdCuts pX8).getD 0 default).2.1) : TX × Tm)] := hq
    obtain rfl := List.mem_singleton.mp hq
    exact ⟨by decide, rfl, fun v ws' e1 e2 => ⟨iC3, List.mem_cons_self, thrB_ok it_out_3_21 e1 e2⟩⟩
  obtain rfl := List.mem_singleton.mp hT
  refine stpX_one (u := [x.toInt]) (K := kX20) (xX20 hl aC432) hI hP hD ip_out_2 (SB.int0 SB.nil0) (fun mu hmu => argsI ha [x] 23 mu hmu) rfl (fun _ _ _ hr => rsI hr) (fun mu w ws' e1 e2 e3 => ⟨iC2, (List.mem_cons_of_mem _ List.mem_cons_self), postB_ok iq_out_2 e1 e2 sc0 e3⟩) (fun q hq => ?_)
  have hq : q ∈ [((lX20.getD 0 default, ((pdCuts pX20).getD 0 default).2.1) : TX × Tm)] := hq
  obtain rfl := List.mem_singleton.mp hq
  exact ⟨by decide, rfl, fun v ws' e1 e2 => ⟨iC2, (List.mem_cons_of_mem _ List.mem_cons_self), thrB_ok it_out_2_21 e1 e2⟩⟩
abbrev mC_cell : MI := (⟨RX11, "cell", "(I)I"⟩, prog_1_method_11_code, 2, (some .int), 1)
set_option maxRecDepth 100000 in
theorem sC_cell {l : Launch} (hl : l.stackTraces = false) (x : Int32) {D : va_G} {cy : Nat → ClassId} {ads : List Nat} {H : Heap} {a : Nat} (h : Lies D nCl cy iCs ads H) (ha : ads[0]? = some a) : vx_Met l mC_cell.1 (wsM TB mC_cell) rmX (stP D cy gC ads H [.ref a, .int x]) (stQ D cy iCs ads H rtI) (stT D cy iCs ads H ["java/lang/ArrayIndexOutOfBoundsException"]) 1 6 (stA ads H.size) := by
  obtain ⟨T, hT, ws, hI, hP, hD⟩ := h
  rcases List.mem_cons.mp hT with rfl | hT
  · skip
    refine stpX_one (u := [x.toInt]) (K := kX9) (xX9 hl aC432) hI hP hD ip_cell_3 (SB.int0 SB.nil0) (fun mu hmu => argsI ha [x] 23 mu hmu) rfl (fun _ _ _ hr => rsI hr) (fun mu w ws' e1 e2 e3 => ⟨iC3, List.mem_cons_self, postB_ok iq_cell_3 e1 e2 sc0 e3⟩) (fun q hq => ?_)
    have hq : q ∈ [((lX9.getD 0 default, ((pdCuts pX9).getD 0 default).2.1) : TX × Tm)] := hq
    obtain rfl := List.mem_singleton.mp hq
    exact ⟨by decide, rfl, fun v ws' e1 e2 => ⟨iC3, List.mem_cons_self, thrB_ok it_cell_3_25 e1 e2⟩⟩
  obtain rfl := List.mem_singleton.mp hT
  refine stpX_one (u := [x.toInt]) (K := kX21) (xX21 hl aC432) hI hP hD ip_cell_2 (SB.int0 SB.nil0) (fun mu hmu => argsI ha [x] 23 mu hmu) rfl (fun _ _ _ hr => rsI hr) (fun mu w ws' e1 e2 e3 => ⟨iC2, (List.mem_cons_of_mem _ List.mem_cons_self), postB_ok iq_cell_2 e1 e2 sc0 e3⟩) (fun q hq => ?_)
  have hq : q ∈ [((lX21.getD 0 default, ((pdCuts pX21).getD 0 default).2.1) : TX × Tm)] := hq
  obtain rfl := List.mem_singleton.mp hq
  exact ⟨by decide, rfl, fun v ws' e1 e2 => ⟨iC2, (List.mem_cons_of_mem _ List.mem_cons_self), thrB_ok it_cell_2_25 e1 e2⟩⟩
abbrev mC_sum : MI := (⟨RX11, "sum", "(I)J"⟩, prog_1_method_8_code, 2, (some .long), 1)
set_option maxRecDepth 100000 in
theorem sC_sum {l : Launch} (hl : l.stackTraces = false) (x : Int32) {D : va_G} {cy : Nat → ClassId} {ads : List Nat} {H : Heap} {a : Nat} (h : Lies D nCl cy iCs ads H) (ha : ads[0]? = some a) : vx_Met l mC_sum.1 (wsM TB mC_sum) rmX (stP D cy gC ads H [.ref a, .int x]) (stQ D cy iCs ads H rtL) (stT D cy iCs ads H ["java/lang/IllegalArgumentException"]) 1 6 (stA ads H.size) := by
  obtain ⟨T, hT, ws, hI, hP, hD⟩ := h
  rcases List.mem_cons.mp hT with rfl | hT
  · skip
    refine stpX_one (u := [x.toInt]) (K := kX10) (xX10 hl aC432) hI hP hD ip_sum_3 (SB.int0 SB.nil0) (fun mu hmu => argsI ha [x] 23 mu hmu) rfl (fun _ _ _ hr => rsL hr) (fun mu w ws' e1 e2 e3 => ⟨iC3, List.mem_cons_self, postB_ok iq_sum_3 e1 e2 sc0 e3⟩) (fun q hq => ?_)
    have hq : q ∈ [((lX10.getD 0 default, ((pdCuts pX10).getD 0 default).2.1) : TX × Tm)] := hq
    obtain rfl := List.mem_singleton.mp hq
    exact ⟨by decide, rfl, fun v ws' e1 e2 => ⟨iC3, List.mem_cons_self, thrB_ok it_sum_3_9 e1 e2⟩⟩
  obtain rfl := List.mem_singleton.mp hT
  refine stpX_one (u := [x.toInt]) (K := kX22) (xX22 hl aC432) hI hP hD ip_sum_2 (SB.int0 SB.nil0) (fun mu hmu => argsI ha [x] 23 mu hmu) rfl (fun _ _ _ hr => rsL hr) (fun mu w ws' e1 e2 e3 => ⟨iC2, (List.mem_cons_of_mem _ List.mem_cons_self), postB_ok iq_sum_2 e1 e2 sc0 e3⟩) (fun q hq => ?_)
  have hq : q ∈ [((lX22.getD 0 default, ((pdCuts pX22).getD 0 default).2.1) : TX × Tm)] := hq
  obtain rfl := List.mem_singleton.mp hq
  exact ⟨by decide, rfl, fun v ws' e1 e2 => ⟨iC2, (List.mem_cons_of_mem _ List.mem_cons_self), thrB_ok it_sum_2_9 e1 e2⟩⟩
abbrev mC_unpack : MI := (⟨RX11, "unpack", "(I)I"⟩, prog_1_method_4_code, 3, (some .int), 1)
set_option maxRecDepth 100000 in
theorem sC_unpack {l : Launch} (hl : l.stackTraces = false) (x : Int32) {D : va_G} {cy : Nat → ClassId} {ads : List Nat} {H : Heap} {a : Nat} (h : Lies D nCl cy iCs ads H) (ha : ads[0]? = some a) : vx_Met l mC_unpack.1 (wsM TB mC_unpack) rmX (stP D cy gC ads H [.ref a, .int x]) (stQ D cy iCs ads H rtI) (stT D cy iCs ads H ["java/lang/IllegalArgumentException"]) 1 6 (stA ads H.size) := by
  obtain ⟨T, hT, ws, hI, hP, hD⟩ := h
  rcases List.mem_cons.mp hT with rfl | hT
  · skip
    refine stpX_one (u := [x.toInt]) (K := kX11) (xX11 hl aC432) hI hP hD ip_unpack_3 (SB.int0 SB.nil0) (fun mu hmu => argsI ha [x] 23 mu hmu) rfl (fun _ _ _ hr => rsI hr) (fun mu w ws' e1 e2 e3 => ⟨iC2, (List.mem_cons_of_mem _ List.mem_cons_self), postB_ok iq_unpack_3 e1 e2 sc0 e3⟩) (fun q hq => ?_)
    have hq : q ∈ [((lX11.getD 0 default, ((pdCuts pX11).getD 0 default).2.1) : TX × Tm)] := hq
    obtain rfl := List.mem_singleton.mp hq
    exact ⟨by decide, rfl, fun v ws' e1 e2 => ⟨iC3, List.mem_cons_self, thrB_ok it_unpack_3_7 e1 e2⟩⟩
  obtain rfl := List.mem_singleton.mp hT
  refine stpX_one (u := [x.toInt]) (K := kX23) (xX23 hl aC432) hI hP hD ip_unpack_2 (SB.int0 SB.nil0) (fun mu hmu => argsI ha [x] 23 mu hmu) rfl (fun _ _ _ hr => rsI hr) (fun mu w ws' e1 e2 e3 => ⟨iC3, List.mem_cons_self, postB_ok iq_unpack_2 e1 e2 sc0 e3⟩) (fun q hq => ?_)
  have hq : q ∈ [((lX23.getD 0 default, ((pdCuts pX23).getD 0 default).2.1) : TX × Tm)] := hq
  obtain rfl := List.mem_singleton.mp hq
  exact ⟨by decide, rfl, fun v ws' e1 e2 => ⟨iC2, (List.mem_cons_of_mem _ List.mem_cons_self), thrB_ok it_unpack_2_7 e1 e2⟩⟩
abbrev mC_pack : MI := (⟨RX11, "pack", "(II)I"⟩, prog_1_method_3_code, 3, (some .int), 2)
set_option maxRecDepth 100000 in
theorem sC_pack {l : Launch} (hl : l.stackTraces = false) (x y : Int32) {D : va_G} {cy : Nat → ClassId} {ads : List Nat} {H : Heap} {a : Nat} (h : Lies D nCl cy iCs ads H) (ha : ads[0]? = some a) : vx_Met l mC_pack.1 (wsM TB mC_pack) rmX (stP D cy gC ads H [.ref a, .int x, .int y]) (stQ D cy iCs ads H rtI) (stT D cy iCs ads H ["java/lang/IllegalArgumentException", "java/lang/UnsupportedOperationException"]) 1 6 (stA ads H.size) := by
  obtain ⟨T, hT, ws, hI, hP, hD⟩ := h
  rcases List.mem_cons.mp hT with rfl | hT
  · skip
    by_cases c0 : x.toInt ≤ -1
    · refine stpX_one (u := [x.toInt, y.toInt]) (K := kX1) (xX1 hl aC432) hI hP hD ip_packn_3 (SB.cons0 (by have := x.le_toInt; omega) (by omega) (SB.int0 SB.nil0)) (fun mu hmu => argsI ha [x, y] 23 mu hmu) rfl (fun _ _ _ hr => rsI hr) (fun mu w ws' e1 e2 e3 => ⟨iC3, List.mem_cons_self, postB_ok iq_packn_3 e1 e2 sc0 e3⟩) (fun q hq => ?_)
      have hq : q ∈ [((lX1.getD 0 default, ((pdCuts pX1).getD 0 default).2.1) : TX × Tm)] := hq
      obtain rfl := List.mem_singleton.mp hq
      exact ⟨by decide, rfl, fun v ws' e1 e2 => ⟨iC3, List.mem_cons_self, thrB_ok it_packn_3_7 e1 e2⟩⟩
    by_cases c1 : x.toInt ≤ 4
    · refine stpX_one (u := [x.toInt, y.toInt]) (K := kX0) (xX0 hl aC432) hI hP hD ip_pack_3 (SB.cons0 (by omega) (by omega) (SB.int0 SB.nil0)) (fun mu hmu => argsI ha [x, y] 23 mu hmu) rfl (fun _ _ _ hr => rsI hr) (fun mu w ws' e1 e2 e3 => ⟨iC2, (List.mem_cons_of_mem _ List.mem_cons_self), postB_ok iq_pack_3 e1 e2 sc0 e3⟩) (fun q hq => ?_)
      have hq : q ∈ [((lX0.getD 0 default, ((pdCuts pX0).getD 0 default).2.1) : TX × Tm), ((lX0.getD 1 default, ((pdCuts pX0).getD 1 default).2.1) : TX × Tm)] := hq
      rcases List.mem_cons.mp hq with rfl | hq
      · exact ⟨by decide, rfl, fun v ws' e1 e2 => ⟨iC3, List.mem_cons_self, thrB_ok it_pack_3_30 e1 e2⟩⟩
      obtain rfl := List.mem_singleton.mp hq
      exact ⟨by decide, rfl, fun v ws' e1 e2 => ⟨iC3, List.mem_cons_self, thrB_ok it_pack_3_61 e1 e2⟩⟩
    refine stpX_one (u := [x.toInt, y.toInt]) (K := kX2) (xX2 hl aC432) hI hP hD ip_packp_3 (SB.cons0 (by omega) (by have := x.toInt_lt; omega) (SB.int0 SB.nil0)) (fun mu hmu => argsI ha [x, y] 23 mu hmu) rfl (fun _ _ _ hr => rsI hr) (fun mu w ws' e1 e2 e3 => ⟨iC3, List.mem_cons_self, postB_ok iq_packp_3 e1 e2 sc0 e3⟩) (fun q hq => ?_)
    have hq : q ∈ [((lX2.getD 0 default, ((pdCuts pX2).getD 0 default).2.1) : TX × Tm)] := hq
    obtain rfl := List.mem_singleton.mp hq
    exact ⟨by decide, rfl, fun v ws' e1 e2 => ⟨iC3, List.mem_cons_self, thrB_ok it_packp_3_7 e1 e2⟩⟩
  obtain rfl := List.mem_singleton.mp hT
  by_cases c0 : x.toInt ≤ -1
  · refine stpX_one (u := [x.toInt, y.toInt]) (K := kX13) (xX13 hl aC432) hI hP hD ip_packn_2 (SB.cons0 (by have := x.le_toInt; omega) (by omega) (SB.int0 SB.nil0)) (fun mu hmu => argsI ha [x, y] 23 mu hmu) rfl (fun _ _ _ hr => rsI hr) (fun mu w ws' e1 e2 e3 => ⟨iC2, (List.mem_cons_of_mem _ List.mem_cons_self), postB_ok iq_packn_2 e1 e2 sc0 e3⟩) (fun q hq => ?_)
    have hq : q ∈ [((lX13.getD 0 default, ((pdCuts pX13).getD 0 default).2.1) : TX × Tm)] := hq
    obtain rfl := List.mem_singleton.mp hq
    exact ⟨by decide, rfl, fun v ws' e1 e2 => ⟨iC2, (List.mem_cons_of_mem _ List.mem_cons_self), thrB_ok it_packn_2_7 e1 e2⟩⟩
  by_cases c1 : x.toInt ≤ 4
  · refine stpX_one (u := [x.toInt, y.toInt]) (K := kX12) (xX12 hl aC432) hI hP hD ip_pack_2 (SB.cons0 (by omega) (by omega) (SB.int0 SB.nil0)) (fun mu hmu => argsI ha [x, y] 23 mu hmu) rfl (fun _ _ _ hr => rsI hr) (fun mu w ws' e1 e2 e3 => ⟨iC3, List.mem_cons_self, postB_ok iq_pack_2 e1 e2 sc0 e3⟩) (fun q hq => ?_)
    have hq : q ∈ [((lX12.getD 0 default, ((pdCuts pX12).getD 0 default).2.1) : TX × Tm), ((lX12.getD 1 default, ((pdCuts pX12).getD 1 default).2.1) : TX × Tm)] := hq
    rcases List.mem_cons.mp hq with rfl | hq
    · exact ⟨by decide, rfl, fun v ws' e1 e2 => ⟨iC2, (List.mem_cons_of_mem _ List.mem_cons_self), thrB_ok it_pack_2_30 e1 e2⟩⟩
    obtain rfl := List.mem_singleton.mp hq
    exact ⟨by decide, rfl, fun v ws' e1 e2 => ⟨iC2, (List.mem_cons_of_mem _ List.mem_cons_self), thrB_ok it_pack_2_61 e1 e2⟩⟩
  refine stpX_one (u := [x.toInt, y.toInt]) (K := kX14) (xX14 hl aC432) hI hP hD ip_packp_2 (SB.cons0 (by omega) (by have := x.toInt_lt; omega) (SB.int0 SB.nil0)) (fun mu hmu => argsI ha [x, y] 23 mu hmu) rfl (fun _ _ _ hr => rsI hr) (fun mu w ws' e1 e2 e3 => ⟨iC2, (List.mem_cons_of_mem _ List.mem_cons_self), postB_ok iq_packp_2 e1 e2 sc0 e3⟩) (fun q hq => ?_)
  have hq : q ∈ [((lX14.getD 0 default, ((pdCuts pX14).getD 0 default).2.1) : TX × Tm)] := hq
  obtain rfl := List.mem_singleton.mp hq
  exact ⟨by decide, rfl, fun v ws' e1 e2 => ⟨iC2, (List.mem_cons_of_mem _ List.mem_cons_self), thrB_ok it_packp_2_7 e1 e2⟩⟩
abbrev mC_chain : MI := (⟨RX11, "chain", "(I)I"⟩, prog_1_method_10_code, 3, (some .int), 1)
set_option maxRecDepth 100000 in
theorem sC_chain {l : Launch} (hl : l.stackTraces = false) (x : Int32) {D : va_G} {cy : Nat → ClassId} {ads : List Nat} {H : Heap} {a : Nat} (h : Lies D nCl cy iCs ads H) (ha : ads[0]? = some a) : vx_Met l mC_chain.1 (wsM TB mC_chain) rmX (stP D cy gC ads H [.ref a, .int x]) (stQ D cy iCs ads H rtI) (stT D cy iCs ads H ["java/lang/IllegalArgumentException", "java/lang/UnsupportedOperationException"]) 1 6 (stA ads H.size) := by
  obtain ⟨T, hT, ws, hI, hP, hD⟩ := h
  rcases List.mem_cons.mp hT with rfl | hT
  · skip
    by_cases c0 : x.toInt ≤ -2
    · refine stpX_one (u := [x.toInt]) (K := kX5) (xX5 hl aC432) hI hP hD ip_chainn_3 (SB.cons0 (by have := x.le_toInt; omega) (by omega) SB.nil0) (fun mu hmu => argsI ha [x] 23 mu hmu) rfl (fun _ _ _ hr => rsI hr) (fun mu w ws' e1 e2 e3 => ⟨iC3, List.mem_cons_self, postB_ok iq_chainn_3 e1 e2 sc0 e3⟩) (fun q hq => ?_)
      have hq : q ∈ [((lX5.getD 0 default, ((pdCuts pX5).getD 0 default).2.1) : TX × Tm)] := hq
      obtain rfl := List.mem_singleton.mp hq
      exact ⟨by decide, rfl, fun v ws' e1 e2 => ⟨iC3, List.mem_cons_self, thrB_ok it_chainn_3_12 e1 e2⟩⟩
    by_cases c1 : x.toInt ≤ -1
    · refine stpX_one (u := [x.toInt]) (K := kX4) (xX4 hl aC432) hI hP hD ip_chainm_3 (SB.cons0 (by omega) (by omega) SB.nil0) (fun mu hmu => argsI ha [x] 23 mu hmu) rfl (fun _ _ _ hr => rsI hr) (fun mu w ws' e1 e2 e3 => ⟨iC3, List.mem_cons_self, postB_ok iq_chainm_3 e1 e2 sc0 e3⟩) (fun q hq => ?_)
      cases hq
    by_cases c2 : x.toInt ≤ 4
    · refine stpX_one (u := [x.toInt]) (K := kX3) (xX3 hl aC432) hI hP hD ip_chain_3 (SB.cons0 (by omega) (by omega) SB.nil0) (fun mu hmu => argsI ha [x] 23 mu hmu) rfl (fun _ _ _ hr => rsI hr) (fun mu w ws' e1 e2 e3 => ⟨iC2, (List.mem_cons_of_mem _ List.mem_cons_self), postB_ok iq_chain_3 e1 e2 sc0 e3⟩) (fun q hq => ?_)
      have hq : q ∈ [((lX3.getD 0 default, ((pdCuts pX3).getD 0 default).2.1) : TX × Tm)] := hq
      obtain rfl := List.mem_singleton.mp hq
      exact ⟨by decide, rfl, fun v ws' e1 e2 => ⟨iC3, List.mem_cons_self, thrB_ok it_chain_3_66 e1 e2⟩⟩
    refine stpX_one (u := [x.toInt]) (K := kX6) (xX6 hl aC432) hI hP hD ip_chainp_3 (SB.cons0 (by omega) (by have := x.toInt_lt; omega) SB.nil0) (fun mu hmu => argsI ha [x] 23 mu hmu) rfl (fun _ _ _ hr => rsI hr) (fun mu w ws' e1 e2 e3 => ⟨iC3, List.mem_cons_self, postB_ok iq_chainp_3 e1 e2 sc0 e3⟩) (fun q hq => ?_)
    have hq : q ∈ [((lX6.getD 0 default, ((pdCuts pX6).getD 0 default).2.1) : TX × Tm)] := hq
    obtain rfl := List.mem_singleton.mp hq
    exact ⟨by decide, rfl, fun v ws' e1 e2 => ⟨iC3, List.mem_cons_self, thrB_ok it_chainp_3_12 e1 e2⟩⟩
  obtain rfl := List.mem_singleton.mp hT
  by_cases c0 : x.toInt ≤ -2
  · refine stpX_one (u := [x.toInt]) (K := kX17) (xX17 hl aC432) hI hP hD ip_chainn_2 (SB.cons0 (by have := x.le_toInt; omega) (by omega) SB.nil0) (fun mu hmu => argsI ha [x] 23 mu hmu) rfl (fun _ _ _ hr => rsI hr) (fun mu w ws' e1 e2 e3 => ⟨iC2, (List.mem_cons_of_mem _ List.mem_cons_self), postB_ok iq_chainn_2 e1 e2 sc0 e3⟩) (fun q hq => ?_)
    have hq : q ∈ [((lX17.getD 0 default, ((pdCuts pX17).getD 0 default).2.1) : TX × Tm)] := hq
    obtain rfl := List.mem_singleton.mp hq
    exact ⟨by decide, rfl, fun v ws' e1 e2 => ⟨iC2, (List.mem_cons_of_mem _ List.mem_cons_self), thrB_ok it_chainn_2_12 e1 e2⟩⟩
  by_cases c1 : x.toInt ≤ -1
  · refine stpX_one (u := [x.toInt]) (K := kX16) (xX16 hl aC432) hI hP hD ip_chainm_2 (SB.cons0 (by omega) (by omega) SB.nil0) (fun mu hmu => argsI ha [x] 23 mu hmu) rfl (fun _ _ _ hr => rsI hr) (fun mu w ws' e1 e2 e3 => ⟨iC2, (List.mem_cons_of_mem _ List.mem_cons_self), postB_ok iq_chainm_2 e1 e2 sc0 e3⟩) (fun q hq => ?_)
    cases hq
  by_cases c2 : x.toInt ≤ 4
  · refine stpX_one (u := [x.toInt]) (K := kX15) (xX15 hl aC432) hI hP hD ip_chain_2 (SB.cons0 (by omega) (by omega) SB.nil0) (fun mu hmu => argsI ha [x] 23 mu hmu) rfl (fun _ _ _ hr => rsI hr) (fun mu w ws' e1 e2 e3 => ⟨iC3, List.mem_cons_self, postB_ok iq_chain_2 e1 e2 sc0 e3⟩) (fun q hq => ?_)
    have hq : q ∈ [((lX15.getD 0 default, ((pdCuts pX15).getD 0 default).2.1) : TX × Tm)] := hq
    obtain rfl := List.mem_singleton.mp hq
    exact ⟨by decide, rfl, fun v ws' e1 e2 => ⟨iC2, (List.mem_cons_of_mem _ List.mem_cons_self), thrB_ok it_chain_2_66 e1 e2⟩⟩
  refine stpX_one (u := [x.toInt]) (K := kX18) (xX18 hl aC432) hI hP hD ip_chainp_2 (SB.cons0 (by omega) (by have := x.toInt_lt; omega) SB.nil0) (fun mu hmu => argsI ha [x] 23 mu hmu) rfl (fun _ _ _ hr => rsI hr) (fun mu w ws' e1 e2 e3 => ⟨iC2, (List.mem_cons_of_mem _ List.mem_cons_self), postB_ok iq_chainp_2 e1 e2 sc0 e3⟩) (fun q hq => ?_)
  have hq : q ∈ [((lX18.getD 0 default, ((pdCuts pX18).getD 0 default).2.1) : TX × Tm)] := hq
  obtain rfl := List.mem_singleton.mp hq
  exact ⟨by decide, rfl, fun v ws' e1 e2 => ⟨iC2, (List.mem_cons_of_mem _ List.mem_cons_self), thrB_ok it_chainp_2_12 e1 e2⟩⟩
