/-! each method of class and reference as a step (by program) -/
def iMs : List IT := [iM0, iM2, iM10]
def iCs : List IT := [iC3, iC2]
theorem SB.nil0 : SB [] [] := ⟨rfl, fun i lo hi h => by simp at h⟩
theorem SB.cons0 {v : List Int} {b : Bnd} {x lo hi : Int} (h0 : lo ≤ x) (h1 : x ≤ hi) (h : SB v b) : SB (x :: v) ((lo, hi) :: b) := by
  refine ⟨by rw [List.length_cons, List.length_cons, h.1], fun i lo' hi' hi9 => ?_⟩
  cases i with
  | zero =>
    rw [List.getElem?_cons_zero] at hi9
    cases hi9
    exact ⟨x, rfl, h0, h1⟩
  | succ i =>
    rw [List.getElem?_cons_succ] at hi9 ⊢
    exact h.2 i lo' hi' hi9
theorem SB.int0 {v : List Int} {b : Bnd} {x : Int32} (h : SB v b) : SB (x.toInt :: v) (((-2147483648), 2147483647) :: b) := SB.cons0 (by have := x.le_toInt; omega) (by have := x.toInt_lt; omega) h
theorem rsI {ads : List Nat} {v : List Int} {e : LE} {r : Option Value} (h : RS ads v (some (some (.inr (.inl e)))) r) : rtI r := by
  cases r with
  | none => exact h.elim
  | some x =>
    obtain ⟨n, rfl, -⟩ := h
    exact ⟨n, rfl⟩
theorem rsL {ads : List Nat} {v : List Int} {e : Option LE} {r : Option Value} (h : RS ads v (some (some (.inr (.inr e)))) r) : rtL r := by
  cases r with
  | none => exact h.elim
  | some x =>
    obtain ⟨n, rfl, -⟩ := h
    exact ⟨n, rfl⟩
theorem rsV {ads : List Nat} {v : List Int} {r : Option Value} (h : RS ads v none r) : rtV r := by
  cases r with
  | none => rfl
  | some x => exact h.elim
theorem sc0 {v : List Int} : SC v [] := fun e he => by cases he
abbrev rmM : Room := { frames := 9, cells := 0, slots := 0, locals := 205 }
abbrev rmC : Room := { frames := 8, cells := 0, slots := 0, locals := 189 }
abbrev rmX : Room := { frames := 8, cells := 1, slots := 6, locals := 189 }

/-- one contract as a step: with what is known of the arguments -/
theorem stp_oneR {l : Launch} {G : List Nat → State → Prop} {mi : MI} {K : CK} {T : IT} {Ts : List IT} {D : va_G} {cy : Nat → ClassId} {ads : List Nat} {ws : va_W} {H : Heap} {xs : List Value} {b : Bnd} {as : List SV} {cs : List Cert} {u : List Int} {rt : Option Value → Prop} (hV : Valid l TB nCl G mi K) (hI : Inv cy T ads ws) (hP : va_P D nCl ws H) (hD : va_D (fun _ => True) ws)
    (hpre : preB T b as K cs = true) (hu : SB u b) (hxs : ∀ mu : List Int, mu.length = T.1.length → FS ads (mu ++ u) as xs) (hlen : K.2.2.2.2.2.length = T.2.2.length) (hrt : ∀ (mu w : List Int) (r : Option Value), FS ads mu K.2.1.2.2.1 xs → SC (mu ++ w) K.2.2.2.1 → RS ads (mu ++ w) K.2.2.2.2.1 r → rt r)
    (hpost : ∀ (mu w : List Int) (ws' : va_W), SX mu (K.2.1.1, K.2.1.2.1) → SX (mu ++ w) (K.2.1.1 ++ K.2.2.1, K.2.2.2.1) → HS cy ads (mu ++ w) ws K.2.2.2.2.2 ws' → ∃ T' ∈ Ts, Inv cy T' ads ws') :
    Met l mi.1 (wsM TB mi) (rmK K) (stP D cy G ads H xs) (stQ D cy Ts ads H rt) K.1.2.2.2.1 K.1.2.2.2.2 (stA ads H.size) := by
  obtain ⟨mu, m1, m2, m3⟩ := preB_ok hpre hI hu hxs
  have hads := m3.1
  have hl : ads.length = K.2.2.2.2.2.length := by
    obtain ⟨nu, -, hH⟩ := hI
    rw [hlen, ← hH.1, List.length_map, hH.2.1]
  refine (hV D cy mu ads ws xs H.size m1 m2 m3).imp (fun a U h => ?_) (fun a st o t h hq => ?_) (fun q h => ?_)
  · obtain ⟨h0, h1, h2, h3⟩ := h
    exact ⟨h0, by rw [h1], by rw [h1]; exact hP, h2, hD, by rw [hads]; exact h3⟩
  · obtain ⟨⟨r, hr, w, bs, ws', y1, y2, y3, y4, y5, y6⟩, hF1, hF2⟩ := hq
    have hbs : bs = [] := by
      have e1 := congrArg List.length y3.1
      rw [List.length_map, List.length_append, y3.2.1] at e1
      exact List.length_eq_zero_iff.mp (by omega)
    subst hbs
    rw [List.append_nil] at y3 y2
    obtain ⟨T', hT', hI'⟩ := hpost mu w ws' m1 y1 y3
    refine ⟨⟨r, hr, hrt mu w r m2 y1.2 y2, T', hT', ws', hI', y4, y5.weaken fun _ _ _ _ => trivial⟩, hF1, fun q h1 h2 => hF2 q h1 fun z => h2 ?_⟩
    have := va_A.of.mp z
    rwa [hads] at this
  · have := va_A.of.mp h
    rwa [hads] at this
/-- how many bytes a row takes, or 0 -/
def prR (x y z t : Int) : Int := if (x = 0 ∨ (x = 2 ∧ z = 8) ∨ (10 ≤ x ∧ x ≤ 15)) ∧ 1 ≤ y ∧ y ≤ 4 ∧ 1 ≤ t ∧ t ≤ 64 ∧ (z = 1 ∨ z = 2 ∨ z = 4 ∨ z = 8) then (y * z * t + 7) / 8 else 0
def rtP (x y z t : Int32) (r : Option Value) : Prop := ∃ n : Int32, r = some (.int n) ∧ n.toInt = prR x.toInt y.toInt z.toInt t.toInt
theorem prI {x y z t : Int32} {ads : List Nat} {v : List Int} {r : Option Value} (hx : ¬ ((x.toInt = 0 ∨ (x.toInt = 2 ∧ z.toInt = 8) ∨ (10 ≤ x.toInt ∧ x.toInt ≤ 15)) ∧ 1 ≤ y.toInt ∧ y.toInt ≤ 4 ∧ 1 ≤ t.toInt ∧ t.toInt ≤ 64 ∧ (z.toInt = 1 ∨ z.toInt = 2 ∨ z.toInt = 4 ∨ z.toInt = 8))) (h : RS ads v (some (some (.inr (.inl (0, []))))) r) : rtP x y z t r := by
  cases r with
  | none => exact h.elim
  | some q =>
    obtain ⟨n, rfl, hn⟩ := h
    exact ⟨n, rfl, by rw [prR, if_neg hx]; exact hn.const_inv rfl⟩
theorem EV.two {v : List Int} {c k k' : Int} {i j : Nat} {x p q : Int} (h : EV v (c, [(k, i), (k', j)]) x) (hi : v[i]? = some p) (hj : v[j]? = some q) : x = c + (k * p + k' * q) := by
  obtain ⟨y, h1, rfl⟩ := h
  obtain ⟨p', y', g1, g2, rfl⟩ := evl_cons h1
  obtain ⟨q', y'', g3, g4, rfl⟩ := evl_cons g2
  cases g4
  rw [hi] at g1; cases g1
  rw [hj] at g3; cases g3
  show c + (k * p + (k' * q + 0)) = _
  omega
theorem prV {x y z t : Int32} {a0 a1 a2 a3 : SV} {x0 : Value} {ads : List Nat} {mu w : List Int} {j : Nat} {cs : List LE} {r : Option Value} (c b : Int) (hy : y.toInt = c) (hz : z.toInt = b) (h1 : ((0, [(-(c * b), 1), (8, j)]) : LE) ∈ cs) (h2 : ((7, [(c * b, 1), (-8, j)]) : LE) ∈ cs) (hx : (x.toInt = 0 ∨ (x.toInt = 2 ∧ b = 8) ∨ (10 ≤ x.toInt ∧ x.toInt ≤ 15)) ∧ 1 ≤ c ∧ c ≤ 4 ∧ 1 ≤ t.toInt ∧ t.toInt ≤ 64 ∧ (b = 1 ∨ b = 2 ∨ b = 4 ∨ b = 8))
    (f : FS ads mu [a0, a1, a2, a3, some (.inr (.inl (0, [(1, 1)])))] [x0, .int x, .int y, .int z, .int t]) (s : SC (mu ++ w) cs) (h : RS ads (mu ++ w) (some (some (.inr (.inl (0, [(1, j)]))))) r) : rtP x y z t r := by
  cases r with
  | none => exact h.elim
  | some q =>
    obtain ⟨n, rfl, hn⟩ := h
    obtain ⟨-, -, -, -, ⟨t', ht, g⟩, -⟩ := f
    cases ht
    have g := g.mono (w := w)
    obtain ⟨p0, h0, e0⟩ := hn
    obtain ⟨p1, y1, g1, g2, rfl⟩ := evl_cons h0
    cases g2
    obtain ⟨p2, h3, e3⟩ := g
    obtain ⟨p4, y4, g4, g5, rfl⟩ := evl_cons h3
    cases g5
    have n1 : n.toInt = p1 := by show n.toInt = p1; rw [e0]; show (0 : Int) + (1 * p1 + 0) = p1; omega
    have t1 : t.toInt = p4 := by rw [e3]; show (0 : Int) + (1 * p4 + 0) = p4; omega
    obtain ⟨u1, u2, u3⟩ := s _ h1
    obtain ⟨v1, v2, v3⟩ := s _ h2
    have w1 := u2.two g4 g1
    have w2 := v2.two g4 g1
    refine ⟨n, rfl, ?_⟩
    rw [prR, hy, hz, if_pos hx, n1, t1]
    rw [Int.neg_mul] at w1
    generalize c * b * p4 = Z at w1 w2 ⊢
    omega
theorem argsV {ads : List Nat} {a : Nat} (ha : ads[0]? = some a) (x y z t : Int32) (c b : Int) (hy : y.toInt = c) (hz : z.toInt = b) (n : Nat) (mu : List Int) (hn : mu.length = n) : FS ads (mu ++ [x.toInt, t.toInt]) [some (.inl 0), some (.inr (.inl (0, [(1, n)]))), some (.inr (.inl (c, []))), some (.inr (.inl (b, []))), some (.inr (.inl (0, [(1, n + 1)])))] [.ref a, .int x, .int y, .int z, .int t] := by
  subst hn
  have e0 : (mu ++ [x.toInt, t.toInt])[mu.length]? = some x.toInt := by simp
  have e1 : (mu ++ [x.toInt, t.toInt])[mu.length + 1]? = some t.toInt := by simp
  exact ⟨⟨a, ha, rfl⟩, ⟨x, rfl, EV.atom e0⟩, ⟨y, rfl, ⟨0, rfl, by rw [hy]; show c = c + 0; omega⟩⟩, ⟨z, rfl, ⟨0, rfl, by rw [hz]; show b = b + 0; omega⟩⟩, ⟨t, rfl, EV.atom e1⟩, trivial⟩

abbrev mM_table : MI := (⟨RX12, "table", "(I)I"⟩, prog_14_method_76_code, 3, (some .int), 1)
set_option maxRecDepth 100000 in
theorem sM_table {l : Launch} (x : Int32) {D : va_G} {cy : Nat → ClassId} {ads : List Nat} {H : Heap} {a : Nat} (h : Lies D nCl cy iMs ads H) (ha : ads[0]? = some a) : Met l mM_table.1 (wsM TB mM_table) rmM (stP D cy gM ads H [.ref a, .int x]) (stQ D cy iMs ads H rtI) 0 0 (stA ads H.size) := by
  obtain ⟨T, hT, ws, hI, hP, hD⟩ := h
  rcases List.mem_cons.mp hT with rfl | hT
  · refine stp_one (u := [x.toInt]) (K := kM106) (aM213 106 kM106 mM_table rfl rfl) hI hP hD jp_table_0 (SB.int0 SB.nil0) (fun mu hmu => argsI ha [x] 22 mu hmu) rfl (fun _ _ _ hr => rsI hr) ?_
    exact fun mu w ws' e1 e2 e3 => ⟨iM0, List.mem_cons_self, postB_ok jq_table_0 e1 e2 sc0 e3⟩
  rcases List.mem_cons.mp hT with rfl | hT
  · skip
    refine stp_one (u := [x.toInt]) (K := kM107) (aM213 107 kM107 mM_table rfl rfl) hI hP hD jp_table_2 (SB.int0 SB.nil0) (fun mu hmu => argsI ha [x] 22 mu hmu) rfl (fun _ _ _ hr => rsI hr) ?_
    exact fun mu w ws' e1 e2 e3 => ⟨iM2, (List.mem_cons_of_mem _ List.mem_cons_self), postB_ok jq_table_2 e1 e2 sc0 e3⟩
  obtain rfl := List.mem_singleton.mp hT
  refine stp_one (u := [x.toInt]) (K := kM108) (aM213 108 kM108 mM_table rfl rfl) hI hP hD jp_table_10 (SB.int0 SB.nil0) (fun mu hmu => argsI ha [x] 22 mu hmu) rfl (fun _ _ _ hr => rsI hr) ?_
  exact fun mu w ws' e1 e2 e3 => ⟨iM10, (List.mem_cons_of_mem _ (List.mem_cons_of_mem _ List.mem_cons_self)), postB_ok jq_table_10 e1 e2 sc0 e3⟩
abbrev mM_add : MI := (⟨RX12, "add", "(B)V"⟩, prog_14_method_3_code, 2, none, 1)
set_option maxRecDepth 100000 in
theorem sM_add {l : Launch} (x : Int32) (hx0 : -128 ≤ x.toInt) (hx1 : x.toInt ≤ 127) {D : va_G} {cy : Nat → ClassId} {ads : List Nat} {H : Heap} {a : Nat} (h : Lies D nCl cy iMs ads H) (ha : ads[0]? = some a) : Met l mM_add.1 (wsM TB mM_add) rmM (stP D cy gM ads H [.ref a, .int x]) (stQ D cy iMs ads H rtV) 0 0 (stA ads H.size) := by
  obtain ⟨T, hT, ws, hI, hP, hD⟩ := h
  rcases List.mem_cons.mp hT with rfl | hT
  · refine stp_one (u := [x.toInt]) (K := kM100) (aM213 100 kM100 mM_add rfl rfl) hI hP hD jp_add_0 (SB.cons0 hx0 hx1 SB.nil0) (fun mu hmu => argsI ha [x] 22 mu hmu) rfl (fun _ _ _ hr => rsV hr) ?_
    exact fun mu w ws' e1 e2 e3 => ⟨iM0, List.mem_cons_self, postB_ok jq_add_0 e1 e2 sc0 e3⟩
  rcases List.mem_cons.mp hT with rfl | hT
  · skip
    refine stp_one (u := [x.toInt]) (K := kM101) (aM213 101 kM101 mM_add rfl rfl) hI hP hD jp_add_2 (SB.cons0 hx0 hx1 SB.nil0) (fun mu hmu => argsI ha [x] 22 mu hmu) rfl (fun _ _ _ hr => rsV hr) ?_
    exact fun mu w ws' e1 e2 e3 => ⟨iM2, (List.mem_cons_of_mem _ List.mem_cons_self), postB_ok jq_add_2 e1 e2 sc0 e3⟩
  obtain rfl := List.mem_singleton.mp hT
  refine stp_one (u := [x.toInt]) (K := kM102) (aM213 102 kM102 mM_add rfl rfl) hI hP hD jp_add_10 (SB.cons0 hx0 hx1 SB.nil0) (fun mu hmu => argsI ha [x] 22 mu hmu) rfl (fun _ _ _ hr => rsV hr) ?_
  exact fun mu w ws' e1 e2 e3 => ⟨iM10, (List.mem_cons_of_mem _ (List.mem_cons_of_mem _ List.mem_cons_self)), postB_ok jq_add_10 e1 e2 sc0 e3⟩
abbrev mM_pack : MI := (⟨RX12, "pack", "(II)I"⟩, prog_14_method_49_code, 3, (some .int), 2)
set_option maxRecDepth 100000 in
theorem sM_pack {l : Launch} (x y : Int32) {D : va_G} {cy : Nat → ClassId} {ads : List Nat} {H : Heap} {a : Nat} (h : Lies D nCl cy iMs ads H) (ha : ads[0]? = some a) : Met l mM_pack.1 (wsM TB mM_pack) rmM (stP D cy gM ads H [.ref a, .int x, .int y]) (stQ D cy iMs ads H rtI) 0 0 (stA ads H.size) := by
  obtain ⟨T, hT, ws, hI, hP, hD⟩ := h
  rcases List.mem_cons.mp hT with rfl | hT
  · refine stp_one (u := [x.toInt, y.toInt]) (K := kM90) (aM213 90 kM90 mM_pack rfl rfl) hI hP hD jp_pack_0 (SB.int0 (SB.int0 SB.nil0)) (fun mu hmu => argsI ha [x, y] 22 mu hmu) rfl (fun _ _ _ hr => rsI hr) ?_
    exact fun mu w ws' e1 e2 e3 => ⟨iM0, List.mem_cons_self, postB_ok jq_pack_0 e1 e2 sc0 e3⟩
  rcases List.mem_cons.mp hT with rfl | hT
  · skip
    refine stp_one (u := [x.toInt, y.toInt]) (K := kM92) (aM213 92 kM92 mM_pack rfl rfl) hI hP hD jp_pack_2 (SB.int0 (SB.int0 SB.nil0)) (fun mu hmu => argsI ha [x, y] 22 mu hmu) rfl (fun _ _ _ hr => rsI hr) ?_
    exact fun mu w ws' e1 e2 e3 => ⟨iM2, (List.mem_cons_of_mem _ List.mem_cons_self), postB_ok jq_pack_2 e1 e2 sc0 e3⟩
  obtain rfl := List.mem_singleton.mp hT
  refine stp_one (u := [x.toInt, y.toInt]) (K := kM94) (aM213 94 kM94 mM_pack rfl rfl) hI hP hD jp_pack_10 (SB.int0 (SB.int0 SB.nil0)) (fun mu hmu => argsI ha [x, y] 22 mu hmu) rfl (fun _ _ _ hr => rsI hr) ?_
  exact fun mu w ws' e1 e2 e3 => ⟨iM10, (List.mem_cons_of_mem _ (List.mem_cons_of_mem _ List.mem_cons_self)), postB_ok jq_pack_10 e1 e2 sc0 e3⟩
abbrev mM_unpack : MI := (⟨RX12, "unpack", "(I)I"⟩, prog_14_method_73_code, 2, (some .int), 1)
set_option maxRecDepth 100000 in
theorem sM_unpack {l : Launch} (x : Int32) {D : va_G} {cy : Nat → ClassId} {ads : List Nat} {H : Heap} {a : Nat} (h : Lies D nCl cy iMs ads H) (ha : ads[0]? = some a) : Met l mM_unpack.1 (wsM TB mM_unpack) rmM (stP D cy gM ads H [.ref a, .int x]) (stQ D cy iMs ads H rtI) 0 0 (stA ads H.size) := by
  obtain ⟨T, hT, ws, hI, hP, hD⟩ := h
  rcases List.mem_cons.mp hT with rfl | hT
  · refine stp_one (u := [x.toInt]) (K := kM97) (aM213 97 kM97 mM_unpack rfl rfl) hI hP hD jp_unpack_0 (SB.int0 SB.nil0) (fun mu hmu => argsI ha [x] 22 mu hmu) rfl (fun _ _ _ hr => rsI hr) ?_
    exact fun mu w ws' e1 e2 e3 => ⟨iM0, List.mem_cons_self, postB_ok jq_unpack_0 e1 e2 sc0 e3⟩
  rcases List.mem_cons.mp hT with rfl | hT
  · skip
    refine stp_one (u := [x.toInt]) (K := kM98) (aM213 98 kM98 mM_unpack rfl rfl) hI hP hD jp_unpack_2 (SB.int0 SB.nil0) (fun mu hmu => argsI ha [x] 22 mu hmu) rfl (fun _ _ _ hr => rsI hr) ?_
    exact fun mu w ws' e1 e2 e3 => ⟨iM2, (List.mem_cons_of_mem _ List.mem_cons_self), postB_ok jq_unpack_2 e1 e2 sc0 e3⟩
  obtain rfl := List.mem_singleton.mp hT
  refine stp_one (u := [x.toInt]) (K := kM99) (aM213 99 kM99 mM_unpack rfl rfl) hI hP hD jp_unpack_10 (SB.int0 SB.nil0) (fun mu hmu => argsI ha [x] 22 mu hmu) rfl (fun _ _ _ hr => rsI hr) ?_
  exact fun mu w ws' e1 e2 e3 => ⟨iM10, (List.mem_cons_of_mem _ (List.mem_cons_of_mem _ List.mem_cons_self)), postB_ok jq_unpack_10 e1 e2 sc0 e3⟩
abbrev mM_out : MI := (⟨RX12, "out", "(I)B"⟩, prog_14_method_74_code, 2, (some .byte), 1)
set_option maxRecDepth 100000 in
theorem sM_out {l : Launch} (x : Int32) {D : va_G} {cy : Nat → ClassId} {ads : List Nat} {H : Heap} {a : Nat} (h : Lies D nCl cy iMs ads H) (ha : ads[0]? = some a) : Met l mM_out.1 (wsM TB mM_out) rmM (stP D cy gM ads H [.ref a, .int x]) (stQ D cy iMs ads H rtI) 0 0 (stA ads H.size) := by
  obtain ⟨T, hT, ws, hI, hP, hD⟩ := h
  rcases List.mem_cons.mp hT with rfl | hT
  · refine stp_one (u := [x.toInt]) (K := kM103) (aM213 103 kM103 mM_out rfl rfl) hI hP hD jp_out_0 (SB.int0 SB.nil0) (fun mu hmu => argsI ha [x] 22 mu hmu) rfl (fun _ _ _ hr => rsI hr) ?_
    exact fun mu w ws' e1 e2 e3 => ⟨iM0, List.mem_cons_self, postB_ok jq_out_0 e1 e2 sc0 e3⟩
  rcases List.mem_cons.mp hT with rfl | hT
  · skip
    refine stp_one (u := [x.toInt]) (K := kM104) (aM213 104 kM104 mM_out rfl rfl) hI hP hD jp_out_2 (SB.int0 SB.nil0) (fun mu hmu => argsI ha [x] 22 mu hmu) rfl (fun _ _ _ hr => rsI hr) ?_
    exact fun mu w ws' e1 e2 e3 => ⟨iM2, (List.mem_cons_of_mem _ List.mem_cons_self), postB_ok jq_out_2 e1 e2 sc0 e3⟩
  obtain rfl := List.mem_singleton.mp hT
  refine stp_one (u := [x.toInt]) (K := kM105) (aM213 105 kM105 mM_out rfl rfl) hI hP hD jp_out_10 (SB.int0 SB.nil0) (fun mu hmu => argsI ha [x] 22 mu hmu) rfl (fun _ _ _ hr => rsI hr) ?_
  exact fun mu w ws' e1 e2 e3 => ⟨iM10, (List.mem_cons_of_mem _ (List.mem_cons_of_mem _ List.mem_cons_self)), postB_ok jq_out_10 e1 e2 sc0 e3⟩
abbrev mM_sum : MI := (⟨RX12, "sum", "(I)J"⟩, prog_14_method_77_code, 2, (some .long), 1)
set_option maxRecDepth 100000 in
theorem sM_sum {l : Launch} (x : Int32) {D : va_G} {cy : Nat → ClassId} {ads : List Nat} {H : Heap} {a : Nat} (h : Lies D nCl cy iMs ads H) (ha : ads[0]? = some a) : Met l mM_sum.1 (wsM TB mM_sum) rmM (stP D cy gM ads H [.ref a, .int x]) (stQ D cy iMs ads H rtL) 0 0 (stA ads H.size) := by
  obtain ⟨T, hT, ws, hI, hP, hD⟩ := h
  rcases List.mem_cons.mp hT with rfl | hT
  · refine stp_one (u := [x.toInt]) (K := kM109) (aM213 109 kM109 mM_sum rfl rfl) hI hP hD jp_sum_0 (SB.int0 SB.nil0) (fun mu hmu => argsI ha [x] 22 mu hmu) rfl (fun _ _ _ hr => rsL hr) ?_
    exact fun mu w ws' e1 e2 e3 => ⟨iM0, List.mem_cons_self, postB_ok jq_sum_0 e1 e2 sc0 e3⟩
  rcases List.mem_cons.mp hT with rfl | hT
  · skip
    refine stp_one (u := [x.toInt]) (K := kM110) (aM213 110 kM110 mM_sum rfl rfl) hI hP hD jp_sum_2 (SB.int0 SB.nil0) (fun mu hmu => argsI ha [x] 22 mu hmu) rfl (fun _ _ _ hr => rsL hr) ?_
    exact fun mu w ws' e1 e2 e3 => ⟨iM2, (List.mem_cons_of_mem _ List.mem_cons_self), postB_ok jq_sum_2 e1 e2 sc0 e3⟩
  obtain rfl := List.mem_singleton.mp hT
  refine stp_one (u := [x.toInt]) (K := kM111) (aM213 111 kM111 mM_sum rfl rfl) hI hP hD jp_sum_10 (SB.int0 SB.nil0) (fun mu hmu => argsI ha [x] 22 mu hmu) rfl (fun _ _ _ hr => rsL hr) ?_
  exact fun mu w ws' e1 e2 e3 => ⟨iM10, (List.mem_cons_of_mem _ (List.mem_cons_of_mem _ List.mem_cons_self)), postB_ok jq_sum_10 e1 e2 sc0 e3⟩
abbrev mM_differs : MI := (⟨RX12, "differs", "()Z"⟩, prog_14_method_78_code, 1, (some .boolean), 0)
set_option maxRecDepth 100000 in
theorem sM_differs {l : Launch} {D : va_G} {cy : Nat → ClassId} {ads : List Nat} {H : Heap} {a : Nat} (h : Lies D nCl cy iMs ads H) (ha : ads[0]? = some a) : Met l mM_differs.1 (wsM TB mM_differs) rmM (stP D cy gM ads H [.ref a]) (stQ D cy iMs ads H rtI) 0 0 (stA ads H.size) := by
  obtain ⟨T, hT, ws, hI, hP, hD⟩ := h
  rcases List.mem_cons.mp hT with rfl | hT
  · refine stp_one (u := []) (K := kM112) (aM213 112 kM112 mM_differs rfl rfl) hI hP hD jp_differs_0 SB.nil0 (fun mu hmu => argsI ha [] 22 mu hmu) rfl (fun _ _ _ hr => rsI hr) ?_
    exact fun mu w ws' e1 e2 e3 => ⟨iM0, List.mem_cons_self, postB_ok jq_differs_0 e1 e2 sc0 e3⟩
  rcases List.mem_cons.mp hT with rfl | hT
  · skip
    refine stp_one (u := []) (K := kM113) (aM213 113 kM113 mM_differs rfl rfl) hI hP hD jp_differs_2 SB.nil0 (fun mu hmu => argsI ha [] 22 mu hmu) rfl (fun _ _ _ hr => rsI hr) ?_
    exact fun mu w ws' e1 e2 e3 => ⟨iM2, (List.mem_cons_of_mem _ List.mem_cons_self), postB_ok jq_differs_2 e1 e2 sc0 e3⟩
  obtain rfl := List.mem_singleton.mp hT
  refine stp_one (u := []) (K := kM114) (aM213 114 kM114 mM_differs rfl rfl) hI hP hD jp_differs_10 SB.nil0 (fun mu hmu => argsI ha [] 22 mu hmu) rfl (fun _ _ _ hr => rsI hr) ?_
  exact fun mu w ws' e1 e2 e3 => ⟨iM10, (List.mem_cons_of_mem _ (List.mem_cons_of_mem _ List.mem_cons_self)), postB_ok jq_differs_10 e1 e2 sc0 e3⟩
abbrev mM_chain : MI := (⟨RX12, "chain", "(I)I"⟩, prog_14_method_50_code, 4, (some .int), 1)
set_option maxRecDepth 100000 in
theorem sM_chain {l : Launch} (x : Int32) {D : va_G} {cy : Nat → ClassId} {ads : List Nat} {H : Heap} {a : Nat} (h : Lies D nCl cy iMs ads H) (ha : ads[0]? = some a) : Met l mM_chain.1 (wsM TB mM_chain) rmM (stP D cy gM ads H [.ref a, .int x]) (stQ D cy iMs ads H rtI) 0 0 (stA ads H.size) := by
  obtain ⟨T, hT, ws, hI, hP, hD⟩ := h
  rcases List.mem_cons.mp hT with rfl | hT
  · refine stp_one (u := [x.toInt]) (K := kM91) (aM213 91 kM91 mM_chain rfl rfl) hI hP hD jp_chain_0 (SB.int0 SB.nil0) (fun mu hmu => argsI ha [x] 22 mu hmu) rfl (fun _ _ _ hr => rsI hr) ?_
    exact fun mu w ws' e1 e2 e3 => ⟨iM0, List.mem_cons_self, postB_ok jq_chain_0 e1 e2 sc0 e3⟩
  rcases List.mem_cons.mp hT with rfl | hT
  · skip
    refine stp_one (u := [x.toInt]) (K := kM93) (aM213 93 kM93 mM_chain rfl rfl) hI hP hD jp_chain_2 (SB.int0 SB.nil0) (fun mu hmu => argsI ha [x] 22 mu hmu) rfl (fun _ _ _ hr => rsI hr) ?_
    exact fun mu w ws' e1 e2 e3 => ⟨iM2, (List.mem_cons_of_mem _ List.mem_cons_self), postB_ok jq_chain_2 e1 e2 sc0 e3⟩
  obtain rfl := List.mem_singleton.mp hT
  refine stp_one (u := [x.toInt]) (K := kM95) (aM213 95 kM95 mM_chain rfl rfl) hI hP hD jp_chain_10 (SB.int0 SB.nil0) (fun mu hmu => argsI ha [x] 22 mu hmu) rfl (fun _ _ _ hr => rsI hr) ?_
  exact fun mu w ws' e1 e2 e3 => ⟨iM10, (List.mem_cons_of_mem _ (List.mem_cons_of_mem _ List.mem_cons_self)), postB_ok jq_chain_10 e1 e2 sc0 e3⟩
abbrev mM_cell : MI := (⟨RX12, "cell", "(I)I"⟩, prog_14_method_79_code, 2, (some .int), 1)
set_option maxRecDepth 100000 in
theorem sM_cell {l : Launch} (x : Int32) {D : va_G} {cy : Nat → ClassId} {ads : List Nat} {H : Heap} {a : Nat} (h : Lies D nCl cy iMs ads H) (ha : ads[0]? = some a) : Met l mM_cell.1 (wsM TB mM_cell) rmM (stP D cy gM ads H [.ref a, .int x]) (stQ D cy iMs ads H rtI) 0 0 (stA ads H.size) := by
  obtain ⟨T, hT, ws, hI, hP, hD⟩ := h
  rcases List.mem_cons.mp hT with rfl | hT
  · refine stp_one (u := [x.toInt]) (K := kM115) (aM213 115 kM115 mM_cell rfl rfl) hI hP hD jp_cell_0 (SB.int0 SB.nil0) (fun mu hmu => argsI ha [x] 22 mu hmu) rfl (fun _ _ _ hr => rsI hr) ?_
    exact fun mu w ws' e1 e2 e3 => ⟨iM0, List.mem_cons_self, postB_ok jq_cell_0 e1 e2 sc0 e3⟩
  rcases List.mem_cons.mp hT with rfl | hT
  · skip
    refine stp_one (u := [x.toInt]) (K := kM116) (aM213 116 kM116 mM_cell rfl rfl) hI hP hD jp_cell_2 (SB.int0 SB.nil0) (fun mu hmu => argsI ha [x] 22 mu hmu) rfl (fun _ _ _ hr => rsI hr) ?_
    exact fun mu w ws' e1 e2 e3 => ⟨iM2, (List.mem_cons_of_mem _ List.mem_cons_self), postB_ok jq_cell_2 e1 e2 sc0 e3⟩
  obtain rfl := List.mem_singleton.mp hT
  refine stp_one (u := [x.toInt]) (K := kM117) (aM213 117 kM117 mM_cell rfl rfl) hI hP hD jp_cell_10 (SB.int0 SB.nil0) (fun mu hmu => argsI ha [x] 22 mu hmu) rfl (fun _ _ _ hr => rsI hr) ?_
  exact fun mu w ws' e1 e2 e3 => ⟨iM10, (List.mem_cons_of_mem _ (List.mem_cons_of_mem _ List.mem_cons_self)), postB_ok jq_cell_10 e1 e2 sc0 e3⟩
abbrev mC_differs : MI := (⟨RX11, "differs", "()Z"⟩, prog_1_method_9_code, 1, (some .boolean), 0)
set_option maxRecDepth 100000 in
theorem sC_differs {l : Launch} {D : va_G} {cy : Nat → ClassId} {ads : List Nat} {H : Heap} {a : Nat} (h : Lies D nCl cy iCs ads H) (ha : ads[0]? = some a) : Met l mC_differs.1 (wsM TB mC_differs) rmC (stP D cy gC ads H [.ref a]) (stQ D cy iCs ads H rtI) 0 0 (stA ads H.size) := by
  obtain ⟨T, hT, ws, hI, hP, hD⟩ := h
  rcases List.mem_cons.mp hT with rfl | hT
  · refine stp_one (u := []) (K := kC302) (aC432 302 kC302 mC_differs rfl rfl) hI hP hD ip_differs_3 SB.nil0 (fun mu hmu => argsI ha [] 23 mu hmu) rfl (fun _ _ _ hr => rsI hr) ?_
    exact fun mu w ws' e1 e2 e3 => ⟨iC3, List.mem_cons_self, postB_ok iq_differs_3 e1 e2 sc0 e3⟩
  obtain rfl := List.mem_singleton.mp hT
  refine stp_one (u := []) (K := kC363) (aC432 363 kC363 mC_differs rfl rfl) hI hP hD ip_differs_2 SB.nil0 (fun mu hmu => argsI ha [] 23 mu hmu) rfl (fun _ _ _ hr => rsI hr) ?_
  exact fun mu w ws' e1 e2 e3 => ⟨iC2, (List.mem_cons_of_mem _ List.mem_cons_self), postB_ok iq_differs_2 e1 e2 sc0 e3⟩
abbrev mC_table : MI := (⟨RX11, "table", "(I)I"⟩, prog_1_method_7_code, 5, (some .int), 1)
set_option maxRecDepth 100000 in
theorem sC_table {l : Launch} (x : Int32) {D : va_G} {cy : Nat → ClassId} {ads : List Nat} {H : Heap} {a : Nat} (h : Lies D nCl cy iCs ads H) (ha : ads[0]? = some a) : Met l mC_table.1 (wsM TB mC_table) rmC (stP D cy gC ads H [.ref a, .int x]) (stQ D cy iCs ads H rtI) 0 0 (stA ads H.size) := by
  obtain ⟨T, hT, ws, hI, hP, hD⟩ := h
  rcases List.mem_cons.mp hT with rfl | hT
  · refine stp_one (u := [x.toInt]) (K := kC353) (aC432 353 kC353 mC_table rfl rfl) hI hP hD ip_table_3 (SB.int0 SB.nil0) (fun mu hmu => argsI ha [x] 23 mu hmu) rfl (fun _ _ _ hr => rsI hr) ?_
    exact fun mu w ws' e1 e2 e3 => ⟨iC3, List.mem_cons_self, postB_ok iq_table_3 e1 e2 sc0 e3⟩
  obtain rfl := List.mem_singleton.mp hT
  refine stp_one (u := [x.toInt]) (K := kC414) (aC432 414 kC414 mC_table rfl rfl) hI hP hD ip_table_2 (SB.int0 SB.nil0) (fun mu hmu => argsI ha [x] 23 mu hmu) rfl (fun _ _ _ hr => rsI hr) ?_
  exact fun mu w ws' e1 e2 e3 => ⟨iC2, (List.mem_cons_of_mem _ List.mem_cons_self), postB_ok iq_table_2 e1 e2 sc0 e3⟩
abbrev mC_add : MI := (⟨RX11, "add", "(B)V"⟩, prog_1_method_2_code, 2, none, 1)
set_option maxRecDepth 100000 in
theorem sC_add {l : Launch} (hl : l.stackTraces = false) (x : Int32) (hx0 : -128 ≤ x.toInt) (hx1 : x.toInt ≤ 127) {D : va_G} {cy : Nat → ClassId} {ads : List Nat} {H : Heap} {a : Nat} (h : Lies D nCl cy iCs ads H) (ha : ads[0]? = some a) : vx_Met l mC_add.1 (wsM TB mC_add) rmX (stP D cy gC ads H [.ref a, .int x]) (stQ D cy iCs ads H rtV) (stT D cy iCs ads H ["java/lang/UnsupportedOperationException"]) 1 6 (stA ads H.size) := by
  obtain ⟨T, hT, ws, hI, hP, hD⟩ := h
  rcases List.mem_cons.mp hT with rfl | hT
  · skip
    refine stpX_one (u := [x.toInt]) (K := kX7) (xX7 hl aC432) hI hP hD ip_add_3 (SB.cons0 hx0 hx1 SB.nil0) (fun mu hmu => argsI ha [x] 23 mu hmu) rfl (fun _ _ _ hr => rsV hr) (fun mu w ws' e1 e2 e3 => ⟨iC3, List.mem_cons_self, postB_ok iq_add_3 e1 e2 sc0 e3⟩) (fun q hq => ?_)
    have hq : q ∈ [((lX7.getD 0 default, ((pdCuts pX7).getD 0 default).2.1) : TX × Tm)] := hq
    obtain rfl := List.mem_singleton.mp hq
    exact ⟨by decide, rfl, fun v ws' e1 e2 => ⟨iC3, List.mem_cons_self, thrB_ok it_add_3_12 e1 e2⟩⟩
  obtain rfl := List.mem_singleton.mp hT
  refine stpX_one (u := [x.toInt]) (K := kX19) (xX19 hl aC432) hI hP hD ip_add_2 (SB.cons0 hx0 hx1 SB.nil0) (fun mu hmu => argsI ha [x] 23 mu hmu) rfl (fun _ _ _ hr => rsV hr) (fun mu w ws' e1 e2 e3 => ⟨iC2, (List.mem_cons_of_mem _ List.mem_cons_self), postB_ok iq_add_2 e1 e2 sc0 e3⟩) (fun q hq => ?_)
  have hq : q ∈ [((lX19.getD 0 default, ((pdCuts pX19).getD 0 default).2.1) : TX × Tm)] := hq
  obtain rfl := List.mem_singleton.mp hq
  exact ⟨by decide, rfl, fun v ws' e1 e2 => ⟨iC2, (List.mem_cons_of_mem _ List.mem_cons_self), thrB_ok it_add_2_12 e1 e2⟩⟩
abbrev mC_out : MI := (⟨RX11, "out", "(I)B"⟩, prog_1_method_5_code, 2, (some .byte), 1)
set_option maxRecDepth 100000 in
theorem sC_out {l : Launch} (hl : l.stackTraces = false) (x : Int32) {D : va_G} {cy : Nat → ClassId} {ads : List Nat} {H : Heap} {a : Nat} (h : Lies D nCl cy iCs ads H) (ha : ads[0]? = some a) : vx_Met l mC_out.1 (wsM TB mC_out) rmX (stP D cy gC ads H [.ref a, .int x]) (stQ D cy iCs ads H rtI) (stT D cy iCs ads H ["java/lang/ArrayIndexOutOfBoundsException"]) 1 6 (stA ads H.size) := by
  obtain ⟨T, hT, ws, hI, hP, hD⟩ := h
  rcases List.mem_cons.mp hT with rfl | hT
  · skip
    refine stpX_one (u := [x.toInt]) (K := kX8) (xX8 hl aC432) hI hP hD ip_out_3 (SB.int0 SB.nil0) (fun mu hmu => argsI ha [x] 23 mu hmu) rfl (fun _ _ _ hr => rsI hr) (fun mu w ws' e1 e2 e3 => ⟨iC3, List.mem_cons_self, postB_ok iq_out_3 e1 e2 sc0 e3⟩) (fun q hq => ?_)
    have hq : q ∈ [((lX8.getD 0 default, ((pdCuts pX8).getD 0 default).2.1) : TX × Tm)] := hq
    obtain rfl := List.mem_singleton.mp hq
    exact ⟨by decide, rfl, fun v ws' e1 e2 => ⟨iC3, List.mem_cons_self, thrB_ok it_out_3_21 e1 e2⟩⟩
  obtain rfl := List.mem_singleton.mp hT
  refine stpX_one (u := [x.toInt]) (K := kX20) (xX20 hl aC432) hI hP hD ip_out_2 (SB.int0 SB.nil0) (fun mu hmu => argsI ha [x] 23 mu hmu) rfl (fun _ _ _ hr => rsI hr) (fun mu w ws' e1 e2 e3 => ⟨iC2, (List.mem_cons_of_mem _ List.mem_cons_self), postB_ok iq_out_2 e1 e2 sc0 e3⟩) (fun q hq => ?_)
  have hq : q ∈ [((lX20.getD 0 default, ((pdCuts pX20).getD 0 default).2.1) : TX × Tm)] := hq
  obtain rfl := List.mem_singleton.mp hq
  exact ⟨by decide, rfl, fun v ws' e1 e2 => ⟨iC2, (List.mem_cons_of_mem _ List.mem_cons_self), thrB_ok it_out_2_21 e1 e2⟩⟩
abbrev mC_cell : MI := (⟨RX11, "cell", "(I)I"⟩, prog_1_method_11_code, 2, (some .int), 1)
set_option maxRecDepth 100000 in
theorem sC_cell {l : Launch} (hl : l.stackTraces = false) (x : Int32) {D : va_G} {cy : Nat → ClassId} {ads : List Nat} {H : Heap} {a : Nat} (h : Lies D nCl cy iCs ads H) (ha : ads[0]? = some a) : vx_Met l mC_cell.1 (wsM TB mC_cell) rmX (stP D cy gC ads H [.ref a, .int x]) (stQ D cy iCs ads H rtI) (stT D cy iCs ads H ["java/lang/ArrayIndexOutOfBoundsException"]) 1 6 (stA ads H.size) := by
  obtain ⟨T, hT, ws, hI, hP, hD⟩ := h
  rcases List.mem_cons.mp hT with rfl | hT
  · skip
    refine stpX_one (u := [x.toInt]) (K := kX9) (xX9 hl aC432) hI hP hD ip_cell_3 (SB.int0 SB.nil0) (fun mu hmu => argsI ha [x] 23 mu hmu) rfl (fun _ _ _ hr => rsI hr) (fun mu w ws' e1 e2 e3 => ⟨iC3, List.mem_cons_self, postB_ok iq_cell_3 e1 e2 sc0 e3⟩) (fun q hq => ?_)
    have hq : q ∈ [((lX9.getD 0 default, ((pdCuts pX9).getD 0 default).2.1) : TX × Tm)] := hq
    obtain rfl := List.mem_singleton.mp hq
    exact ⟨by decide, rfl, fun v ws' e1 e2 => ⟨iC3, List.mem_cons_self, thrB_ok it_cell_3_25 e1 e2⟩⟩
  obtain rfl := List.mem_singleton.mp hT
  refine stpX_one (u := [x.toInt]) (K := kX21) (xX21 hl aC432) hI hP hD ip_cell_2 (SB.int0 SB.nil0) (fun mu hmu => argsI ha [x] 23 mu hmu) rfl (fun _ _ _ hr => rsI hr) (fun mu w ws' e1 e2 e3 => ⟨iC2, (List.mem_cons_of_mem _ List.mem_cons_self), postB_ok iq_cell_2 e1 e2 sc0 e3⟩) (fun q hq => ?_)
  have hq : q ∈ [((lX21.getD 0 default, ((pdCuts pX21).getD 0 default).2.1) : TX × Tm)] := hq
  obtain rfl := List.mem_singleton.mp hq
  exact ⟨by decide, rfl, fun v ws' e1 e2 => ⟨iC2, (List.mem_cons_of_mem _ List.mem_cons_self), thrB_ok it_cell_2_25 e1 e2⟩⟩
abbrev mC_sum : MI := (⟨RX11, "sum", "(I)J"⟩, prog_1_method_8_code, 2, (some .long), 1)
set_option maxRecDepth 100000 in
theorem sC_sum {l : Launch} (hl : l.stackTraces = false) (x : Int32) {D : va_G} {cy : Nat → ClassId} {ads : List Nat} {H : Heap} {a : Nat} (h : Lies D nCl cy iCs ads H) (ha : ads[0]? = some a) : vx_Met l mC_sum.1 (wsM TB mC_sum) rmX (stP D cy gC ads H [.ref a, .int x]) (stQ D cy iCs ads H rtL) (stT D cy iCs ads H ["java/lang/IllegalArgumentException"]) 1 6 (stA ads H.size) := by
  obtain ⟨T, hT, ws, hI, hP, hD⟩ := h
  rcases List.mem_cons.mp hT with rfl | hT
  · skip
    refine stpX_one (u := [x.toInt]) (K := kX10) (xX10 hl aC432) hI hP hD ip_sum_3 (SB.int0 SB.nil0) (fun mu hmu => argsI ha [x] 23 mu hmu) rfl (fun _ _ _ hr => rsL hr) (fun mu w ws' e1 e2 e3 => ⟨iC3, List.mem_cons_self, postB_ok iq_sum_3 e1 e2 sc0 e3⟩) (fun q hq => ?_)
    have hq : q ∈ [((lX10.getD 0 default, ((pdCuts pX10).getD 0 default).2.1) : TX × Tm)] := hq
    obtain rfl := List.mem_singleton.mp hq
    exact ⟨by decide, rfl, fun v ws' e1 e2 => ⟨iC3, List.mem_cons_self, thrB_ok it_sum_3_9 e1 e2⟩⟩
  obtain rfl := List.mem_singleton.mp hT
  refine stpX_one (u := [x.toInt]) (K := kX22) (xX22 hl aC432) hI hP hD ip_sum_2 (SB.int0 SB.nil0) (fun mu hmu => argsI ha [x] 23 mu hmu) rfl (fun _ _ _ hr => rsL hr) (fun mu w ws' e1 e2 e3 => ⟨iC2, (List.mem_cons_of_mem _ List.mem_cons_self), postB_ok iq_sum_2 e1 e2 sc0 e3⟩) (fun q hq => ?_)
  have hq : q ∈ [((lX22.getD 0 default, ((pdCuts pX22).getD 0 default).2.1) : TX × Tm)] := hq
  obtain rfl := List.mem_singleton.mp hq
  exact ⟨by decide, rfl, fun v ws' e1 e2 => ⟨iC2, (List.mem_cons_of_mem _ List.mem_cons_self), thrB_ok it_sum_2_9 e1 e2⟩⟩
abbrev mC_unpack : MI := (⟨RX11, "unpack", "(I)I"⟩, prog_1_method_4_code, 3, (some .int), 1)
set_option maxRecDepth 100000 in
theorem sC_unpack {l : Launch} (hl : l.stackTraces = false) (x : Int32) {D : va_G} {cy : Nat → ClassId} {ads : List Nat} {H : Heap} {a : Nat} (h : Lies D nCl cy iCs ads H) (ha : ads[0]? = some a) : vx_Met l mC_unpack.1 (wsM TB mC_unpack) rmX (stP D cy gC ads H [.ref a, .int x]) (stQ D cy iCs ads H rtI) (stT D cy iCs ads H ["java/lang/IllegalArgumentException"]) 1 6 (stA ads H.size) := by
  obtain ⟨T, hT, ws, hI, hP, hD⟩ := h
  rcases List.mem_cons.mp hT with rfl | hT
  · skip
    refine stpX_one (u := [x.toInt]) (K := kX11) (xX11 hl aC432) hI hP hD ip_unpack_3 (SB.int0 SB.nil0) (fun mu hmu => argsI ha [x] 23 mu hmu) rfl (fun _ _ _ hr => rsI hr) (fun mu w ws' e1 e2 e3 => ⟨iC2, (List.mem_cons_of_mem _ List.mem_cons_self), postB_ok iq_unpack_3 e1 e2 sc0 e3⟩) (fun q hq => ?_)
    have hq : q ∈ [((lX11.getD 0 default, ((pdCuts pX11).getD 0 default).2.1) : TX × Tm)] := hq
    obtain rfl := List.mem_singleton.mp hq
    exact ⟨by decide, rfl, fun v ws' e1 e2 => ⟨iC3, List.mem_cons_self, thrB_ok it_unpack_3_7 e1 e2⟩⟩
  obtain rfl := List.mem_singleton.mp hT
  refine stpX_one (u := [x.toInt]) (K := kX23) (xX23 hl aC432) hI hP hD ip_unpack_2 (SB.int0 SB.nil0) (fun mu hmu => argsI ha [x] 23 mu hmu) rfl (fun _ _ _ hr => rsI hr) (fun mu w ws' e1 e2 e3 => ⟨iC3, List.mem_cons_self, postB_ok iq_unpack_2 e1 e2 sc0 e3⟩) (fun q hq => ?_)
  have hq : q ∈ [((lX23.getD 0 default, ((pdCuts pX23).getD 0 default).2.1) : TX × Tm)] := hq
  obtain rfl := List.mem_singleton.mp hq
  exact ⟨by decide, rfl, fun v ws' e1 e2 => ⟨iC2, (List.mem_cons_of_mem _ List.mem_cons_self), thrB_ok it_unpack_2_7 e1 e2⟩⟩
abbrev mC_pack : MI := (⟨RX11, "pack", "(II)I"⟩, prog_1_method_3_code, 3, (some .int), 2)
set_option maxRecDepth 100000 in
theorem sC_pack {l : Launch} (hl : l.stackTraces = false) (x y : Int32) {D : va_G} {cy : Nat → ClassId} {ads : List Nat} {H : Heap} {a : Nat} (h : Lies D nCl cy iCs ads H) (ha : ads[0]? = some a) : vx_Met l mC_pack.1 (wsM TB mC_pack) rmX (stP D cy gC ads H [.ref a, .int x, .int y]) (stQ D cy iCs ads H rtI) (stT D cy iCs ads H ["java/lang/IllegalArgumentException", "java/lang/UnsupportedOperationException"]) 1 6 (stA ads H.size) := by
  obtain ⟨T, hT, ws, hI, hP, hD⟩ := h
  rcases List.mem_cons.mp hT with rfl | hT
  · skip
    by_cases c0 : x.toInt ≤ -1
    · refine stpX_one (u := [x.toInt, y.toInt]) (K := kX1) (xX1 hl aC432) hI hP hD ip_packn_3 (SB.cons0 (by have := x.le_toInt; omega) (by omega) (SB.int0 SB.nil0)) (fun mu hmu => argsI ha [x, y] 23 mu hmu) rfl (fun _ _ _ hr => rsI hr) (fun mu w ws' e1 e2 e3 => ⟨iC3, List.mem_cons_self, postB_ok iq_packn_3 e1 e2 sc0 e3⟩) (fun q hq => ?_)
      have hq : q ∈ [((lX1.getD 0 default, ((pdCuts pX1).getD 0 default).2.1) : TX × Tm)] := hq
      obtain rfl := List.mem_singleton.mp hq
      exact ⟨by decide, rfl, fun v ws' e1 e2 => ⟨iC3, List.mem_cons_self, thrB_ok it_packn_3_7 e1 e2⟩⟩
    by_cases c1 : x.toInt ≤ 4
    · refine stpX_one (u := [x.toInt, y.toInt]) (K := kX0) (xX0 hl aC432) hI hP hD ip_pack_3 (SB.cons0 (by omega) (by omega) (SB.int0 SB.nil0)) (fun mu hmu => argsI ha [x, y] 23 mu hmu) rfl (fun _ _ _ hr => rsI hr) (fun mu w ws' e1 e2 e3 => ⟨iC2, (List.mem_cons_of_mem _ List.mem_cons_self), postB_ok iq_pack_3 e1 e2 sc0 e3⟩) (fun q hq => ?_)
      have hq : q ∈ [((lX0.getD 0 default, ((pdCuts pX0).getD 0 default).2.1) : TX × Tm), ((lX0.getD 1 default, ((pdCuts pX0).getD 1 default).2.1) : TX × Tm)] := hq
      rcases List.mem_cons.mp hq with rfl | hq
      · exact ⟨by decide, rfl, fun v ws' e1 e2 => ⟨iC3, List.mem_cons_self, thrB_ok it_pack_3_30 e1 e2⟩⟩
      obtain rfl := List.mem_singleton.mp hq
      exact ⟨by decide, rfl, fun v ws' e1 e2 => ⟨iC3, List.mem_cons_self, thrB_ok it_pack_3_61 e1 e2⟩⟩
    refine stpX_one (u := [x.toInt, y.toInt]) (K := kX2) (xX2 hl aC432) hI hP hD ip_packp_3 (SB.cons0 (by omega) (by have := x.toInt_lt; omega) (SB.int0 SB.nil0)) (fun mu hmu => argsI ha [x, y] 23 mu hmu) rfl (fun _ _ _ hr => rsI hr) (fun mu w ws' e1 e2 e3 => ⟨iC3, List.mem_cons_self, postB_ok iq_packp_3 e1 e2 sc0 e3⟩) (fun q hq => ?_)
    have hq : q ∈ [((lX2.getD 0 default, ((pdCuts pX2).getD 0 default).2.1) : TX × Tm)] := hq
    obtain rfl := List.mem_singleton.mp hq
    exact ⟨by decide, rfl, fun v ws' e1 e2 => ⟨iC3, List.mem_cons_self, thrB_ok it_packp_3_7 e1 e2⟩⟩
  obtain rfl := List.mem_singleton.mp hT
  by_cases c0 : x.toInt ≤ -1
  · refine stpX_one (u := [x.toInt, y.toInt]) (K := kX13) (xX13 hl aC432) hI hP hD ip_packn_2 (SB.cons0 (by have := x.le_toInt; omega) (by omega) (SB.int0 SB.nil0)) (fun mu hmu => argsI ha [x, y] 23 mu hmu) rfl (fun _ _ _ hr => rsI hr) (fun mu w ws' e1 e2 e3 => ⟨iC2, (List.mem_cons_of_mem _ List.mem_cons_self), postB_ok iq_packn_2 e1 e2 sc0 e3⟩) (fun q hq => ?_)
    have hq : q ∈ [((lX13.getD 0 default, ((pdCuts pX13).getD 0 default).2.1) : TX × Tm)] := hq
    obtain rfl := List.mem_singleton.mp hq
    exact ⟨by decide, rfl, fun v ws' e1 e2 => ⟨iC2, (List.mem_cons_of_mem _ List.mem_cons_self), thrB_ok it_packn_2_7 e1 e2⟩⟩
  by_cases c1 : x.toInt ≤ 4
  · refine stpX_one (u := [x.toInt, y.toInt]) (K := kX12) (xX12 hl aC432) hI hP hD ip_pack_2 (SB.cons0 (by omega) (by omega) (SB.int0 SB.nil0)) (fun mu hmu => argsI ha [x, y] 23 mu hmu) rfl (fun _ _ _ hr => rsI hr) (fun mu w ws' e1 e2 e3 => ⟨iC3, List.mem_cons_self, postB_ok iq_pack_2 e1 e2 sc0 e3⟩) (fun q hq => ?_)
    have hq : q ∈ [((lX12.getD 0 default, ((pdCuts pX12).getD 0 default).2.1) : TX × Tm), ((lX12.getD 1 default, ((pdCuts pX12).getD 1 default).2.1) : TX × Tm)] := hq
    rcases List.mem_cons.mp hq with rfl | hq
    · exact ⟨by decide, rfl, fun v ws' e1 e2 => ⟨iC2, (List.mem_cons_of_mem _ List.mem_cons_self), thrB_ok it_pack_2_30 e1 e2⟩⟩
    obtain rfl := List.mem_singleton.mp hq
    exact ⟨by decide, rfl, fun v ws' e1 e2 => ⟨iC2, (List.mem_cons_of_mem _ List.mem_cons_self), thrB_ok it_pack_2_61 e1 e2⟩⟩
  refine stpX_one (u := [x.toInt, y.toInt]) (K := kX14) (xX14 hl aC432) hI hP hD ip_packp_2 (SB.cons0 (by omega) (by have := x.toInt_lt; omega) (SB.int0 SB.nil0)) (fun mu hmu => argsI ha [x, y] 23 mu hmu) rfl (fun _ _ _ hr => rsI hr) (fun mu w ws' e1 e2 e3 => ⟨iC2, (List.mem_cons_of_mem _ List.mem_cons_self), postB_ok iq_packp_2 e1 e2 sc0 e3⟩) (fun q hq => ?_)
  have hq : q ∈ [((lX14.getD 0 default, ((pdCuts pX14).getD 0 default).2.1) : TX × Tm)] := hq
  obtain rfl := List.mem_singleton.mp hq
  exact ⟨by decide, rfl, fun v ws' e1 e2 => ⟨iC2, (List.mem_cons_of_mem _ List.mem_cons_self), thrB_ok it_packp_2_7 e1 e2⟩⟩
abbrev mC_chain : MI := (⟨RX11, "chain", "(I)I"⟩, prog_1_method_10_code, 3, (some .int), 1)
set_option maxRecDepth 100000 in
theorem sC_chain {l : Launch} (hl : l.stackTraces = false) (x : Int32) {D : va_G} {cy : Nat → ClassId} {ads : List Nat} {H : Heap} {a : Nat} (h : Lies D nCl cy iCs ads H) (ha : ads[0]? = some a) : vx_Met l mC_chain.1 (wsM TB mC_chain) rmX (stP D cy gC ads H [.ref a, .int x]) (stQ D cy iCs ads H rtI) (stT D cy iCs ads H ["java/lang/IllegalArgumentException", "java/lang/UnsupportedOperationException"]) 1 6 (stA ads H.size) := by
  obtain ⟨T, hT, ws, hI, hP, hD⟩ := h
  rcases List.mem_cons.mp hT with rfl | hT
  · skip
    by_cases c0 : x.toInt ≤ -2
    · refine stpX_one (u := [x.toInt]) (K := kX5) (xX5 hl aC432) hI hP hD ip_chainn_3 (SB.cons0 (by have := x.le_toInt; omega) (by omega) SB.nil0) (fun mu hmu => argsI ha [x] 23 mu hmu) rfl (fun _ _ _ hr => rsI hr) (fun mu w ws' e1 e2 e3 => ⟨iC3, List.mem_cons_self, postB_ok iq_chainn_3 e1 e2 sc0 e3⟩) (fun q hq => ?_)
      have hq : q ∈ [((lX5.getD 0 default, ((pdCuts pX5).getD 0 default).2.1) : TX × Tm)] := hq
      obtain rfl := List.mem_singleton.mp hq
      exact ⟨by decide, rfl, fun v ws' e1 e2 => ⟨iC3, List.mem_cons_self, thrB_ok it_chainn_3_12 e1 e2⟩⟩
    by_cases c1 : x.toInt ≤ -1
    · refine stpX_one (u := [x.toInt]) (K := kX4) (xX4 hl aC432) hI hP hD ip_chainm_3 (SB.cons0 (by omega) (by omega) SB.nil0) (fun mu hmu => argsI ha [x] 23 mu hmu) rfl (fun _ _ _ hr => rsI hr) (fun mu w ws' e1 e2 e3 => ⟨iC3, List.mem_cons_self, postB_ok iq_chainm_3 e1 e2 sc0 e3⟩) (fun q hq => ?_)
      cases hq
    by_cases c2 : x.toInt ≤ 4
    · refine stpX_one (u := [x.toInt]) (K := kX3) (xX3 hl aC432) hI hP hD ip_chain_3 (SB.cons0 (by omega) (by omega) SB.nil0) (fun mu hmu => argsI ha [x] 23 mu hmu) rfl (fun _ _ _ hr => rsI hr) (fun mu w ws' e1 e2 e3 => ⟨iC2, (List.mem_cons_of_mem _ List.mem_cons_self), postB_ok iq_chain_3 e1 e2 sc0 e3⟩) (fun q hq => ?_)
      have hq : q ∈ [((lX3.getD 0 default, ((pdCuts pX3).getD 0 default).2.1) : TX × Tm)] := hq
      obtain rfl := List.mem_singleton.mp hq
      exact ⟨by decide, rfl, fun v ws' e1 e2 => ⟨iC3, List.mem_cons_self, thrB_ok it_chain_3_66 e1 e2⟩⟩
    refine stpX_one (u := [x.toInt]) (K := kX6) (xX6 hl aC432) hI hP hD ip_chainp_3 (SB.cons0 (by omega) (by have := x.toInt_lt; omega) SB.nil0) (fun mu hmu => argsI ha [x] 23 mu hmu) rfl (fun _ _ _ hr => rsI hr) (fun mu w ws' e1 e2 e3 => ⟨iC3, List.mem_cons_self, postB_ok iq_chainp_3 e1 e2 sc0 e3⟩) (fun q hq => ?_)
    have hq : q ∈ [((lX6.getD 0 default, ((pdCuts pX6).getD 0 default).2.1) : TX × Tm)] := hq
    obtain rfl := List.mem_singleton.mp hq
    exact ⟨by decide, rfl, fun v ws' e1 e2 => ⟨iC3, List.mem_cons_self, thrB_ok it_chainp_3_12 e1 e2⟩⟩
  obtain rfl := List.mem_singleton.mp hT
  by_cases c0 : x.toInt ≤ -2
  · refine stpX_one (u := [x.toInt]) (K := kX17) (xX17 hl aC432) hI hP hD ip_chainn_2 (SB.cons0 (by have := x.le_toInt; omega) (by omega) SB.nil0) (fun mu hmu => argsI ha [x] 23 mu hmu) rfl (fun _ _ _ hr => rsI hr) (fun mu w ws' e1 e2 e3 => ⟨iC2, (List.mem_cons_of_mem _ List.mem_cons_self), postB_ok iq_chainn_2 e1 e2 sc0 e3⟩) (fun q hq => ?_)
    have hq : q ∈ [((lX17.getD 0 default, ((pdCuts pX17).getD 0 default).2.1) : TX × Tm)] := hq
    obtain rfl := List.mem_singleton.mp hq
    exact ⟨by decide, rfl, fun v ws' e1 e2 => ⟨iC2, (List.mem_cons_of_mem _ List.mem_cons_self), thrB_ok it_chainn_2_12 e1 e2⟩⟩
  by_cases c1 : x.toInt ≤ -1
  · refine stpX_one (u := [x.toInt]) (K := kX16) (xX16 hl aC432) hI hP hD ip_chainm_2 (SB.cons0 (by omega) (by omega) SB.nil0) (fun mu hmu => argsI ha [x] 23 mu hmu) rfl (fun _ _ _ hr => rsI hr) (fun mu w ws' e1 e2 e3 => ⟨iC2, (List.mem_cons_of_mem _ List.mem_cons_self), postB_ok iq_chainm_2 e1 e2 sc0 e3⟩) (fun q hq => ?_)
    cases hq
  by_cases c2 : x.toInt ≤ 4
  · refine stpX_one (u := [x.toInt]) (K := kX15) (xX15 hl aC432) hI hP hD ip_chain_2 (SB.cons0 (by omega) (by omega) SB.nil0) (fun mu hmu => argsI ha [x] 23 mu hmu) rfl (fun _ _ _ hr => rsI hr) (fun mu w ws' e1 e2 e3 => ⟨iC3, List.mem_cons_self, postB_ok iq_chain_2 e1 e2 sc0 e3⟩) (fun q hq => ?_)
    have hq : q ∈ [((lX15.getD 0 default, ((pdCuts pX15).getD 0 default).2.1) : TX × Tm)] := hq
    obtain rfl := List.mem_singleton.mp hq
    exact ⟨by decide, rfl, fun v ws' e1 e2 => ⟨iC2, (List.mem_cons_of_mem _ List.mem_cons_self), thrB_ok it_chain_2_66 e1 e2⟩⟩
  refine stpX_one (u := [x.toInt]) (K := kX18) (xX18 hl aC432) hI hP hD ip_chainp_2 (SB.cons0 (by omega) (by have := x.toInt_lt; omega) SB.nil0) (fun mu hmu => argsI ha [x] 23 mu hmu) rfl (fun _ _ _ hr => rsI hr) (fun mu w ws' e1 e2 e3 => ⟨iC2, (List.mem_cons_of_mem _ List.mem_cons_self), postB_ok iq_chainp_2 e1 e2 sc0 e3⟩) (fun q hq => ?_)
  have hq : q ∈ [((lX18.getD 0 default, ((pdCuts pX18).getD 0 default).2.1) : TX × Tm)] := hq
  obtain rfl := List.mem_singleton.mp hq
  exact ⟨by decide, rfl, fun v ws' e1 e2 => ⟨iC2, (List.mem_cons_of_mem _ List.mem_cons_self), thrB_ok it_chainp_2_12 e1 e2⟩⟩
