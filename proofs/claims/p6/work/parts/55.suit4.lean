/-! suit's contract -/
theorem FS.det {ads : List Nat} {v : List Int} : ∀ {l : List SV} {r r' : List Value}, l.all oneS = true → FS ads v l r → FS ads v l r' → r = r'
  | [], [], [], _, _, _ => rfl
  | a :: l, x :: r, y :: r', ho, h, h' => by
    rw [List.all_cons, Bool.and_eq_true] at ho
    have h2 := FS.det ho.2 h.2 h'.2
    have h1 : x = y := by
      match a, ho.1, h.1, h'.1 with
      | some (.inl k), _, ⟨p, p1, p2⟩, ⟨q, q1, q2⟩ =>
        rw [p2, q2, Option.some.inj (p1.symm.trans q1)]
      | some (.inr (.inl e)), _, ⟨p, p1, p2⟩, ⟨q, q1, q2⟩ =>
        rw [p1, q1, Int32.toInt_inj.mp (p2.uniq q2)]
      | some (.inr (.inr o)), ho, _, _ => cases ho
      | none, ho, _, _ => cases ho
    rw [h1, h2]
  | [], _ :: _, _, _, h, _ => h.elim
  | [], [], _ :: _, _, _, h => h.elim
  | _ :: _, [], _, _, h, _ => h.elim
  | _ :: _, _ :: _, [], _, _, h => h.elim
theorem ES.arr0 {cy : Nat → ClassId} {ads ads' : List Nat} {v v' : List Int} {t : Nat} {n lo hi : Int} {e : va_E} (h : ES cy ads v (.inl (t, (n, []), lo, hi, none)) e) : ES cy ads' v' (.inl (t, (n, []), lo, hi, none)) e := by
  obtain ⟨k, f, h1, h2, h3, h4, h5, -⟩ := h
  refine ⟨k, f, h1, h2, h3, ?_, h5, trivial⟩
  rw [h4.const_inv rfl]
  exact EV.const v' n
abbrev yN : MethodName := ⟨RX12, "number", "(II)V"⟩
abbrev miN : MI := (yN, prog_14_method_15_code, 6, none, 2)
abbrev miS : MI := (⟨RX12, "suit", "(II)V"⟩, prog_14_method_17_code, 9, none, 2)
theorem mN_ok : Cond.methodLink RX12 128 yN ∈ TB ∧ Cond.instanceMethod yN ∈ TB ∧ Cond.selects RX12 yN yN ∈ TB := by
  obtain ⟨mi, h1, h2⟩ := (CTX12 (G := gM)).1 (128, 139, 1) (by decide +kernel)
  have : mi = miN := Option.some.inj (h1.symm.trans rfl)
  subst this
  exact h2
theorem mN_in : miN ∈ nMT := List.mem_of_getElem? (i := 139) rfl
def itS : IT := (kM36.2.1.1, [], kM36.2.1.2.2.2)
theorem pre_number0 : preB itS [] [vRef 0, vInt (eC 0), vInt (eC 286)] kM18 [] = true := by decide +kernel
theorem pre_number1 : preB itS [] [vRef 0, vInt (eC 1), vInt (eC 30)] kM18 [] = true := by decide +kernel
def fsN : List SV := match kM18.2.1.2.2.2 with
  | some (.inr (_, fs)) :: _ => fs
  | _ => []
def fsS : List SV := match kM36.2.1.2.2.2 with
  | some (.inr (_, fs)) :: _ => fs
  | _ => []
theorem fsN_one : fsN.all oneS = true := by decide +kernel
set_option maxRecDepth 4000 in
theorem suit_ok {l : Launch} (hVN : Valid l TB nCl gM miN kM18) {K : CK} {st nn : Int32} {B : Nat} (h1 : K.1 = (141, 2, 64, 0, 0)) (h2 : K.2 = ((kM36.2.1.1, [], [vRef 0, vInt (eC st.toInt), vInt (eC nn.toInt)], kM36.2.1.2.2.2), ([], [], none, kM36.2.1.2.2.2)))
    (hB : ((Int16.ofInt 320).toInt32 * st).toInt = (B : Int)) (hB1 : B + nn.toInt ≤ 640) (hn0 : 0 ≤ nn.toInt) (hn1 : nn.toInt ≤ 286) (hpn : preB itS [] [vRef 0, vInt (eC st.toInt), vInt (eC nn.toInt)] kM18 [] = true) : Valid l TB nCl gM miS K := by
  obtain ⟨K1, K2⟩ := K
  have h1 : K1 = (141, 2, 64, 0, 0) := h1
  have h2 : K2 = _ := h2
  subst h1; subst h2
  intro D cy mu ads w0 xs sz hX hF hH
  refine Met.ofW (cc := prog_14_method_17_code) (maxL := 9) (ret := none) (by decide) rfl ?_
  intro p e s m args below meth c s₁ B9 hml hvv
  obtain ⟨rfl, hsz, hP, hK, hD0, hG⟩ := hvv
  subst hsz
  -- the arguments
  obtain ⟨x0, r0, rfl, ⟨a0, ha0, rfl⟩, hr0⟩ := FS.cons_inv hF
  obtain ⟨x1, r1, rfl, ⟨st', rfl, hst⟩, hr1⟩ := FS.cons_inv hr0
  obtain ⟨x2, r2, rfl, ⟨nn', rfl, hnn⟩, hr2⟩ := FS.cons_inv hr1
  obtain rfl : r2 = [] := by
    cases r2 with
    | nil => rfl
    | cons a r => exact hr2.elim
  obtain rfl : st' = st := Int32.toInt_inj.mp (hst.const_inv rfl)
  obtain rfl : nn' = nn := Int32.toInt_inj.mp (hnn.const_inv rfl)
  -- the cells
  have hlen : ads.length = 19 := by
    have : w0.length = 19 := hH.2.1
    rw [← hH.1, List.length_map]; exact this
  obtain ⟨ad, had⟩ : ∃ ad : Nat → Nat, ∀ k, k < 19 → ads[k]? = some (ad k) := ⟨fun k => ads.getD k 0, fun k hk => by simp [List.getD_eq_getElem?_getD, List.getElem?_eq_getElem (show k < ads.length by omega)]⟩
  have hH : HS cy ads mu w0 kM36.2.1.2.2.2 w0 := hH
  obtain ⟨e0, g0, vs, rfl, hFv⟩ := hH.get (k := 0) rfl (had 0 (by decide))
  obtain ⟨e8, g8, n8, fo, rfl, -, -, l8, rg8, xo8⟩ := id (hH.get (k := 8) rfl (had 8 (by decide)))
  obtain ⟨e9, g9, n9, fl, rfl, -, -, l9, rg9, -⟩ := id (hH.get (k := 9) rfl (had 9 (by decide)))
  obtain ⟨e10, g10, n10, fc, rfl, -, -, l10, rg10, -⟩ := id (hH.get (k := 10) rfl (had 10 (by decide)))
  obtain ⟨e11, g11, n11, fw, rfl, -, -, l11, rg11, -⟩ := id (hH.get (k := 11) rfl (had 11 (by decide)))
  obtain ⟨e12, g12, n12, fg, rfl, -, -, l12, rg12, -⟩ := id (hH.get (k := 12) rfl (had 12 (by decide)))
  obtain ⟨e13, g13, n13, fp, rfl, -, -, l13, rg13, -⟩ := id (hH.get (k := 13) rfl (had 13 (by decide)))
  obtain rfl : n8 = 960 := by have := l8.const_inv rfl; omega
  obtain rfl : n9 = 960 := by have := l9.const_inv rfl; omega
  obtain rfl : n10 = 960 := by have := l10.const_inv rfl; omega
  obtain rfl : n11 = 640 := by have := l11.const_inv rfl; omega
  obtain rfl : n12 = 640 := by have := l12.const_inv rfl; omega
  obtain rfl : n13 = 640 := by have := l13.const_inv rfl; omega
  obtain rfl : a0 = ad 0 := Option.some.inj (ha0.symm.trans (had 0 (by decide)))
  have ref : ∀ (k q : Nat), q < 19 → fsS[k]? = some (vRef q) → vs[k]? = some (.ref (ad q)) := fun k q hq hk => by
    obtain ⟨x, hx1, a, ha, hx2⟩ := FS.get (l := fsS) hFv hk
    rw [hx1, hx2, Option.some.inj (ha.symm.trans (had q hq))]
  have hv : Sv ad vs := ⟨ref 25 8 (by decide) rfl, ref 26 9 (by decide) rfl, ref 28 11 (by decide) rfl, ref 29 12 (by decide) rfl, ref 30 13 (by decide) rfl⟩
  have hM : Sw (cy 0) ad vs fo w0 fl fc fw fg fp w0 := ⟨g0, g8, g9, g10, g11, g12, g13, fun _ _ _ _ _ _ => rfl, rfl⟩
  obtain ⟨kk8, zz8, ek8, ez8, hle8⟩ := xo8
  have ek8 := ek8.const_inv rfl
  have ez8 := ez8.const_inv rfl
  subst ek8; subst ez8
  have hx := B9.exec
  have hb := B9.bytes
  have hr := B9.returns
  have hts : ∀ w ∈ TB, w.before [Value.ref (ad 0), Value.int st', Value.int nn'].toArray s = true := fun w hw => atoms_spec (ws := wsM TB _) B9.pre w (List.mem_cons_of_mem _ hw)
  have hown : s.vm.findClass RX12 = some m.cls := findClass_of_methodNamed B9.named
  have hlocks := B9.notSynchronized
  have S : CallFix p m c prog_14_method_17_code 9 s [Value.ref (ad 0), Value.int st', Value.int nn'].toArray TB RX12 := ⟨hx, hb, hml, hown, hts⟩
  have hS : va_S (va_A w0 s.heap.size) s.heap s.heap [] := va_S.rf
  have hD := hD0.self (sz := s.heap.size)
  have hl := lv_entry [Value.ref (ad 0), Value.int st', Value.int nn'] (n := 9) (Nat.le_of_ble_eq_true rfl)
  rw [lg_entry_eq]
  generalize (lg_sl [Value.ref (ad 0), Value.int st', Value.int nn'] ++ List.replicate (9 - (lg_sl [Value.ref (ad 0), Value.int st', Value.int nn']).length) Slot.unset).toArray = ls at hl ⊢
  have hl : lv_has ls 9 [(0, .ref (ad 0)), (1, .int st'), (2, .int nn')] := hl
  refine lv_iload_n hx hb dS_0 rfl (lv_at hl 2 rfl) ?_
  refine lv_istore_n hx hb dS_1 rfl hl (by decide) rfl fun ls hl => ?_
  have hl : lv_has ls 9 [(3, .int nn'), (0, .ref (ad 0)), (1, .int st'), (2, .int nn')] := hl
  refine lv_iconst hx hb dS_2 rfl ?_
  refine lv_istore hx hb dS_3 hl (by decide) rfl fun ls hl => ?_
  have hl : lv_has ls 9 [(4, .int 0), (3, .int nn'), (0, .ref (ad 0)), (1, .int st'), (2, .int nn')] := hl
  have z0 : (0 : Int32).toInt = 0 := Int32.toInt_zero
  refine suit_l1 hx hb hts hown hK hv hB hB1 hn0 hn1 (fun ls ws H locs fw fg fp hM hP hD hS hI hl => ?_) 640 0 ls w0 s.heap [] fw fg fp (by rw [z0]; omega) (by rw [z0]; omega) (by rw [z0]; omega) hM hP hD hS (fun i hi => by rw [z0] at hi; omega) (lv_sub hl [0, 1, 4, 3, 2] rfl)
  -- the tree's beginning
  have hwv : ∀ i : Nat, i < 640 → 0 ≤ (fw i).toInt ∧ (fw i).toInt ≤ 3300 := fun i hi => by
    rw [(hI i hi).1]
    split
    next h =>
      refine ⟨(rg8 _ (by omega)).1, hle8 _ (by omega) ?_ (by omega)⟩
      show (0 : Int) ≤ _
      omega
    next => rw [z0]; omega
  have hsr : Sr fw fg fp := fun i hi => by
    have a1 := hwv i hi
    have a2 := hI i hi
    exact ⟨a1.1, by omega, by omega, by omega, by omega⟩
  have hT0 : Tr nn'.toInt.toNat nn'.toInt.toNat 943800 (toZ fw) (toZ fp) := by
    refine Tr.init (c := 3300) (fun k hk => ?_) (by decide) (fun k => ?_) (by omega)
    · rw [toZ_at (by omega)]
      exact hwv k (by omega)
    · unfold toZ
      split
      next h => exact (hI k h).2.2
      next => rfl
  refine lv_aload_n hx hb dS_66 rfl (lv_at hl 3 rfl) ?_
  refine lv_iload_n hx hb dS_67 rfl (lv_at hl 0 rfl) ?_
  refine least_call S ⟨by show 1 ≤ 2; decide, by show 24 ≤ 64; decide⟩ ⟨Nat.le_refl _, Nat.le_refl _⟩ hK hP hS hM hv hn0 (by omega) hl.1 dS_68 fun a locs hLa hS => ?_
  refine lv_istore hx hb dS_71 hl (by decide) rfl fun ls hl => ?_
  have hl : lv_has ls 9 [(4, .int a), (3, .int nn'), (2, .int nn'), (1, .int st'), (0, .ref (ad 0))] := hl
  refine lv_iload hx hb dS_73 (lv_at hl 0 rfl) ?_
  refine lv_iconst hx hb dS_75 rfl ?_
  -- from 84 on, with whether there is one
  have go : ∀ mo : Int32, (¬ mo = 0 → ∃ k, k < nn'.toInt.toNat ∧ lvN (toZ fw) (toZ fp) k) → W p l e (rmK ((141, 2, 64, 0, 0), ((kM36.2.1.1, [], [vRef 0, vInt (eC st'.toInt), vInt (eC nn'.toInt)], kM36.2.1.2.2.2), ([], [], none, kM36.2.1.2.2.2)))) s m [Value.ref (ad 0), Value.int st', Value.int nn'].toArray below meth c H locs 0 0 (MQ below (QK nCl D cy ((141, 2, 64, 0, 0), ((kM36.2.1.1, [], [vRef 0, vInt (eC st'.toInt), vInt (eC nn'.toInt)], kM36.2.1.2.2.2), ([], [], none, kM36.2.1.2.2.2))) mu ads w0 s.heap.size) [Value.ref (ad 0), Value.int st', Value.int nn'].toArray s 0 0 (va_A w0 s.heap.size)) (F0 m 84 ls [.int mo]) := fun mo hmo => by
    refine lv_istore hx hb dS_84 hl (by decide) rfl fun ls hl => ?_
    have hl : lv_has ls 9 [(5, .int mo), (4, .int a), (3, .int nn'), (2, .int nn'), (1, .int st'), (0, .ref (ad 0))] := hl
    refine suit_l2 (n := nn'.toInt.toNat) (Sm := 943800) S ⟨by show 1 ≤ 2; decide, by show 24 ≤ 64; decide⟩ ⟨Nat.le_refl _, Nat.le_refl _⟩ hK hv (by omega) (by decide) (fun ls ws H locs fw fg fp N hM hP hD hS hsr hT hl => ?_) (2 * 286) nn' mo a ls ws H locs fw fg fp (by omega) hn0 hM hP hD hS hsr hT0 hmo hl
    obtain ⟨d, hd1, hd2⟩ := hT.short (by decide)
    have hN640 : N ≤ 640 := by
      have h5 := hT.2.2.2.2.1
      have h6 : 0 ≤ sm (lc (toZ fw) (toZ fp)) N := sm_nn fun k _ => lc_nn _ _ k
      omega
    have hnN := hT.1
    refine lv_iconst hx hb dS_217 rfl ?_
    refine lv_istore hx hb dS_218 hl (by decide) rfl fun ls hl => ?_
    have hl : lv_has ls 9 [(6, .int 0), (2, .int nn'), (1, .int st'), (0, .ref (ad 0))] := hl
    refine suit_l3 hx hb hts hown hK hv hN640 hd1 hd2 hB hB1 (by omega) hn1 (fun ls ws H locs fl hM hP hD hS hfl hl => ?_) 286 0 ls ws H locs fl (by rw [z0]; omega) (by rw [z0]; omega) hM hP hD hS (fun i hi => rg9 i hi) hl
    -- number
    obtain ⟨q0, q8, q9, q10, q11, q12, q13, qo, qm⟩ := hM
    have hlw : w0.length = 19 := hH.2.1
    have hlws : ws.length = 19 := by
      have := congrArg List.length qm
      simp only [List.length_map] at this
      omega
    have he8 : ES cy ads mu (.inl (0, (960, []), 0, 2147483647, some (0, (640, []), (3300, []), (0, [])))) (.inl (cy 0, 960, .inl fo)) := ⟨960, fo, rfl, by decide, by decide, EV.const _ _, rg8, 640, 3300, EV.const _ _, EV.const _ _, hle8⟩
    have he11 : ES cy ads mu (.inl (0, (640, []), 0, 2147483647, none)) (.inl (cy 0, 640, .inl fw)) := ⟨640, fw, rfl, by decide, by decide, EV.const _ _, fun i hi => ⟨(hsr i hi).1, by have := (fw i).toInt_lt; omega⟩, trivial⟩
    have he12 : ES cy ads mu (.inl (0, (640, []), 0, 640, none)) (.inl (cy 0, 640, .inl fg)) := ⟨640, fg, rfl, by decide, by decide, EV.const _ _, fun i hi => ⟨(hsr i hi).2.1, (hsr i hi).2.2.1⟩, trivial⟩
    have he13 : ES cy ads mu (.inl (0, (640, []), (-1), 639, none)) (.inl (cy 0, 640, .inl fp)) := ⟨640, fp, rfl, by decide, by decide, EV.const _ _, fun i hi => ⟨(hsr i hi).2.2.2.1, (hsr i hi).2.2.2.2⟩, trivial⟩
    have he9 : ES cy ads mu (.inl (0, (960, []), 0, 28, none)) (.inl (cy 0, 960, .inl fl)) := ⟨960, fl, rfl, by decide, by decide, EV.const _ _, hfl, trivial⟩
    have he10 : ES cy ads mu (.inl (0, (960, []), (-2147483648), 2147483647, none)) (.inl (cy 0, 960, .inl fc)) := ⟨960, fc, rfl, by decide, by decide, EV.const _ _, rg10, trivial⟩
    -- a world of this shape, out of its cells
    have mkH : ∀ (wr ws' : va_W), (ws'.map fun q => q.1) = ads → ws'.length = 19 → (∃ q, ws'[0]? = some q ∧ q.2 = .inr (9, vs)) → (∃ q, ws'[8]? = some q ∧ q.2 = .inl (cy 0, 960, .inl fo)) → (∃ q, ws'[9]? = some q ∧ ES cy ads mu (.inl (0, (960, []), 0, 28, none)) q.2) → (∃ q, ws'[10]? = some q ∧ ES cy ads mu (.inl (0, (960, []), (-2147483648), 2147483647, none)) q.2) → (∃ q, ws'[11]? = some q ∧ q.2 = .inl (cy 0, 640, .inl fw)) → (∃ q, ws'[12]? = some q ∧ q.2 = .inl (cy 0, 640, .inl fg)) → (∃ q, ws'[13]? = some q ∧ q.2 = .inl (cy 0, 640, .inl fp)) → (∀ k, k ≠ 0 → k ≠ 8 → k ≠ 9 → k ≠ 10 → k ≠ 11 → k ≠ 12 → k ≠ 13 → ws'[k]? = wr[k]?) → HS cy ads mu wr kM36.2.1.2.2.2 ws' := fun wr ws' m1 m2 c0 c8 c9 c10 c11 c12 c13 co => by
      refine ⟨m1, m2, fun k o hk => ?_⟩
      by_cases k0 : k = 0
      · subst k0
        cases hk
        obtain ⟨q, h1, h2⟩ := c0
        exact ⟨q, h1, by rw [h2]; exact ⟨vs, rfl, hFv⟩⟩
      by_cases k8 : k = 8
      · subst k8
        cases hk
        obtain ⟨q, h1, h2⟩ := c8
        exact ⟨q, h1, by rw [h2]; exact he8⟩
      by_cases k9 : k = 9
      · subst k9
        cases hk
        exact c9
      by_cases k10 : k = 10
      · subst k10
        cases hk
        exact c10
      by_cases k11 : k = 11
      · subst k11
        cases hk
        obtain ⟨q, h1, h2⟩ := c11
        exact ⟨q, h1, by rw [h2]; exact he11⟩
      by_cases k12 : k = 12
      · subst k12
        cases hk
        obtain ⟨q, h1, h2⟩ := c12
        exact ⟨q, h1, by rw [h2]; exact he12⟩
      by_cases k13 : k = 13
      · subst k13
        cases hk
        obtain ⟨q, h1, h2⟩ := c13
        exact ⟨q, h1, by rw [h2]; exact he13⟩
      have hlt : k < 19 := (List.getElem?_eq_some_iff.mp hk).1
      obtain rfl : o = none := by
        have hk2 : (kM36.2.1.2.2.2)[k]? = some none := by
          rcases (show k = 1 ∨ k = 2 ∨ k = 3 ∨ k = 4 ∨ k = 5 ∨ k = 6 ∨ k = 7 ∨ k = 14 ∨ k = 15 ∨ k = 16 ∨ k = 17 ∨ k = 18 by omega) with h | h | h | h | h | h | h | h | h | h | h | h <;> subst h <;> rfl
        exact Option.some.inj (hk.symm.trans hk2)
      exact co k k0 k8 k9 k10 k11 k12 k13
    have hH2 : HS cy ads mu ws kM36.2.1.2.2.2 ws := mkH ws ws (qm.trans hH.1) hlws ⟨_, q0, rfl⟩ ⟨_, q8, rfl⟩ ⟨_, q9, he9⟩ ⟨_, q10, he10⟩ ⟨_, q11, rfl⟩ ⟨_, q12, rfl⟩ ⟨_, q13, rfl⟩ (fun _ _ _ _ _ _ _ _ => rfl)
    obtain ⟨nu, n1, n2, n3⟩ := preB_ok (cy := cy) (ads := ads) (ws := ws) (xs := [.ref (ad 0), .int st', .int nn']) (u := []) hpn ⟨mu, ⟨hX.1, fun e he => by cases he⟩, hH2⟩ ⟨rfl, fun i lo hi h => by simp at h⟩ (fun mu' _ => ⟨⟨ad 0, had 0 (by decide), rfl⟩, ⟨st', rfl, EV.const _ _⟩, ⟨nn', rfl, EV.const _ _⟩, trivial⟩)
    obtain ⟨o1, o2, o3⟩ := mN_ok
    obtain ⟨-, kd, kc, ki⟩ := nMT_ok _ mN_in
    refine lv_aload_n hx hb dS_309 rfl (lv_at hl 2 rfl) ?_
    refine lv_iload_n hx hb dS_310 rfl (lv_at hl 1 rfl) ?_
    refine lv_iload_n hx hb dS_311 rfl (lv_at hl 0 rfl) ?_
    refine afterK (K := kM18) (a := [.ref (ad 0), .int st', .int nn'].toArray) (rest := []) (run1 gM_ok S hVN n1 (b := ad 0) (As := [.int st', .int nn']) n2 n3 (preK gM_ok hK hP hD hS hG (bs := []) (by rw [List.append_nil]; exact qm) (fun _ h => by cases h)) (callB_K TB_ok hts kc ki o1 kd ⟨by show 0 + 1 ≤ 2; decide, by show 8 + (6 + 11) + 0 ≤ 64; decide⟩) o2 o3 (va_recv hK hP rfl q0) rfl hl.1 (Nat.zero_le _) dS_312 ⟨Nat.le_refl _, Nat.le_refl _⟩) hD hS (fun q h => Or.inr h) fun r w bs ws' H1 locs1 y1 y2 y3 y4 y5 y6 y7 => ?_
    have hbs : bs = [] := by
      have e1 := congrArg List.length y3.1
      have e2 : ws'.length = 19 := y3.2.1
      rw [List.length_map, List.length_append] at e1
      exact List.length_eq_zero_iff.mp (by omega)
    subst hbs
    rw [List.append_nil] at y3
    have hr9 : r = none := by
      cases r with
      | none => rfl
      | some x => exact y2.elim
    subst hr9
    obtain ⟨u0, t1, t2⟩ := y3.2.2 0 _ rfl
    obtain ⟨vs', t3, t4⟩ := t2
    obtain ⟨u9, s1, s2⟩ := y3.2.2 9 _ rfl
    obtain ⟨u10, s3, s4⟩ := y3.2.2 10 _ rfl
    obtain ⟨z0', t5, t6⟩ := n3.2.2 0 _ rfl
    rw [q0] at t5
    cases t5
    obtain ⟨vs9, t7, t8⟩ := t6
    cases t7
    have t8' : FS ads (nu ++ w) fsN vs := by
      have := t8.mono (bs := []) (w := w)
      rw [List.append_nil] at this
      exact this
    have hvs : vs' = vs := FS.det fsN_one (l := fsN) t4 t8'
    rw [hvs] at t3
    have oth : ∀ k, (kM18.2.2.2.2.2)[k]? = some none → ws'[k]? = ws[k]? := fun k hk => y3.2.2 k none hk
    have fin := mkH w0 ws' y3.1 y3.2.1 ⟨u0, t1, t3⟩ ⟨_, (oth 8 rfl).trans q8, rfl⟩ ⟨u9, s1, s2.arr0⟩ ⟨u10, s3, s4.arr0⟩ ⟨_, (oth 11 rfl).trans q11, rfl⟩ ⟨_, (oth 12 rfl).trans q12, rfl⟩ ⟨_, (oth 13 rfl).trans q13, rfl⟩ (fun k k0 k8 k9 k10 k11 k12 k13 => by
      refine (?_ : ws'[k]? = ws[k]?).trans (qo k k9 k10 k11 k12 k13)
      by_cases hlt : k < 19
      · apply oth
        rcases (show k = 1 ∨ k = 2 ∨ k = 3 ∨ k = 4 ∨ k = 5 ∨ k = 6 ∨ k = 7 ∨ k = 14 ∨ k = 15 ∨ k = 16 ∨ k = 17 ∨ k = 18 by omega) with h | h | h | h | h | h | h | h | h | h | h | h <;> subst h <;> rfl
      · have e2 : ws'.length = 19 := y3.2.1
        rw [List.getElem?_eq_none (by omega), List.getElem?_eq_none (by omega)])
    refine W.vret hx hb hr (fun t ht hW => ⟨⟨none, rfl, [], [], ws', ?_, trivial, ?_, by rw [ht]; exact y4, y5, fun _ h => by cases h⟩, by rw [ht]; exact y6.1, fun q h1 h2 => by rw [ht]; exact y6.2.1 q h1 h2⟩) y6.2.2 dS_315
    · rw [List.append_nil]
      refine ⟨?_, fun e he => by cases he⟩
      show SB mu (kM36.2.1.1 ++ [])
      rw [List.append_nil]
      exact hX.1
    · rw [List.append_nil, List.append_nil]
      exact fin
  refine lv_icmp_eq hx hb dS_76 (tgt := 83) rfl (fun _ => lv_iconst hx hb dS_83 rfl (go 0 (fun q => absurd rfl q))) (fun hc => ?_)
  refine lv_iconst hx hb dS_79 rfl (lv_goto hx hb dS_80 (tgt := 84) rfl (go 1 (fun _ => ?_)))
  rcases hLa with ⟨q, -⟩ | ⟨q1, q2, q3, -⟩
  · exact (hc (by rw [eq_z, m1_z]; exact q)).elim
  · exact ⟨_, q2, q3⟩
theorem vM36 {l : Launch} (h : AllV l nCl gM nMT cM36) : AllV l nCl gM nMT cM37 := h.snoc (mi := miS) rfl (suit_ok (st := 0) (nn := 286) (B := 0) (h 18 kM18 miN rfl rfl) rfl rfl (by decide) (by decide) (by decide) (by decide) pre_number0)
theorem vM37 {l : Launch} (h : AllV l nCl gM nMT cM37) : AllV l nCl gM nMT cM38 := h.snoc (mi := miS) rfl (suit_ok (st := 1) (nn := 30) (B := 320) (h 18 kM18 miN rfl rfl) rfl rfl (by decide) (by decide) (by decide) (by decide) pre_number1)
/-! all contracts of the reference -/
theorem aM15 {l : Launch} : AllV l nCl gM nMT cM15 := vM14 (vM13 (vM12 (vM11 (vM10 (vM9 (vM8 (vM7 (vM6 (vM5 (vM4 (vM3 (vM2 (vM1 (vM0 (AllV.nil)))))))))))))))
theorem aM30 {l : Launch} : AllV l nCl gM nMT cM30 := vM29 (vM28 (vM27 (vM26 (vM25 (vM24 (vM23 (vM22 (vM21 (vM20 (vM19 (vM18 (vM17 (vM16 (vM15 (aM15)))))))))))))))
theorem aM45 {l : Launch} : AllV l nCl gM nMT cM45 := vM44 (vM43 (vM42 (vM41 (vM40 (vM39 (vM38 (vM37 (vM36 (vM35 (vM34 (vM33 (vM32 (vM31 (vM30 (aM30)))))))))))))))
theorem aM60 {l : Launch} : AllV l nCl gM nMT cM60 := vM59 (vM58 (vM57 (vM56 (vM55 (vM54 (vM53 (vM52 (vM51 (vM50 (vM49 (vM48 (vM47 (vM46 (vM45 (aM45)))))))))))))))
theorem aM75 {l : Launch} : AllV l nCl gM nMT cM75 := vM74 (vM73 (vM72 (vM71 (vM70 (vM69 (vM68 (vM67 (vM66 (vM65 (vM64 (vM63 (vM62 (vM61 (vM60 (aM60)))))))))))))))
theorem aM90 {l : Launch} : AllV l nCl gM nMT cM90 := vM89 (vM88 (vM87 (vM86 (vM85 (vM84 (vM83 (vM82 (vM81 (vM80 (vM79 (vM78 (vM77 (vM76 (vM75 (aM75)))))))))))))))
theorem aM105 {l : Launch} : AllV l nCl gM nMT cM105 := vM104 (vM103 (vM102 (vM101 (vM100 (vM99 (vM98 (vM97 (vM96 (vM95 (vM94 (vM93 (vM92 (vM91 (vM90 (aM90)))))))))))))))
theorem aM120 {l : Launch} : AllV l nCl gM nMT cM120 := vM119 (vM118 (vM117 (vM116 (vM115 (vM114 (vM113 (vM112 (vM111 (vM110 (vM109 (vM108 (vM107 (vM106 (vM105 (aM105)))))))))))))))
theorem aM135 {l : Launch} : AllV l nCl gM nMT cM135 := vM134 (vM133 (vM132 (vM131 (vM130 (vM129 (vM128 (vM127 (vM126 (vM125 (vM124 (vM123 (vM122 (vM121 (vM120 (aM120)))))))))))))))
theorem aM150 {l : Launch} : AllV l nCl gM nMT cM150 := vM149 (vM148 (vM147 (vM146 (vM145 (vM144 (vM143 (vM142 (vM141 (vM140 (vM139 (vM138 (vM137 (vM136 (vM135 (aM135)))))))))))))))
theorem aM165 {l : Launch} : AllV l nCl gM nMT cM165 := vM164 (vM163 (vM162 (vM161 (vM160 (vM159 (vM158 (vM157 (vM156 (vM155 (vM154 (vM153 (vM152 (vM151 (vM150 (aM150)))))))))))))))
theorem aM180 {l : Launch} : AllV l nCl gM nMT cM180 := vM179 (vM178 (vM177 (vM176 (vM175 (vM174 (vM173 (vM172 (vM171 (vM170 (vM169 (vM168 (vM167 (vM166 (vM165 (aM165)))))))))))))))
theorem aM195 {l : Launch} : AllV l nCl gM nMT cM195 := vM194 (vM193 (vM192 (vM191 (vM190 (vM189 (vM188 (vM187 (vM186 (vM185 (vM184 (vM183 (vM182 (vM181 (vM180 (aM180)))))))))))))))
theorem aM210 {l : Launch} : AllV l nCl gM nMT cM210 := vM209 (vM208 (vM207 (vM206 (vM205 (vM204 (vM203 (vM202 (vM201 (vM200 (vM199 (vM198 (vM197 (vM196 (vM195 (aM195)))))))))))))))
theorem aM213 {l : Launch} : AllV l nCl gM nMT cM213 := vM212 (vM211 (vM210 (aM210)))
