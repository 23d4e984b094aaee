section Suit
variable {p : Program} {l : Launch} {e : Env} {R : Room} {s : State} {m : MethodId} {args : Array Value} {below : List Frame} {meth : Method} {c : Code} {cells slots : Nat} {Q : State → Prop}
variable {D : va_G} {cy : Nat → ClassId} {A : Nat → Prop} {ad : Nat → Nat} {vs : List Value} {fo fl fc fw fg fp : Nat → Int32} {w0 ws : va_W} {H : Heap} {locs : List Loc} {st nn : Int32} {B : Nat}
/-- the way up from a leaf is counted -/
theorem suit_in (hx : p.tables.exec = Jvm.exec) (hb : c.code = prog_14_method_17_code) (hts : ∀ w ∈ TB, w.before args s = true) (hown : s.vm.findClass RX12 = some m.cls) (hK : va_K D nCl (tysOf cy) s) (hv : Sv ad vs) (hM : Sw (cy 0) ad vs fo w0 fl fc fw fg fp ws) (hP : va_P D nCl ws H) {N : Nat} (hN : N ≤ 640) {d : Nat → Nat}
    (hd1 : ∀ k, k < N → toZ fp k = -1 ∨ ((k : Int) < toZ fp k ∧ toZ fp k < N ∧ 0 < toZ fw (toZ fp k).toNat ∧ d k < d (toZ fp k).toNat)) (hd2 : ∀ k, k < N → 0 < toZ fw k → d k ≤ 28) {sl : Int32} (hs0 : 0 ≤ sl.toInt) (hs1 : sl.toInt < 640)
    (fin : ∀ (bits : Int32) (ls : Array Slot), 0 ≤ bits.toInt → bits.toInt ≤ 28 → lv_has ls 9 [(7, .int bits), (6, .int sl), (2, .int nn), (1, .int st), (0, .ref (ad 0))] → W p l e R s m args below meth c H locs cells slots Q (F0 m 269 ls [])) :
    ∀ (j : Nat) (k bits : Int32) (ls : Array Slot), (N : Int) - k.toInt ≤ (j : Int) → 0 ≤ k.toInt → k.toInt < (N : Int) → 0 ≤ bits.toInt → bits.toInt ≤ 28 → (0 < toZ fw sl.toInt.toNat → 0 < toZ fw k.toInt.toNat ∧ bits.toInt ≤ (d k.toInt.toNat : Int)) →
      lv_has ls 9 [(8, .int k), (7, .int bits), (6, .int sl), (2, .int nn), (1, .int st), (0, .ref (ad 0))] → W p l e R s m args below meth c H locs cells slots Q (F0 m 233 ls [])
  | j, k, bits, ls, hj, hk0, hk1, hb0, hb1, hI, hl => by
    obtain ⟨v25, v26, v28, v29, v30⟩ := id hv
    refine lv_aload_n hx hb dS_233 rfl (lv_at hl 5 rfl) ?_
    refine mget hx hb hts hown hK hP hM.1 (k := 28) (fin := true) (by decide) v28 dS_234 ?_
    refine lv_iload hx hb dS_237 (lv_at hl 2 rfl) ?_
    refine va_iald hx hb hK hP 11 0 hM.2.2.2.2.1 rfl (inb hs0 (by omega)) dS_239 ?_
    refine lv_if_le hx hb dS_240 (tgt := 269) rfl (fun _ => fin bits ls hb0 hb1 (lv_sub hl [1, 2, 3, 4, 5] rfl)) (fun hc => ?_)
    rw [le_z, Int32.toInt_zero, ← toZ_i (f := fw) hs0 (by omega)] at hc
    obtain ⟨hw, hbd⟩ := hI (by omega)
    refine lv_aload_n hx hb dS_243 rfl (lv_at hl 5 rfl) ?_
    refine mget hx hb hts hown hK hP hM.1 (k := 30) (fin := true) (by decide) v30 dS_244 ?_
    refine lv_iload hx hb dS_247 (lv_at hl 0 rfl) ?_
    refine va_iald hx hb hK hP 13 0 hM.2.2.2.2.2.2.1 rfl (inb hk0 (by omega)) dS_249 ?_
    refine lv_iconst hx hb dS_250 rfl ?_
    refine lv_icmp_eq hx hb dS_251 (tgt := 269) rfl (fun _ => fin bits ls hb0 hb1 (lv_sub hl [1, 2, 3, 4, 5] rfl)) (fun hc1 => ?_)
    have hpk := toZ_i (f := fp) hk0 (by omega)
    rcases hd1 k.toInt.toNat (by omega) with q | ⟨q1, q2, q3, q4⟩
    · rw [hpk] at q
      exact (hc1 (by rw [eq_z, m1_z]; exact q)).elim
    rw [hpk] at q1 q2 q3 q4
    have hd3 := hd2 _ (by omega) q3
    have hb2 : (bits + Int32.ofInt 1).toInt = bits.toInt + 1 := by
      rw [nu_add (by rw [i1]; omega) (by rw [i1]; omega), i1]
    refine lv_iinc hx hb dS_254 hl (k := 1) rfl rfl (by decide) rfl fun ls hl => ?_
    have hl : lv_has ls 9 [(7, .int (bits + Int32.ofInt 1)), (8, .int k), (6, .int sl), (2, .int nn), (1, .int st), (0, .ref (ad 0))] := hl
    refine lv_aload_n hx hb dS_257 rfl (lv_at hl 5 rfl) ?_
    refine mget hx hb hts hown hK hP hM.1 (k := 30) (fin := true) (by decide) v30 dS_258 ?_
    refine lv_iload hx hb dS_261 (lv_at hl 1 rfl) ?_
    refine va_iald hx hb hK hP 13 0 hM.2.2.2.2.2.2.1 rfl (inb hk0 (by omega)) dS_263 ?_
    refine lv_istore hx hb dS_264 hl (by decide) rfl fun ls hl => ?_
    have hl : lv_has ls 9 [(8, .int (fp k.toNatClampNeg)), (7, .int (bits + Int32.ofInt 1)), (6, .int sl), (2, .int nn), (1, .int st), (0, .ref (ad 0))] := hl
    refine lv_goto hx hb dS_266 (tgt := 233) rfl ?_
    cases j with
    | zero => omega
    | succ j => exact suit_in hx hb hts hown hK hv hM hP hN hd1 hd2 hs0 hs1 fin j (fp k.toNatClampNeg) (bits + Int32.ofInt 1) ls (by omega) (by omega) (by omega) (by rw [hb2]; omega) (by rw [hb2]; omega) (fun _ => ⟨q3, by rw [hb2]; omega⟩) hl
/-- the third loop: lengths -/
theorem suit_l3 (hx : p.tables.exec = Jvm.exec) (hb : c.code = prog_14_method_17_code) (hts : ∀ w ∈ TB, w.before args s = true) (hown : s.vm.findClass RX12 = some m.cls) (hK : va_K D nCl (tysOf cy) s) (hv : Sv ad vs) {N : Nat} (hN : N ≤ 640) {d : Nat → Nat}
    (hd1 : ∀ k, k < N → toZ fp k = -1 ∨ ((k : Int) < toZ fp k ∧ toZ fp k < N ∧ 0 < toZ fw (toZ fp k).toNat ∧ d k < d (toZ fp k).toNat)) (hd2 : ∀ k, k < N → 0 < toZ fw k → d k ≤ 28) (hB : ((Int16.ofInt 320).toInt32 * st).toInt = (B : Int)) (hB1 : B + nn.toInt ≤ 640) (hnN : nn.toInt ≤ (N : Int)) (hn1 : nn.toInt ≤ 286)
    (fin : ∀ (ls : Array Slot) (ws : va_W) (H : Heap) (locs : List Loc) (fl : Nat → Int32), Sw (cy 0) ad vs fo w0 fl fc fw fg fp ws → va_P D nCl ws H → va_D A ws → va_S A s.heap H locs → (∀ i : Nat, i < 960 → 0 ≤ (fl i).toInt ∧ (fl i).toInt ≤ 28) → lv_has ls 9 [(2, .int nn), (1, .int st), (0, .ref (ad 0))] → W p l e R s m args below meth c H locs cells slots Q (F0 m 309 ls [])) :
    ∀ (j : Nat) (sl : Int32) (ls : Array Slot) (ws : va_W) (H : Heap) (locs : List Loc) (fl : Nat → Int32), nn.toInt - sl.toInt ≤ (j : Int) → 0 ≤ sl.toInt → Sw (cy 0) ad vs fo w0 fl fc fw fg fp ws → va_P D nCl ws H → va_D A ws → va_S A s.heap H locs → (∀ i : Nat, i < 960 → 0 ≤ (fl i).toInt ∧ (fl i).toInt ≤ 28) →
      lv_has ls 9 [(6, .int sl), (2, .int nn), (1, .int st), (0, .ref (ad 0))] → W p l e R s m args below meth c H locs cells slots Q (F0 m 220 ls [])
  | j, sl, ls, ws, H, locs, fl, hj, hs0, hM, hP, hD, hS, hI, hl => by
    obtain ⟨v25, v26, v28, v29, v30⟩ := id hv
    refine lv_iload hx hb dS_220 (lv_at hl 0 rfl) ?_
    refine lv_iload_n hx hb dS_222 rfl (lv_at hl 1 rfl) ?_
    refine lv_icmp_ge hx hb dS_223 (tgt := 309) rfl (fun _ => fin ls ws H locs fl hM hP hD hS hI (lv_sub hl [1, 2, 3] rfl)) (fun hc => ?_)
    rw [le_z] at hc
    refine lv_iconst hx hb dS_226 rfl ?_
    refine lv_istore hx hb dS_227 hl (by decide) rfl fun ls hl => ?_
    have hl : lv_has ls 9 [(7, .int 0), (6, .int sl), (2, .int nn), (1, .int st), (0, .ref (ad 0))] := hl
    refine lv_iload hx hb dS_229 (lv_at hl 1 rfl) ?_
    refine lv_istore hx hb dS_231 hl (by decide) rfl fun ls hl => ?_
    have hl : lv_has ls 9 [(8, .int sl), (7, .int 0), (6, .int sl), (2, .int nn), (1, .int st), (0, .ref (ad 0))] := hl
    have z0 : (0 : Int32).toInt = 0 := Int32.toInt_zero
    refine suit_in hx hb hts hown hK hv hM hP hN hd1 hd2 hs0 (by omega) (fun bits ls hb0 hb1 hl => ?_) N sl 0 ls (by omega) hs0 (by omega) (by rw [z0]; omega) (by rw [z0]; omega) (fun q => ⟨q, by rw [z0]; omega⟩) hl
    have hbs : ((Int16.ofInt 320).toInt32 * st + sl).toInt = (B : Int) + sl.toInt := by
      rw [nu_add (by rw [hB]; omega) (by rw [hB]; omega), hB]
    refine lv_aload_n hx hb dS_269 rfl (lv_at hl 4 rfl) ?_
    refine mget hx hb hts hown hK hP hM.1 (k := 26) (fin := true) (by decide) v26 dS_270 ?_
    refine lv_sipush hx hb dS_273 rfl ?_
    refine lv_iload_n hx hb dS_276 rfl (lv_at hl 3 rfl) ?_
    refine lv_imul hx hb dS_277 ?_
    refine lv_iload hx hb dS_278 (lv_at hl 1 rfl) ?_
    refine lv_iadd hx hb dS_280 ?_
    refine lv_aload_n hx hb dS_281 rfl (lv_at hl 4 rfl) ?_
    refine mget hx hb hts hown hK hP hM.1 (k := 28) (fin := true) (by decide) v28 dS_282 ?_
    refine lv_iload hx hb dS_285 (lv_at hl 1 rfl) ?_
    refine va_iald hx hb hK hP 11 0 hM.2.2.2.2.1 rfl (inb hs0 (by omega)) dS_287 ?_
    have tail : ∀ x : Int32, 0 ≤ x.toInt → x.toInt ≤ 28 → W p l e R s m args below meth c H locs cells slots Q (F0 m 302 ls [.int x, .int ((Int16.ofInt 320).toInt32 * st + sl), .ref (ad 9)]) := fun x h0 h1 => by
      refine va_iast hx hb hK hP hD hS 9 0 hM.2.2.1 rfl (inb (by rw [hbs]; omega) (by rw [hbs]; omega)) dS_302 fun H locs hP hD hS => ?_
      have hM := hM.setL (upd fl ((Int16.ofInt 320).toInt32 * st + sl).toNatClampNeg x)
      generalize ws.set 9 _ = ws at hM hP hD
      refine lv_iinc hx hb dS_303 hl (k := 1) rfl rfl (by decide) rfl fun ls hl => ?_
      have hl : lv_has ls 9 [(6, .int (sl + Int32.ofInt 1)), (7, .int bits), (2, .int nn), (1, .int st), (0, .ref (ad 0))] := hl
      have hs2 : (sl + Int32.ofInt 1).toInt = sl.toInt + 1 := by
        rw [nu_add (by rw [i1]; omega) (by rw [i1]; omega), i1]
      refine lv_goto hx hb dS_306 (tgt := 220) rfl ?_
      cases j with
      | zero => omega
      | succ j =>
        refine suit_l3 hx hb hts hown hK hv hN hd1 hd2 hB hB1 hnN hn1 fin j (sl + Int32.ofInt 1) ls ws H locs _ (by rw [hs2]; omega) (by rw [hs2]; omega) hM hP hD hS (fun i hi => ?_) (lv_sub hl [0, 2, 3, 4] rfl)
        unfold upd
        split
        · exact ⟨h0, h1⟩
        · exact hI i hi
    refine lv_if_le hx hb dS_288 (tgt := 300) rfl (fun _ => lv_iload hx hb dS_300 (lv_at hl 0 rfl) (tail _ hb0 hb1)) (fun _ => ?_)
    refine lv_iload hx hb dS_291 (lv_at hl 0 rfl) ?_
    refine lv_if_ne hx hb dS_293 (tgt := 300) rfl (fun _ => lv_iload hx hb dS_300 (lv_at hl 0 rfl) (tail _ hb0 hb1)) (fun _ => ?_)
    refine lv_iconst hx hb dS_296 rfl ?_
    exact lv_goto hx hb dS_297 (tgt := 302) rfl (tail _ (by decide) (by decide))
end Suit
