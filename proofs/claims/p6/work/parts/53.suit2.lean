abbrev yL : MethodName := ⟨RX12, "leastNode", "(I)I"⟩
abbrev miL : MI := (yL, prog_14_method_16_code, 5, (some .int), 1)
theorem mL_ok : Cond.methodLink RX12 125 yL ∈ TB ∧ Cond.instanceMethod yL ∈ TB ∧ Cond.selects RX12 yL yL ∈ TB := by
  obtain ⟨mi, h1, h2⟩ := (CTX12 (G := gM)).1 (125, 140, 1) (by decide +kernel)
  have : mi = miL := Option.some.inj (h1.symm.trans rfl)
  subst this
  exact h2
theorem mL_t : MTok TB nMT := nMT_ok
theorem mL_in : miL ∈ nMT := List.mem_of_getElem? (i := 140) rfl
/-- ranges of what suit works on -/
def Sr (fw fg fp : Nat → Int32) : Prop := ∀ i, i < 640 → 0 ≤ (fw i).toInt ∧ 0 ≤ (fg i).toInt ∧ (fg i).toInt ≤ 640 ∧ -1 ≤ (fp i).toInt ∧ (fp i).toInt ≤ 639
theorem Lso.live {w p : Nat → Int} {N : Nat} {it : Int} (h : Lso w p N it) (hl : ∃ k, k < N ∧ lvN w p k) : 0 ≤ it ∧ leastN N w p it.toNat := by
  rcases h with ⟨-, h2⟩ | h
  · obtain ⟨k, hk, hl⟩ := hl
    exact (h2 k hk hl).elim
  · exact h
section Suit
variable {p : Program} {l : Launch} {e : Env} {R : Room} {s : State} {m : MethodId} {args : Array Value} {below : List Frame} {meth : Method} {c : Code} {cells slots : Nat} {Q : State → Prop}
variable {D : va_G} {cy : Nat → ClassId} {A : Nat → Prop} {ad : Nat → Nat} {vs : List Value} {fo fl fc fw fg fp : Nat → Int32} {w0 ws : va_W} {H : Heap} {locs : List Loc} {st nn : Int32}
theorem least_call (S : CallFix p m c prog_14_method_17_code 9 s args TB RX12) (hR : 1 ≤ R.frames ∧ 24 ≤ R.locals) (hcs : cells ≤ R.cells ∧ slots ≤ R.slots) (hK : va_K D nCl (tysOf cy) s) (hP : va_P D nCl ws H) (hS : va_S A s.heap H locs) (hM : Sw (cy 0) ad vs fo w0 fl fc fw fg fp ws) (hv : Sv ad vs)
    {N : Int32} (hN0 : 0 ≤ N.toInt) (hN1 : N.toInt ≤ 640) {pc : Nat} {ls : Array Slot} (hsz : ls.size = 9) (hdg : decode prog_14_method_17_code pc = .ok (.invokevirtual 125, 3))
    (kk : ∀ (r : Int32) (locs1 : List Loc), Lso (toZ fw) (toZ fp) N.toInt.toNat r.toInt → va_S A s.heap H locs1 → W p l e R s m args below meth c H locs1 cells slots Q (F0 m (pc + 3) ls [.int r])) : W p l e R s m args below meth c H locs cells slots Q (F0 m pc ls [.int N, .ref (ad 0)]) := by
  obtain ⟨hx, hb, hml, hown, hts⟩ := id S
  obtain ⟨h0, h8, h9, h10, h11, h12, h13, -, -⟩ := id hM
  obtain ⟨k1, k2, k3⟩ := mL_ok
  obtain ⟨-, kd, kc, ki⟩ := mL_t _ mL_in
  refine va_calli (A0 := A) (A1 := fun _ => False) (free := fun _ => False) (va_runV (As := [.int N]) (b := ad 0) (rest := []) S (least_met (H0 := H) hP h0 hv h11 h12 h13 hN0 hN1) ⟨callB_of _ hts (wsM_good TB_ok kc) rfl rfl rfl (hts _ ki) (hts _ k1) kd ⟨hR.1, hR.2⟩, hts _ k2, hts _ k3⟩ ⟨fun a U g mk q => ⟨q.1, q.2.1, va_K.moved (u := U) (U := U.calling g mk a) (Vm.Alike.refl U.vm) q.2.2⟩, va_recv hK hP rfl h0, fun U hU hW => ⟨rfl, hU, va_K.moved hW.alike hK⟩⟩ rfl rfl hsz rfl (lv_room (Nat.zero_le _)) hdg ⟨hcs.1, hcs.2⟩) hS (fun _ _ h => h.elim) (fun _ h => h.elim) (fun r u t H1 locs1 ht _ hp hB _ _ hS1 => ?_)
  have : H1 = H := ht.symm.trans hB
  subst this
  exact kk r locs1 hp hS1
/-- the second loop: the two least are joined as long as there are two -/
theorem suit_l2 (S : CallFix p m c prog_14_method_17_code 9 s args TB RX12) (hR : 1 ≤ R.frames ∧ 24 ≤ R.locals) (hcs : cells ≤ R.cells ∧ slots ≤ R.slots) (hK : va_K D nCl (tysOf cy) s) (hv : Sv ad vs) {n : Nat} {Sm : Int} (hn : n ≤ 286) (hSm : Sm < 1346269)
    (fin : ∀ (ls : Array Slot) (ws : va_W) (H : Heap) (locs : List Loc) (fw fg fp : Nat → Int32) (N : Nat), Sw (cy 0) ad vs fo w0 fl fc fw fg fp ws → va_P D nCl ws H → va_D A ws → va_S A s.heap H locs → Sr fw fg fp → Tr n N Sm (toZ fw) (toZ fp) → lv_has ls 9 [(2, .int nn), (1, .int st), (0, .ref (ad 0))] → W p l e R s m args below meth c H locs cells slots Q (F0 m 217 ls [])) :
    ∀ (j : Nat) (N more a : Int32) (ls : Array Slot) (ws : va_W) (H : Heap) (locs : List Loc) (fw fg fp : Nat → Int32), 2 * (n : Int) - N.toInt ≤ (j : Int) → 0 ≤ N.toInt → Sw (cy 0) ad vs fo w0 fl fc fw fg fp ws → va_P D nCl ws H → va_D A ws → va_S A s.heap H locs → Sr fw fg fp → Tr n N.toInt.toNat Sm (toZ fw) (toZ fp) → (¬ more = 0 → ∃ k, k < N.toInt.toNat ∧ lvN (toZ fw) (toZ fp) k) →
      lv_has ls 9 [(5, .int more), (4, .int a), (3, .int N), (2, .int nn), (1, .int st), (0, .ref (ad 0))] → W p l e R s m args below meth c H locs cells slots Q (F0 m 86 ls [])
  | j, N, more, a, ls, ws, H, locs, fw, fg, fp, hj, hN0, hM, hP, hD, hS, hr, hT, hmo, hl => by
    obtain ⟨hx, hb, hml, hown, hts⟩ := id S
    obtain ⟨v25, v26, v28, v29, v30⟩ := id hv
    have hNle : N.toInt ≤ 2 * (n : Int) := by
      have h5 := hT.2.2.2.2.1
      have h6 : 0 ≤ sm (lc (toZ fw) (toZ fp)) N.toInt.toNat := sm_nn fun k _ => lc_nn _ _ k
      omega
    refine lv_iload hx hb dS_86 (lv_at hl 0 rfl) ?_
    refine lv_if_eq hx hb dS_88 (tgt := 217) rfl (fun _ => fin ls ws H locs fw fg fp _ hM hP hD hS hr hT (lv_sub hl [3, 4, 5] rfl)) (fun hc => ?_)
    have hlive := hmo hc
    refine lv_aload_n hx hb dS_91 rfl (lv_at hl 5 rfl) ?_
    refine lv_iload_n hx hb dS_92 rfl (lv_at hl 2 rfl) ?_
    refine least_call S hR hcs hK hP hS hM hv hN0 (by omega) hl.1 dS_93 fun a locs ha hS => ?_
    obtain ⟨a0, ha⟩ := ha.live hlive
    have ha1 := ha.1
    refine lv_istore hx hb dS_96 hl (by decide) rfl fun ls hl => ?_
    have hl : lv_has ls 9 [(4, .int a), (5, .int more), (3, .int N), (2, .int nn), (1, .int st), (0, .ref (ad 0))] := hl
    refine lv_aload_n hx hb dS_98 rfl (lv_at hl 5 rfl) ?_
    refine mget hx hb hts hown hK hP hM.1 (k := 30) (fin := true) (by decide) v30 dS_99 ?_
    refine lv_iload hx hb dS_102 (lv_at hl 0 rfl) ?_
    refine lv_iload_n hx hb dS_104 rfl (lv_at hl 2 rfl) ?_
    have hain : vp_in a 640 := inb a0 (by omega)
    have haz : a.toNatClampNeg = a.toInt.toNat := rfl
    have hNz : N.toNatClampNeg = N.toInt.toNat := rfl
    refine va_iast hx hb hK hP hD hS 13 0 hM.2.2.2.2.2.2.1 rfl hain dS_105 fun H locs hP hD hS => ?_
    have hM := hM.setP (upd fp a.toNatClampNeg N)
    generalize ws.set 13 _ = ws at hM hP hD
    have hp1 : toZ (upd fp a.toNatClampNeg N) = up (toZ fp) a.toInt.toNat (N.toInt.toNat : Int) := by
      rw [toZ_upd (by omega), haz, show ((N.toInt.toNat : Nat) : Int) = N.toInt by omega]
    refine lv_aload_n hx hb dS_106 rfl (lv_at hl 5 rfl) ?_
    refine lv_iload_n hx hb dS_107 rfl (lv_at hl 2 rfl) ?_
    refine least_call S hR hcs hK hP hS hM hv hN0 (by omega) hl.1 dS_108 fun b locs hbb hS => ?_
    rw [hp1] at hbb
    refine lv_istore hx hb dS_111 hl (by decide) rfl fun ls hl => ?_
    have hl : lv_has ls 9 [(6, .int b), (4, .int a), (5, .int more), (3, .int N), (2, .int nn), (1, .int st), (0, .ref (ad 0))] := hl
    refine lv_iload hx hb dS_113 (lv_at hl 0 rfl) ?_
    refine lv_iconst hx hb dS_115 rfl ?_
    refine lv_icmp_eq hx hb dS_116 (tgt := 123) rfl (fun hcb => ?_) (fun hcb => ?_)
    · -- no second one
      refine lv_iconst hx hb dS_123 rfl ?_
      refine lv_istore hx hb dS_124 hl (by decide) rfl fun ls hl => ?_
      have hl : lv_has ls 9 [(5, .int 0), (6, .int b), (4, .int a), (3, .int N), (2, .int nn), (1, .int st), (0, .ref (ad 0))] := hl
      refine lv_iload hx hb dS_126 (lv_at hl 0 rfl) ?_
      refine lv_if_eq hx hb dS_128 (tgt := 206) rfl (fun _ => ?_) (fun q => absurd rfl q)
      refine lv_aload_n hx hb dS_206 rfl (lv_at hl 6 rfl) ?_
      refine mget hx hb hts hown hK hP hM.1 (k := 30) (fin := true) (by decide) v30 dS_207 ?_
      refine lv_iload hx hb dS_210 (lv_at hl 2 rfl) ?_
      refine lv_iconst hx hb dS_212 rfl ?_
      refine va_iast hx hb hK hP hD hS 13 0 hM.2.2.2.2.2.2.1 rfl hain dS_213 fun H locs hP hD hS => ?_
      have hM := hM.setP (upd (upd fp a.toNatClampNeg N) a.toNatClampNeg (Int32.ofInt (-1)))
      generalize ws.set 13 _ = ws at hM hP hD
      have hp2 : toZ (upd (upd fp a.toNatClampNeg N) a.toNatClampNeg (Int32.ofInt (-1))) = toZ fp := by
        rw [toZ_upd (by omega), hp1, haz, m1_z]
        funext k
        unfold up
        by_cases hk : k = a.toInt.toNat
        · rw [if_pos hk, hk]; exact ha.2.1.2.symm
        · rw [if_neg hk, if_neg hk]
      refine lv_goto hx hb dS_214 (tgt := 86) rfl ?_
      refine lv_iload hx hb dS_86 (lv_at hl 0 rfl) ?_
      refine lv_if_eq hx hb dS_88 (tgt := 217) rfl (fun _ => ?_) (fun q => absurd rfl q)
      refine fin ls ws H locs fw fg _ N.toInt.toNat hM hP hD hS (fun i hi => ?_) (by rw [hp2]; exact hT) (lv_sub hl [4, 5, 6] rfl)
      obtain ⟨r1, r2, r3, r4, r5⟩ := hr i hi
      refine ⟨r1, r2, r3, ?_⟩
      have := congrFun hp2 i
      rw [toZ_at hi, toZ_at hi] at this
      rw [this]
      exact ⟨r4, r5⟩
    -- a second one
    have hbne : b.toInt ≠ -1 := fun q => hcb (by rw [eq_z, m1_z]; exact q)
    obtain ⟨b0, hbl⟩ : 0 ≤ b.toInt ∧ leastN N.toInt.toNat (toZ fw) (up (toZ fp) a.toInt.toNat (N.toInt.toNat : Int)) b.toInt.toNat := by
      rcases hbb with ⟨q, -⟩ | q
      · exact (hbne q).elim
      · exact q
    have hb1 := hbl.1
    obtain ⟨hT2, hN2, hw2, hab⟩ := hT.join ha hbl
    have hbin : vp_in b 640 := inb b0 (by omega)
    have hbz : b.toNatClampNeg = b.toInt.toNat := rfl
    have hNin : vp_in N 640 := inb hN0 (by omega)
    refine lv_iconst hx hb dS_119 rfl ?_
    refine lv_goto hx hb dS_120 (tgt := 124) rfl ?_
    refine lv_istore hx hb dS_124 hl (by decide) rfl fun ls hl => ?_
    have hl : lv_has ls 9 [(5, .int 1), (6, .int b), (4, .int a), (3, .int N), (2, .int nn), (1, .int st), (0, .ref (ad 0))] := hl
    refine lv_iload hx hb dS_126 (lv_at hl 0 rfl) ?_
    refine lv_if_eq hx hb dS_128 (tgt := 206) rfl (fun q => absurd q (by decide)) (fun _ => ?_)
    refine lv_aload_n hx hb dS_131 rfl (lv_at hl 6 rfl) ?_
    refine mget hx hb hts hown hK hP hM.1 (k := 30) (fin := true) (by decide) v30 dS_132 ?_
    refine lv_iload hx hb dS_135 (lv_at hl 1 rfl) ?_
    refine lv_iload_n hx hb dS_137 rfl (lv_at hl 3 rfl) ?_
    refine va_iast hx hb hK hP hD hS 13 0 hM.2.2.2.2.2.2.1 rfl hbin dS_138 fun H locs hP hD hS => ?_
    have hM := hM.setP (upd (upd fp a.toNatClampNeg N) b.toNatClampNeg N)
    generalize ws.set 13 _ = ws at hM hP hD
    have hp2 : toZ (upd (upd fp a.toNatClampNeg N) b.toNatClampNeg N) = up (up (toZ fp) a.toInt.toNat (N.toInt.toNat : Int)) b.toInt.toNat (N.toInt.toNat : Int) := by
      rw [toZ_upd (by omega), hp1, hbz, show ((N.toInt.toNat : Nat) : Int) = N.toInt by omega]
    refine lv_aload_n hx hb dS_139 rfl (lv_at hl 6 rfl) ?_
    refine mget hx hb hts hown hK hP hM.1 (k := 28) (fin := true) (by decide) v28 dS_140 ?_
    refine lv_iload_n hx hb dS_143 rfl (lv_at hl 3 rfl) ?_
    refine lv_aload_n hx hb dS_144 rfl (lv_at hl 6 rfl) ?_
    refine mget hx hb hts hown hK hP hM.1 (k := 28) (fin := true) (by decide) v28 dS_145 ?_
    refine lv_iload hx hb dS_148 (lv_at hl 2 rfl) ?_
    refine va_iald hx hb hK hP 11 0 hM.2.2.2.2.1 rfl hain dS_150 ?_
    refine lv_aload_n hx hb dS_151 rfl (lv_at hl 6 rfl) ?_
    refine mget hx hb hts hown hK hP hM.1 (k := 28) (fin := true) (by decide) v28 dS_152 ?_
    refine lv_iload hx hb dS_155 (lv_at hl 1 rfl) ?_
    refine va_iald hx hb hK hP 11 0 hM.2.2.2.2.1 rfl hbin dS_157 ?_
    refine lv_iadd hx hb dS_158 ?_
    refine va_iast hx hb hK hP hD hS 11 0 hM.2.2.2.2.1 rfl hNin dS_159 fun H locs hP hD hS => ?_
    have hwa : (fw a.toNatClampNeg).toInt = toZ fw a.toInt.toNat := (toZ_i a0 (by omega)).symm
    have hwb : (fw b.toNatClampNeg).toInt = toZ fw b.toInt.toNat := (toZ_i b0 (by omega)).symm
    have hwa0 : 0 < toZ fw a.toInt.toNat := ha.2.1.1
    have hwb0 : 0 < toZ fw b.toInt.toNat := hbl.2.1.1
    have hws : (fw a.toNatClampNeg + fw b.toNatClampNeg).toInt = toZ fw a.toInt.toNat + toZ fw b.toInt.toNat := by
      rw [nu_add (by omega) (by omega), hwa, hwb]
    have hM := hM.setW (upd fw N.toNatClampNeg (fw a.toNatClampNeg + fw b.toNatClampNeg))
    generalize ws.set 11 _ = ws at hM hP hD
    have hw3 : toZ (upd fw N.toNatClampNeg (fw a.toNatClampNeg + fw b.toNatClampNeg)) = up (toZ fw) N.toInt.toNat (toZ fw a.toInt.toNat + toZ fw b.toInt.toNat) := by
      rw [toZ_upd (by omega), hNz, hws]
    -- greatest: one of the two
    have tail : ∀ x : Int32, 0 ≤ x.toInt → x.toInt ≤ 640 → W p l e R s m args below meth c H locs cells slots Q (F0 m 199 ls [.int x, .int N, .ref (ad 12)]) := fun x hx0 hx1 => by
      refine va_iast hx hb hK hP hD hS 12 0 hM.2.2.2.2.2.1 rfl hNin dS_199 fun H locs hP hD hS => ?_
      have hM := hM.setG (upd fg N.toNatClampNeg x)
      generalize ws.set 12 _ = ws at hM hP hD
      refine lv_iinc hx hb dS_200 hl (k := 3) rfl rfl (by decide) rfl fun ls hl => ?_
      have hl : lv_has ls 9 [(3, .int (N + Int32.ofInt 1)), (5, .int 1), (6, .int b), (4, .int a), (2, .int nn), (1, .int st), (0, .ref (ad 0))] := hl
      have hN3 : (N + Int32.ofInt 1).toInt = N.toInt + 1 := by
        rw [nu_add (by rw [i1]; omega) (by rw [i1]; omega), i1]
      have hN4 : (N + Int32.ofInt 1).toInt.toNat = N.toInt.toNat + 1 := by rw [hN3]; omega
      refine lv_goto hx hb dS_203 (tgt := 214) rfl ?_
      refine lv_goto hx hb dS_214 (tgt := 86) rfl ?_
      cases j with
      | zero => omega
      | succ j =>
        refine suit_l2 S hR hcs hK hv hn hSm fin j (N + Int32.ofInt 1) 1 a ls ws H locs _ _ _ (by rw [hN3]; omega) (by rw [hN3]; omega) hM hP hD hS (fun i hi => ?_) (by rw [hN4, hw3, hp2]; exact hT2) (fun _ => ⟨N.toInt.toNat, by rw [hN4]; omega, ?_⟩) (lv_sub hl [1, 3, 0, 4, 5, 6] rfl)
        · obtain ⟨r1, r2, r3, r4, r5⟩ := hr i hi
          refine ⟨?_, ?_, ?_, ?_⟩
          · unfold upd
            split
            · rw [hws]; omega
            · exact r1
          · unfold upd
            split
            · exact hx0
            · exact r2
          · unfold upd
            split
            · exact hx1
            · exact r3
          · unfold upd
            split
            · exact ⟨by omega, by omega⟩
            · split
              · exact ⟨by omega, by omega⟩
              · exact ⟨r4, r5⟩
        · rw [hw3, hp2]
          refine ⟨?_, ?_⟩
          · unfold up
            rw [if_pos rfl]
            omega
          · unfold up
            rw [if_neg (by omega), if_neg (by omega)]
            exact hT.2.2.1 _ (Nat.le_refl _)
    refine lv_aload_n hx hb dS_160 rfl (lv_at hl 6 rfl) ?_
    refine mget hx hb hts hown hK hP hM.1 (k := 29) (fin := true) (by decide) v29 dS_161 ?_
    refine lv_iload_n hx hb dS_164 rfl (lv_at hl 3 rfl) ?_
    refine lv_aload_n hx hb dS_165 rfl (lv_at hl 6 rfl) ?_
    refine mget hx hb hts hown hK hP hM.1 (k := 29) (fin := true) (by decide) v29 dS_166 ?_
    refine lv_iload hx hb dS_169 (lv_at hl 2 rfl) ?_
    refine va_iald hx hb hK hP 12 0 hM.2.2.2.2.2.1 rfl hain dS_171 ?_
    refine lv_aload_n hx hb dS_172 rfl (lv_at hl 6 rfl) ?_
    refine mget hx hb hts hown hK hP hM.1 (k := 29) (fin := true) (by decide) v29 dS_173 ?_
    refine lv_iload hx hb dS_176 (lv_at hl 1 rfl) ?_
    refine va_iald hx hb hK hP 12 0 hM.2.2.2.2.2.1 rfl hbin dS_178 ?_
    have ra := hr a.toNatClampNeg (by omega)
    have rb := hr b.toNatClampNeg (by omega)
    refine lv_icmp_le hx hb dS_179 (tgt := 192) rfl (fun _ => ?_) (fun _ => ?_)
    · refine lv_aload_n hx hb dS_192 rfl (lv_at hl 6 rfl) ?_
      refine mget hx hb hts hown hK hP hM.1 (k := 29) (fin := true) (by decide) v29 dS_193 ?_
      refine lv_iload hx hb dS_196 (lv_at hl 1 rfl) ?_
      exact va_iald hx hb hK hP 12 0 hM.2.2.2.2.2.1 rfl hbin dS_198 (tail _ rb.2.1 rb.2.2.1)
    · refine lv_aload_n hx hb dS_182 rfl (lv_at hl 6 rfl) ?_
      refine mget hx hb hts hown hK hP hM.1 (k := 29) (fin := true) (by decide) v29 dS_183 ?_
      refine lv_iload hx hb dS_186 (lv_at hl 2 rfl) ?_
      refine va_iald hx hb hK hP 12 0 hM.2.2.2.2.2.1 rfl hain dS_188 ?_
      exact lv_goto hx hb dS_189 (tgt := 199) rfl (tail _ ra.2.1 ra.2.2.1)
end Suit
