theorem dL_0 : decode prog_14_method_16_code 0 = .ok (.iconst (-1), 1) := by decide +kernel
theorem dL_1 : decode prog_14_method_16_code 1 = .ok (.istore_n 2, 1) := by decide +kernel
theorem dL_2 : decode prog_14_method_16_code 2 = .ok (.iconst 0, 1) := by decide +kernel
theorem dL_3 : decode prog_14_method_16_code 3 = .ok (.istore_n 3, 1) := by decide +kernel
theorem dL_4 : decode prog_14_method_16_code 4 = .ok (.iload_n 3, 1) := by decide +kernel
theorem dL_5 : decode prog_14_method_16_code 5 = .ok (.iload_n 1, 1) := by decide +kernel
theorem dL_6 : decode prog_14_method_16_code 6 = .ok (.if_icmp .ge 96, 3) := by decide +kernel
theorem dL_9 : decode prog_14_method_16_code 9 = .ok (.aload_n 0, 1) := by decide +kernel
theorem dL_10 : decode prog_14_method_16_code 10 = .ok (.getfield 40, 3) := by decide +kernel
theorem dL_13 : decode prog_14_method_16_code 13 = .ok (.iload_n 3, 1) := by decide +kernel
theorem dL_14 : decode prog_14_method_16_code 14 = .ok (.iaload, 1) := by decide +kernel
theorem dL_15 : decode prog_14_method_16_code 15 = .ok (.ifCond .le 81, 3) := by decide +kernel
theorem dL_18 : decode prog_14_method_16_code 18 = .ok (.aload_n 0, 1) := by decide +kernel
theorem dL_19 : decode prog_14_method_16_code 19 = .ok (.getfield 46, 3) := by decide +kernel
theorem dL_22 : decode prog_14_method_16_code 22 = .ok (.iload_n 3, 1) := by decide +kernel
theorem dL_23 : decode prog_14_method_16_code 23 = .ok (.iaload, 1) := by decide +kernel
theorem dL_24 : decode prog_14_method_16_code 24 = .ok (.iconst (-1), 1) := by decide +kernel
theorem dL_25 : decode prog_14_method_16_code 25 = .ok (.if_icmp .ne 71, 3) := by decide +kernel
theorem dL_28 : decode prog_14_method_16_code 28 = .ok (.iload_n 2, 1) := by decide +kernel
theorem dL_29 : decode prog_14_method_16_code 29 = .ok (.iconst (-1), 1) := by decide +kernel
theorem dL_30 : decode prog_14_method_16_code 30 = .ok (.if_icmp .eq 48, 3) := by decide +kernel
theorem dL_33 : decode prog_14_method_16_code 33 = .ok (.aload_n 0, 1) := by decide +kernel
theorem dL_34 : decode prog_14_method_16_code 34 = .ok (.getfield 40, 3) := by decide +kernel
theorem dL_37 : decode prog_14_method_16_code 37 = .ok (.iload_n 3, 1) := by decide +kernel
theorem dL_38 : decode prog_14_method_16_code 38 = .ok (.iaload, 1) := by decide +kernel
theorem dL_39 : decode prog_14_method_16_code 39 = .ok (.aload_n 0, 1) := by decide +kernel
theorem dL_40 : decode prog_14_method_16_code 40 = .ok (.getfield 40, 3) := by decide +kernel
theorem dL_43 : decode prog_14_method_16_code 43 = .ok (.iload_n 2, 1) := by decide +kernel
theorem dL_44 : decode prog_14_method_16_code 44 = .ok (.iaload, 1) := by decide +kernel
theorem dL_45 : decode prog_14_method_16_code 45 = .ok (.if_icmp .lt 33, 3) := by decide +kernel
theorem dL_48 : decode prog_14_method_16_code 48 = .ok (.aload_n 0, 1) := by decide +kernel
theorem dL_49 : decode prog_14_method_16_code 49 = .ok (.getfield 40, 3) := by decide +kernel
theorem dL_52 : decode prog_14_method_16_code 52 = .ok (.iload_n 3, 1) := by decide +kernel
theorem dL_53 : decode prog_14_method_16_code 53 = .ok (.iaload, 1) := by decide +kernel
theorem dL_54 : decode prog_14_method_16_code 54 = .ok (.aload_n 0, 1) := by decide +kernel
theorem dL_55 : decode prog_14_method_16_code 55 = .ok (.getfield 40, 3) := by decide +kernel
theorem dL_58 : decode prog_14_method_16_code 58 = .ok (.iload_n 2, 1) := by decide +kernel
theorem dL_59 : decode prog_14_method_16_code 59 = .ok (.iaload, 1) := by decide +kernel
theorem dL_60 : decode prog_14_method_16_code 60 = .ok (.if_icmp .ne 22, 3) := by decide +kernel
theorem dL_63 : decode prog_14_method_16_code 63 = .ok (.aload_n 0, 1) := by decide +kernel
theorem dL_64 : decode prog_14_method_16_code 64 = .ok (.getfield 43, 3) := by decide +kernel
theorem dL_67 : decode prog_14_method_16_code 67 = .ok (.iload_n 3, 1) := by decide +kernel
theorem dL_68 : decode prog_14_method_16_code 68 = .ok (.iaload, 1) := by decide +kernel
theorem dL_69 : decode prog_14_method_16_code 69 = .ok (.aload_n 0, 1) := by decide +kernel
theorem dL_70 : decode prog_14_method_16_code 70 = .ok (.getfield 43, 3) := by decide +kernel
theorem dL_73 : decode prog_14_method_16_code 73 = .ok (.iload_n 2, 1) := by decide +kernel
theorem dL_74 : decode prog_14_method_16_code 74 = .ok (.iaload, 1) := by decide +kernel
theorem dL_75 : decode prog_14_method_16_code 75 = .ok (.if_icmp .le 7, 3) := by decide +kernel
theorem dL_78 : decode prog_14_method_16_code 78 = .ok (.iconst 1, 1) := by decide +kernel
theorem dL_79 : decode prog_14_method_16_code 79 = .ok (.goto 4, 3) := by decide +kernel
theorem dL_82 : decode prog_14_method_16_code 82 = .ok (.iconst 0, 1) := by decide +kernel
theorem dL_83 : decode prog_14_method_16_code 83 = .ok (.istore 4, 2) := by decide +kernel
theorem dL_85 : decode prog_14_method_16_code 85 = .ok (.iload 4, 2) := by decide +kernel
theorem dL_87 : decode prog_14_method_16_code 87 = .ok (.ifCond .eq 7, 3) := by decide +kernel
theorem dL_90 : decode prog_14_method_16_code 90 = .ok (.iload_n 3, 1) := by decide +kernel
theorem dL_91 : decode prog_14_method_16_code 91 = .ok (.goto 4, 3) := by decide +kernel
theorem dL_94 : decode prog_14_method_16_code 94 = .ok (.iload_n 2, 1) := by decide +kernel
theorem dL_95 : decode prog_14_method_16_code 95 = .ok (.istore_n 2, 1) := by decide +kernel
theorem dL_96 : decode prog_14_method_16_code 96 = .ok (.iinc 3 1, 3) := by decide +kernel
theorem dL_99 : decode prog_14_method_16_code 99 = .ok (.goto (-95), 3) := by decide +kernel
theorem dL_102 : decode prog_14_method_16_code 102 = .ok (.iload_n 2, 1) := by decide +kernel
theorem dL_103 : decode prog_14_method_16_code 103 = .ok (.ireturn, 1) := by decide +kernel
/-! the reference's arrays, exactly -/
def toZ (f : Nat → Int32) : Nat → Int := fun k => if k < 640 then (f k).toInt else -1
theorem toZ_at {f : Nat → Int32} {k : Nat} (h : k < 640) : toZ f k = (f k).toInt := if_pos h
theorem toZ_i {f : Nat → Int32} {k : Int32} (h0 : 0 ≤ k.toInt) (h : k.toInt < 640) : toZ f k.toInt.toNat = (f k.toNatClampNeg).toInt := if_pos (by omega)
def Sw (cI : ClassId) (ad : Nat → Nat) (vs : List Value) (fo : Nat → Int32) (w0 : va_W) (fl fc fw fg fp : Nat → Int32) (ws : va_W) : Prop :=
  ws[0]? = some (ad 0, .inr (9, vs)) ∧ ws[8]? = some (ad 8, .inl (cI, 960, .inl fo)) ∧ ws[9]? = some (ad 9, .inl (cI, 960, .inl fl)) ∧ ws[10]? = some (ad 10, .inl (cI, 960, .inl fc)) ∧ ws[11]? = some (ad 11, .inl (cI, 640, .inl fw)) ∧ ws[12]? = some (ad 12, .inl (cI, 640, .inl fg)) ∧ ws[13]? = some (ad 13, .inl (cI, 640, .inl fp)) ∧
  (∀ k, k ≠ 9 → k ≠ 10 → k ≠ 11 → k ≠ 12 → k ≠ 13 → ws[k]? = w0[k]?) ∧ (ws.map fun q => q.1) = (w0.map fun q => q.1)
/-- what the object's fields refer to -/
def Sv (ad : Nat → Nat) (vs : List Value) : Prop := vs[25]? = some (.ref (ad 8)) ∧ vs[26]? = some (.ref (ad 9)) ∧ vs[28]? = some (.ref (ad 11)) ∧ vs[29]? = some (.ref (ad 12)) ∧ vs[30]? = some (.ref (ad 13))
section Exact
variable {p : Program} {l : Launch} {e : Env} {R : Room} {s : State} {m : MethodId} {args : Array Value} {below : List Frame} {meth : Method} {c : Code} {H : Heap} {locs : List Loc} {cells slots : Nat} {Q : State → Prop}
variable {D : va_G} {cy : Nat → ClassId} {cc : ByteArray} {pc : Nat} {ls : Array Slot} {rest : List Value} {ws : va_W}
theorem mget (hx : p.tables.exec = Jvm.exec) (hb : c.code = cc) (hts : ∀ w ∈ TB, w.before args s = true) (hown : s.vm.findClass RX12 = some m.cls) (hK : va_K D nCl (tysOf cy) s) (hP : va_P D nCl ws H) {a : Nat} {vs : List Value} (he : ws[0]? = some (a, .inr (9, vs))) {ix k : Nat} {fin : Bool} (hq : (ix, 9, k, fin) ∈ (FLX12.map fun q => q.1)) {v : Value} (hv : vs[k]? = some v) (hdg : decode cc pc = .ok (.getfield ix, 3))
    (kk : W p l e R s m args below meth c H locs cells slots Q (F0 m (pc + 3) ls (v :: rest))) : W p l e R s m args below meth c H locs cells slots Q (F0 m pc ls (.ref a :: rest)) := by
  obtain ⟨q, c1, c2, c3, c4, -, -⟩ := (CTX12 (G := gM)).2.1 _ hq
  exact va_get hx hb hts (nCl_ok _ _ c1).1 hown hK hP 0 he c1 k c2 (hts _ c3) (fun z hz => by rw [c4] at hz; exact hz) hv hdg kk
end Exact
theorem lt_z {a b : Int32} : a < b ↔ a.toInt < b.toInt := Int32.lt_iff_toInt_lt
theorem le_z {a b : Int32} : a ≤ b ↔ a.toInt ≤ b.toInt := Int32.le_iff_toInt_le
theorem eq_z {a b : Int32} : a = b ↔ a.toInt = b.toInt := Int32.toInt_inj.symm
theorem m1_z : (Int32.ofInt (-1)).toInt = -1 := by decide
theorem clamp_z {a : Int32} : a.toNatClampNeg = a.toInt.toNat := rfl
/-- the least so far -/
def Lso (w p : Nat → Int) (k : Nat) (it : Int) : Prop := (it = -1 ∧ ∀ j, j < k → ¬ lvN w p j) ∨ (0 ≤ it ∧ leastN k w p it.toNat)
theorem Lso.skip {w p : Nat → Int} {k : Nat} {it : Int} (h : Lso w p k it) (hk : ¬ lvN w p k) : Lso w p (k + 1) it := by
  rcases h with ⟨h1, h2⟩ | ⟨h1, h2, h3, h4⟩
  · refine Or.inl ⟨h1, fun j hj => ?_⟩
    by_cases e : j = k
    · rw [e]; exact hk
    · exact h2 j (by omega)
  · refine Or.inr ⟨h1, by omega, h3, fun j hj hl => ?_⟩
    by_cases e : j = k
    · rw [e] at hl; exact (hk hl).elim
    · exact h4 j (by omega) hl
theorem Lso.stay {w p : Nat → Int} {k : Nat} {it : Int} (h : Lso w p k it) (h0 : it ≠ -1) (hw : w it.toNat ≤ w k) : Lso w p (k + 1) it := by
  rcases h with ⟨h1, h2⟩ | ⟨h1, h2, h3, h4⟩
  · exact (h0 h1).elim
  · refine Or.inr ⟨h1, by omega, h3, fun j hj hl => ?_⟩
    by_cases e : j = k
    · rw [e]; exact hw
    · exact h4 j (by omega) hl
theorem Lso.take {w p : Nat → Int} {k : Nat} {it : Int} (h : Lso w p k it) (hk : lvN w p k) (hw : it ≠ -1 → w k ≤ w it.toNat) : Lso w p (k + 1) (k : Int) := by
  refine Or.inr ⟨by omega, by omega, by rw [Int.toNat_natCast]; exact hk, fun j hj hl => ?_⟩
  rw [Int.toNat_natCast]
  by_cases e : j = k
  · rw [e]; exact Int.le_refl _
  · rcases h with ⟨h1, h2⟩ | ⟨h1, h2, h3, h4⟩
    · exact (h2 j (by omega) hl).elim
    · have := h4 j (by omega) hl
      have := hw (by omega)
      omega
section Least
variable {p : Program} {l : Launch} {e : Env} {R : Room} {s : State} {m : MethodId} {args : Array Value} {below : List Frame} {meth : Method} {c : Code} {H : Heap} {locs : List Loc} {cells slots : Nat} {Q : State → Prop}
variable {D : va_G} {cy : Nat → ClassId} {ws : va_W} {ad : Nat → Nat} {vs : List Value} {fw fg fp : Nat → Int32} {n : Int32}
theorem least_loop (hx : p.tables.exec = Jvm.exec) (hb : c.code = prog_14_method_16_code) (hts : ∀ w ∈ TB, w.before args s = true) (hown : s.vm.findClass RX12 = some m.cls) (hK : va_K D nCl (tysOf cy) s) (hP : va_P D nCl ws H) (h0 : ws[0]? = some (ad 0, .inr (9, vs))) (hv : Sv ad vs)
    (h11 : ws[11]? = some (ad 11, .inl (cy 0, 640, .inl fw))) (h12 : ws[12]? = some (ad 12, .inl (cy 0, 640, .inl fg))) (h13 : ws[13]? = some (ad 13, .inl (cy 0, 640, .inl fp))) (hn : n.toInt ≤ 640)
    (fin : ∀ (r : Int32) (ls : Array Slot), Lso (toZ fw) (toZ fp) n.toInt.toNat r.toInt → W p l e R s m args below meth c H locs cells slots Q (F0 m 103 ls [.int r])) :
    ∀ (j : Nat) (k it : Int32) (ls : Array Slot), n.toInt - k.toInt ≤ (j : Int) → 0 ≤ k.toInt → k.toInt ≤ n.toInt → Lso (toZ fw) (toZ fp) k.toInt.toNat it.toInt → lv_has ls 5 [(3, .int k), (2, .int it), (1, .int n), (0, .ref (ad 0))] →
      W p l e R s m args below meth c H locs cells slots Q (F0 m 4 ls [])
  | j, k, it, ls, hj, hk0, hkn, hI, hl => by
    obtain ⟨v25, v26, v28, v29, v30⟩ := hv
    refine lv_iload_n hx hb dL_4 rfl (lv_at hl 0 rfl) ?_
    refine lv_iload_n hx hb dL_5 rfl (lv_at hl 2 rfl) ?_
    refine lv_icmp_ge hx hb dL_6 (tgt := 102) rfl (fun hc => ?_) (fun hc => ?_)
    · refine lv_iload_n hx hb dL_102 rfl (lv_at hl 1 rfl) ?_
      rw [le_z] at hc
      rw [show k.toInt = n.toInt by omega] at hI
      exact fin it ls hI
    rw [le_z] at hc
    have hkl : vp_in k 640 := inb hk0 (by omega)
    have hkz : k.toNatClampNeg = k.toInt.toNat := rfl
    have hk1 : (k + Int32.ofInt 1).toInt = k.toInt + 1 := by
      have e1 : (Int32.ofInt 1).toInt = 1 := by decide
      rw [nu_add (by rw [e1]; omega) (by rw [e1]; omega), e1]
    have hkn1 : (k + Int32.ofInt 1).toInt.toNat = k.toInt.toNat + 1 := by rw [hk1]; omega
    -- the next round
    have next : ∀ (it' : Int32) (ls' : Array Slot) (lv : List (Nat × Value)) (i3 : Nat), Lso (toZ fw) (toZ fp) (k.toInt.toNat + 1) it'.toInt → lv_has ls' 5 lv → lv[i3]? = some (3, .int k) → (3, Value.int (k + Int32.ofInt 1)) :: lv.filter (fun q => !(q.1 == 3) && !(q.1 + 1 == 3 && q.2.category == 2)) = [(3, .int (k + Int32.ofInt 1)), (2, .int it'), (1, .int n), (0, .ref (ad 0))] →
        W p l e R s m args below meth c H locs cells slots Q (F0 m 96 ls' []) := fun it' ls' lv i3 h1 h2 h3 h4 => by
      refine lv_iinc hx hb dL_96 h2 h3 rfl (by decide) h4 fun ls2 hl2 => ?_
      refine lv_goto hx hb dL_99 (tgt := 4) rfl ?_
      cases j with
      | zero => omega
      | succ j => exact least_loop hx hb hts hown hK hP h0 ⟨v25, v26, v28, v29, v30⟩ h11 h12 h13 hn fin j _ it' ls2 (by rw [hk1]; omega) (by rw [hk1]; omega) (by rw [hk1]; omega) (by rw [hkn1]; exact h1) hl2
    refine lv_aload_n hx hb dL_9 rfl (lv_at hl 3 rfl) ?_
    refine mget hx hb hts hown hK hP h0 (k := 28) (fin := true) (by decide) v28 dL_10 ?_
    refine lv_iload_n hx hb dL_13 rfl (lv_at hl 0 rfl) ?_
    refine va_iald hx hb hK hP 11 0 h11 rfl hkl dL_14 ?_
    refine lv_if_le hx hb dL_15 (tgt := 96) rfl (fun hc1 => ?_) (fun hc1 => ?_)
    · refine next it ls _ 0 (hI.skip fun q => ?_) hl rfl rfl
      rw [le_z, Int32.toInt_zero] at hc1
      have := q.1
      rw [toZ_i hk0 (by omega)] at this
      omega
    have hc1 : 0 < (fw k.toNatClampNeg).toInt := by
      rw [le_z, Int32.toInt_zero] at hc1
      omega
    refine lv_aload_n hx hb dL_18 rfl (lv_at hl 3 rfl) ?_
    refine mget hx hb hts hown hK hP h0 (k := 30) (fin := true) (by decide) v30 dL_19 ?_
    refine lv_iload_n hx hb dL_22 rfl (lv_at hl 0 rfl) ?_
    refine va_iald hx hb hK hP 13 0 h13 rfl hkl dL_23 ?_
    refine lv_iconst hx hb dL_24 rfl ?_
    refine lv_icmp_ne hx hb dL_25 (tgt := 96) rfl (fun hc2 => ?_) (fun hc2 => ?_)
    · refine next it ls _ 0 (hI.skip fun q => hc2 ?_) hl rfl rfl
      rw [eq_z, m1_z, ← toZ_i (f := fp) hk0 (by omega)]
      exact q.2
    have hlive : lvN (toZ fw) (toZ fp) k.toInt.toNat := by
      refine ⟨by rw [toZ_i hk0 (by omega)]; exact hc1, ?_⟩
      rw [eq_z, m1_z] at hc2
      rw [toZ_i hk0 (by omega)]
      exact hc2
    -- it becomes k, or stays
    have J1 : (it.toInt ≠ -1 → toZ fw k.toInt.toNat ≤ toZ fw it.toInt.toNat) → W p l e R s m args below meth c H locs cells slots Q (F0 m 78 ls []) := fun hw => by
      refine lv_iconst hx hb dL_78 rfl ?_
      refine lv_goto hx hb dL_79 (tgt := 83) rfl ?_
      refine lv_istore hx hb dL_83 hl (by decide) rfl fun ls2 hl2 => ?_
      have hl2 : lv_has ls2 5 [(4, .int 1), (3, .int k), (2, .int it), (1, .int n), (0, .ref (ad 0))] := hl2
      refine lv_iload hx hb dL_85 (lv_at hl2 0 rfl) ?_
      refine lv_if_eq hx hb dL_87 (tgt := 94) rfl (fun q => absurd q (by decide)) (fun _ => ?_)
      refine lv_iload_n hx hb dL_90 rfl (lv_at hl2 1 rfl) ?_
      refine lv_goto hx hb dL_91 (tgt := 95) rfl ?_
      refine lv_istore_n hx hb dL_95 rfl hl2 (by decide) rfl fun ls3 hl3 => ?_
      have hl3 : lv_has ls3 5 [(2, .int k), (4, .int 1), (3, .int k), (1, .int n), (0, .ref (ad 0))] := hl3
      have ht := hI.take hlive hw
      rw [show ((k.toInt.toNat : Nat) : Int) = k.toInt by omega] at ht
      exact next k ls3 _ 1 ht (lv_sub hl3 [0, 2, 3, 4] rfl) rfl rfl
    have J0 : it.toInt ≠ -1 → toZ fw it.toInt.toNat ≤ toZ fw k.toInt.toNat → W p l e R s m args below meth c H locs cells slots Q (F0 m 82 ls []) := fun hne hw => by
      refine lv_iconst hx hb dL_82 rfl ?_
      refine lv_istore hx hb dL_83 hl (by decide) rfl fun ls2 hl2 => ?_
      have hl2 : lv_has ls2 5 [(4, .int 0), (3, .int k), (2, .int it), (1, .int n), (0, .ref (ad 0))] := hl2
      refine lv_iload hx hb dL_85 (lv_at hl2 0 rfl) ?_
      refine lv_if_eq hx hb dL_87 (tgt := 94) rfl (fun _ => ?_) (fun q => absurd rfl q)
      refine lv_iload_n hx hb dL_94 rfl (lv_at hl2 2 rfl) ?_
      refine lv_istore_n hx hb dL_95 rfl hl2 (by decide) rfl fun ls3 hl3 => ?_
      have hl3 : lv_has ls3 5 [(2, .int it), (4, .int 0), (3, .int k), (1, .int n), (0, .ref (ad 0))] := hl3
      exact next it ls3 _ 1 (hI.stay hne hw) (lv_sub hl3 [0, 2, 3, 4] rfl) rfl rfl
    refine lv_iload_n hx hb dL_28 rfl (lv_at hl 1 rfl) ?_
    refine lv_iconst hx hb dL_29 rfl ?_
    refine lv_icmp_eq hx hb dL_30 (tgt := 78) rfl (fun hc3 => J1 fun q => ?_) (fun hc3 => ?_)
    · rw [eq_z, m1_z] at hc3
      exact (q hc3).elim
    have hne : it.toInt ≠ -1 := fun q => hc3 (by rw [eq_z, m1_z]; exact q)
    have hit : 0 ≤ it.toInt ∧ it.toInt < k.toInt := by
      rcases hI with ⟨q, -⟩ | ⟨q1, q2, -⟩
      · exact (hne q).elim
      · omega
    have hil : vp_in it 640 := inb hit.1 (by omega)
    refine lv_aload_n hx hb dL_33 rfl (lv_at hl 3 rfl) ?_
    refine mget hx hb hts hown hK hP h0 (k := 28) (fin := true) (by decide) v28 dL_34 ?_
    refine lv_iload_n hx hb dL_37 rfl (lv_at hl 0 rfl) ?_
    refine va_iald hx hb hK hP 11 0 h11 rfl hkl dL_38 ?_
    refine lv_aload_n hx hb dL_39 rfl (lv_at hl 3 rfl) ?_
    refine mget hx hb hts hown hK hP h0 (k := 28) (fin := true) (by decide) v28 dL_40 ?_
    refine lv_iload_n hx hb dL_43 rfl (lv_at hl 1 rfl) ?_
    refine va_iald hx hb hK hP 11 0 h11 rfl hil dL_44 ?_
    refine lv_icmp_lt hx hb dL_45 (tgt := 78) rfl (fun hc4 => J1 fun _ => ?_) (fun hc4 => ?_)
    · rw [lt_z] at hc4
      rw [toZ_i hk0 (by omega), toZ_i hit.1 (by omega)]
      exact Int.le_of_lt hc4
    rw [lt_z] at hc4
    refine lv_aload_n hx hb dL_48 rfl (lv_at hl 3 rfl) ?_
    refine mget hx hb hts hown hK hP h0 (k := 28) (fin := true) (by decide) v28 dL_49 ?_
    refine lv_iload_n hx hb dL_52 rfl (lv_at hl 0 rfl) ?_
    refine va_iald hx hb hK hP 11 0 h11 rfl hkl dL_53 ?_
    refine lv_aload_n hx hb dL_54 rfl (lv_at hl 3 rfl) ?_
    refine mget hx hb hts hown hK hP h0 (k := 28) (fin := true) (by decide) v28 dL_55 ?_
    refine lv_iload_n hx hb dL_58 rfl (lv_at hl 1 rfl) ?_
    refine va_iald hx hb hK hP 11 0 h11 rfl hil dL_59 ?_
    have hge : toZ fw it.toInt.toNat ≤ toZ fw k.toInt.toNat := by
      rw [toZ_i hk0 (by omega), toZ_i hit.1 (by omega)]
      omega
    refine lv_icmp_ne hx hb dL_60 (tgt := 82) rfl (fun _ => J0 hne hge) (fun hc5 => ?_)
    have heq : toZ fw k.toInt.toNat = toZ fw it.toInt.toNat := by
      rw [toZ_i hk0 (by omega), toZ_i hit.1 (by omega)]
      exact eq_z.mp hc5
    refine lv_aload_n hx hb dL_63 rfl (lv_at hl 3 rfl) ?_
    refine mget hx hb hts hown hK hP h0 (k := 29) (fin := true) (by decide) v29 dL_64 ?_
    refine lv_iload_n hx hb dL_67 rfl (lv_at hl 0 rfl) ?_
    refine va_iald hx hb hK hP 12 0 h12 rfl hkl dL_68 ?_
    refine lv_aload_n hx hb dL_69 rfl (lv_at hl 3 rfl) ?_
    refine mget hx hb hts hown hK hP h0 (k := 29) (fin := true) (by decide) v29 dL_70 ?_
    refine lv_iload_n hx hb dL_73 rfl (lv_at hl 1 rfl) ?_
    refine va_iald hx hb hK hP 12 0 h12 rfl hil dL_74 ?_
    exact lv_icmp_le hx hb dL_75 (tgt := 82) rfl (fun _ => J0 hne hge) (fun _ => J1 fun _ => by omega)
end Least
/-- leastNode, exactly -/
theorem least_met {l : Launch} {D : va_G} {cy : Nat → ClassId} {H0 : Heap} {ws : va_W} {ad : Nat → Nat} {vs : List Value} {fw fg fp : Nat → Int32} {n : Int32} (hP : va_P D nCl ws H0) (h0 : ws[0]? = some (ad 0, .inr (9, vs))) (hv : Sv ad vs)
    (h11 : ws[11]? = some (ad 11, .inl (cy 0, 640, .inl fw))) (h12 : ws[12]? = some (ad 12, .inl (cy 0, 640, .inl fg))) (h13 : ws[13]? = some (ad 13, .inl (cy 0, 640, .inl fp))) (hn0 : 0 ≤ n.toInt) (hn : n.toInt ≤ 640) :
    Met l ⟨RX12, "leastNode", "(I)I"⟩ (wsM TB (⟨RX12, "leastNode", "(I)I"⟩, prog_14_method_16_code, 5, (some .int), 1)) { frames := 0, cells := 0, slots := 0, locals := 0 } (va_Pc [.ref (ad 0), .int n] (fun U => U.heap = H0 ∧ va_K D nCl (tysOf cy) U))
      (va_Qi (fun r (_ : Unit) => Lso (toZ fw) (toZ fp) n.toInt.toNat r.toInt) (fun _ t => t.heap = H0) (fun _ => False)) 0 0 (fun _ => False) := by
  refine Met.ofW (cc := prog_14_method_16_code) (maxL := 5) (ret := some .int) (by decide) rfl ?_
  intro p e s m args below meth c s₁ B hml hvv
  obtain ⟨rfl, hH, hK⟩ := hvv
  subst hH
  have hx := B.exec
  have hb := B.bytes
  have hr := B.returns
  have hts : ∀ w ∈ TB, w.before [Value.ref (ad 0), Value.int n].toArray s = true := fun w hw => atoms_spec (ws := wsM TB _) B.pre w (List.mem_cons_of_mem _ hw)
  have hown : s.vm.findClass RX12 = some m.cls := findClass_of_methodNamed B.named
  have hlocks := B.notSynchronized
  have hl := lv_entry [Value.ref (ad 0), Value.int n] (n := 5) (Nat.le_of_ble_eq_true rfl)
  rw [lg_entry_eq]
  generalize (lg_sl [Value.ref (ad 0), Value.int n] ++ List.replicate (5 - (lg_sl [Value.ref (ad 0), Value.int n]).length) Slot.unset).toArray = ls at hl ⊢
  have hl : lv_has ls 5 [(0, .ref (ad 0)), (1, .int n)] := hl
  refine lv_iconst hx hb dL_0 rfl ?_
  refine lv_istore_n hx hb dL_1 rfl hl (by decide) rfl fun ls1 hl1 => ?_
  have hl1 : lv_has ls1 5 [(2, .int (Int32.ofInt (-1))), (0, .ref (ad 0)), (1, .int n)] := hl1
  refine lv_iconst hx hb dL_2 rfl ?_
  refine lv_istore_n hx hb dL_3 rfl hl1 (by decide) rfl fun ls2 hl2 => ?_
  have hl2 : lv_has ls2 5 [(3, .int (Int32.ofInt 0)), (2, .int (Int32.ofInt (-1))), (0, .ref (ad 0)), (1, .int n)] := hl2
  have z0 : (Int32.ofInt 0).toInt = 0 := by decide
  refine least_loop hx hb hts hown hK hP h0 hv h11 h12 h13 hn (fun r ls hr9 => ?_) n.toInt.toNat (Int32.ofInt 0) (Int32.ofInt (-1)) ls2 (by rw [z0]; omega) (by rw [z0]; omega) (by rw [z0]; omega) (Or.inl ⟨m1_z, fun j hj => by rw [z0] at hj; omega⟩) (lv_sub hl2 [0, 1, 3, 2] rfl)
  exact W.iret hx hb hr (fun t ht hW => ⟨⟨r, (), rfl, hr9, ht⟩, by rw [ht]; exact Nat.le_refl _, fun q _ _ => by rw [ht]⟩) (fun q hq => by cases hq) dL_103
