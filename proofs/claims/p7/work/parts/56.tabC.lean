theorem dCt_0 : decode prog_1_method_7_code 0 = .ok (.ldc 163, 2) := by decide +kernel
theorem dCt_2 : decode prog_1_method_7_code 2 = .ok (.istore_n 2, 1) := by decide +kernel
theorem dCt_3 : decode prog_1_method_7_code 3 = .ok (.iconst 0, 1) := by decide +kernel
theorem dCt_4 : decode prog_1_method_7_code 4 = .ok (.istore_n 3, 1) := by decide +kernel
theorem dCt_5 : decode prog_1_method_7_code 5 = .ok (.iload_n 3, 1) := by decide +kernel
theorem dCt_6 : decode prog_1_method_7_code 6 = .ok (.bipush 32, 2) := by decide +kernel
theorem dCt_8 : decode prog_1_method_7_code 8 = .ok (.if_icmp .ge 32, 3) := by decide +kernel
theorem dCt_11 : decode prog_1_method_7_code 11 = .ok (.iload_n 1, 1) := by decide +kernel
theorem dCt_12 : decode prog_1_method_7_code 12 = .ok (.iload_n 3, 1) := by decide +kernel
theorem dCt_13 : decode prog_1_method_7_code 13 = .ok (.iushr, 1) := by decide +kernel
theorem dCt_14 : decode prog_1_method_7_code 14 = .ok (.bipush 15, 2) := by decide +kernel
theorem dCt_16 : decode prog_1_method_7_code 16 = .ok (.iand, 1) := by decide +kernel
theorem dCt_17 : decode prog_1_method_7_code 17 = .ok (.istore 4, 2) := by decide +kernel
theorem dCt_19 : decode prog_1_method_7_code 19 = .ok (.iload 4, 2) := by decide +kernel
theorem dCt_21 : decode prog_1_method_7_code 21 = .ok (.ifCond .le 13, 3) := by decide +kernel
theorem dCt_24 : decode prog_1_method_7_code 24 = .ok (.iload_n 2, 1) := by decide +kernel
theorem dCt_25 : decode prog_1_method_7_code 25 = .ok (.iconst 1, 1) := by decide +kernel
theorem dCt_26 : decode prog_1_method_7_code 26 = .ok (.bipush 15, 2) := by decide +kernel
theorem dCt_28 : decode prog_1_method_7_code 28 = .ok (.iload 4, 2) := by decide +kernel
theorem dCt_30 : decode prog_1_method_7_code 30 = .ok (.isub, 1) := by decide +kernel
theorem dCt_31 : decode prog_1_method_7_code 31 = .ok (.ishl, 1) := by decide +kernel
theorem dCt_32 : decode prog_1_method_7_code 32 = .ok (.isub, 1) := by decide +kernel
theorem dCt_33 : decode prog_1_method_7_code 33 = .ok (.istore_n 2, 1) := by decide +kernel
theorem dCt_34 : decode prog_1_method_7_code 34 = .ok (.iinc 3 4, 3) := by decide +kernel
theorem dCt_37 : decode prog_1_method_7_code 37 = .ok (.goto (-32), 3) := by decide +kernel
theorem dCt_40 : decode prog_1_method_7_code 40 = .ok (.iload_n 2, 1) := by decide +kernel
theorem dCt_41 : decode prog_1_method_7_code 41 = .ok (.ifCond .ge 5, 3) := by decide +kernel
theorem dCt_44 : decode prog_1_method_7_code 44 = .ok (.iconst (-1), 1) := by decide +kernel
theorem dCt_45 : decode prog_1_method_7_code 45 = .ok (.ireturn, 1) := by decide +kernel
theorem dCt_46 : decode prog_1_method_7_code 46 = .ok (.iload_n 2, 1) := by decide +kernel
theorem dCt_47 : decode prog_1_method_7_code 47 = .ok (.ifCond .ne 7, 3) := by decide +kernel
theorem dCt_50 : decode prog_1_method_7_code 50 = .ok (.iconst 1, 1) := by decide +kernel
theorem dCt_51 : decode prog_1_method_7_code 51 = .ok (.goto 4, 3) := by decide +kernel
theorem dCt_54 : decode prog_1_method_7_code 54 = .ok (.iconst 0, 1) := by decide +kernel
theorem dCt_55 : decode prog_1_method_7_code 55 = .ok (.ireturn, 1) := by decide +kernel
theorem dMt_0 : decode prog_14_method_76_code 0 = .ok (.aload_n 0, 1) := by decide +kernel
theorem dMt_1 : decode prog_14_method_76_code 1 = .ok (.iconst 0, 1) := by decide +kernel
theorem dMt_2 : decode prog_14_method_76_code 2 = .ok (.putfield 70, 3) := by decide +kernel
theorem dMt_5 : decode prog_14_method_76_code 5 = .ok (.iconst 0, 1) := by decide +kernel
theorem dMt_6 : decode prog_14_method_76_code 6 = .ok (.istore_n 2, 1) := by decide +kernel
theorem dMt_7 : decode prog_14_method_76_code 7 = .ok (.iload_n 2, 1) := by decide +kernel
theorem dMt_8 : decode prog_14_method_76_code 8 = .ok (.bipush 8, 2) := by decide +kernel
theorem dMt_10 : decode prog_14_method_76_code 10 = .ok (.if_icmp .ge 27, 3) := by decide +kernel
theorem dMt_13 : decode prog_14_method_76_code 13 = .ok (.aload_n 0, 1) := by decide +kernel
theorem dMt_14 : decode prog_14_method_76_code 14 = .ok (.getfield 34, 3) := by decide +kernel
theorem dMt_17 : decode prog_14_method_76_code 17 = .ok (.sipush 640, 3) := by decide +kernel
theorem dMt_20 : decode prog_14_method_76_code 20 = .ok (.iload_n 2, 1) := by decide +kernel
theorem dMt_21 : decode prog_14_method_76_code 21 = .ok (.iadd, 1) := by decide +kernel
theorem dMt_22 : decode prog_14_method_76_code 22 = .ok (.iload_n 1, 1) := by decide +kernel
theorem dMt_23 : decode prog_14_method_76_code 23 = .ok (.iconst 4, 1) := by decide +kernel
theorem dMt_24 : decode prog_14_method_76_code 24 = .ok (.iload_n 2, 1) := by decide +kernel
theorem dMt_25 : decode prog_14_method_76_code 25 = .ok (.imul, 1) := by decide +kernel
theorem dMt_26 : decode prog_14_method_76_code 26 = .ok (.ishr, 1) := by decide +kernel
theorem dMt_27 : decode prog_14_method_76_code 27 = .ok (.bipush 15, 2) := by decide +kernel
theorem dMt_29 : decode prog_14_method_76_code 29 = .ok (.iand, 1) := by decide +kernel
theorem dMt_30 : decode prog_14_method_76_code 30 = .ok (.iastore, 1) := by decide +kernel
theorem dMt_31 : decode prog_14_method_76_code 31 = .ok (.iinc 2 1, 3) := by decide +kernel
theorem dMt_34 : decode prog_14_method_76_code 34 = .ok (.goto (-27), 3) := by decide +kernel
theorem dMt_37 : decode prog_14_method_76_code 37 = .ok (.aload_n 0, 1) := by decide +kernel
theorem dMt_38 : decode prog_14_method_76_code 38 = .ok (.iconst 2, 1) := by decide +kernel
theorem dMt_39 : decode prog_14_method_76_code 39 = .ok (.bipush 8, 2) := by decide +kernel
theorem dMt_41 : decode prog_14_method_76_code 41 = .ok (.invokevirtual 303, 3) := by decide +kernel
theorem dMt_44 : decode prog_14_method_76_code 44 = .ok (.ireturn, 1) := by decide +kernel
theorem dMs_0 : decode prog_14_method_58_code 0 = .ok (.lconst 0, 1) := by decide +kernel
theorem dMs_1 : decode prog_14_method_58_code 1 = .ok (.lstore_n 3, 1) := by decide +kernel
theorem dMs_2 : decode prog_14_method_58_code 2 = .ok (.iconst 0, 1) := by decide +kernel
theorem dMs_3 : decode prog_14_method_58_code 3 = .ok (.istore 5, 2) := by decide +kernel
theorem dMs_5 : decode prog_14_method_58_code 5 = .ok (.iload 5, 2) := by decide +kernel
theorem dMs_7 : decode prog_14_method_58_code 7 = .ok (.iload_n 2, 1) := by decide +kernel
theorem dMs_8 : decode prog_14_method_58_code 8 = .ok (.if_icmp .ge 43, 3) := by decide +kernel
theorem dMs_11 : decode prog_14_method_58_code 11 = .ok (.aload_n 0, 1) := by decide +kernel
theorem dMs_12 : decode prog_14_method_58_code 12 = .ok (.getfield 34, 3) := by decide +kernel
theorem dMs_15 : decode prog_14_method_58_code 15 = .ok (.sipush 320, 3) := by decide +kernel
theorem dMs_18 : decode prog_14_method_58_code 18 = .ok (.iload_n 1, 1) := by decide +kernel
theorem dMs_19 : decode prog_14_method_58_code 19 = .ok (.imul, 1) := by decide +kernel
theorem dMs_20 : decode prog_14_method_58_code 20 = .ok (.iload 5, 2) := by decide +kernel
theorem dMs_22 : decode prog_14_method_58_code 22 = .ok (.iadd, 1) := by decide +kernel
theorem dMs_23 : decode prog_14_method_58_code 23 = .ok (.iaload, 1) := by decide +kernel
theorem dMs_24 : decode prog_14_method_58_code 24 = .ok (.istore 6, 2) := by decide +kernel
theorem dMs_26 : decode prog_14_method_58_code 26 = .ok (.iload 6, 2) := by decide +kernel
theorem dMs_28 : decode prog_14_method_58_code 28 = .ok (.ifCond .le 15, 3) := by decide +kernel
theorem dMs_31 : decode prog_14_method_58_code 31 = .ok (.lload_n 3, 1) := by decide +kernel
theorem dMs_32 : decode prog_14_method_58_code 32 = .ok (.lconst 1, 1) := by decide +kernel
theorem dMs_33 : decode prog_14_method_58_code 33 = .ok (.bipush 15, 2) := by decide +kernel
theorem dMs_35 : decode prog_14_method_58_code 35 = .ok (.iload 6, 2) := by decide +kernel
theorem dMs_37 : decode prog_14_method_58_code 37 = .ok (.isub, 1) := by decide +kernel
theorem dMs_38 : decode prog_14_method_58_code 38 = .ok (.lshl, 1) := by decide +kernel
theorem dMs_39 : decode prog_14_method_58_code 39 = .ok (.ladd, 1) := by decide +kernel
theorem dMs_40 : decode prog_14_method_58_code 40 = .ok (.goto 4, 3) := by decide +kernel
theorem dMs_43 : decode prog_14_method_58_code 43 = .ok (.lload_n 3, 1) := by decide +kernel
theorem dMs_44 : decode prog_14_method_58_code 44 = .ok (.lstore_n 3, 1) := by decide +kernel
theorem dMs_45 : decode prog_14_method_58_code 45 = .ok (.iinc 5 1, 3) := by decide +kernel
theorem dMs_48 : decode prog_14_method_58_code 48 = .ok (.goto (-43), 3) := by decide +kernel
theorem dMs_51 : decode prog_14_method_58_code 51 = .ok (.lload_n 3, 1) := by decide +kernel
theorem dMs_52 : decode prog_14_method_58_code 52 = .ok (.ldc2_w 301, 3) := by decide +kernel
theorem dMs_55 : decode prog_14_method_58_code 55 = .ok (.lcmp, 1) := by decide +kernel
theorem dMs_56 : decode prog_14_method_58_code 56 = .ok (.ifCond .ne 7, 3) := by decide +kernel
theorem dMs_59 : decode prog_14_method_58_code 59 = .ok (.iconst 1, 1) := by decide +kernel
theorem dMs_60 : decode prog_14_method_58_code 60 = .ok (.goto 16, 3) := by decide +kernel
theorem dMs_63 : decode prog_14_method_58_code 63 = .ok (.lload_n 3, 1) := by decide +kernel
theorem dMs_64 : decode prog_14_method_58_code 64 = .ok (.ldc2_w 301, 3) := by decide +kernel
theorem dMs_67 : decode prog_14_method_58_code 67 = .ok (.lcmp, 1) := by decide +kernel
theorem dMs_68 : decode prog_14_method_58_code 68 = .ok (.ifCond .ge 7, 3) := by decide +kernel
theorem dMs_71 : decode prog_14_method_58_code 71 = .ok (.iconst 0, 1) := by decide +kernel
theorem dMs_72 : decode prog_14_method_58_code 72 = .ok (.goto 4, 3) := by decide +kernel
theorem dMs_75 : decode prog_14_method_58_code 75 = .ok (.iconst (-1), 1) := by decide +kernel
theorem dMs_76 : decode prog_14_method_58_code 76 = .ok (.ireturn, 1) := by decide +kernel
/-! table: eight nibbles -/
def nbC (v s : Int32) : Int32 := (v.toUInt32 >>> (s.toUInt32 &&& Int32.toUInt32 31)).toInt32 &&& (Int8.ofInt 15).toInt32
def nbM (v k : Int32) : Int32 := (v >>> ((Int32.ofInt 4 * k) &&& 31)) &&& (Int8.ofInt 15).toInt32
theorem nb_bits (x : BitVec 32) (n : Nat) (hn : n ≤ 28) : (x >>> n) &&& 15#32 = (x.sshiftRight n) &&& 15#32 := by
  apply BitVec.eq_of_getLsbD_eq
  intro i hi
  rw [BitVec.getLsbD_and, BitVec.getLsbD_and, BitVec.getLsbD_ushiftRight, BitVec.getLsbD_sshiftRight]
  by_cases h4 : i < 4
  · rw [if_pos (show n + i < 32 by omega)]
    simp only [hi, decide_false, Bool.not_false, Bool.true_and, Nat.not_le.mpr hi]
  · have : (15#32).getLsbD i = false := by
      rcases (show i = 4 ∨ i = 5 ∨ i = 6 ∨ i = 7 ∨ i = 8 ∨ i = 9 ∨ i = 10 ∨ i = 11 ∨ i = 12 ∨ i = 13 ∨ i = 14 ∨ i = 15 ∨ i = 16 ∨ i = 17 ∨ i = 18 ∨ i = 19 ∨ i = 20 ∨ i = 21 ∨ i = 22 ∨ i = 23 ∨ i = 24 ∨ i = 25 ∨ i = 26 ∨ i = 27 ∨ i = 28 ∨ i = 29 ∨ i = 30 ∨ i = 31 by omega) with h | h | h | h | h | h | h | h | h | h | h | h | h | h | h | h | h | h | h | h | h | h | h | h | h | h | h | h <;> subst h <;> rfl
    rw [this, Bool.and_false, Bool.and_false]
/-- the k-th nibble, either way -/
def nb (v : Int32) (k : Nat) : Int32 := nbM v (Int32.ofNat k)
theorem nbC_eq (v : Int32) : ∀ k, k < 8 → nbC v (Int32.ofNat (4 * k)) = nb v k := fun k hk => by
  apply Int32.toBitVec_inj.mp
  rcases (show k = 0 ∨ k = 1 ∨ k = 2 ∨ k = 3 ∨ k = 4 ∨ k = 5 ∨ k = 6 ∨ k = 7 by omega) with h | h | h | h | h | h | h | h <;> subst h
  · exact nb_bits v.toBitVec 0 (by decide)
  · exact nb_bits v.toBitVec 4 (by decide)
  · exact nb_bits v.toBitVec 8 (by decide)
  · exact nb_bits v.toBitVec 12 (by decide)
  · exact nb_bits v.toBitVec 16 (by decide)
  · exact nb_bits v.toBitVec 20 (by decide)
  · exact nb_bits v.toBitVec 24 (by decide)
  · exact nb_bits v.toBitVec 28 (by decide)
theorem nb_r (v : Int32) (k : Nat) : 0 ≤ (nb v k).toInt ∧ (nb v k).toInt ≤ 15 := i32_and_le (y := (Int8.ofInt 15).toInt32) (by decide)
/-- what a length takes of the room -/
def pw (n : Int32) : Int := if 0 < n.toInt then 2 ^ (15 - n.toInt).toNat else 0
theorem n16 {n : Int32} (h0 : 0 ≤ n.toInt) (h1 : n.toInt ≤ 15) : ∃ k : Nat, k < 16 ∧ n = Int32.ofNat k := by
  refine ⟨n.toInt.toNat, by omega, Int32.toInt_inj.mp ?_⟩
  have key : ∀ k, k < 16 → (Int32.ofNat k).toInt = k := by decide +kernel
  rw [key _ (by omega)]
  omega
theorem pw_r : ∀ k, k < 16 → 0 ≤ pw (Int32.ofNat k) ∧ pw (Int32.ofNat k) ≤ 16384 := by decide +kernel
theorem pw_C : ∀ k, k < 16 → 0 < (Int32.ofNat k).toInt → (Int32.ofInt 1 <<< (((Int8.ofInt 15).toInt32 - Int32.ofNat k) &&& 31)).toInt = pw (Int32.ofNat k) := by decide +kernel
theorem pw_M : ∀ k, k < 16 → 0 < (Int32.ofNat k).toInt → (Int64.ofNat 1 <<< (((Int8.ofInt 15).toInt32 - Int32.ofNat k).toInt64 &&& 63)).toInt = pw (Int32.ofNat k) := by decide +kernel
theorem pw_0 {n : Int32} (h : n.toInt ≤ 0) : pw n = 0 := if_neg (by omega)
/-- what all take -/
def us (v : Int32) : Nat → Int
  | 0 => 0
  | k + 1 => us v k + pw (nb v k)
theorem us_r (v : Int32) : ∀ k, 0 ≤ us v k ∧ us v k ≤ 16384 * k
  | 0 => ⟨Int.le_refl 0, by simp [us]⟩
  | k + 1 => by
    have h := us_r v k
    obtain ⟨j, hj, hn⟩ := n16 (nb_r v k).1 (nb_r v k).2
    have h2 := pw_r j hj
    rw [← hn] at h2
    show 0 ≤ us v k + pw (nb v k) ∧ us v k + pw (nb v k) ≤ 16384 * ((k + 1 : Nat) : Int)
    omega
def tabA (v : Int32) : Int32 := if us v 8 = 32768 then 1 else if us v 8 < 32768 then 0 else -1
section TabC
variable {p : Program} {l : Launch} {e : Env} {R : Room} {s : State} {m : MethodId} {args : Array Value} {below : List Frame} {meth : Method} {c : Code} {H : Heap} {locs : List Loc} {cells slots : Nat} {Q : State → Prop} {v : Int32} {a : Nat}
theorem tabC_loop (hx : p.tables.exec = Jvm.exec) (hb : c.code = prog_1_method_7_code) (fin : ∀ (room : Int32) (ls : Array Slot), room.toInt = 32768 - us v 8 → lv_has ls 5 [(2, .int room)] → W p l e R s m args below meth c H locs cells slots Q (F0 m 40 ls [])) :
    ∀ (j k : Nat) (room : Int32) (ls : Array Slot), 8 - k ≤ j → k ≤ 8 → room.toInt = 32768 - us v k → lv_has ls 5 [(3, .int (Int32.ofNat (4 * k))), (2, .int room), (1, .int v), (0, .ref a)] → W p l e R s m args below meth c H locs cells slots Q (F0 m 5 ls [])
  | j, k, room, ls, hj, hk, hr, hl => by
    have kz : (Int32.ofNat (4 * k)).toInt = 4 * k := by
      have key : ∀ k, k < 9 → (Int32.ofNat (4 * k)).toInt = 4 * k := by decide +kernel
      exact key k (by omega)
    have z32 : (Int8.ofInt 32).toInt32.toInt = 32 := by decide
    refine lv_iload_n hx hb dCt_5 rfl (lv_at hl 0 rfl) ?_
    refine lv_bipush hx hb dCt_6 rfl ?_
    refine lv_icmp_ge hx hb dCt_8 (tgt := 40) rfl (fun hc => ?_) (fun hc => ?_)
    · rw [le_z, kz, z32] at hc
      obtain rfl : k = 8 := by omega
      exact fin room ls hr (lv_sub hl [1] rfl)
    rw [le_z, kz, z32] at hc
    refine lv_iload_n hx hb dCt_11 rfl (lv_at hl 2 rfl) ?_
    refine lv_iload_n hx hb dCt_12 rfl (lv_at hl 0 rfl) ?_
    refine lv_iushr hx hb dCt_13 rfl ?_
    refine lv_bipush hx hb dCt_14 rfl ?_
    refine lv_iand hx hb dCt_16 ?_
    have hnb : (v.toUInt32 >>> ((Int32.ofNat (4 * k)).toUInt32 &&& Int32.toUInt32 31)).toInt32 &&& (Int8.ofInt 15).toInt32 = nb v k := nbC_eq v k (by omega)
    rw [hnb]
    refine lv_istore hx hb dCt_17 hl (by decide) rfl fun ls hl => ?_
    have hl : lv_has ls 5 [(4, .int (nb v k)), (3, .int (Int32.ofNat (4 * k))), (2, .int room), (1, .int v), (0, .ref a)] := hl
    have next : ∀ (room' : Int32) (ls : Array Slot) (lv : List (Nat × Value)) (i3 : Nat), room'.toInt = 32768 - us v (k + 1) → lv_has ls 5 lv → lv[i3]? = some (3, .int (Int32.ofNat (4 * k))) → (3, Value.int (Int32.ofNat (4 * k) + Int32.ofInt 4)) :: lv.filter (fun q => !(q.1 == 3) && !(q.1 + 1 == 3 && q.2.category == 2)) = [(3, .int (Int32.ofNat (4 * k) + Int32.ofInt 4)), (2, .int room'), (1, .int v), (0, .ref a)] →
        W p l e R s m args below meth c H locs cells slots Q (F0 m 34 ls []) := fun room' ls lv i3 h1 h2 h3 h4 => by
      refine lv_iinc hx hb dCt_34 h2 h3 rfl (by decide) h4 fun ls hl => ?_
      refine lv_goto hx hb dCt_37 (tgt := 5) rfl ?_
      have kn : Int32.ofNat (4 * k) + Int32.ofInt 4 = Int32.ofNat (4 * (k + 1)) := by
        have key : ∀ k, k < 8 → Int32.ofNat (4 * k) + Int32.ofInt 4 = Int32.ofNat (4 * (k + 1)) := by decide +kernel
        exact key k (by omega)
      rw [kn] at hl
      cases j with
      | zero => omega
      | succ j => exact tabC_loop hx hb fin j (k + 1) room' ls (by omega) (by omega) h1 hl
    have nr := nb_r v k
    obtain ⟨q, hq, hnq⟩ := n16 nr.1 nr.2
    have pr := pw_r q hq
    have ur := us_r v k
    refine lv_iload hx hb dCt_19 (lv_at hl 0 rfl) ?_
    refine lv_if_le hx hb dCt_21 (tgt := 34) rfl (fun hc1 => ?_) (fun hc1 => ?_)
    · rw [le_z, Int32.toInt_zero] at hc1
      refine next room ls _ 0 ?_ (lv_sub hl [1, 2, 3, 4] rfl) rfl rfl
      show _ = 32768 - (us v k + pw (nb v k))
      rw [pw_0 hc1]
      omega
    rw [le_z, Int32.toInt_zero] at hc1
    have hsh : (Int32.ofInt 1 <<< (((Int8.ofInt 15).toInt32 - nb v k) &&& 31)).toInt = pw (nb v k) := by
      rw [hnq] at hc1 ⊢
      exact pw_C q hq (by omega)
    rw [← hnq] at pr
    refine lv_iload_n hx hb dCt_24 rfl (lv_at hl 2 rfl) ?_
    refine lv_iconst hx hb dCt_25 rfl ?_
    refine lv_bipush hx hb dCt_26 rfl ?_
    refine lv_iload hx hb dCt_28 (lv_at hl 0 rfl) ?_
    refine lv_isub hx hb dCt_30 ?_
    refine lv_ishl hx hb dCt_31 ?_
    refine lv_isub hx hb dCt_32 ?_
    refine lv_istore_n hx hb dCt_33 rfl hl (by decide) rfl fun ls hl => ?_
    refine next _ ls [(2, .int (room - Int32.ofInt 1 <<< (((Int8.ofInt 15).toInt32 - nb v k) &&& 31))), (3, .int (Int32.ofNat (4 * k))), (1, .int v), (0, .ref a)] 1 ?_ (lv_sub hl [0, 2, 3, 4] rfl) rfl rfl
    show _ = 32768 - (us v k + pw (nb v k))
    rw [nu_sub (by rw [hsh]; omega) (by rw [hsh]; omega), hsh]
    omega
end TabC
abbrev yCt : MethodName := ⟨RX11, "table", "(I)I"⟩
abbrev miCt : MI := (yCt, prog_1_method_7_code, 5, (some .int), 1)
/-- the class's table, exactly -/
theorem tabC_met {l : Launch} {H0 : Heap} {a : Nat} {v : Int32} : Met l yCt (wsM TB miCt) { frames := 0, cells := 0, slots := 0, locals := 0 } (va_Pc [.ref a, .int v] (fun U => U.heap = H0)) (va_Qi (fun r (_ : Unit) => r = tabA v) (fun _ t => t.heap = H0) (fun _ => False)) 0 0 (fun _ => False) := by
  refine Met.ofW (cc := prog_1_method_7_code) (maxL := 5) (ret := some .int) (by decide) rfl ?_
  intro p e s m args below meth c s₁ B hml hvv
  obtain ⟨rfl, hH⟩ := hvv
  subst hH
  have hx := B.exec
  have hb := B.bytes
  have hr := B.returns
  have hts : ∀ w ∈ TB, w.before [Value.ref a, Value.int v].toArray s = true := fun w hw => atoms_spec (ws := wsM TB _) B.pre w (List.mem_cons_of_mem _ hw)
  have hown : s.vm.findClass RX11 = some m.cls := findClass_of_methodNamed B.named
  have hlocks := B.notSynchronized
  have hl := lv_entry [Value.ref a, Value.int v] (n := 5) (Nat.le_of_ble_eq_true rfl)
  rw [lg_entry_eq]
  generalize (lg_sl [Value.ref a, Value.int v] ++ List.replicate (5 - (lg_sl [Value.ref a, Value.int v]).length) Slot.unset).toArray = ls at hl ⊢
  have hl : lv_has ls 5 [(0, .ref a), (1, .int v)] := hl
  have fin : ∀ (r : Int32) (pc : Nat) (ls : Array Slot), r = tabA v → decode prog_1_method_7_code pc = .ok (.ireturn, 1) → W p l e { frames := 0, cells := 0, slots := 0, locals := 0 } s m [Value.ref a, Value.int v].toArray below meth c s.heap [] 0 0 (MQ below (va_Qi (fun r (_ : Unit) => r = tabA v) (fun _ t => t.heap = s.heap) (fun _ => False)) [Value.ref a, Value.int v].toArray s 0 0 (fun _ => False)) (F0 m pc ls [.int r]) := fun r pc ls h1 h2 => W.iret hx hb hr (fun t ht hW => ⟨⟨r, (), rfl, h1, ht⟩, by rw [ht]; exact Nat.le_refl _, fun q _ _ => by rw [ht]⟩) (fun q hq => by cases hq) h2
  refine lv_ldc hx hb hown (v := Int32.ofInt 32768) (hts (.constant RX11 163 (Int32.ofInt 32768)) (inT_ok (i := 395) (by decide +kernel))) dCt_0 ?_
  refine lv_istore_n hx hb dCt_2 rfl hl (by decide) rfl fun ls hl => ?_
  have hl : lv_has ls 5 [(2, .int (Int32.ofInt 32768)), (0, .ref a), (1, .int v)] := hl
  refine lv_iconst hx hb dCt_3 rfl ?_
  refine lv_istore_n hx hb dCt_4 rfl hl (by decide) rfl fun ls hl => ?_
  have hl : lv_has ls 5 [(3, .int (Int32.ofNat (4 * 0))), (2, .int (Int32.ofInt 32768)), (0, .ref a), (1, .int v)] := hl
  refine tabC_loop hx hb (fun room ls hroom hl => ?_) 8 0 _ ls (by omega) (by omega) (show (Int32.ofInt 32768).toInt = 32768 - 0 by decide) (lv_sub hl [0, 1, 3, 2] rfl)
  refine lv_iload_n hx hb dCt_40 rfl (lv_at hl 0 rfl) ?_
  refine lv_if_ge hx hb dCt_41 (tgt := 46) rfl (fun hc => ?_) (fun hc => ?_)
  · rw [le_z, Int32.toInt_zero] at hc
    refine lv_iload_n hx hb dCt_46 rfl (lv_at hl 0 rfl) ?_
    refine lv_if_ne hx hb dCt_47 (tgt := 54) rfl (fun hc1 => ?_) (fun hc1 => ?_)
    · refine lv_iconst hx hb dCt_54 rfl (fin _ 55 ls ?_ dCt_55)
      have : ¬ room.toInt = 0 := fun q => hc1 (by rw [eq_z, Int32.toInt_zero]; exact q)
      unfold tabA
      rw [if_neg (by omega), if_pos (by omega)]
      rfl
    · refine lv_iconst hx hb dCt_50 rfl (lv_goto hx hb dCt_51 (tgt := 55) rfl (fin _ 55 ls ?_ dCt_55))
      rw [eq_z, Int32.toInt_zero] at hc1
      unfold tabA
      rw [if_pos (by omega)]
      rfl
  · rw [le_z, Int32.toInt_zero] at hc
    refine lv_iconst hx hb dCt_44 rfl (fin _ 45 ls ?_ dCt_45)
    unfold tabA
    rw [if_neg (by omega), if_neg (by omega)]
    rfl
