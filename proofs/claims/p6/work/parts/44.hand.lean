/-! tellerAt: a static table -/
def kT : CK := ((19, 0, 0, 0, 0), ([((-2147483648), 2147483647)], [], [some (.inr (.inl (0, [(1, 0)])))], List.replicate 51 none), ([(0, 18)], [], some (some (.inr (.inl (0, [(1, 1)])))), List.replicate 51 none))
theorem dT_0 : decode prog_4_method_2_code 0 = .ok (.iload_n 0, 1) := by decide +kernel
theorem dT_1 : decode prog_4_method_2_code 1 = .ok (.ifCond .lt 19, 3) := by decide +kernel
theorem dT_4 : decode prog_4_method_2_code 4 = .ok (.iload_n 0, 1) := by decide +kernel
theorem dT_5 : decode prog_4_method_2_code 5 = .ok (.getstatic 7, 3) := by decide +kernel
theorem dT_8 : decode prog_4_method_2_code 8 = .ok (.arraylength, 1) := by decide +kernel
theorem dT_9 : decode prog_4_method_2_code 9 = .ok (.if_icmp .ge 11, 3) := by decide +kernel
theorem dT_12 : decode prog_4_method_2_code 12 = .ok (.getstatic 7, 3) := by decide +kernel
theorem dT_15 : decode prog_4_method_2_code 15 = .ok (.iload_n 0, 1) := by decide +kernel
theorem dT_16 : decode prog_4_method_2_code 16 = .ok (.iaload, 1) := by decide +kernel
theorem dT_17 : decode prog_4_method_2_code 17 = .ok (.goto 4, 3) := by decide +kernel
theorem dT_20 : decode prog_4_method_2_code 20 = .ok (.iconst 0, 1) := by decide +kernel
theorem dT_21 : decode prog_4_method_2_code 21 = .ok (.ireturn, 1) := by decide +kernel
theorem gTell_r : ∀ j, j < 19 → 0 ≤ (gTell.getD j 0).toInt ∧ (gTell.getD j 0).toInt ≤ 18 := by decide +kernel
theorem teller_ok {l : Launch} : Valid l TB nCl gC (⟨RX2, "tellerAt", "(I)I"⟩, prog_4_method_2_code, 1, (some .int), 1) kT := by
  intro D cy mu ads ws xs sz hX hF hH
  refine Met.ofW (cc := prog_4_method_2_code) (maxL := 1) (ret := some .int) (by decide) rfl ?_
  intro p e s m args below meth c s₁ B hml hv
  obtain ⟨rfl, hsz, hP, hK, hD0, hG⟩ := hv
  subst hsz
  obtain ⟨x, rest, rfl, ⟨n, rfl, hn⟩, hr0⟩ := FS.cons_inv hF
  obtain rfl : rest = [] := by
    cases rest with
    | nil => rfl
    | cons a r => exact hr0.elim
  have hx := B.exec
  have hb := B.bytes
  have hr := B.returns
  have hts : ∀ w ∈ TB, w.before [Value.int n].toArray s = true := fun w hw => atoms_spec (ws := wsM TB _) B.pre w (List.mem_cons_of_mem _ hw)
  have hown : s.vm.findClass RX2 = some m.cls := findClass_of_methodNamed B.named
  have hlocks := B.notSynchronized
  have hads : (ws.map fun q => q.1) = ads := hH.1
  obtain ⟨-, -, -, -, -, -, t0, hZ, hT⟩ := hG
  have hn0 : ∀ a, va_A ws s.heap.size a → gA (ws.map fun q => q.1) s a := fun a h => va_A.of.mp h
  have hZ := hZ.narrow hn0
  have hT := hT.narrow hn0
  have hS : va_S (va_A ws s.heap.size) s.heap s.heap [] := va_S.rf
  have hlk := hts (.fieldLink RX2 7 RX2 "TELLER_ORDER" "[I") (inT_ok (i := 703) (by decide +kernel))
  have hl := lv_entry [Value.int n] (n := 1) (Nat.le_of_ble_eq_true rfl)
  rw [lg_entry_eq]
  generalize (lg_sl [Value.int n] ++ List.replicate (1 - (lg_sl [Value.int n]).length) Slot.unset).toArray = ls at hl ⊢
  have hl : lv_has ls 1 [(0, .int n)] := hl
  have fin : ∀ r : Int32, 0 ≤ r.toInt → r.toInt ≤ 18 → W p l e (rmK kT) s m [Value.int n].toArray below meth c s.heap [] 0 0 (MQ below (QK nCl D cy kT mu ads ws s.heap.size) [Value.int n].toArray s 0 0 (va_A ws s.heap.size)) (F0 m 21 ls [.int r]) := fun r h0 h1 => by
    refine W.iret hx hb hr (fun t ht hW => ⟨⟨_, rfl, [r.toInt], [], ws, ⟨hX.1.push ⟨rfl, fun i lo hi hb => ?_⟩, fun e he => by cases he⟩, ⟨r, rfl, EV.atom ?_⟩, ?_, by rw [ht]; exact hP, hD0.self, fun _ h => by cases h⟩, by rw [ht]; exact Nat.le_refl _, fun q _ _ => by rw [ht]⟩) hS.2.2 dT_21
    · have hb : ([(0, 18)] : Bnd)[i]? = some (lo, hi) := hb
      cases i with
      | zero =>
        cases hb
        exact ⟨r.toInt, rfl, h0, h1⟩
      | succ i => simp at hb
    · have hl1 : mu.length = 1 := hX.1.1
      rw [List.getElem?_append_right (by omega), hl1]
      rfl
    · rw [List.append_nil]
      refine ⟨hH.1, hH.2.1, fun k o hk => ?_⟩
      obtain rfl : o = none := by
        have := List.mem_of_getElem? hk
        exact List.eq_of_mem_replicate this
      rfl
  refine lv_iload_n hx hb dT_0 rfl (lv_at hl 0 rfl) ?_
  refine lv_if_lt hx hb dT_1 (tgt := 20) rfl (fun _ => lv_iconst hx hb dT_20 rfl (fin 0 (by decide) (by decide))) (fun hn1 => ?_)
  refine lv_iload_n hx hb dT_4 rfl (lv_at hl 0 rfl) ?_
  refine va_gets hx hb hZ hS hown hlk (fun _ h => h) dT_5 ?_
  refine va_tlen hx hb hT hS rfl dT_8 ?_
  refine lv_icmp_ge hx hb dT_9 (tgt := 20) rfl (fun _ => lv_iconst hx hb dT_20 rfl (fin 0 (by decide) (by decide))) (fun hn2 => ?_)
  refine va_gets hx hb hZ hS hown hlk (fun _ h => h) dT_12 ?_
  refine lv_iload_n hx hb dT_15 rfl (lv_at hl 0 rfl) ?_
  have h1 : 0 ≤ n.toInt := by
    rw [Int32.lt_iff_toInt_lt, Int32.toInt_zero] at hn1
    omega
  have h2 : n.toInt < 19 := by
    rw [Int32.le_iff_toInt_le] at hn2
    have : (Int32.ofNat 19).toInt = 19 := rfl
    omega
  have hN : n.toNatClampNeg = n.toInt.toNat := rfl
  refine va_ti hx hb hT hS (inb h1 (by omega)) (v := .int (gTell.getD n.toNatClampNeg 0)) rfl dT_16 ?_
  have hg := gTell_r n.toNatClampNeg (by omega)
  exact lv_goto hx hb dT_17 (tgt := 21) rfl (fin _ hg.1 hg.2)
theorem vC255 {l : Launch} (h : AllV l nCl gC nMT cC255) : AllV l nCl gC nMT cC256 := h.snoc (mi := (⟨RX2, "tellerAt", "(I)I"⟩, prog_4_method_2_code, 1, (some .int), 1)) rfl teller_ok
/-! all contracts of the class -/
theorem aC15 {l : Launch} : AllV l nCl gC nMT cC15 := vC14 (vC13 (vC12 (vC11 (vC10 (vC9 (vC8 (vC7 (vC6 (vC5 (vC4 (vC3 (vC2 (vC1 (vC0 (AllV.nil)))))))))))))))
theorem aC30 {l : Launch} : AllV l nCl gC nMT cC30 := vC29 (vC28 (vC27 (vC26 (vC25 (vC24 (vC23 (vC22 (vC21 (vC20 (vC19 (vC18 (vC17 (vC16 (vC15 (aC15)))))))))))))))
theorem aC45 {l : Launch} : AllV l nCl gC nMT cC45 := vC44 (vC43 (vC42 (vC41 (vC40 (vC39 (vC38 (vC37 (vC36 (vC35 (vC34 (vC33 (vC32 (vC31 (vC30 (aC30)))))))))))))))
theorem aC60 {l : Launch} : AllV l nCl gC nMT cC60 := vC59 (vC58 (vC57 (vC56 (vC55 (vC54 (vC53 (vC52 (vC51 (vC50 (vC49 (vC48 (vC47 (vC46 (vC45 (aC45)))))))))))))))
theorem aC75 {l : Launch} : AllV l nCl gC nMT cC75 := vC74 (vC73 (vC72 (vC71 (vC70 (vC69 (vC68 (vC67 (vC66 (vC65 (vC64 (vC63 (vC62 (vC61 (vC60 (aC60)))))))))))))))
theorem aC90 {l : Launch} : AllV l nCl gC nMT cC90 := vC89 (vC88 (vC87 (vC86 (vC85 (vC84 (vC83 (vC82 (vC81 (vC80 (vC79 (vC78 (vC77 (vC76 (vC75 (aC75)))))))))))))))
theorem aC105 {l : Launch} : AllV l nCl gC nMT cC105 := vC104 (vC103 (vC102 (vC101 (vC100 (vC99 (vC98 (vC97 (vC96 (vC95 (vC94 (vC93 (vC92 (vC91 (vC90 (aC90)))))))))))))))
theorem aC120 {l : Launch} : AllV l nCl gC nMT cC120 := vC119 (vC118 (vC117 (vC116 (vC115 (vC114 (vC113 (vC112 (vC111 (vC110 (vC109 (vC108 (vC107 (vC106 (vC105 (aC105)))))))))))))))
theorem aC135 {l : Launch} : AllV l nCl gC nMT cC135 := vC134 (vC133 (vC132 (vC131 (vC130 (vC129 (vC128 (vC127 (vC126 (vC125 (vC124 (vC123 (vC122 (vC121 (vC120 (aC120)))))))))))))))
theorem aC150 {l : Launch} : AllV l nCl gC nMT cC150 := vC149 (vC148 (vC147 (vC146 (vC145 (vC144 (vC143 (vC142 (vC141 (vC140 (vC139 (vC138 (vC137 (vC136 (vC135 (aC135)))))))))))))))
theorem aC165 {l : Launch} : AllV l nCl gC nMT cC165 := vC164 (vC163 (vC162 (vC161 (vC160 (vC159 (vC158 (vC157 (vC156 (vC155 (vC154 (vC153 (vC152 (vC151 (vC150 (aC150)))))))))))))))
theorem aC180 {l : Launch} : AllV l nCl gC nMT cC180 := vC179 (vC178 (vC177 (vC176 (vC175 (vC174 (vC173 (vC172 (vC171 (vC170 (vC169 (vC168 (vC167 (vC166 (vC165 (aC165)))))))))))))))
theorem aC195 {l : Launch} : AllV l nCl gC nMT cC195 := vC194 (vC193 (vC192 (vC191 (vC190 (vC189 (vC188 (vC187 (vC186 (vC185 (vC184 (vC183 (vC182 (vC181 (vC180 (aC180)))))))))))))))
theorem aC210 {l : Launch} : AllV l nCl gC nMT cC210 := vC209 (vC208 (vC207 (vC206 (vC205 (vC204 (vC203 (vC202 (vC201 (vC200 (vC199 (vC198 (vC197 (vC196 (vC195 (aC195)))))))))))))))
theorem aC225 {l : Launch} : AllV l nCl gC nMT cC225 := vC224 (vC223 (vC222 (vC221 (vC220 (vC219 (vC218 (vC217 (vC216 (vC215 (vC214 (vC213 (vC212 (vC211 (vC210 (aC210)))))))))))))))
theorem aC240 {l : Launch} : AllV l nCl gC nMT cC240 := vC239 (vC238 (vC237 (vC236 (vC235 (vC234 (vC233 (vC232 (vC231 (vC230 (vC229 (vC228 (vC227 (vC226 (vC225 (aC225)))))))))))))))
theorem aC255 {l : Launch} : AllV l nCl gC nMT cC255 := vC254 (vC253 (vC252 (vC251 (vC250 (vC249 (vC248 (vC247 (vC246 (vC245 (vC244 (vC243 (vC242 (vC241 (vC240 (aC240)))))))))))))))
theorem aC270 {l : Launch} : AllV l nCl gC nMT cC270 := vC269 (vC268 (vC267 (vC266 (vC265 (vC264 (vC263 (vC262 (vC261 (vC260 (vC259 (vC258 (vC257 (vC256 (vC255 (aC255)))))))))))))))
theorem aC285 {l : Launch} : AllV l nCl gC nMT cC285 := vC284 (vC283 (vC282 (vC281 (vC280 (vC279 (vC278 (vC277 (vC276 (vC275 (vC274 (vC273 (vC272 (vC271 (vC270 (aC270)))))))))))))))
theorem aC300 {l : Launch} : AllV l nCl gC nMT cC300 := vC299 (vC298 (vC297 (vC296 (vC295 (vC294 (vC293 (vC292 (vC291 (vC290 (vC289 (vC288 (vC287 (vC286 (vC285 (aC285)))))))))))))))
theorem aC315 {l : Launch} : AllV l nCl gC nMT cC315 := vC314 (vC313 (vC312 (vC311 (vC310 (vC309 (vC308 (vC307 (vC306 (vC305 (vC304 (vC303 (vC302 (vC301 (vC300 (aC300)))))))))))))))
theorem aC330 {l : Launch} : AllV l nCl gC nMT cC330 := vC329 (vC328 (vC327 (vC326 (vC325 (vC324 (vC323 (vC322 (vC321 (vC320 (vC319 (vC318 (vC317 (vC316 (vC315 (aC315)))))))))))))))
theorem aC345 {l : Launch} : AllV l nCl gC nMT cC345 := vC344 (vC343 (vC342 (vC341 (vC340 (vC339 (vC338 (vC337 (vC336 (vC335 (vC334 (vC333 (vC332 (vC331 (vC330 (aC330)))))))))))))))
theorem aC360 {l : Launch} : AllV l nCl gC nMT cC360 := vC359 (vC358 (vC357 (vC356 (vC355 (vC354 (vC353 (vC352 (vC351 (vC350 (vC349 (vC348 (vC347 (vC346 (vC345 (aC345)))))))))))))))
theorem aC375 {l : Launch} : AllV l nCl gC nMT cC375 := vC374 (vC373 (vC372 (vC371 (vC370 (vC369 (vC368 (vC367 (vC366 (vC365 (vC364 (vC363 (vC362 (vC361 (vC360 (aC360)))))))))))))))
theorem aC390 {l : Launch} : AllV l nCl gC nMT cC390 := vC389 (vC388 (vC387 (vC386 (vC385 (vC384 (vC383 (vC382 (vC381 (vC380 (vC379 (vC378 (vC377 (vC376 (vC375 (aC375)))))))))))))))
theorem aC405 {l : Launch} : AllV l nCl gC nMT cC405 := vC404 (vC403 (vC402 (vC401 (vC400 (vC399 (vC398 (vC397 (vC396 (vC395 (vC394 (vC393 (vC392 (vC391 (vC390 (aC390)))))))))))))))
theorem aC420 {l : Launch} : AllV l nCl gC nMT cC420 := vC419 (vC418 (vC417 (vC416 (vC415 (vC414 (vC413 (vC412 (vC411 (vC410 (vC409 (vC408 (vC407 (vC406 (vC405 (aC405)))))))))))))))
theorem aC432 {l : Launch} : AllV l nCl gC nMT cC432 := vC431 (vC430 (vC429 (vC428 (vC427 (vC426 (vC425 (vC424 (vC423 (vC422 (vC421 (vC420 (aC420))))))))))))
