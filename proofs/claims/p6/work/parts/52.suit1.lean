theorem dS_0 : decode prog_14_method_17_code 0 = .ok (.iload_n 2, 1) := by decide +kernel
theorem dS_1 : decode prog_14_method_17_code 1 = .ok (.istore_n 3, 1) := by decide +kernel
theorem dS_2 : decode prog_14_method_17_code 2 = .ok (.iconst 0, 1) := by decide +kernel
theorem dS_3 : decode prog_14_method_17_code 3 = .ok (.istore 4, 2) := by decide +kernel
theorem dS_5 : decode prog_14_method_17_code 5 = .ok (.iload 4, 2) := by decide +kernel
theorem dS_7 : decode prog_14_method_17_code 7 = .ok (.sipush 640, 3) := by decide +kernel
theorem dS_10 : decode prog_14_method_17_code 10 = .ok (.if_icmp .ge 56, 3) := by decide +kernel
theorem dS_13 : decode prog_14_method_17_code 13 = .ok (.aload_n 0, 1) := by decide +kernel
theorem dS_14 : decode prog_14_method_17_code 14 = .ok (.getfield 40, 3) := by decide +kernel
theorem dS_17 : decode prog_14_method_17_code 17 = .ok (.iload 4, 2) := by decide +kernel
theorem dS_19 : decode prog_14_method_17_code 19 = .ok (.iload 4, 2) := by decide +kernel
theorem dS_21 : decode prog_14_method_17_code 21 = .ok (.iload_n 2, 1) := by decide +kernel
theorem dS_22 : decode prog_14_method_17_code 22 = .ok (.if_icmp .ge 19, 3) := by decide +kernel
theorem dS_25 : decode prog_14_method_17_code 25 = .ok (.aload_n 0, 1) := by decide +kernel
theorem dS_26 : decode prog_14_method_17_code 26 = .ok (.getfield 31, 3) := by decide +kernel
theorem dS_29 : decode prog_14_method_17_code 29 = .ok (.sipush 320, 3) := by decide +kernel
theorem dS_32 : decode prog_14_method_17_code 32 = .ok (.iload_n 1, 1) := by decide +kernel
theorem dS_33 : decode prog_14_method_17_code 33 = .ok (.imul, 1) := by decide +kernel
theorem dS_34 : decode prog_14_method_17_code 34 = .ok (.iload 4, 2) := by decide +kernel
theorem dS_36 : decode prog_14_method_17_code 36 = .ok (.iadd, 1) := by decide +kernel
theorem dS_37 : decode prog_14_method_17_code 37 = .ok (.iaload, 1) := by decide +kernel
theorem dS_38 : decode prog_14_method_17_code 38 = .ok (.goto 4, 3) := by decide +kernel
theorem dS_41 : decode prog_14_method_17_code 41 = .ok (.iconst 0, 1) := by decide +kernel
theorem dS_42 : decode prog_14_method_17_code 42 = .ok (.iastore, 1) := by decide +kernel
theorem dS_43 : decode prog_14_method_17_code 43 = .ok (.aload_n 0, 1) := by decide +kernel
theorem dS_44 : decode prog_14_method_17_code 44 = .ok (.getfield 43, 3) := by decide +kernel
theorem dS_47 : decode prog_14_method_17_code 47 = .ok (.iload 4, 2) := by decide +kernel
theorem dS_49 : decode prog_14_method_17_code 49 = .ok (.iload 4, 2) := by decide +kernel
theorem dS_51 : decode prog_14_method_17_code 51 = .ok (.iastore, 1) := by decide +kernel
theorem dS_52 : decode prog_14_method_17_code 52 = .ok (.aload_n 0, 1) := by decide +kernel
theorem dS_53 : decode prog_14_method_17_code 53 = .ok (.getfield 46, 3) := by decide +kernel
theorem dS_56 : decode prog_14_method_17_code 56 = .ok (.iload 4, 2) := by decide +kernel
theorem dS_58 : decode prog_14_method_17_code 58 = .ok (.iconst (-1), 1) := by decide +kernel
theorem dS_59 : decode prog_14_method_17_code 59 = .ok (.iastore, 1) := by decide +kernel
theorem dS_60 : decode prog_14_method_17_code 60 = .ok (.iinc 4 1, 3) := by decide +kernel
theorem dS_63 : decode prog_14_method_17_code 63 = .ok (.goto (-58), 3) := by decide +kernel
theorem dS_66 : decode prog_14_method_17_code 66 = .ok (.aload_n 0, 1) := by decide +kernel
theorem dS_67 : decode prog_14_method_17_code 67 = .ok (.iload_n 3, 1) := by decide +kernel
theorem dS_68 : decode prog_14_method_17_code 68 = .ok (.invokevirtual 125, 3) := by decide +kernel
theorem dS_71 : decode prog_14_method_17_code 71 = .ok (.istore 4, 2) := by decide +kernel
theorem dS_73 : decode prog_14_method_17_code 73 = .ok (.iload 4, 2) := by decide +kernel
theorem dS_75 : decode prog_14_method_17_code 75 = .ok (.iconst (-1), 1) := by decide +kernel
theorem dS_76 : decode prog_14_method_17_code 76 = .ok (.if_icmp .eq 7, 3) := by decide +kernel
theorem dS_79 : decode prog_14_method_17_code 79 = .ok (.iconst 1, 1) := by decide +kernel
theorem dS_80 : decode prog_14_method_17_code 80 = .ok (.goto 4, 3) := by decide +kernel
theorem dS_83 : decode prog_14_method_17_code 83 = .ok (.iconst 0, 1) := by decide +kernel
theorem dS_84 : decode prog_14_method_17_code 84 = .ok (.istore 5, 2) := by decide +kernel
theorem dS_86 : decode prog_14_method_17_code 86 = .ok (.iload 5, 2) := by decide +kernel
theorem dS_88 : decode prog_14_method_17_code 88 = .ok (.ifCond .eq 129, 3) := by decide +kernel
theorem dS_91 : decode prog_14_method_17_code 91 = .ok (.aload_n 0, 1) := by decide +kernel
theorem dS_92 : decode prog_14_method_17_code 92 = .ok (.iload_n 3, 1) := by decide +kernel
theorem dS_93 : decode prog_14_method_17_code 93 = .ok (.invokevirtual 125, 3) := by decide +kernel
theorem dS_96 : decode prog_14_method_17_code 96 = .ok (.istore 4, 2) := by decide +kernel
theorem dS_98 : decode prog_14_method_17_code 98 = .ok (.aload_n 0, 1) := by decide +kernel
theorem dS_99 : decode prog_14_method_17_code 99 = .ok (.getfield 46, 3) := by decide +kernel
theorem dS_102 : decode prog_14_method_17_code 102 = .ok (.iload 4, 2) := by decide +kernel
theorem dS_104 : decode prog_14_method_17_code 104 = .ok (.iload_n 3, 1) := by decide +kernel
theorem dS_105 : decode prog_14_method_17_code 105 = .ok (.iastore, 1) := by decide +kernel
theorem dS_106 : decode prog_14_method_17_code 106 = .ok (.aload_n 0, 1) := by decide +kernel
theorem dS_107 : decode prog_14_method_17_code 107 = .ok (.iload_n 3, 1) := by decide +kernel
theorem dS_108 : decode prog_14_method_17_code 108 = .ok (.invokevirtual 125, 3) := by decide +kernel
theorem dS_111 : decode prog_14_method_17_code 111 = .ok (.istore 6, 2) := by decide +kernel
theorem dS_113 : decode prog_14_method_17_code 113 = .ok (.iload 6, 2) := by decide +kernel
theorem dS_115 : decode prog_14_method_17_code 115 = .ok (.iconst (-1), 1) := by decide +kernel
theorem dS_116 : decode prog_14_method_17_code 116 = .ok (.if_icmp .eq 7, 3) := by decide +kernel
theorem dS_119 : decode prog_14_method_17_code 119 = .ok (.iconst 1, 1) := by decide +kernel
theorem dS_120 : decode prog_14_method_17_code 120 = .ok (.goto 4, 3) := by decide +kernel
theorem dS_123 : decode prog_14_method_17_code 123 = .ok (.iconst 0, 1) := by decide +kernel
theorem dS_124 : decode prog_14_method_17_code 124 = .ok (.istore 5, 2) := by decide +kernel
theorem dS_126 : decode prog_14_method_17_code 126 = .ok (.iload 5, 2) := by decide +kernel
theorem dS_128 : decode prog_14_method_17_code 128 = .ok (.ifCond .eq 78, 3) := by decide +kernel
theorem dS_131 : decode prog_14_method_17_code 131 = .ok (.aload_n 0, 1) := by decide +kernel
theorem dS_132 : decode prog_14_method_17_code 132 = .ok (.getfield 46, 3) := by decide +kernel
theorem dS_135 : decode prog_14_method_17_code 135 = .ok (.iload 6, 2) := by decide +kernel
theorem dS_137 : decode prog_14_method_17_code 137 = .ok (.iload_n 3, 1) := by decide +kernel
theorem dS_138 : decode prog_14_method_17_code 138 = .ok (.iastore, 1) := by decide +kernel
theorem dS_139 : decode prog_14_method_17_code 139 = .ok (.aload_n 0, 1) := by decide +kernel
theorem dS_140 : decode prog_14_method_17_code 140 = .ok (.getfield 40, 3) := by decide +kernel
theorem dS_143 : decode prog_14_method_17_code 143 = .ok (.iload_n 3, 1) := by decide +kernel
theorem dS_144 : decode prog_14_method_17_code 144 = .ok (.aload_n 0, 1) := by decide +kernel
theorem dS_145 : decode prog_14_method_17_code 145 = .ok (.getfield 40, 3) := by decide +kernel
theorem dS_148 : decode prog_14_method_17_code 148 = .ok (.iload 4, 2) := by decide +kernel
theorem dS_150 : decode prog_14_method_17_code 150 = .ok (.iaload, 1) := by decide +kernel
theorem dS_151 : decode prog_14_method_17_code 151 = .ok (.aload_n 0, 1) := by decide +kernel
theorem dS_152 : decode prog_14_method_17_code 152 = .ok (.getfield 40, 3) := by decide +kernel
theorem dS_155 : decode prog_14_method_17_code 155 = .ok (.iload 6, 2) := by decide +kernel
theorem dS_157 : decode prog_14_method_17_code 157 = .ok (.iaload, 1) := by decide +kernel
theorem dS_158 : decode prog_14_method_17_code 158 = .ok (.iadd, 1) := by decide +kernel
theorem dS_159 : decode prog_14_method_17_code 159 = .ok (.iastore, 1) := by decide +kernel
theorem dS_160 : decode prog_14_method_17_code 160 = .ok (.aload_n 0, 1) := by decide +kernel
theorem dS_161 : decode prog_14_method_17_code 161 = .ok (.getfield 43, 3) := by decide +kernel
theorem dS_164 : decode prog_14_method_17_code 164 = .ok (.iload_n 3, 1) := by decide +kernel
theorem dS_165 : decode prog_14_method_17_code 165 = .ok (.aload_n 0, 1) := by decide +kernel
theorem dS_166 : decode prog_14_method_17_code 166 = .ok (.getfield 43, 3) := by decide +kernel
theorem dS_169 : decode prog_14_method_17_code 169 = .ok (.iload 4, 2) := by decide +kernel
theorem dS_171 : decode prog_14_method_17_code 171 = .ok (.iaload, 1) := by decide +kernel
theorem dS_172 : decode prog_14_method_17_code 172 = .ok (.aload_n 0, 1) := by decide +kernel
theorem dS_173 : decode prog_14_method_17_code 173 = .ok (.getfield 43, 3) := by decide +kernel
theorem dS_176 : decode prog_14_method_17_code 176 = .ok (.iload 6, 2) := by decide +kernel
theorem dS_178 : decode prog_14_method_17_code 178 = .ok (.iaload, 1) := by decide +kernel
theorem dS_179 : decode prog_14_method_17_code 179 = .ok (.if_icmp .le 13, 3) := by decide +kernel
theorem dS_182 : decode prog_14_method_17_code 182 = .ok (.aload_n 0, 1) := by decide +kernel
theorem dS_183 : decode prog_14_method_17_code 183 = .ok (.getfield 43, 3) := by decide +kernel
theorem dS_186 : decode prog_14_method_17_code 186 = .ok (.iload 4, 2) := by decide +kernel
theorem dS_188 : decode prog_14_method_17_code 188 = .ok (.iaload, 1) := by decide +kernel
theorem dS_189 : decode prog_14_method_17_code 189 = .ok (.goto 10, 3) := by decide +kernel
theorem dS_192 : decode prog_14_method_17_code 192 = .ok (.aload_n 0, 1) := by decide +kernel
theorem dS_193 : decode prog_14_method_17_code 193 = .ok (.getfield 43, 3) := by decide +kernel
theorem dS_196 : decode prog_14_method_17_code 196 = .ok (.iload 6, 2) := by decide +kernel
theorem dS_198 : decode prog_14_method_17_code 198 = .ok (.iaload, 1) := by decide +kernel
theorem dS_199 : decode prog_14_method_17_code 199 = .ok (.iastore, 1) := by decide +kernel
theorem dS_200 : decode prog_14_method_17_code 200 = .ok (.iinc 3 1, 3) := by decide +kernel
theorem dS_203 : decode prog_14_method_17_code 203 = .ok (.goto 11, 3) := by decide +kernel
theorem dS_206 : decode prog_14_method_17_code 206 = .ok (.aload_n 0, 1) := by decide +kernel
theorem dS_207 : decode prog_14_method_17_code 207 = .ok (.getfield 46, 3) := by decide +kernel
theorem dS_210 : decode prog_14_method_17_code 210 = .ok (.iload 4, 2) := by decide +kernel
theorem dS_212 : decode prog_14_method_17_code 212 = .ok (.iconst (-1), 1) := by decide +kernel
theorem dS_213 : decode prog_14_method_17_code 213 = .ok (.iastore, 1) := by decide +kernel
theorem dS_214 : decode prog_14_method_17_code 214 = .ok (.goto (-128), 3) := by decide +kernel
theorem dS_217 : decode prog_14_method_17_code 217 = .ok (.iconst 0, 1) := by decide +kernel
theorem dS_218 : decode prog_14_method_17_code 218 = .ok (.istore 6, 2) := by decide +kernel
theorem dS_220 : decode prog_14_method_17_code 220 = .ok (.iload 6, 2) := by decide +kernel
theorem dS_222 : decode prog_14_method_17_code 222 = .ok (.iload_n 2, 1) := by decide +kernel
theorem dS_223 : decode prog_14_method_17_code 223 = .ok (.if_icmp .ge 86, 3) := by decide +kernel
theorem dS_226 : decode prog_14_method_17_code 226 = .ok (.iconst 0, 1) := by decide +kernel
theorem dS_227 : decode prog_14_method_17_code 227 = .ok (.istore 7, 2) := by decide +kernel
theorem dS_229 : decode prog_14_method_17_code 229 = .ok (.iload 6, 2) := by decide +kernel
theorem dS_231 : decode prog_14_method_17_code 231 = .ok (.istore 8, 2) := by decide +kernel
theorem dS_233 : decode prog_14_method_17_code 233 = .ok (.aload_n 0, 1) := by decide +kernel
theorem dS_234 : decode prog_14_method_17_code 234 = .ok (.getfield 40, 3) := by decide +kernel
theorem dS_237 : decode prog_14_method_17_code 237 = .ok (.iload 6, 2) := by decide +kernel
theorem dS_239 : decode prog_14_method_17_code 239 = .ok (.iaload, 1) := by decide +kernel
theorem dS_240 : decode prog_14_method_17_code 240 = .ok (.ifCond .le 29, 3) := by decide +kernel
theorem dS_243 : decode prog_14_method_17_code 243 = .ok (.aload_n 0, 1) := by decide +kernel
theorem dS_244 : decode prog_14_method_17_code 244 = .ok (.getfield 46, 3) := by decide +kernel
theorem dS_247 : decode prog_14_method_17_code 247 = .ok (.iload 8, 2) := by decide +kernel
theorem dS_249 : decode prog_14_method_17_code 249 = .ok (.iaload, 1) := by decide +kernel
theorem dS_250 : decode prog_14_method_17_code 250 = .ok (.iconst (-1), 1) := by decide +kernel
theorem dS_251 : decode prog_14_method_17_code 251 = .ok (.if_icmp .eq 18, 3) := by decide +kernel
theorem dS_254 : decode prog_14_method_17_code 254 = .ok (.iinc 7 1, 3) := by decide +kernel
theorem dS_257 : decode prog_14_method_17_code 257 = .ok (.aload_n 0, 1) := by decide +kernel
theorem dS_258 : decode prog_14_method_17_code 258 = .ok (.getfield 46, 3) := by decide +kernel
theorem dS_261 : decode prog_14_method_17_code 261 = .ok (.iload 8, 2) := by decide +kernel
theorem dS_263 : decode prog_14_method_17_code 263 = .ok (.iaload, 1) := by decide +kernel
theorem dS_264 : decode prog_14_method_17_code 264 = .ok (.istore 8, 2) := by decide +kernel
theorem dS_266 : decode prog_14_method_17_code 266 = .ok (.goto (-33), 3) := by decide +kernel
theorem dS_269 : decode prog_14_method_17_code 269 = .ok (.aload_n 0, 1) := by decide +kernel
theorem dS_270 : decode prog_14_method_17_code 270 = .ok (.getfield 34, 3) := by decide +kernel
theorem dS_273 : decode prog_14_method_17_code 273 = .ok (.sipush 320, 3) := by decide +kernel
theorem dS_276 : decode prog_14_method_17_code 276 = .ok (.iload_n 1, 1) := by decide +kernel
theorem dS_277 : decode prog_14_method_17_code 277 = .ok (.imul, 1) := by decide +kernel
theorem dS_278 : decode prog_14_method_17_code 278 = .ok (.iload 6, 2) := by decide +kernel
theorem dS_280 : decode prog_14_method_17_code 280 = .ok (.iadd, 1) := by decide +kernel
theorem dS_281 : decode prog_14_method_17_code 281 = .ok (.aload_n 0, 1) := by decide +kernel
theorem dS_282 : decode prog_14_method_17_code 282 = .ok (.getfield 40, 3) := by decide +kernel
theorem dS_285 : decode prog_14_method_17_code 285 = .ok (.iload 6, 2) := by decide +kernel
theorem dS_287 : decode prog_14_method_17_code 287 = .ok (.iaload, 1) := by decide +kernel
theorem dS_288 : decode prog_14_method_17_code 288 = .ok (.ifCond .le 12, 3) := by decide +kernel
theorem dS_291 : decode prog_14_method_17_code 291 = .ok (.iload 7, 2) := by decide +kernel
theorem dS_293 : decode prog_14_method_17_code 293 = .ok (.ifCond .ne 7, 3) := by decide +kernel
theorem dS_296 : decode prog_14_method_17_code 296 = .ok (.iconst 1, 1) := by decide +kernel
theorem dS_297 : decode prog_14_method_17_code 297 = .ok (.goto 5, 3) := by decide +kernel
theorem dS_300 : decode prog_14_method_17_code 300 = .ok (.iload 7, 2) := by decide +kernel
theorem dS_302 : decode prog_14_method_17_code 302 = .ok (.iastore, 1) := by decide +kernel
theorem dS_303 : decode prog_14_method_17_code 303 = .ok (.iinc 6 1, 3) := by decide +kernel
theorem dS_306 : decode prog_14_method_17_code 306 = .ok (.goto (-86), 3) := by decide +kernel
theorem dS_309 : decode prog_14_method_17_code 309 = .ok (.aload_n 0, 1) := by decide +kernel
theorem dS_310 : decode prog_14_method_17_code 310 = .ok (.iload_n 1, 1) := by decide +kernel
theorem dS_311 : decode prog_14_method_17_code 311 = .ok (.iload_n 2, 1) := by decide +kernel
theorem dS_312 : decode prog_14_method_17_code 312 = .ok (.invokevirtual 128, 3) := by decide +kernel
theorem dS_315 : decode prog_14_method_17_code 315 = .ok (.return_, 1) := by decide +kernel
theorem toZ_upd {f : Nat → Int32} {i : Nat} {x : Int32} (h : i < 640) : toZ (upd f i x) = up (toZ f) i x.toInt := by
  funext k
  unfold toZ up upd
  by_cases hk : k = i
  · rw [if_pos (by omega), if_pos hk, if_pos hk]
  · rw [if_neg hk, if_neg hk]
theorem map_set_fst {ws : va_W} {k a : Nat} {e e0 : va_E} (h : ws[k]? = some (a, e0)) : ((ws.set k (a, e)).map fun q => q.1) = ws.map fun q => q.1 := by
  rw [List.map_set]
  apply List.ext_getElem?
  intro i
  by_cases hi : i = k
  · subst hi
    rw [List.getElem?_set_self (by simpa using (List.getElem?_eq_some_iff.mp h).1), List.getElem?_map, h]
    rfl
  · rw [List.getElem?_set_ne (Ne.symm hi)]
section SwSet
variable {cI : ClassId} {ad : Nat → Nat} {vs : List Value} {fo : Nat → Int32} {w0 : va_W} {fl fc fw fg fp : Nat → Int32} {ws : va_W}
theorem Sw.setL (h : Sw cI ad vs fo w0 fl fc fw fg fp ws) (f : Nat → Int32) : Sw cI ad vs fo w0 f fc fw fg fp (ws.set 9 (ad 9, .inl (cI, 960, .inl f))) := by
  obtain ⟨h0, h8, h9, h10, h11, h12, h13, ho, hm⟩ := h
  have n := fun (k : Nat) (q : 9 ≠ k) => List.getElem?_set_ne (l := ws) (a := ((ad 9, .inl (cI, 960, .inl f)) : Nat × va_E)) q
  exact ⟨(n 0 (by decide)).trans h0, (n 8 (by decide)).trans h8, List.getElem?_set_self (List.getElem?_eq_some_iff.mp h9).1, (n 10 (by decide)).trans h10, (n 11 (by decide)).trans h11, (n 12 (by decide)).trans h12, (n 13 (by decide)).trans h13, fun k a b c d e => (n k (Ne.symm a)).trans (ho k a b c d e), (map_set_fst h9).trans hm⟩
theorem Sw.setW (h : Sw cI ad vs fo w0 fl fc fw fg fp ws) (f : Nat → Int32) : Sw cI ad vs fo w0 fl fc f fg fp (ws.set 11 (ad 11, .inl (cI, 640, .inl f))) := by
  obtain ⟨h0, h8, h9, h10, h11, h12, h13, ho, hm⟩ := h
  have n := fun (k : Nat) (q : 11 ≠ k) => List.getElem?_set_ne (l := ws) (a := ((ad 11, .inl (cI, 640, .inl f)) : Nat × va_E)) q
  exact ⟨(n 0 (by decide)).trans h0, (n 8 (by decide)).trans h8, (n 9 (by decide)).trans h9, (n 10 (by decide)).trans h10, List.getElem?_set_self (List.getElem?_eq_some_iff.mp h11).1, (n 12 (by decide)).trans h12, (n 13 (by decide)).trans h13, fun k a b c d e => (n k (Ne.symm c)).trans (ho k a b c d e), (map_set_fst h11).trans hm⟩
theorem Sw.setG (h : Sw cI ad vs fo w0 fl fc fw fg fp ws) (f : Nat → Int32) : Sw cI ad vs fo w0 fl fc fw f fp (ws.set 12 (ad 12, .inl (cI, 640, .inl f))) := by
  obtain ⟨h0, h8, h9, h10, h11, h12, h13, ho, hm⟩ := h
  have n := fun (k : Nat) (q : 12 ≠ k) => List.getElem?_set_ne (l := ws) (a := ((ad 12, .inl (cI, 640, .inl f)) : Nat × va_E)) q
  exact ⟨(n 0 (by decide)).trans h0, (n 8 (by decide)).trans h8, (n 9 (by decide)).trans h9, (n 10 (by decide)).trans h10, (n 11 (by decide)).trans h11, List.getElem?_set_self (List.getElem?_eq_some_iff.mp h12).1, (n 13 (by decide)).trans h13, fun k a b c d e => (n k (Ne.symm d)).trans (ho k a b c d e), (map_set_fst h12).trans hm⟩
theorem Sw.setP (h : Sw cI ad vs fo w0 fl fc fw fg fp ws) (f : Nat → Int32) : Sw cI ad vs fo w0 fl fc fw fg f (ws.set 13 (ad 13, .inl (cI, 640, .inl f))) := by
  obtain ⟨h0, h8, h9, h10, h11, h12, h13, ho, hm⟩ := h
  have n := fun (k : Nat) (q : 13 ≠ k) => List.getElem?_set_ne (l := ws) (a := ((ad 13, .inl (cI, 640, .inl f)) : Nat × va_E)) q
  exact ⟨(n 0 (by decide)).trans h0, (n 8 (by decide)).trans h8, (n 9 (by decide)).trans h9, (n 10 (by decide)).trans h10, (n 11 (by decide)).trans h11, (n 12 (by decide)).trans h12, List.getElem?_set_self (List.getElem?_eq_some_iff.mp h13).1, fun k a b c d e => (n k (Ne.symm e)).trans (ho k a b c d e), (map_set_fst h13).trans hm⟩
end SwSet
theorem i640 : (Int16.ofInt 640).toInt32.toInt = 640 := by decide
theorem i320 : (Int16.ofInt 320).toInt32.toInt = 320 := by decide
theorem i1 : (Int32.ofInt 1).toInt = 1 := by decide
section Suit
variable {p : Program} {l : Launch} {e : Env} {R : Room} {s : State} {m : MethodId} {args : Array Value} {below : List Frame} {meth : Method} {c : Code} {cells slots : Nat} {Q : State → Prop}
variable {D : va_G} {cy : Nat → ClassId} {A : Nat → Prop} {ad : Nat → Nat} {vs : List Value} {fo fl fc : Nat → Int32} {w0 : va_W} {st nn : Int32} {B : Nat}
/-- the first loop: weights as often says, no node above another -/
theorem suit_l1 (hx : p.tables.exec = Jvm.exec) (hb : c.code = prog_14_method_17_code) (hts : ∀ w ∈ TB, w.before args s = true) (hown : s.vm.findClass RX12 = some m.cls) (hK : va_K D nCl (tysOf cy) s) (hv : Sv ad vs) (hB : ((Int16.ofInt 320).toInt32 * st).toInt = (B : Int)) (hB1 : B + nn.toInt ≤ 640) (hn0 : 0 ≤ nn.toInt) (hn1 : nn.toInt ≤ 286)
    (fin : ∀ (ls : Array Slot) (ws : va_W) (H : Heap) (locs : List Loc) (fw fg fp : Nat → Int32), Sw (cy 0) ad vs fo w0 fl fc fw fg fp ws → va_P D nCl ws H → va_D A ws → va_S A s.heap H locs → (∀ i : Nat, i < 640 → fw i = (if (i : Int) < nn.toInt then fo (B + i) else 0) ∧ (fg i).toInt = i ∧ (fp i).toInt = -1) → lv_has ls 9 [(3, .int nn), (2, .int nn), (1, .int st), (0, .ref (ad 0))] → W p l e R s m args below meth c H locs cells slots Q (F0 m 66 ls [])) :
    ∀ (j : Nat) (k : Int32) (ls : Array Slot) (ws : va_W) (H : Heap) (locs : List Loc) (fw fg fp : Nat → Int32), 640 - k.toInt ≤ (j : Int) → 0 ≤ k.toInt → k.toInt ≤ 640 → Sw (cy 0) ad vs fo w0 fl fc fw fg fp ws → va_P D nCl ws H → va_D A ws → va_S A s.heap H locs → (∀ i : Nat, (i : Int) < k.toInt → fw i = (if (i : Int) < nn.toInt then fo (B + i) else 0) ∧ (fg i).toInt = i ∧ (fp i).toInt = -1) →
      lv_has ls 9 [(4, .int k), (3, .int nn), (2, .int nn), (1, .int st), (0, .ref (ad 0))] → W p l e R s m args below meth c H locs cells slots Q (F0 m 5 ls [])
  | j, k, ls, ws, H, locs, fw, fg, fp, hj, hk0, hk1, hM, hP, hD, hS, hI, hl => by
    obtain ⟨v25, v26, v28, v29, v30⟩ := id hv
    refine lv_iload hx hb dS_5 (lv_at hl 0 rfl) ?_
    refine lv_sipush hx hb dS_7 rfl ?_
    refine lv_icmp_ge hx hb dS_10 (tgt := 66) rfl (fun hc => ?_) (fun hc => ?_)
    · rw [le_z, i640] at hc
      exact fin ls ws H locs fw fg fp hM hP hD hS (fun i hi => hI i (by omega)) (lv_sub hl [1, 2, 3, 4] rfl)
    rw [le_z, i640] at hc
    have hkz : k.toNatClampNeg = k.toInt.toNat := rfl
    have hin : vp_in k 640 := inb hk0 (by omega)
    have hk2 : (k + Int32.ofInt 1).toInt = k.toInt + 1 := by
      rw [nu_add (by rw [i1]; omega) (by rw [i1]; omega), i1]
    refine lv_aload_n hx hb dS_13 rfl (lv_at hl 4 rfl) ?_
    refine mget hx hb hts hown hK hP hM.1 (k := 28) (fin := true) (by decide) v28 dS_14 ?_
    refine lv_iload hx hb dS_17 (lv_at hl 0 rfl) ?_
    refine lv_iload hx hb dS_19 (lv_at hl 0 rfl) ?_
    refine lv_iload_n hx hb dS_21 rfl (lv_at hl 2 rfl) ?_
    have tail : ∀ x : Int32, x = (if k.toInt < nn.toInt then fo (B + k.toInt.toNat) else 0) → W p l e R s m args below meth c H locs cells slots Q (F0 m 42 ls [.int x, .int k, .ref (ad 11)]) := fun x hx9 => by
      refine va_iast hx hb hK hP hD hS 11 0 hM.2.2.2.2.1 rfl hin dS_42 fun H locs hP hD hS => ?_
      have hM := hM.setW (upd fw k.toNatClampNeg x)
      generalize ws.set 11 _ = ws at hM hP hD
      refine lv_aload_n hx hb dS_43 rfl (lv_at hl 4 rfl) ?_
      refine mget hx hb hts hown hK hP hM.1 (k := 29) (fin := true) (by decide) v29 dS_44 ?_
      refine lv_iload hx hb dS_47 (lv_at hl 0 rfl) ?_
      refine lv_iload hx hb dS_49 (lv_at hl 0 rfl) ?_
      refine va_iast hx hb hK hP hD hS 12 0 hM.2.2.2.2.2.1 rfl hin dS_51 fun H locs hP hD hS => ?_
      have hM := hM.setG (upd fg k.toNatClampNeg k)
      generalize ws.set 12 _ = ws at hM hP hD
      refine lv_aload_n hx hb dS_52 rfl (lv_at hl 4 rfl) ?_
      refine mget hx hb hts hown hK hP hM.1 (k := 30) (fin := true) (by decide) v30 dS_53 ?_
      refine lv_iload hx hb dS_56 (lv_at hl 0 rfl) ?_
      refine lv_iconst hx hb dS_58 rfl ?_
      refine va_iast hx hb hK hP hD hS 13 0 hM.2.2.2.2.2.2.1 rfl hin dS_59 fun H locs hP hD hS => ?_
      have hM := hM.setP (upd fp k.toNatClampNeg (Int32.ofInt (-1)))
      generalize ws.set 13 _ = ws at hM hP hD
      refine lv_iinc hx hb dS_60 hl (k := 0) rfl rfl (by decide) rfl fun ls2 hl2 => ?_
      have hl2 : lv_has ls2 9 [(4, .int (k + Int32.ofInt 1)), (3, .int nn), (2, .int nn), (1, .int st), (0, .ref (ad 0))] := hl2
      refine lv_goto hx hb dS_63 (tgt := 5) rfl ?_
      cases j with
      | zero => omega
      | succ j =>
        refine suit_l1 hx hb hts hown hK hv hB hB1 hn0 hn1 fin j _ ls2 ws H locs _ _ _ (by rw [hk2]; omega) (by rw [hk2]; omega) (by rw [hk2]; omega) hM hP hD hS (fun i hi => ?_) hl2
        rw [hk2] at hi
        unfold upd
        by_cases hik : i = k.toNatClampNeg
        · rw [if_pos hik, if_pos hik, if_pos hik]
          refine ⟨?_, by omega, m1_z⟩
          rw [hx9, hik, hkz, show ((k.toInt.toNat : Nat) : Int) = k.toInt by omega]
        · rw [if_neg hik, if_neg hik, if_neg hik]
          exact hI i (by omega)
    refine lv_icmp_ge hx hb dS_22 (tgt := 41) rfl (fun hc1 => ?_) (fun hc1 => ?_)
    · refine lv_iconst hx hb dS_41 rfl (tail _ ?_)
      rw [le_z] at hc1
      rw [if_neg (by omega)]
      rfl
    rw [le_z] at hc1
    have hbk : ((Int16.ofInt 320).toInt32 * st + k).toInt = (B : Int) + k.toInt := by
      rw [nu_add (by rw [hB]; omega) (by rw [hB]; omega), hB]
    refine lv_aload_n hx hb dS_25 rfl (lv_at hl 4 rfl) ?_
    refine mget hx hb hts hown hK hP hM.1 (k := 25) (fin := true) (by decide) v25 dS_26 ?_
    refine lv_sipush hx hb dS_29 rfl ?_
    refine lv_iload_n hx hb dS_32 rfl (lv_at hl 3 rfl) ?_
    refine lv_imul hx hb dS_33 ?_
    refine lv_iload hx hb dS_34 (lv_at hl 0 rfl) ?_
    refine lv_iadd hx hb dS_36 ?_
    refine va_iald hx hb hK hP 8 0 hM.2.1 rfl (inb (by rw [hbk]; omega) (by rw [hbk]; omega)) dS_37 ?_
    refine lv_goto hx hb dS_38 (tgt := 42) rfl (tail _ ?_)
    rw [if_pos (by omega)]
    congr 1
    rw [clamp_z, hbk]
    omega
end Suit
