/-! the law's own methods: what they stand on -/
def tyL (cy : Nat → ClassId) (cL : ClassId) : List (ClassId × FieldType) := [(cy 0, .int), (cy 1, .byte), (cL, .long)]
theorem tyL.toC {D : va_G} {cy : Nat → ClassId} {cL : ClassId} {U : State} (h : va_K D nCl (tyL cy cL) U) : va_K D nCl (tysOf cy) U := h.sub [0, 1] rfl
abbrev sU : String := "java/lang/UnsupportedOperationException"
abbrev sI : String := "java/lang/IllegalArgumentException"
abbrev sA : String := "java/lang/ArrayIndexOutOfBoundsException"
def gL : List Nat → State → Prop := fun ads U => gC ads U ∧ va_Nc sU sI U
theorem gL_ok : GCl gL := fun ads bs U U' hW hz hk hb h => ⟨gC_ok ads bs U U' hW hz hk hb h.1, va_Nc.moved hW.alike h.2⟩
def OutC (D : va_G) (cL : ClassId) (o : Nat) (H : Heap) : Prop := ∃ f : Nat → Int64, va_P D nCl [(o, .inl (cL, 1, .inr (.inl f)))] H
theorem OutC.kept {D : va_G} {cL : ClassId} {o : Nat} {H H1 : Heap} (h : OutC D cL o H) (hk : H1[o]? = H[o]?) : OutC D cL o H1 := by
  obtain ⟨f, hf⟩ := h
  refine ⟨f, hf.kept fun k q hq => ?_⟩
  have : q ∈ [(o, (.inl (cL, 1, .inr (.inl f)) : va_E))] := List.mem_of_getElem? hq
  rw [List.mem_singleton.mp this]
  exact hk
theorem OutC.lt {D : va_G} {cL : ClassId} {o : Nat} {H : Heap} (h : OutC D cL o H) : o < H.size := by
  obtain ⟨f, hf⟩ := h
  exact (hf 0 _ rfl).lt
theorem va_P.app1 {D : va_G} {cl : List vw_C} {ws : va_W} {q : Nat × va_E} {H : Heap} (h : va_P D cl ws H) (hq : va_P D cl [q] H) : va_P D cl (ws ++ [q]) H := fun k x hk => by
  rcases List.mem_append.mp (List.mem_of_getElem? hk) with h1 | h1
  · obtain ⟨i, hi⟩ := List.getElem?_of_mem h1
    exact h i x hi
  · rw [List.mem_singleton.mp h1]
    exact hq 0 q rfl
theorem va_D.app1 {A : Nat → Prop} {ws : va_W} {o : Nat} {e : va_E} (h : va_D (fun _ => True) ws) (hA : ∀ q ∈ (ws.map fun q => q.1), A q) (hoA : A o) (ho : o ∉ (ws.map fun q => q.1)) : va_D A (ws ++ [(o, e)]) := by
  have hin : ∀ (i : Nat) (x : Nat × va_E), ws[i]? = some x → x.1 ∈ (ws.map fun q => q.1) := fun i x hx => List.mem_map.mpr ⟨x, List.mem_of_getElem? hx, rfl⟩
  have hsp : ∀ (i : Nat) (x : Nat × va_E), (ws ++ [(o, e)])[i]? = some x → (i < ws.length ∧ ws[i]? = some x) ∨ (i = ws.length ∧ x = (o, e)) := fun i x hx => by
    by_cases hi : i < ws.length
    · rw [List.getElem?_append_left hi] at hx
      exact Or.inl ⟨hi, hx⟩
    · rw [List.getElem?_append_right (by omega)] at hx
      have hz : i - ws.length < 1 := (List.getElem?_eq_some_iff.mp hx).1
      rw [show i - ws.length = 0 by omega] at hx
      cases hx
      exact Or.inr ⟨by omega, rfl⟩
  refine ⟨fun i j x y hi hj hxy => ?_, fun k x hk => ?_⟩
  · rcases hsp i x hi with ⟨a1, a2⟩ | ⟨a1, a2⟩
    · rcases hsp j y hj with ⟨b1, b2⟩ | ⟨b1, b2⟩
      · exact h.1 i j x y a2 b2 hxy
      · exact (ho ((show x.1 = o by rw [b2] at hxy; exact hxy) ▸ hin i x a2)).elim
    · rcases hsp j y hj with ⟨b1, b2⟩ | ⟨b1, b2⟩
      · exact (ho ((show y.1 = o by rw [a2] at hxy; exact hxy.symm) ▸ hin j y b2)).elim
      · omega
  · rcases hsp k x hk with ⟨a1, a2⟩ | ⟨a1, a2⟩
    · exact hA _ (hin k x a2)
    · rw [a2]; exact hoA
theorem recvC {D : va_G} {cy : Nat → ClassId} {ads : List Nat} {H : Heap} {s : State} {a : Nat} {tys : List (ClassId × FieldType)} (h : Lies D nCl cy iCs ads H) (ha : ads[0]? = some a) (hK : va_K D nCl tys s) : ∃ cell : Cell, H[a]? = some cell ∧ cell.vm.isStatics = false ∧ s.vm.findClass RX11 = some cell.cls := by
  obtain ⟨T, hT, ws, ⟨mu, hX, hH⟩, hP, hD⟩ := h
  have key : ∃ fs, T.2.2[0]? = some (some (.inr (8, fs))) := by
    rcases List.mem_cons.mp hT with rfl | hT
    · exact ⟨_, rfl⟩
    · obtain rfl := List.mem_singleton.mp hT
      exact ⟨_, rfl⟩
  obtain ⟨fs, hfs⟩ := key
  obtain ⟨e0, g0, vs, rfl, -⟩ := hH.get hfs ha
  exact va_recv (q := (RX11, TX11, 14)) hK hP rfl g0
theorem recvM {D : va_G} {cy : Nat → ClassId} {ads : List Nat} {H : Heap} {s : State} {a : Nat} {tys : List (ClassId × FieldType)} (h : Lies D nCl cy iMs ads H) (ha : ads[0]? = some a) (hK : va_K D nCl tys s) : ∃ cell : Cell, H[a]? = some cell ∧ cell.vm.isStatics = false ∧ s.vm.findClass RX12 = some cell.cls := by
  obtain ⟨T, hT, ws, ⟨mu, hX, hH⟩, hP, hD⟩ := h
  have key : ∃ fs, T.2.2[0]? = some (some (.inr (9, fs))) := by
    rcases List.mem_cons.mp hT with rfl | hT
    · exact ⟨_, rfl⟩
    · rcases List.mem_cons.mp hT with rfl | hT
      · exact ⟨_, rfl⟩
      · obtain rfl := List.mem_singleton.mp hT
        exact ⟨_, rfl⟩
  obtain ⟨fs, hfs⟩ := key
  obtain ⟨e0, g0, vs, rfl, -⟩ := hH.get hfs ha
  exact va_recv (q := (RX12, TX12, 40)) hK hP rfl g0
section Wrap
variable {p : Program} {l : Launch} {e : Env} {R : Room} {s : State} {m : MethodId} {args : Array Value} {below : List Frame} {meth : Method} {c : Code} {H : Heap} {locs : List Loc} {cells slots : Nat} {Q : State → Prop}
variable {D : va_G} {cy : Nat → ClassId} {cc : ByteArray} {pc nL : Nat} {ls : Array Slot} {rest As : List Value} {A : Nat → Prop} {ads : List Nat} {a o ix : Nat} {cL : ClassId} {own : String} {mi : MI} {rt : Option Value → Prop} {Es : List String}
/-- a long into the law's row of one -/
theorem wr_last (hx : p.tables.exec = Jvm.exec) (hb : c.code = cc) (hK : va_K D nCl (tyL cy cL) s) (hL : Lies D nCl cy iCs ads H) (hO : OutC D cL o H) (ho : o ∉ ads) (hA : ∀ q, q ∈ ads ∨ q = o → A q) (hS : va_S A s.heap H locs) {v : Int64} (hdg : decode cc pc = .ok (.lastore, 1))
    (kk : ∀ (H1 : Heap) (locs1 : List Loc), Lies D nCl cy iCs ads H1 → OutC D cL o H1 → va_S A s.heap H1 locs1 → W p l e R s m args below meth c H1 locs1 cells slots Q (F0 m (pc + 1) ls rest)) : W p l e R s m args below meth c H locs cells slots Q (F0 m pc ls (.long v :: .int (Int32.ofInt 0) :: .ref o :: rest)) := by
  obtain ⟨T, hT, ws, hI, hP, hD⟩ := hL
  obtain ⟨f, hf⟩ := hO
  have hads := hI.ads
  have hP2 := hP.app1 hf
  have hD2 : va_D A (ws ++ [(o, (.inl (cL, 1, .inr (.inl f)) : va_E))]) := hD.app1 (fun q hq => hA q (Or.inl (by rw [← hads]; exact hq))) (hA o (Or.inr rfl)) (by rw [hads]; exact ho)
  have hat : (ws ++ [(o, (.inl (cL, 1, .inr (.inl f)) : va_E))])[ws.length]? = some (o, .inl (cL, 1, .inr (.inl f))) := by simp
  refine va_last hx hb hK hP2 hD2 hS ws.length 2 hat rfl (inb (by decide) (by decide)) hdg fun H1 locs1 a1 a2 a3 => ?_
  rw [List.set_append_right _ _ (Nat.le_refl _), Nat.sub_self] at a1
  have h1 : va_P D nCl ws H1 := fun k q hk => a1 k q (getElem?_mono hk)
  have h2 : ∀ x : Nat × va_E, va_P D nCl (ws ++ [x]) H1 → va_P D nCl [x] H1 := fun x hx k q hk => hx (ws.length + k) q (by
    rw [List.getElem?_append_right (by omega), show ws.length + k - ws.length = k by omega]
    exact hk)
  exact kk H1 locs1 ⟨T, hT, ws, hI, h1, hD⟩ ⟨_, h2 _ a1⟩ a3
/-- a call of a method of the class that may throw -/
theorem wr_call (S : CallFix p m c cc nL s args TB own) (hM : vx_Met l mi.1 (wsM TB mi) rmX (stP D cy gC ads H (.ref a :: As)) (stQ D cy iCs ads H rt) (stT D cy iCs ads H Es) 1 6 (stA ads H.size)) (hmi : mi ∈ nMT) (hlk : Cond.methodLink own ix mi.1 ∈ TB ∧ Cond.instanceMethod mi.1 ∈ TB ∧ Cond.selects mi.1.cls mi.1 mi.1 ∈ TB) (hcls : mi.1.cls = RX11)
    (hR : 9 ≤ R.frames ∧ 8 + (mi.2.2.1 + 11) + 189 ≤ R.locals) (hcs : cells + 1 ≤ R.cells ∧ slots + 6 ≤ R.slots) (hK : va_K D nCl (tysOf cy) s) (hG : ∀ U : State, U.heap = H → s.WarmedH U.vm → gC ads U) (hL : Lies D nCl cy iCs ads H) (ha : ads[0]? = some a) (hA : ∀ q, stA ads H.size q → A q) (hS : va_S A s.heap H locs)
    (hn : As.length = mi.2.2.2.2) (hsz : ls.size = nL) (hW : (rest.map fun v => v.category).sum ≤ 8) (hdg : decode cc pc = .ok (.invokevirtual ix, 3))
    (kx : ∀ (E : String) (ce : Cell) (q9 : Addr) (H1 : Heap) (locs1 : List Loc), E ∈ Es → Lies D nCl cy iCs ads H1 → va_S A s.heap H1 locs1 → (∀ q : Nat, q < H.size → q ∉ ads → H1[q]? = H[q]?) → H1[q9]? = some ce → ce.vm = .none → s.vm.findClass E = some ce.cls → vx_W p l e R s m args below meth c H1 locs1 (cells + 1) (slots + 6) Q (F0 m pc ls rest) q9)
    (kk : ∀ (r : Option Value) (H1 : Heap) (locs1 : List Loc), rt r → Lies D nCl cy iCs ads H1 → va_S A s.heap H1 locs1 → (∀ q : Nat, q < H.size → q ∉ ads → H1[q]? = H[q]?) → W p l e R s m args below meth c H1 locs1 (cells + 1) (slots + 6) Q (F0 m (pc + 3) ls (r.toList ++ rest))) :
    W p l e R s m args below meth c H locs cells slots Q (F0 m pc ls (As.reverse ++ .ref a :: rest)) := by
  obtain ⟨hx, hb, hml, hown, hts⟩ := id S
  obtain ⟨-, kd, kc, ki⟩ := nMT_ok _ hmi
  have hr := vx_runV (rest := rest) (locs := locs) (cells := cells) (slots := slots) (below := below) (e := e) (meth := meth) (g := F0 m pc ls (As.reverse ++ .ref a :: rest)) S hM ⟨callB_of (rm := rmX) (mc := 1) (ms := 6) (R := R) _ hts (wsM_good TB_ok kc) rfl rfl rfl (hts _ ki) (hts _ hlk.1) kd ⟨by show 8 + 1 ≤ _; omega, hR.2⟩, hts _ hlk.2.1, hts _ hlk.2.2⟩ ⟨stP.blind gC_ok, by rw [hcls]; exact recvC hL ha hK, fun U hU hW => ⟨rfl, hU, va_K.moved hW.alike hK, hG U hU hW⟩⟩ rfl hn hsz rfl (lv_room hW) hdg hcs
  intro T hT X
  rcases hr T hT X with ⟨v, st₀, t, T', L, h0, X', hL9, e1, e2, ⟨⟨r, hv, hrt, hlies⟩, hF⟩, st⟩ | ⟨q, st₀, t, T', L, E, ce, h0, X', hL9, e1, e2, ⟨⟨hE, hlies⟩, hF⟩, hce, hcv, hcl, st⟩
  · cases hv
    obtain ⟨k1, k2, k3⟩ := vx_keep h0 e1 hS (fun q _ h => hA q h) hA hL9 hF
    obtain ⟨t2, a1, b1⟩ := kk v T'.heap (locs ++ L) hrt (by rw [e1]; exact hlies) k3 (fun q h1 h2 => k2 q h1 (fun z => z.elim h2 (fun z => by omega))) T' rfl X'
    exact ⟨t2, st t2 a1, b1⟩
  · obtain ⟨k1, k2, k3⟩ := vx_keep h0 e1 hS (fun q _ h => hA q h) hA hL9 hF
    obtain ⟨t2, a1, b1⟩ := kx E ce q T'.heap (locs ++ L) hE (by rw [e1]; exact hlies) k3 (fun q h1 h2 => k2 q h1 (fun z => z.elim h2 (fun z => by omega))) (by rw [e1]; exact hce) hcv hcl T' rfl X'
    exact ⟨t2, st.trans a1, b1⟩
end Wrap
