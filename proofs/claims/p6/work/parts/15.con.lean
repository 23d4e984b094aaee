/-! contracts -/
abbrev CK : Type := (Nat × Nat × Nat × Nat × Nat) × (Bnd × List LE × List SV × SH) × (Bnd × List LE × Option SV × SH)
abbrev MI : Type := MethodName × ByteArray × Nat × Option FieldType × Nat
def tysOf (cy : Nat → ClassId) : List (ClassId × FieldType) := [(cy 0, .int), (cy 1, .byte)]
def RS (ads : List Nat) (v : List Int) (o : Option SV) (r : Option Value) : Prop := match o, r with
  | none, none => True
  | some t, some x => VS ads v t x
  | _, _ => False
def rmK (K : CK) : Room := { frames := K.1.2.1, cells := K.1.2.2.2.1, slots := K.1.2.2.2.2, locals := K.1.2.2.1 }
def wsM (TB : List Cond) (mi : MI) : List Cond := Cond.code mi.1 mi.2.1 mi.2.2.1 mi.2.2.2.1 :: TB
def QB (cl : List vw_C) (D : va_G) (cy : Nat → ClassId) (K : CK) (mu : List Int) (ads : List Nat) (ws : va_W) (sz : Nat) (r : Option Value) (t : State) : Prop :=
  ∃ (w : List Int) (bs : List Nat) (ws' : va_W), SX (mu ++ w) (K.2.1.1 ++ K.2.2.1, K.2.2.2.1) ∧ RS (ads ++ bs) (mu ++ w) K.2.2.2.2.1 r ∧ HS cy (ads ++ bs) (mu ++ w) ws K.2.2.2.2.2 ws' ∧ va_P D cl ws' t.heap ∧ va_D (va_A ws sz) ws' ∧ ∀ b ∈ bs, sz ≤ b
def QK (cl : List vw_C) (D : va_G) (cy : Nat → ClassId) (K : CK) (mu : List Int) (ads : List Nat) (ws : va_W) (sz : Nat) : Array Value → State → Outcome → State → Prop := fun _ st oc t =>
  (∃ r, oc = .returned r ∧ QB cl D cy K mu ads ws sz r t) ∧ va_F (va_A ws sz) st t
def PK (cl : List vw_C) (G : List Nat → State → Prop) (D : va_G) (cy : Nat → ClassId) (ws : va_W) (xs : List Value) (sz : Nat) : Array Value → State → Prop :=
  va_Pc xs (fun U => U.heap.size = sz ∧ va_P D cl ws U.heap ∧ va_K D cl (tysOf cy) U ∧ va_D (fun _ => True) ws ∧ G (ws.map fun q => q.1) U)
def Valid (l : Launch) (TB : List Cond) (cl : List vw_C) (G : List Nat → State → Prop) (mi : MI) (K : CK) : Prop :=
  ∀ (D : va_G) (cy : Nat → ClassId) (mu : List Int) (ads : List Nat) (ws : va_W) (xs : List Value) (sz : Nat), SX mu (K.2.1.1, K.2.1.2.1) → FS ads mu K.2.1.2.2.1 xs → HS cy ads mu ws K.2.1.2.2.2 ws →
    Met l mi.1 (wsM TB mi) (rmK K) (PK cl G D cy ws xs sz) (QK cl D cy K mu ads ws sz) K.1.2.2.2.1 K.1.2.2.2.2 (va_A ws sz)
/-- what else a method may stand on: it stays when only cells of ads, or new ones, change -/
def GCl (G : List Nat → State → Prop) : Prop := ∀ (ads bs : List Nat) (U U' : State), U.WarmedH U'.vm → U.heap.size ≤ U'.heap.size → (∀ q : Nat, q < U.heap.size → q ∉ ads → U'.heap[q]? = U.heap[q]?) → (∀ b ∈ bs, U.heap.size ≤ b) → G ads U → G (ads ++ bs) U'
theorem PK.blind {cl : List vw_C} {G : List Nat → State → Prop} (hG : GCl G) {D : va_G} {cy : Nat → ClassId} {ws : va_W} {xs : List Value} {sz : Nat} : FrameBlind (PK cl G D cy ws xs sz) := fun a U g mk q => by
  obtain ⟨q0, q1, qP, qK, qD, qG⟩ := q
  refine ⟨q0, q1, qP, va_K.moved (u := U) (U := U.calling g mk a) (Vm.Alike.refl U.vm) qK, qD, ?_⟩
  have := hG _ [] U (U.calling g mk a) (State.WarmedH.refl U) (Nat.le_refl _) (fun _ _ _ => rfl) (fun _ h => by cases h) qG
  rwa [List.append_nil] at this
theorem va_A.ads {ws : va_W} {sz q : Nat} (h : va_A ws sz q) (hq : q < sz) : q ∈ ws.map fun q => q.1 := by
  rcases h with ⟨k, e, h⟩ | h
  · exact List.mem_map.mpr ⟨(q, e), List.mem_of_getElem? h, rfl⟩
  · omega
theorem va_D.sub_A {A : Nat → Prop} {ws : va_W} (hD : va_D A ws) {n z : Nat} (hA : ∀ q, n ≤ q → A q) (hz : n ≤ z) : ∀ q, va_A ws z q → A q := fun q h => by
  rcases h with ⟨k, e, h⟩ | h
  · exact hD.2 k (q, e) h
  · exact hA q (by omega)
section Con
variable {p : Program} {l : Launch} {e : Env} {R : Room} {s : State} {m : MethodId} {args : Array Value} {below : List Frame} {meth : Method} {c : Code} {H : Heap} {locs : List Loc} {cells slots : Nat} {Q : State → Prop}
variable {TB : List Cond} {cl : List vw_C} {G : List Nat → State → Prop} {D : va_G} {cy : Nat → ClassId} {cc : ByteArray} {pc nL : Nat} {ls : Array Slot}
theorem afterK {K : CK} {mu : List Int} {ads : List Nat} {ws : va_W} {A : Nat → Prop} {mc ms : Nat} {st0 rest : List Value} {a : Array Value}
    (hr : va_Run p l e R s m args below meth c H locs cells slots mc ms (F0 m pc ls st0) rest (QK cl D cy K mu ads ws H.size a) (va_A ws H.size))
    (hD : va_D A ws) (hS : va_S A s.heap H locs) (hA : ∀ q, s.heap.size ≤ q → A q)
    (kk : ∀ (r : Option Value) (w : List Int) (bs : List Nat) (ws' : va_W) (H1 : Heap) (locs1 : List Loc), SX (mu ++ w) (K.2.1.1 ++ K.2.2.1, K.2.2.2.1) → RS (ads ++ bs) (mu ++ w) K.2.2.2.2.1 r → HS cy (ads ++ bs) (mu ++ w) ws K.2.2.2.2.2 ws' → va_P D cl ws' H1 → va_D A ws' → va_S A s.heap H1 locs1 → (∀ b ∈ bs, s.heap.size ≤ b) →
      W p l e R s m args below meth c H1 locs1 (cells + mc) (slots + ms) Q (F0 m (pc + 3) ls (r.toList ++ rest))) : W p l e R s m args below meth c H locs cells slots Q (F0 m pc ls st0) := by
  have hAA := hD.sub_A hA hS.1
  intro T hT X
  obtain ⟨v, st₀, t, T', L, h0, X', hL, e1, e2, ⟨⟨r, hv, w, bs, ws', hX, hR, hH, hP', hD', hb⟩, hz, hk⟩, st⟩ := hr T hT X
  cases hv
  rw [h0] at hz hk
  have hS' : va_S A s.heap T'.heap (locs ++ L) := by
    refine ⟨Nat.le_trans hS.1 (by rw [e1]; exact hz), fun q h1 h2 => ?_, fun q hq => ?_⟩
    · rw [e1, hk q (Nat.lt_of_lt_of_le h1 hS.1) (fun z => h2 (hAA q z))]
      exact hS.2.1 q h1 h2
    · rcases List.mem_append.mp hq with h | h
      · exact hS.2.2 q h
      · exact hAA _ (hL q h)
  obtain ⟨t2, a1, b1⟩ := kk v w bs ws' T'.heap (locs ++ L) hX hR hH (by rw [e1]; exact hP') (hD'.weaken fun k q _ h => hAA q.1 h) hS' (fun b h => Nat.le_trans hS.1 (hb b h)) T' rfl X'
  exact ⟨t2, st t2 a1, b1⟩
/-- what a caller has ready for a contract -/
theorem preK (hGc : GCl G) {w0 ws : va_W} {bs : List Nat} {xs : List Value} (hK : va_K D cl (tysOf cy) s) (hP : va_P D cl ws H) (hD : va_D (va_A w0 s.heap.size) ws) (hS : va_S (va_A w0 s.heap.size) s.heap H locs)
    (hG : G (w0.map fun q => q.1) s) (hads : (ws.map fun q => q.1) = (w0.map fun q => q.1) ++ bs) (hbs : ∀ b ∈ bs, s.heap.size ≤ b) : ∀ U : State, U.heap = H → s.WarmedH U.vm → PK cl G D cy ws xs H.size xs.toArray U := fun U hU hW => by
  refine ⟨rfl, by rw [hU], by rw [hU]; exact hP, va_K.moved hW.alike hK, hD.weaken (fun _ _ _ _ => trivial), ?_⟩
  rw [hads]
  refine hGc _ bs s U hW (by rw [hU]; exact hS.1) (fun q h1 h2 => ?_) hbs hG
  rw [hU]
  exact hS.2.1 q h1 (fun z => h2 (z.ads h1))
end Con
def catS (s : SV) : Nat := if oneS s = true then 1 else 2
theorem cat_le {ads : List Nat} {v : List Int} {s : SV} {x : Value} (h : VS ads v s x) : x.category ≤ catS s := by
  unfold catS
  split
  next ho => rw [oneS_cat ho h]; exact Nat.le_refl 1
  next => rcases lv_cat x with h1 | h1 <;> omega
theorem cats_le {ads : List Nat} {v : List Int} : ∀ {l : List SV} {r : List Value}, FS ads v l r → (r.map fun x => x.category).sum ≤ (l.map catS).sum
  | [], [], _ => Nat.le_refl _
  | a :: l, x :: r, h => by
    have h1 := cat_le h.1
    have h2 := cats_le h.2
    simp only [List.map_cons, List.sum_cons]
    omega
  | [], _ :: _, h => h.elim
  | _ :: _, [], h => h.elim
/-- a call's kind: 0 static, 1 virtual, 2 a constructor, 3 static of a nest mate -/
def MLok (TB : List Cond) (G : List Nat → State → Prop) (own : String) (MT : List MI) (ML : List (Nat × Nat × Nat)) : Prop := ∀ q ∈ ML, ∃ mi : MI, MT[q.2.1]? = some mi ∧ (match q.2.2 with
  | 0 => Cond.methodLink own q.1 mi.1 ∈ TB ∧ Cond.static mi.1 ∈ TB
  | 1 => Cond.methodLink own q.1 mi.1 ∈ TB ∧ Cond.instanceMethod mi.1 ∈ TB ∧ Cond.selects mi.1.cls mi.1 mi.1 ∈ TB
  | 2 => Cond.methodLink own q.1 mi.1 ∈ TB ∧ Cond.instanceMethod mi.1 ∈ TB ∧ mi.1.name = "<init>" ∧ mi.2.2.2.1 = none
  | 3 => Cond.static mi.1 ∈ TB ∧ ∀ (ads : List Nat) (U : State), G ads U → va_Nw (Cond.methodLinkNest own q.1 mi.1 "FlateFilter") U
  | _ => False)
def MTok (TB : List Cond) (MT : List MI) : Prop := ∀ mi ∈ MT, plainName mi.1.cls = true ∧ (mi.1.cls ≠ "java/lang/invoke/MethodHandle" ∧ mi.1.cls ≠ "java/lang/invoke/VarHandle" ∧ (parseMethodDescriptor mi.1.desc).map (fun d => d.parameters.length) = some mi.2.2.2.2) ∧ Cond.code mi.1 mi.2.1 mi.2.2.1 mi.2.2.2.1 ∈ TB ∧ Cond.initialized mi.1.cls ∈ TB
def TBok (TB : List Cond) : Prop := ∀ w ∈ TB, (w.onTables && w.keeps) = true ∨ ∃ ty, w = .arrayClass ty
theorem wsM_good {TB : List Cond} (hT : TBok TB) {mi : MI} (h : Cond.code mi.1 mi.2.1 mi.2.2.1 mi.2.2.2.1 ∈ TB) : GoodIn TB (wsM TB mi) := fun w hw => by
  rcases List.mem_cons.mp hw with rfl | hw
  · exact ⟨h, hT _ h⟩
  · exact ⟨hw, hT _ hw⟩
