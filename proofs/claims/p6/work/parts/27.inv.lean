/-! worlds between calls; a contract's start out of one, one out of a contract's end -/
abbrev IT : Type := Bnd × List LE × SH
def Inv (cy : Nat → ClassId) (T : IT) (ads : List Nat) (ws : va_W) : Prop := ∃ mu, SX mu (T.1, T.2.1) ∧ HS cy ads mu ws T.2.2 ws
theorem LSat.nil (ads : List Nat) (v : List Int) : LSat ads v #[] 0 [] := ⟨rfl, ⟨fun i x hi => by simp at hi, fun i hi => by simp at hi⟩, fun q hq => by cases hq⟩
/-- b: the bounds of the arguments; as: the arguments -/
def preB (T : IT) (b : Bnd) (as : List SV) (K : CK) (cs : List Cert) : Bool := (mtT false 0 (eC 0) (T.1 ++ b, T.2.1) cs [] as T.2.2 (K.2.1.1, K.2.1.2.1, [], K.2.1.2.2.1, K.2.1.2.2.2)).isSome
theorem preB_ok {cy : Nat → ClassId} {T : IT} {ads : List Nat} {ws : va_W} {b : Bnd} {as : List SV} {K : CK} {cs : List Cert} {xs : List Value} (h : preB T b as K cs = true) (hI : Inv cy T ads ws) {u : List Int} (hu : SB u b) (hxs : ∀ mu : List Int, mu.length = T.1.length → FS ads (mu ++ u) as xs) :
    ∃ mu, SX mu (K.2.1.1, K.2.1.2.1) ∧ FS ads mu K.2.1.2.2.1 xs ∧ HS cy ads mu ws K.2.1.2.2.2 ws := by
  obtain ⟨mu, hX, hH⟩ := hI
  obtain ⟨⟨sg, c1⟩, h1⟩ := Option.isSome_iff_exists.mp h
  obtain ⟨nu, -, -, a1, -, a2, a3, -⟩ := mtT_ok (v := mu ++ u) (g := (T.1 ++ b, T.2.1)) (ls := #[]) (nL := 0) (w0 := ws) ⟨hX.1.push hu, hX.2.mono⟩ (LSat.nil _ _) (hxs mu hX.1.1) hH.mono (Nat.zero_le _) h1
  rw [if_neg (by decide)] at a3
  exact ⟨nu, a1, a2, a3⟩
/-- cx: what more is known there -/
def postB (K : CK) (cx : List LE) (T : IT) (cs : List Cert) : Bool := (mtT false 0 (eC 0) (K.2.1.1 ++ K.2.2.1, K.2.1.2.1 ++ (K.2.2.2.1 ++ cx)) cs [] [] K.2.2.2.2.2 (T.1, T.2.1, [], [], T.2.2)).isSome
theorem postB_ok {cy : Nat → ClassId} {T : IT} {K : CK} {cx : List LE} {cs : List Cert} (h : postB K cx T cs = true) {mu w : List Int} {ads : List Nat} {ws ws' : va_W} (h0 : SX mu (K.2.1.1, K.2.1.2.1)) (hX : SX (mu ++ w) (K.2.1.1 ++ K.2.2.1, K.2.2.2.1)) (hc : SC (mu ++ w) cx) (hH : HS cy ads (mu ++ w) ws K.2.2.2.2.2 ws') : Inv cy T ads ws' := by
  obtain ⟨⟨sg, c1⟩, h1⟩ := Option.isSome_iff_exists.mp h
  obtain ⟨nu, -, -, a1, -, -, a3, -⟩ := mtT_ok (v := mu ++ w) (g := (K.2.1.1 ++ K.2.2.1, K.2.1.2.1 ++ (K.2.2.2.1 ++ cx))) (st := []) (ls := #[]) (nL := 0) (w0 := ws) (stk := []) ⟨hX.1, h0.2.mono.app (hX.2.app hc)⟩ (LSat.nil _ _) trivial hH (Nat.zero_le _) h1
  rw [if_neg (by decide)] at a3
  exact ⟨nu, a1, a3⟩
/-- the same where a method throws -/
def thrB (X : Tm) (T : IT) (cs : List Cert) : Bool := (mtT false 0 (eC 0) (X.1, X.2.1) cs [] [] X.2.2.2.2 (T.1, T.2.1, [], [], T.2.2)).isSome
theorem thrB_ok {cy : Nat → ClassId} {T : IT} {X : Tm} {cs : List Cert} (h : thrB X T cs = true) {v : List Int} {ads : List Nat} {ws ws' : va_W} (hX : SX v (X.1, X.2.1)) (hH : HS cy ads v ws X.2.2.2.2 ws') : Inv cy T ads ws' := by
  obtain ⟨⟨sg, c1⟩, h1⟩ := Option.isSome_iff_exists.mp h
  obtain ⟨nu, -, -, a1, -, -, a3, -⟩ := mtT_ok (v := v) (st := []) (ls := #[]) (nL := 0) (w0 := ws) (stk := []) hX (LSat.nil _ _) trivial hH (Nat.zero_le _) h1
  rw [if_neg (by decide)] at a3
  exact ⟨nu, a1, a3⟩
/-- a world lies in a heap -/
def Lies (D : va_G) (cl : List vw_C) (cy : Nat → ClassId) (Ts : List IT) (ads : List Nat) (H : Heap) : Prop := ∃ T ∈ Ts, ∃ ws, Inv cy T ads ws ∧ va_P D cl ws H ∧ va_D (fun _ => True) ws
theorem Inv.ads {cy : Nat → ClassId} {T : IT} {ads : List Nat} {ws : va_W} (h : Inv cy T ads ws) : (ws.map fun q => q.1) = ads := by
  obtain ⟨mu, -, hH⟩ := h
  exact hH.1
theorem Lies.kept {D : va_G} {cl : List vw_C} {cy : Nat → ClassId} {Ts : List IT} {ads : List Nat} {H H1 : Heap} (h : Lies D cl cy Ts ads H) (hk : ∀ a ∈ ads, H1[a]? = H[a]?) : Lies D cl cy Ts ads H1 := by
  obtain ⟨T, hT, ws, hI, hP, hD⟩ := h
  refine ⟨T, hT, ws, hI, hP.kept fun k q hq => hk q.1 ?_, hD⟩
  rw [← hI.ads]
  exact List.mem_map.mpr ⟨q, List.mem_of_getElem? hq, rfl⟩
theorem Lies.lt {D : va_G} {cl : List vw_C} {cy : Nat → ClassId} {Ts : List IT} {ads : List Nat} {H : Heap} (h : Lies D cl cy Ts ads H) : ∀ a ∈ ads, a < H.size := fun a ha => by
  obtain ⟨T, hT, ws, hI, hP, hD⟩ := h
  rw [← hI.ads] at ha
  obtain ⟨q, hq, rfl⟩ := List.mem_map.mp ha
  obtain ⟨k, hk⟩ := List.getElem?_of_mem hq
  exact (hP k q hk).lt
theorem va_A.of {ws : va_W} {sz a : Nat} : va_A ws sz a ↔ a ∈ (ws.map fun q => q.1) ∨ sz ≤ a := by
  constructor
  · intro h
    rcases h with ⟨k, e, h⟩ | h
    · exact Or.inl (List.mem_map.mpr ⟨(a, e), List.mem_of_getElem? h, rfl⟩)
    · exact Or.inr h
  · intro h
    rcases h with h | h
    · obtain ⟨⟨b, e⟩, hq, rfl⟩ := List.mem_map.mp h
      obtain ⟨k, hk⟩ := List.getElem?_of_mem hq
      exact Or.inl ⟨k, e, hk⟩
    · exact Or.inr h
