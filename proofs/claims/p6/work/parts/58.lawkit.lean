/-! methods as steps from a world between calls to one -/
theorem Met.imp {l : Launch} {y : MethodName} {ws : List Cond} {rm : Room} {Pc Pc' : Array Value → State → Prop} {Qc Qc' : Array Value → State → Outcome → State → Prop} {mc ms : Nat} {free free' : Addr → Prop} (h : Met l y ws rm Pc Qc mc ms free) (hp : ∀ a U, Pc' a U → Pc a U) (hq : ∀ a st o t, Pc' a st → Qc a st o t → Qc' a st o t) (hf : ∀ q, free q → free' q) : Met l y ws rm Pc' Qc' mc ms free' := by
  intro p e ha hc hk s m args below hf0 happ hP hK
  obtain ⟨n, o, h1, h2, h3, h4, L, h5, h6⟩ := h p e ha hc hk s m args below hf0 happ (hp _ _ hP) hK
  exact ⟨n, o, h1, h2, h3, hq _ _ _ _ hP h4, L, h5, fun q hq' => hf _ (h6 q hq')⟩
theorem vx_Met.imp {l : Launch} {y : MethodName} {ws : List Cond} {rm : Room} {Pc Pc' : Array Value → State → Prop} {Qc Qc' : Array Value → State → Outcome → State → Prop} {XC XC' : String → State → State → Prop} {mc ms : Nat} {free free' : Addr → Prop} (h : vx_Met l y ws rm Pc Qc XC mc ms free) (hp : ∀ a U, Pc' a U → Pc a U) (hq : ∀ a st o t, Pc' a st → Qc a st o t → Qc' a st o t) (hx : ∀ a E st t, Pc' a st → XC E st t → XC' E st t) (hf : ∀ q, free q → free' q) : vx_Met l y ws rm Pc' Qc' XC' mc ms free' := by
  intro p e ha hc hk s m args below hf0 happ hP hK
  obtain ⟨n, o, h1, h2, h3, h4⟩ := h p e ha hc hk s m args below hf0 happ (hp _ _ hP) hK
  refine ⟨n, o, h1, h2, h3, ?_⟩
  rcases h4 with ⟨h4, L, h5, h6⟩ | ⟨q, h4, E, ce, L, h5, h6, h7, h8, h9, h10, h11⟩
  · exact Or.inl ⟨hq _ _ _ _ hP h4, L, h5, fun q hq' => hf _ (h6 q hq')⟩
  · exact Or.inr ⟨q, h4, E, ce, L, hx _ _ _ _ hP h5, h6, h7, h8, h9, h10, fun z hz => hf _ (h11 z hz)⟩
/-- what a step may write -/
def stA (ads : List Nat) (n : Nat) : Nat → Prop := fun q => q ∈ ads ∨ n ≤ q
def stP (D : va_G) (cy : Nat → ClassId) (G : List Nat → State → Prop) (ads : List Nat) (H : Heap) (xs : List Value) : Array Value → State → Prop := va_Pc xs (fun U => U.heap = H ∧ va_K D nCl (tysOf cy) U ∧ G ads U)
def stQ (D : va_G) (cy : Nat → ClassId) (Ts : List IT) (ads : List Nat) (H : Heap) (rt : Option Value → Prop) : Array Value → State → Outcome → State → Prop := fun _ st oc t => (∃ r, oc = .returned r ∧ rt r ∧ Lies D nCl cy Ts ads t.heap) ∧ va_F (stA ads H.size) st t
def stT (D : va_G) (cy : Nat → ClassId) (Ts : List IT) (ads : List Nat) (H : Heap) (Es : List String) : String → State → State → Prop := fun E st t => (E ∈ Es ∧ Lies D nCl cy Ts ads t.heap) ∧ va_F (stA ads H.size) st t
theorem stP.blind {D : va_G} {cy : Nat → ClassId} {G : List Nat → State → Prop} (hG : GCl G) {ads : List Nat} {H : Heap} {xs : List Value} : FrameBlind (stP D cy G ads H xs) := fun a U g mk q => by
  obtain ⟨q0, q1, qK, qG⟩ := q
  refine ⟨q0, q1, va_K.moved (u := U) (U := U.calling g mk a) (Vm.Alike.refl U.vm) qK, ?_⟩
  have := hG _ [] U (U.calling g mk a) (State.WarmedH.refl U) (Nat.le_refl _) (fun _ _ _ => rfl) (fun _ h => by cases h) qG
  rwa [List.append_nil] at this
def rtI (r : Option Value) : Prop := ∃ n : Int32, r = some (.int n)
def rtL (r : Option Value) : Prop := ∃ n : Int64, r = some (.long n)
def rtV (r : Option Value) : Prop := r = none
/-- one contract as a step -/
theorem stp_one {l : Launch} {G : List Nat → State → Prop} {mi : MI} {K : CK} {T : IT} {Ts : List IT} {D : va_G} {cy : Nat → ClassId} {ads : List Nat} {ws : va_W} {H : Heap} {xs : List Value} {b : Bnd} {as : List SV} {cs : List Cert} {u : List Int} {rt : Option Value → Prop} (hV : Valid l TB nCl G mi K) (hI : Inv cy T ads ws) (hP : va_P D nCl ws H) (hD : va_D (fun _ => True) ws)
    (hpre : preB T b as K cs = true) (hu : SB u b) (hxs : ∀ mu : List Int, mu.length = T.1.length → FS ads (mu ++ u) as xs) (hlen : K.2.2.2.2.2.length = T.2.2.length) (hrt : ∀ (ads : List Nat) (v : List Int) (r : Option Value), RS ads v K.2.2.2.2.1 r → rt r)
    (hpost : ∀ (mu w : List Int) (ws' : va_W), SX mu (K.2.1.1, K.2.1.2.1) → SX (mu ++ w) (K.2.1.1 ++ K.2.2.1, K.2.2.2.1) → HS cy ads (mu ++ w) ws K.2.2.2.2.2 ws' → ∃ T' ∈ Ts, Inv cy T' ads ws') :
    Met l mi.1 (wsM TB mi) (rmK K) (stP D cy G ads H xs) (stQ D cy Ts ads H rt) K.1.2.2.2.1 K.1.2.2.2.2 (stA ads H.size) := by
  obtain ⟨mu, m1, m2, m3⟩ := preB_ok hpre hI hu hxs
  have hads := m3.1
  have hl : ads.length = K.2.2.2.2.2.length := by
    obtain ⟨nu, -, hH⟩ := hI
    rw [hlen, ← hH.1, List.length_map, hH.2.1]
  refine (hV D cy mu ads ws xs H.size m1 m2 m3).imp (fun a U h => ?_) (fun a st o t h hq => ?_) (fun q h => ?_)
  · obtain ⟨h0, h1, h2, h3⟩ := h
    exact ⟨h0, by rw [h1], by rw [h1]; exact hP, h2, hD, by rw [hads]; exact h3⟩
  · obtain ⟨⟨r, hr, w, bs, ws', y1, y2, y3, y4, y5, y6⟩, hF1, hF2⟩ := hq
    have hbs : bs = [] := by
      have e1 := congrArg List.length y3.1
      rw [List.length_map, List.length_append, y3.2.1] at e1
      exact List.length_eq_zero_iff.mp (by omega)
    subst hbs
    rw [List.append_nil] at y3
    obtain ⟨T', hT', hI'⟩ := hpost mu w ws' m1 y1 y3
    refine ⟨⟨r, hr, hrt _ _ r y2, T', hT', ws', hI', y4, y5.weaken fun _ _ _ _ => trivial⟩, hF1, fun q h1 h2 => hF2 q h1 fun z => h2 ?_⟩
    have := va_A.of.mp z
    rwa [hads] at this
  · have := va_A.of.mp h
    rwa [hads] at this
/-- one contract of a method that may throw, as a step -/
theorem stpX_one {l : Launch} {G : List Nat → State → Prop} {mi : MI} {K : CK} {X : List (TX × Tm)} {T : IT} {Ts : List IT} {D : va_G} {cy : Nat → ClassId} {ads : List Nat} {ws : va_W} {H : Heap} {xs : List Value} {b : Bnd} {as : List SV} {cs : List Cert} {u : List Int} {rt : Option Value → Prop} {Es : List String} (hV : ValidX l TB nCl G mi K X) (hI : Inv cy T ads ws) (hP : va_P D nCl ws H) (hD : va_D (fun _ => True) ws)
    (hpre : preB T b as K cs = true) (hu : SB u b) (hxs : ∀ mu : List Int, mu.length = T.1.length → FS ads (mu ++ u) as xs) (hlen : K.2.2.2.2.2.length = T.2.2.length) (hrt : ∀ (ads : List Nat) (v : List Int) (r : Option Value), RS ads v K.2.2.2.2.1 r → rt r)
    (hpost : ∀ (mu w : List Int) (ws' : va_W), SX mu (K.2.1.1, K.2.1.2.1) → SX (mu ++ w) (K.2.1.1 ++ K.2.2.1, K.2.2.2.1) → HS cy ads (mu ++ w) ws K.2.2.2.2.2 ws' → ∃ T' ∈ Ts, Inv cy T' ads ws')
    (hthr : ∀ x ∈ X, x.1.2.1 ∈ Es ∧ x.2.2.2.2.2.length = T.2.2.length ∧ ∀ (v : List Int) (ws' : va_W), SX v (x.2.1, x.2.2.1) → HS cy ads v ws x.2.2.2.2.2 ws' → ∃ T' ∈ Ts, Inv cy T' ads ws') :
    vx_Met l mi.1 (wsM TB mi) (rmK K) (stP D cy G ads H xs) (stQ D cy Ts ads H rt) (stT D cy Ts ads H Es) K.1.2.2.2.1 K.1.2.2.2.2 (stA ads H.size) := by
  obtain ⟨mu, m1, m2, m3⟩ := preB_ok hpre hI hu hxs
  have hads := m3.1
  have hl0 : ads.length = T.2.2.length := by
    obtain ⟨nu, -, hH⟩ := hI
    rw [← hH.1, List.length_map, hH.2.1]
  refine (hV D cy mu ads ws xs H.size m1 m2 m3).imp (fun a U h => ?_) (fun a st o t h hq => ?_) (fun a E st t h hx => ?_) (fun q h => ?_)
  · obtain ⟨h0, h1, h2, h3⟩ := h
    exact ⟨h0, by rw [h1], by rw [h1]; exact hP, h2, hD, by rw [hads]; exact h3⟩
  · obtain ⟨⟨r, hr, w, bs, ws', y1, y2, y3, y4, y5, y6⟩, hF1, hF2⟩ := hq
    have hbs : bs = [] := by
      have e1 := congrArg List.length y3.1
      rw [List.length_map, List.length_append, y3.2.1] at e1
      exact List.length_eq_zero_iff.mp (by omega)
    subst hbs
    rw [List.append_nil] at y3
    obtain ⟨T', hT', hI'⟩ := hpost mu w ws' m1 y1 y3
    refine ⟨⟨r, hr, hrt _ _ r y2, T', hT', ws', hI', y4, y5.weaken fun _ _ _ _ => trivial⟩, hF1, fun q h1 h2 => hF2 q h1 fun z => h2 ?_⟩
    have := va_A.of.mp z
    rwa [hads] at this
  · obtain ⟨⟨x, hxm, hE, w, bs, ws', y1, y3, y4, y5, y6⟩, hF1, hF2⟩ := hx
    obtain ⟨e1, e2, e3⟩ := hthr x hxm
    have hbs : bs = [] := by
      have e1 := congrArg List.length y3.1
      rw [List.length_map, List.length_append, y3.2.1] at e1
      exact List.length_eq_zero_iff.mp (by omega)
    subst hbs
    rw [List.append_nil] at y3
    obtain ⟨T', hT', hI'⟩ := e3 _ ws' y1 y3
    refine ⟨⟨by rw [hE]; exact e1, T', hT', ws', hI', y4, y5.weaken fun _ _ _ _ => trivial⟩, hF1, fun q h1 h2 => hF2 q h1 fun z => h2 ?_⟩
    have := va_A.of.mp z
    rwa [hads] at this
  · have := va_A.of.mp h
    rwa [hads] at this
/-- arguments of a call: an object and ints -/
theorem argsI {ads : List Nat} {a : Nat} (ha : ads[0]? = some a) : ∀ (ns : List Int32) (n : Nat) (mu : List Int), mu.length = n → FS ads (mu ++ ns.map fun x => x.toInt) (vRef 0 :: (List.range ns.length).map fun j => vInt (eV (n + j))) (.ref a :: ns.map fun x => .int x) := fun ns n mu hn => by
  refine ⟨⟨a, ha, rfl⟩, ?_⟩
  have key : ∀ (r : List Int32) (k : Nat) (v : List Int), (∀ j : Nat, j < r.length → v[n + k + j]? = some (r.getD j 0).toInt) → FS ads v ((List.range r.length).map fun j => vInt (eV (n + k + j))) (r.map fun x => .int x) := fun r => by
    induction r with
    | nil => intro k v _; exact trivial
    | cons x r ih =>
      intro k v hv
      rw [List.length_cons, List.range_succ_eq_map, List.map_cons, List.map_cons, List.map_map]
      refine ⟨⟨x, rfl, EV.atom ?_⟩, ?_⟩
      · exact hv 0 (by simp)
      · have h2 := ih (k + 1) v (fun j hj => by
          have := hv (j + 1) (by simp; omega)
          rw [show n + (k + 1) + j = n + k + (j + 1) by omega]
          simpa using this)
        have e : ((fun j => vInt (eV (n + k + j))) ∘ Nat.succ) = fun j => vInt (eV (n + (k + 1) + j)) := by
          funext j
          show vInt (eV (n + k + (j + 1))) = vInt (eV (n + (k + 1) + j))
          rw [show n + k + (j + 1) = n + (k + 1) + j by omega]
        rw [e]
        exact h2
  have := key ns 0 (mu ++ ns.map fun x => x.toInt) (fun j hj => by
    rw [Nat.add_zero, List.getElem?_append_right (by omega), show n + j - mu.length = j by omega, List.getElem?_map, List.getElem?_eq_getElem hj]
    simp [List.getD_eq_getElem?_getD, List.getElem?_eq_getElem hj])
  simpa using this
