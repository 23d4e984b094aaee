/-! templates -/
abbrev Tm : Type := Bnd × List LE × SL × List SV × SH
theorem ivt_ev {v : List Int} {b : Bnd} (hb : SB v b) : ∀ {r : List (Int × Nat)} {q : Int × Int}, ivt b r = some q → ∃ x, evl v r = some x
  | [], q, _ => ⟨0, rfl⟩
  | (k, i) :: r, q, h => by
    unfold ivt at h
    split at h
    next lo hi p' q' h1 h2 =>
      obtain ⟨x, x1, -⟩ := hb.2 i lo hi h1
      obtain ⟨y, y1⟩ := ivt_ev hb h2
      exact ⟨_, evl_mk x1 y1⟩
    next => cases h
theorem ivl_ev {v : List Int} {b : Bnd} (hb : SB v b) {e : LE} {q : Int × Int} (h : ivl b e = some q) : ∃ x, EV v e x := by
  unfold ivl at h
  split at h
  next p' q' h2 =>
    obtain ⟨x, hx⟩ := ivt_ev hb h2
    exact ⟨_, x, hx, rfl⟩
  next => cases h
def sub0 (np nn : Nat) : Sub := (List.range np).map (fun i => some (eV i)) ++ List.replicate nn none
/-- an atom that stands for nothing yet stands for dv -/
def alls (dv : LE) : Sub → List LE
  | [] => []
  | some e :: r => e :: alls dv r
  | none :: r => dv :: alls dv r
theorem alls_ok {v : List Int} {dv : LE} {xd : Int} (hdv : EV v dv xd) : ∀ {sb : Sub}, Wf v sb → ∃ mu : List Int, mu.length = (alls dv sb).length ∧ AgS (alls dv sb) v mu ∧ Ag sb v mu
  | [], _ => ⟨[], rfl, fun i e hi => by simp [alls] at hi, fun i e hi => by simp at hi⟩
  | some e :: r, hw => by
      unfold alls
      obtain ⟨x, hx⟩ := hw 0 e rfl
      obtain ⟨mu, h1, h2, h3⟩ := alls_ok hdv (sb := r) (fun i f hi => hw (i + 1) f (by rw [List.getElem?_cons_succ]; exact hi))
      refine ⟨x :: mu, by simp [h1], fun i f hi => ?_, fun i f hi => ?_⟩
      · cases i with
        | zero => rw [List.getElem?_cons_zero] at hi; cases hi; exact ⟨x, rfl, hx⟩
        | succ i => rw [List.getElem?_cons_succ] at hi ⊢; exact h2 i f hi
      · cases i with
        | zero => rw [List.getElem?_cons_zero] at hi; cases hi; exact ⟨x, rfl, hx⟩
        | succ i => rw [List.getElem?_cons_succ] at hi ⊢; exact h3 i f hi
  | none :: r, hw => by
      unfold alls
      obtain ⟨mu, h1, h2, h3⟩ := alls_ok hdv (sb := r) (fun i f hi => hw (i + 1) f (by rw [List.getElem?_cons_succ]; exact hi))
      refine ⟨xd :: mu, by simp [h1], fun i f hi => ?_, fun i f hi => ?_⟩
      · cases i with
        | zero => rw [List.getElem?_cons_zero] at hi; cases hi; exact ⟨xd, rfl, hdv⟩
        | succ i => rw [List.getElem?_cons_succ] at hi ⊢; exact h2 i f hi
      · cases i with
        | zero => rw [List.getElem?_cons_zero] at hi; cases hi
        | succ i => rw [List.getElem?_cons_succ] at hi ⊢; exact h3 i f hi
def ckB (g : Ctx) : List Cert → List LE → Bnd → Option (List Cert)
  | cs, [], [] => some cs
  | cs, e :: l, (lo, hi) :: b => match nn g cs (ePlus e (-lo)) with
    | some c1 => match nn g c1 (eSub (eC hi) e) with
      | some c2 => ckB g c2 l b
      | none => none
    | none => none
  | _, _, _ => none
theorem ckB_ok {v : List Int} {g : Ctx} (hx : SX v g) : ∀ {sg : List LE} {b : Bnd} {cs cs' : List Cert} {mu : List Int}, ckB g cs sg b = some cs' → AgS sg v mu → mu.length = sg.length → SB mu b
  | [], [], cs, cs', mu, h, _, hl => ⟨hl, fun i lo hi hi' => by simp at hi'⟩
  | e :: l, (lo, hi) :: b, cs, cs', mu, h, ha, hl => by
    unfold ckB at h
    split at h
    next c1 h1 =>
      split at h
      next c2 h2 =>
        cases mu with
        | nil => simp at hl
        | cons x mu =>
          obtain ⟨y, a1, a2⟩ := ha 0 e rfl
          cases a1
          have b1 := nn_ok hx h1 (EV.plus a2)
          have b2 := nn_ok hx h2 ((EV.const v hi).sub a2)
          obtain ⟨i1, i2⟩ := ckB_ok hx h (mu := mu) (fun i f hi => by
            obtain ⟨z, z1, z2⟩ := ha (i + 1) f (by rw [List.getElem?_cons_succ]; exact hi)
            rw [List.getElem?_cons_succ] at z1
            exact ⟨z, z1, z2⟩) (by simpa using hl)
          refine ⟨by simp [i1], fun i lo' hi' hi2 => ?_⟩
          cases i with
          | zero =>
            rw [List.getElem?_cons_zero] at hi2
            cases hi2
            exact ⟨x, rfl, by omega, by omega⟩
          | succ i =>
            rw [List.getElem?_cons_succ] at hi2 ⊢
            exact i2 i lo' hi' hi2
      next => cases h
    next => cases h
  | [], _ :: _, cs, cs', mu, h, _, _ => by unfold ckB at h; cases h
  | _ :: _, [], cs, cs', mu, h, _, _ => by unfold ckB at h; cases h
def ckC (g : Ctx) (sg : List LE) : List Cert → List LE → Option (List Cert)
  | cs, [] => some cs
  | cs, e :: l => match sbE sg e with
    | some f => match nn g cs f with
      | some c1 => ckC g sg c1 l
      | none => none
    | none => none
theorem ckC_ok {v : List Int} {g : Ctx} (hx : SX v g) {sg : List LE} {mu : List Int} (ha : AgS sg v mu) : ∀ {l : List LE} {cs cs' : List Cert}, ckC g sg cs l = some cs' → SC mu l
  | [], cs, cs', h => fun _ h => by cases h
  | e :: l, cs, cs', h => by
    unfold ckC at h
    split at h
    next f hf =>
      split at h
      next c1 h1 =>
        obtain ⟨x, a1, a2⟩ := sbE_ok ha hf
        have b1 := nn_ok hx h1 a2
        intro e' he'
        rcases List.mem_cons.mp he' with rfl | he'
        · exact ⟨x, a1, b1⟩
        · exact ckC_ok hx ha h e' he'
      next => cases h
    next => cases h
def mtT (strict : Bool) (np : Nat) (dv : LE) (g : Ctx) (cs : List Cert) (sl : SL) (st : List SV) (sh : SH) (T : Tm) : Option (List LE × List Cert) :=
  match mtL (sub0 np (T.1.length - np)) sl T.2.2.1 with
  | some s1 => match mtF s1 T.2.2.2.1 st with
    | some s2 => match mtH strict s2 T.2.2.2.2 sh with
      | some s3 => match ivl g.1 dv with
        | some _ => match ckB g cs (alls dv s3) T.1 with
          | some c1 => match ckC g (alls dv s3) c1 T.2.1 with
            | some c2 => some (alls dv s3, c2)
            | none => none
          | none => none
        | none => none
      | none => none
    | none => none
  | none => none
theorem sub0_get {np n i : Nat} (h : i < np) : (sub0 np n)[i]? = some (some (eV i)) := by
  unfold sub0
  rw [List.getElem?_append_left (by simpa using h), List.getElem?_map, List.getElem?_range h]
  rfl
theorem sub0_wf {v : List Int} {np n : Nat} (h : np ≤ v.length) : Wf v (sub0 np n) := fun i e hi => by
  by_cases hl : i < np
  · rw [sub0_get hl] at hi
    cases hi
    exact ⟨v[i]'(by omega), EV.atom (List.getElem?_eq_getElem _)⟩
  · unfold sub0 at hi
    rw [List.getElem?_append_right (by simpa using hl)] at hi
    rw [List.getElem?_replicate] at hi
    split at hi <;> cases hi
theorem mtT_ok {strict : Bool} {np : Nat} {dv : LE} {g : Ctx} {cs cs' : List Cert} {sl : SL} {st : List SV} {sh : SH} {T : Tm} {sg : List LE} {v : List Int} {ads : List Nat} {ls : Array Slot} {nL : Nat} {stk : List Value} {cy : Nat → ClassId} {w0 ws : va_W}
    (hx : SX v g) (hL : LSat ads v ls nL sl) (hS : FS ads v st stk) (hH : HS cy ads v w0 sh ws) (hnp : np ≤ v.length) (h : mtT strict np dv g cs sl st sh T = some (sg, cs')) :
    ∃ mu, AgS sg v mu ∧ mu.length = sg.length ∧ SX mu (T.1, T.2.1) ∧ LSat ads mu ls nL T.2.2.1 ∧ FS ads mu T.2.2.2.1 stk ∧ HS cy ads mu (if strict = true then w0 else ws) T.2.2.2.2 ws ∧ ∀ i, i < np → mu[i]? = v[i]? := by
  unfold mtT at h
  split at h
  next s1 h1 =>
    split at h
    next s2 h2 =>
      split at h
      next s3 h3 =>
        split at h
        next q4 h4 =>
          split at h
          next c1 h5 =>
            split at h
            next c2 h6 =>
              cases h
              obtain ⟨e1, f1⟩ := mtL_ok h1
              obtain ⟨e2, f2⟩ := mtF_ok h2
              obtain ⟨e3, len3, f3⟩ := mtH_ok h3
              obtain ⟨w1, g1⟩ := f1 ads v ls nL hL
              obtain ⟨w2, g2⟩ := f2 ads v stk hS
              obtain ⟨w3, g3⟩ := f3 cy ads v w0 ws 0 (fun k o hk => by rw [Nat.zero_add]; exact hH.2.2 k o hk)
              obtain ⟨xd, hxd⟩ := ivl_ev hx.1 h4
              obtain ⟨mu, m1, m2, m3⟩ := alls_ok hxd (w3 (w2 (w1 (sub0_wf hnp))))
              refine ⟨mu, m2, m1, ⟨ckB_ok hx h5 m2 m1, ckC_ok hx m2 h6⟩, g1 mu (Ag.of (e2.tr e3) m3), g2 mu (Ag.of e3 m3), ⟨hH.1, by rw [len3]; exact hH.2.1, fun k o hk => ?_⟩, fun i hi => ?_⟩
              · have := g3 mu m3 k o hk
                rwa [Nat.zero_add] at this
              · obtain ⟨x, x1, x2⟩ := m3 i (eV i) ((e1.tr (e2.tr e3)).2 i _ (sub0_get hi))
                have hv : v[i]? = some (v[i]'(by omega)) := List.getElem?_eq_getElem _
                rw [x1, hv, x2.uniq (EV.atom hv)]
            next => cases h
          next => cases h
        next => cases h
      next => cases h
    next => cases h
  next => cases h
theorem take_eq {mu mu0 : List Int} (h : ∀ i, i < mu0.length → mu[i]? = mu0[i]?) (hl : mu0.length ≤ mu.length) : mu = mu0 ++ mu.drop mu0.length := by
  have : mu.take mu0.length = mu0 := by
    apply List.ext_getElem?
    intro i
    by_cases hi : i < mu0.length
    · rw [List.getElem?_take_of_lt hi]; exact h i hi
    · rw [List.getElem?_eq_none (by simp; omega), List.getElem?_eq_none (by omega)]
  exact (List.take_append_drop mu0.length mu).symm.trans (by rw [this])
theorem nn_ev {v : List Int} {g : Ctx} (hg : SX v g) {cs cs' : List Cert} {e : LE} (h : nn g cs e = some cs') : ∃ x, EV v e x ∧ 0 ≤ x := by
  have : ∃ x, EV v e x := by
    unfold nn at h
    split at h
    next p q h1 =>
      unfold ivl at h1
      split at h1
      next p' q' h2 =>
        obtain ⟨x, hx⟩ := ivt_ev hg.1 h2
        exact ⟨_, x, hx, rfl⟩
      next => cases h1
    next => cases h
  obtain ⟨x, hx⟩ := this
  exact ⟨x, hx, nn_ok hg h hx⟩
/-! behind a call -/
def frs (n : Nat) : Nat → List LE
  | 0 => []
  | k + 1 => eV n :: frs (n + 1) k
theorem frs_get : ∀ {k n i : Nat} {e : LE}, (frs n k)[i]? = some e → e = eV (n + i) ∧ i < k
  | 0, n, i, e, h => by simp [frs] at h
  | k + 1, n, i, e, h => by
    unfold frs at h
    cases i with
    | zero => rw [List.getElem?_cons_zero] at h; cases h; exact ⟨rfl, by omega⟩
    | succ i =>
      rw [List.getElem?_cons_succ] at h
      obtain ⟨h1, h2⟩ := frs_get h
      exact ⟨by rw [h1]; congr 1; omega, by omega⟩
def sbCs (sg : List LE) : List LE → Option (List LE)
  | [] => some []
  | e :: l => match sbE sg e, sbCs sg l with
    | some f, some r => some (f :: r)
    | _, _ => none
theorem sbCs_ok {sg : List LE} {v mu : List Int} (ha : AgS sg v mu) : ∀ {l r : List LE}, sbCs sg l = some r → SC mu l → SC v r
  | [], r, h, _ => by unfold sbCs at h; cases h; exact fun _ h => by cases h
  | e :: l, r, h, hs => by
    unfold sbCs at h
    split at h
    next f r' h1 h2 =>
      cases h
      intro e' he'
      rcases List.mem_cons.mp he' with rfl | he'
      · obtain ⟨x, a1, a2⟩ := sbE_ok ha h1
        obtain ⟨y, b1, b2⟩ := hs e List.mem_cons_self
        exact ⟨x, a2, by rw [a1.uniq b1]; exact b2⟩
      · exact sbCs_ok ha h2 (fun e0 h0 => hs e0 (List.mem_cons_of_mem _ h0)) e' he'
    next => cases h
def sbH (sg : List LE) : SH → SH → Option SH
  | [], [] => some []
  | none :: l, o :: r => match sbH sg l r with
    | some q => some (o :: q)
    | none => none
  | some t :: l, _ :: r => match sbC sg t, sbH sg l r with
    | some a, some q => some (some a :: q)
    | _, _ => none
  | some t :: l, [] => match sbC sg t, sbH sg l [] with
    | some a, some q => some (some a :: q)
    | _, _ => none
  | _, _ => none
theorem sbH_ok {sg : List LE} {v v' mu : List Int} (ha : AgS sg v' mu) {cy : Nat → ClassId} {ads bs : List Nat} {w0 ws ws' : va_W} (hv : ∃ w, v' = v ++ w) : ∀ {l r q : SH} {off : Nat}, sbH sg l r = some q → (∀ (k : Nat) (o : Option SE), r[k]? = some o → OS cy ads v w0 ws (off + k) o) → (∀ (k : Nat) (o : Option SE), l[k]? = some o → OS cy (ads ++ bs) mu ws ws' (off + k) o) →
    q.length = l.length ∧ ∀ (k : Nat) (o : Option SE), q[k]? = some o → OS cy (ads ++ bs) v' w0 ws' (off + k) o
  | [], [], q, off, h, _, _ => by unfold sbH at h; cases h; exact ⟨rfl, fun k o hk => by simp at hk⟩
  | none :: l, o0 :: r, q, off, h, hr, hl => by
    unfold sbH at h
    split at h
    next q' h1 =>
      cases h
      obtain ⟨i1, i2⟩ := sbH_ok ha hv (off := off + 1) h1 (fun k o hk => by
        have := hr (k + 1) o (by rw [List.getElem?_cons_succ]; exact hk)
        rwa [Nat.add_assoc, Nat.add_comm 1 k]) (fun k o hk => by
        have := hl (k + 1) o (by rw [List.getElem?_cons_succ]; exact hk)
        rwa [Nat.add_assoc, Nat.add_comm 1 k])
      refine ⟨by simp [i1], fun k o hk => ?_⟩
      cases k with
      | zero =>
        rw [List.getElem?_cons_zero] at hk
        cases hk
        have e1 : ws'[off + 0]? = ws[off + 0]? := hl 0 none rfl
        have e2 := hr 0 o0 rfl
        obtain ⟨w, rfl⟩ := hv
        match o0, e2 with
        | none, e2 => exact e1.trans e2
        | some se, e2 =>
          obtain ⟨z, z1, z2⟩ := e2
          exact ⟨z, e1.trans z1, z2.mono⟩
      | succ k =>
        rw [List.getElem?_cons_succ] at hk
        have := i2 k o hk
        rwa [Nat.add_assoc, Nat.add_comm 1 k] at this
    next => cases h
  | some t :: l, o0 :: r, q, off, h, hr, hl => by
    unfold sbH at h
    split at h
    next a q' h0 h1 =>
      cases h
      obtain ⟨i1, i2⟩ := sbH_ok ha hv (off := off + 1) h1 (fun k o hk => by
        have := hr (k + 1) o (by rw [List.getElem?_cons_succ]; exact hk)
        rwa [Nat.add_assoc, Nat.add_comm 1 k]) (fun k o hk => by
        have := hl (k + 1) o (by rw [List.getElem?_cons_succ]; exact hk)
        rwa [Nat.add_assoc, Nat.add_comm 1 k])
      refine ⟨by simp [i1], fun k o hk => ?_⟩
      cases k with
      | zero =>
        rw [List.getElem?_cons_zero] at hk
        cases hk
        obtain ⟨z, z1, z2⟩ := hl 0 (some t) rfl
        exact ⟨z, z1, sbC_ok ha h0 z2⟩
      | succ k =>
        rw [List.getElem?_cons_succ] at hk
        have := i2 k o hk
        rwa [Nat.add_assoc, Nat.add_comm 1 k] at this
    next => cases h
  | some t :: l, [], q, off, h, hr, hl => by
    unfold sbH at h
    split at h
    next a q' h0 h1 =>
      cases h
      obtain ⟨i1, i2⟩ := sbH_ok ha hv (off := off + 1) h1 (fun k o hk => by simp at hk) (fun k o hk => by
        have := hl (k + 1) o (by rw [List.getElem?_cons_succ]; exact hk)
        rwa [Nat.add_assoc, Nat.add_comm 1 k])
      refine ⟨by simp [i1], fun k o hk => ?_⟩
      cases k with
      | zero =>
        rw [List.getElem?_cons_zero] at hk
        cases hk
        obtain ⟨z, z1, z2⟩ := hl 0 (some t) rfl
        exact ⟨z, z1, sbC_ok ha h0 z2⟩
      | succ k =>
        rw [List.getElem?_cons_succ] at hk
        have := i2 k o hk
        rwa [Nat.add_assoc, Nat.add_comm 1 k] at this
    next => cases h
  | [], _ :: _, q, off, h, _, _ => by unfold sbH at h; cases h
  | none :: _, [], q, off, h, _, _ => by unfold sbH at h; cases h
