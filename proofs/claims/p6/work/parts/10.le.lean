/-! linear expressions over atoms: a constant and a list of (coefficient, atom); a valuation is a list of integers -/
abbrev LE : Type := Int × List (Int × Nat)
def evl (v : List Int) : List (Int × Nat) → Option Int
  | [] => some 0
  | (k, i) :: r => match v[i]?, evl v r with
    | some x, some y => some (k * x + y)
    | _, _ => none
def EV (v : List Int) (e : LE) (x : Int) : Prop := ∃ y, evl v e.2 = some y ∧ x = e.1 + y
theorem evl_cons {v : List Int} {k : Int} {i : Nat} {r : List (Int × Nat)} {z : Int} (h : evl v ((k, i) :: r) = some z) : ∃ x y, v[i]? = some x ∧ evl v r = some y ∧ z = k * x + y := by
  unfold evl at h
  split at h
  next x y h1 h2 => exact ⟨x, y, h1, h2, (Option.some.inj h).symm⟩
  next => cases h
theorem evl_mk {v : List Int} {k : Int} {i : Nat} {r : List (Int × Nat)} {x y : Int} (h1 : v[i]? = some x) (h2 : evl v r = some y) : evl v ((k, i) :: r) = some (k * x + y) := by
  unfold evl
  rw [h1, h2]
theorem evl_mono {v w : List Int} : ∀ {r : List (Int × Nat)} {x : Int}, evl v r = some x → evl (v ++ w) r = some x
  | [], x, h => h
  | (k, i) :: r, x, h => by
    obtain ⟨a, b, h1, h2, rfl⟩ := evl_cons h
    exact evl_mk (by rw [List.getElem?_append_left (List.getElem?_eq_some_iff.mp h1).1]; exact h1) (evl_mono h2)
theorem EV.mono {v w : List Int} {e : LE} {x : Int} (h : EV v e x) : EV (v ++ w) e x := by
  obtain ⟨y, h1, h2⟩ := h
  exact ⟨y, evl_mono h1, h2⟩
theorem EV.uniq {v : List Int} {e : LE} {x y : Int} (h : EV v e x) (g : EV v e y) : x = y := by
  obtain ⟨a, h1, h2⟩ := h
  obtain ⟨b, g1, g2⟩ := g
  rw [h1] at g1
  cases g1
  omega
/-- one term put into a sorted list of terms -/
def lins (k : Int) (i : Nat) : List (Int × Nat) → List (Int × Nat)
  | [] => if k = 0 then [] else [(k, i)]
  | (k', j) :: r => if i = j then (if k + k' = 0 then r else (k + k', j) :: r) else if i < j then (if k = 0 then (k', j) :: r else (k, i) :: (k', j) :: r) else (k', j) :: lins k i r
theorem lins_ev {v : List Int} {k : Int} {i : Nat} {x : Int} (hx : v[i]? = some x) : ∀ {r : List (Int × Nat)} {y : Int}, evl v r = some y → evl v (lins k i r) = some (k * x + y)
  | [], y, h => by
    unfold lins
    split
    next h0 => subst h0; simp [evl] at h ⊢; omega
    next => exact evl_mk hx h
  | (k', j) :: r, y, h => by
    unfold lins
    split
    next hij =>
      subst hij
      obtain ⟨a, b, h1, h2, rfl⟩ := evl_cons h
      rw [hx] at h1
      cases h1
      split
      next h0 =>
        rw [h2]
        have : k = -k' := by omega
        subst this
        congr 1
        rw [Int.neg_mul]
        omega
      next => rw [evl_mk hx h2, Int.add_mul, Int.add_assoc]
    next =>
      split
      next =>
        split
        next h0 => subst h0; rw [h]; congr 1; omega
        next => exact evl_mk hx h
      next =>
        obtain ⟨a, b, h1, h2, rfl⟩ := evl_cons h
        rw [evl_mk h1 (lins_ev hx h2)]
        congr 1
        omega
/-- k times a, onto b -/
def laddm (k : Int) : List (Int × Nat) → List (Int × Nat) → List (Int × Nat)
  | [], b => b
  | (c, i) :: a, b => lins (k * c) i (laddm k a b)
theorem laddm_ev {v : List Int} {k : Int} : ∀ {a b : List (Int × Nat)} {x y : Int}, evl v a = some x → evl v b = some y → evl v (laddm k a b) = some (k * x + y)
  | [], b, x, y, h, g => by
    simp [evl] at h
    subst h
    unfold laddm
    rw [g]
    congr 1
    omega
  | (c, i) :: a, b, x, y, h, g => by
    obtain ⟨p, q, h1, h2, rfl⟩ := evl_cons h
    unfold laddm
    rw [lins_ev h1 (laddm_ev h2 g), Int.mul_add, Int.mul_assoc, Int.add_assoc]
def eAddm (k : Int) (a b : LE) : LE := (k * a.1 + b.1, laddm k a.2 b.2)
theorem EV.addm {v : List Int} {k : Int} {a b : LE} {x y : Int} (h : EV v a x) (g : EV v b y) : EV v (eAddm k a b) (k * x + y) := by
  obtain ⟨p, h1, rfl⟩ := h
  obtain ⟨q, g1, rfl⟩ := g
  refine ⟨k * p + q, laddm_ev h1 g1, ?_⟩
  show k * (a.1 + p) + (b.1 + q) = (k * a.1 + b.1) + (k * p + q)
  rw [Int.mul_add]
  omega
def eC (n : Int) : LE := (n, [])
def eV (i : Nat) : LE := (0, [(1, i)])
def eAdd (a b : LE) : LE := eAddm 1 a b
def eSub (a b : LE) : LE := eAddm (-1) b a
def eSc (k : Int) (a : LE) : LE := eAddm k a (eC 0)
def ePlus (a : LE) (n : Int) : LE := (a.1 + n, a.2)
theorem EV.const (v : List Int) (n : Int) : EV v (eC n) n := ⟨0, rfl, by simp [eC]⟩
theorem EV.atom {v : List Int} {i : Nat} {x : Int} (h : v[i]? = some x) : EV v (eV i) x := ⟨1 * x + 0, evl_mk h rfl, by simp [eV]⟩
theorem EV.add {v : List Int} {a b : LE} {x y : Int} (h : EV v a x) (g : EV v b y) : EV v (eAdd a b) (x + y) := by
  have := EV.addm (k := 1) h g
  rwa [Int.one_mul] at this
theorem EV.sub {v : List Int} {a b : LE} {x y : Int} (h : EV v a x) (g : EV v b y) : EV v (eSub a b) (x - y) := by
  have := EV.addm (k := -1) g h
  rwa [show (-1) * y + x = x - y by omega] at this
theorem EV.sc {v : List Int} {k : Int} {a : LE} {x : Int} (h : EV v a x) : EV v (eSc k a) (k * x) := by
  have := EV.addm (k := k) h (EV.const v 0)
  rwa [Int.add_zero] at this
theorem EV.plus {v : List Int} {a : LE} {x n : Int} (h : EV v a x) : EV v (ePlus a n) (x + n) := by
  obtain ⟨y, h1, rfl⟩ := h
  exact ⟨y, h1, by show a.1 + y + n = a.1 + n + y; omega⟩
theorem EV.const_inv {v : List Int} {e : LE} {x n : Int} (h : EV v e x) (he : e = (n, [])) : x = n := by
  obtain ⟨y, h1, rfl⟩ := h
  subst he
  simp [evl] at h1
  subst h1
  simp
/-! what is known of the atoms: bounds, and expressions that are not negative -/
abbrev Bnd : Type := List (Int × Int)
abbrev Ctx : Type := Bnd × List LE
def SB (v : List Int) (b : Bnd) : Prop := v.length = b.length ∧ ∀ (i : Nat) (lo hi : Int), b[i]? = some (lo, hi) → ∃ x, v[i]? = some x ∧ lo ≤ x ∧ x ≤ hi
def SC (v : List Int) (cs : List LE) : Prop := ∀ e ∈ cs, ∃ x, EV v e x ∧ 0 ≤ x
def SX (v : List Int) (g : Ctx) : Prop := SB v g.1 ∧ SC v g.2
theorem SC.mono {v w : List Int} {cs : List LE} (h : SC v cs) : SC (v ++ w) cs := fun e he => by
  obtain ⟨x, h1, h2⟩ := h e he
  exact ⟨x, h1.mono, h2⟩
theorem SC.app {v : List Int} {cs ds : List LE} (h : SC v cs) (g : SC v ds) : SC v (cs ++ ds) := fun e he => by
  rcases List.mem_append.mp he with h1 | h1
  · exact h e h1
  · exact g e h1
theorem SB.push {v w : List Int} {b c : Bnd} (h : SB v b) (g : w.length = c.length ∧ ∀ (i : Nat) (lo hi : Int), c[i]? = some (lo, hi) → ∃ x, w[i]? = some x ∧ lo ≤ x ∧ x ≤ hi) : SB (v ++ w) (b ++ c) := by
  refine ⟨by simp [h.1, g.1], fun i lo hi hi' => ?_⟩
  by_cases hl : i < b.length
  · rw [List.getElem?_append_left hl] at hi'
    obtain ⟨x, h1, h2⟩ := h.2 i lo hi hi'
    exact ⟨x, by rw [List.getElem?_append_left (by rw [h.1]; exact hl)]; exact h1, h2⟩
  · rw [List.getElem?_append_right (by omega)] at hi'
    obtain ⟨x, h1, h2⟩ := g.2 _ lo hi hi'
    exact ⟨x, by rw [List.getElem?_append_right (by rw [h.1]; omega), h.1]; exact h1, h2⟩
/-- the interval of an expression -/
def ivt (b : Bnd) : List (Int × Nat) → Option (Int × Int)
  | [] => some (0, 0)
  | (k, i) :: r => match b[i]?, ivt b r with
    | some (lo, hi), some (p, q) => if 0 ≤ k then some (k * lo + p, k * hi + q) else some (k * hi + p, k * lo + q)
    | _, _ => none
theorem ivt_ok {v : List Int} {b : Bnd} (hb : SB v b) : ∀ {r : List (Int × Nat)} {p q x : Int}, ivt b r = some (p, q) → evl v r = some x → p ≤ x ∧ x ≤ q
  | [], p, q, x, h, g => by
    simp [ivt] at h
    simp [evl] at g
    omega
  | (k, i) :: r, p, q, x, h, g => by
    obtain ⟨a, c, g1, g2, rfl⟩ := evl_cons g
    unfold ivt at h
    split at h
    next lo hi p' q' h1 h2 =>
      obtain ⟨a', e1, e2, e3⟩ := hb.2 i lo hi h1
      rw [g1] at e1
      cases e1
      obtain ⟨f1, f2⟩ := ivt_ok hb h2 g2
      split at h
      next hk =>
        cases h
        have := Int.mul_le_mul_of_nonneg_left e2 hk
        have := Int.mul_le_mul_of_nonneg_left e3 hk
        omega
      next hk =>
        cases h
        have hk' : k ≤ 0 := by omega
        have := Int.mul_le_mul_of_nonpos_left hk' e2
        have := Int.mul_le_mul_of_nonpos_left hk' e3
        omega
    next => cases h
def ivl (b : Bnd) (e : LE) : Option (Int × Int) := match ivt b e.2 with
  | some (p, q) => some (e.1 + p, e.1 + q)
  | none => none
theorem ivl_ok {v : List Int} {b : Bnd} (hb : SB v b) {e : LE} {p q x : Int} (h : ivl b e = some (p, q)) (g : EV v e x) : p ≤ x ∧ x ≤ q := by
  obtain ⟨y, g1, rfl⟩ := g
  unfold ivl at h
  split at h
  next p' q' h1 =>
    cases h
    have := ivt_ok hb h1 g1
    omega
  next => cases h
/-! certificates: a factor, and for hypotheses (0: lower bound of atom i, 1: its upper bound, 2: constraint i) a multiplier each -/
abbrev Cert : Type := Nat × List (Nat × Nat × Nat)
def hyp (g : Ctx) (t i : Nat) : Option LE := match t with
  | 0 => match g.1[i]? with
    | some (lo, _) => some (-lo, [(1, i)])
    | none => none
  | 1 => match g.1[i]? with
    | some (_, hi) => some (hi, [(-1, i)])
    | none => none
  | _ => g.2[i]?
theorem hyp_ok {v : List Int} {g : Ctx} (hg : SX v g) {t i : Nat} {e : LE} (h : hyp g t i = some e) : ∃ x, EV v e x ∧ 0 ≤ x := by
  unfold hyp at h
  split at h
  · split at h
    next lo hi h1 =>
      cases h
      obtain ⟨x, e1, e2, e3⟩ := hg.1.2 i _ _ h1
      exact ⟨-lo + (1 * x + 0), ⟨_, evl_mk e1 rfl, rfl⟩, by omega⟩
    next => cases h
  · split at h
    next lo hi h1 =>
      cases h
      obtain ⟨x, e1, e2, e3⟩ := hg.1.2 i _ _ h1
      exact ⟨hi + (-1 * x + 0), ⟨_, evl_mk e1 rfl, rfl⟩, by omega⟩
    next => cases h
  · exact hg.2 e (List.mem_of_getElem? h)
/-- what is left of an expression when multiples of hypotheses are taken away -/
def certSub (g : Ctx) : List (Nat × Nat × Nat) → LE → Option LE
  | [], e => some e
  | (t, i, k) :: r, e => match hyp g t i with
    | some h => certSub g r (eAddm (-(k : Int)) h e)
    | none => none
theorem certSub_ok {v : List Int} {g : Ctx} (hg : SX v g) : ∀ {r : List (Nat × Nat × Nat)} {e e' : LE} {x : Int}, certSub g r e = some e' → EV v e x → ∃ x', EV v e' x' ∧ x' ≤ x
  | [], e, e', x, h, hx => by
    unfold certSub at h
    cases h
    exact ⟨x, hx, Int.le_refl x⟩
  | (t, i, k) :: r, e, e', x, h, hx => by
    unfold certSub at h
    split at h
    next hy h1 =>
      obtain ⟨z, e1, e2⟩ := hyp_ok hg h1
      obtain ⟨x', f1, f2⟩ := certSub_ok hg h (EV.addm (k := -(k : Int)) e1 hx)
      refine ⟨x', f1, ?_⟩
      have : 0 ≤ (k : Int) * z := Int.mul_nonneg (Int.natCast_nonneg k) e2
      rw [Int.neg_mul] at f2
      omega
    next => cases h
/-- e is not negative -/
def certOk (g : Ctx) (c : Cert) (e : LE) : Bool := match certSub g c.2 (eSc (c.1 : Int) e) with
  | some (n, []) => decide (0 < c.1) && decide (-(c.1 : Int) < n)
  | _ => false
theorem certOk_ok {v : List Int} {g : Ctx} (hg : SX v g) {c : Cert} {e : LE} {x : Int} (h : certOk g c e = true) (hx : EV v e x) : 0 ≤ x := by
  unfold certOk at h
  split at h
  next n h1 =>
    simp only [Bool.and_eq_true, decide_eq_true_eq] at h
    obtain ⟨x', f1, f2⟩ := certSub_ok hg h1 (EV.sc hx)
    have := f1.const_inv rfl
    subst this
    rcases Int.lt_or_le x 0 with hn | hn
    · exfalso
      have h1 : x ≤ -1 := by omega
      have h2 : (c.1 : Int) * x ≤ (c.1 : Int) * (-1) := Int.mul_le_mul_of_nonneg_left h1 (Int.natCast_nonneg _)
      omega
    · exact hn
  next => cases h
/-- e is not negative: by its interval, else by a certificate of the tape -/
def nn (g : Ctx) (cs : List Cert) (e : LE) : Option (List Cert) := match ivl g.1 e with
  | some (p, _) => if 0 ≤ p then some cs else match cs with
    | c :: r => if certOk g c e = true then some r else none
    | [] => none
  | none => none
theorem nn_ok {v : List Int} {g : Ctx} (hg : SX v g) {cs cs' : List Cert} {e : LE} {x : Int} (h : nn g cs e = some cs') (hx : EV v e x) : 0 ≤ x := by
  unfold nn at h
  split at h
  next p q h1 =>
    have := ivl_ok hg.1 h1 hx
    split at h
    next => omega
    next =>
      split at h
      next c r =>
        split at h
        next hc => exact certOk_ok hg hc hx
        next => cases h
      next => cases h
  next => cases h
