/-! arithmetic on symbolic ints -/
def i32lo : Int := -2147483648
def i32hi : Int := 2147483647
theorem i32_rng (n : Int32) : i32lo ≤ n.toInt ∧ n.toInt ≤ i32hi := by
  have h1 := Int32.le_toInt n
  have h2 := Int32.toInt_lt n
  unfold i32lo i32hi
  omega
theorem VS.monoV {ads : List Nat} {v w : List Int} {sv : SV} {x : Value} (h : VS ads v sv x) : VS ads (v ++ w) sv x := by
  have := h.mono (bs := []) (w := w)
  rwa [List.append_nil] at this
theorem FS.monoV {ads : List Nat} {v w : List Int} {l : List SV} {r : List Value} (h : FS ads v l r) : FS ads (v ++ w) l r := by
  have := h.mono (bs := []) (w := w)
  rwa [List.append_nil] at this
theorem LSat.monoV {ads : List Nat} {v w : List Int} {ls : Array Slot} {nL : Nat} {sl : SL} (h : LSat ads v ls nL sl) : LSat ads (v ++ w) ls nL sl := by
  have := h.mono (bs := []) (w := w)
  rwa [List.append_nil] at this
/-- an int result: the valuation may grow -/
def RI (v : List Int) (r : Ctx × SV) (n : Int32) : Prop := ∃ w, SX (v ++ w) r.1 ∧ ∀ ads, VS ads (v ++ w) r.2 (.int n)
theorem fresh_ok {v : List Int} {g : Ctx} (hx : SX v g) {x lo hi : Int} {cs : List LE} (h1 : lo ≤ x) (h2 : x ≤ hi) (hc : SC (v ++ [x]) cs) : SX (v ++ [x]) (g.1 ++ [(lo, hi)], g.2 ++ cs) := by
  refine ⟨hx.1.push ⟨rfl, fun i lo' hi' h => ?_⟩, hx.2.mono.app hc⟩
  have hz : i < 1 := (List.getElem?_eq_some_iff.mp h).1
  rw [show i = 0 by omega] at h ⊢
  cases h
  exact ⟨x, rfl, h1, h2⟩
theorem atom_new {v : List Int} {g : Ctx} (hx : SX v g) {x : Int} {r : List Int} : EV (v ++ x :: r) (eV g.1.length) x := EV.atom (by rw [← hx.1.1]; simp)
def frI (g : Ctx) (lo hi : Int) : Ctx × SV := ((g.1 ++ [(lo, hi)], g.2), vInt (eV g.1.length))
theorem frI_ok {v : List Int} {g : Ctx} (hx : SX v g) {n : Int32} {lo hi : Int} (h1 : lo ≤ n.toInt) (h2 : n.toInt ≤ hi) : RI v (frI g lo hi) n := by
  refine ⟨[n.toInt], ?_, fun ads => ⟨n, rfl, atom_new hx⟩⟩
  have := fresh_ok hx (cs := []) h1 h2 (fun _ h => by cases h)
  rwa [List.append_nil] at this
def full (g : Ctx) : Ctx × SV := frI g i32lo i32hi
theorem full_ok {v : List Int} {g : Ctx} (hx : SX v g) (n : Int32) : RI v (full g) n := frI_ok hx (i32_rng n).1 (i32_rng n).2
def lin (g : Ctx) (e : LE) : Ctx × SV := match ivl g.1 e with
  | some (p, q) => if i32lo ≤ p ∧ q ≤ i32hi then (g, vInt e) else full g
  | none => full g
theorem lin_ok {v : List Int} {g : Ctx} (hx : SX v g) {e : LE} {z : Int} (he : EV v e z) {n : Int32} (hn : i32lo ≤ z → z ≤ i32hi → n.toInt = z) : RI v (lin g e) n := by
  unfold lin
  split
  next p q h1 =>
    have := ivl_ok hx.1 h1 he
    split
    next h2 =>
      refine ⟨[], by rw [List.append_nil]; exact hx, fun ads => ⟨n, rfl, ?_⟩⟩
      rw [List.append_nil, hn (by omega) (by omega)]
      exact he
    next => exact full_ok hx n
  next => exact full_ok hx n
def ivn (g : Ctx) (e : LE) : Int × Int := match ivl g.1 e with
  | some b => b
  | none => (i32lo, i32hi)
theorem ivn_ok {v : List Int} {g : Ctx} (hx : SX v g) {e : LE} {n : Int32} (he : EV v e n.toInt) : (ivn g e).1 ≤ n.toInt ∧ n.toInt ≤ (ivn g e).2 := by
  unfold ivn
  split
  next b h => exact ivl_ok hx.1 (p := b.1) (q := b.2) h he
  next => exact i32_rng n
def mulI (g : Ctx) (e1 e2 : LE) : Ctx × SV :=
  if 0 ≤ (ivn g e1).1 ∧ 0 ≤ (ivn g e2).1 ∧ (ivn g e1).2 * (ivn g e2).2 ≤ i32hi then frI g ((ivn g e1).1 * (ivn g e2).1) ((ivn g e1).2 * (ivn g e2).2) else full g
def mulS (g : Ctx) (e1 e2 : LE) : Ctx × SV := match e2 with
  | (k, []) => lin g (eSc k e1)
  | _ => match e1 with
    | (k, []) => lin g (eSc k e2)
    | _ => mulI g e1 e2
def andI (g : Ctx) (e1 e2 : LE) : Ctx × SV :=
  if 0 ≤ (ivn g e2).1 then frI g 0 (if 0 ≤ (ivn g e1).1 ∧ (ivn g e1).2 ≤ (ivn g e2).2 then (ivn g e1).2 else (ivn g e2).2)
  else if 0 ≤ (ivn g e1).1 then frI g 0 (ivn g e1).2 else full g
def pow2 (a b : Int) : Option Nat := (List.range 32).find? (fun k => decide (a < 2 ^ k) && decide (b < 2 ^ k))
def orI (g : Ctx) (e1 e2 : LE) : Ctx × SV :=
  if 0 ≤ (ivn g e1).1 ∧ 0 ≤ (ivn g e2).1 then match pow2 (ivn g e1).2 (ivn g e2).2 with
    | some k => frI g 0 (2 ^ k - 1)
    | none => full g
  else full g
def shlI (g : Ctx) (e1 e2 : LE) : Ctx × SV := match e2 with
  | (k, []) => if 0 ≤ k ∧ k < 32 then lin g (eSc (2 ^ k.toNat) e1) else full g
  | _ => if 0 ≤ (ivn g e1).1 ∧ 0 ≤ (ivn g e2).1 ∧ (ivn g e2).2 < 32 ∧ (ivn g e1).2 * 2 ^ (ivn g e2).2.toNat ≤ i32hi then frI g (ivn g e1).1 ((ivn g e1).2 * 2 ^ (ivn g e2).2.toNat) else full g
/-- x divided by d, rounded down: an atom, and what it has to do with x -/
def divA (g : Ctx) (e : LE) (d : Int) : Ctx × SV :=
  ((g.1 ++ [((ivn g e).1 / d, (ivn g e).2 / d)], g.2 ++ [eSub e (eSc d (eV g.1.length)), eSub (ePlus (eSc d (eV g.1.length)) (d - 1)) e]), vInt (eV g.1.length))
def shrI (g : Ctx) (e1 e2 : LE) : Ctx × SV := match e2 with
  | (k, []) => if 0 ≤ k ∧ k < 32 then divA g e1 (2 ^ k.toNat) else full g
  | _ => frI g (if (ivn g e1).1 ≤ 0 then (ivn g e1).1 else 0) (if 0 ≤ (ivn g e1).2 then (ivn g e1).2 else 0)
def divI (g : Ctx) (e1 e2 : LE) : Option (Ctx × SV) := match e2 with
  | (c, []) => if 0 < c then (if 0 ≤ (ivn g e1).1 then some (divA g e1 c) else some (full g)) else none
  | _ => none
/-- quotient and rest -/
def remA (g : Ctx) (e : LE) (d : Int) : Ctx × SV :=
  ((g.1 ++ [((ivn g e).1 / d, (ivn g e).2 / d)] ++ [(0, d - 1)], g.2 ++ [] ++ [eSub e (eAdd (eSc d (eV g.1.length)) (eV (g.1.length + 1))), eSub (eAdd (eSc d (eV g.1.length)) (eV (g.1.length + 1))) e]), vInt (eV (g.1.length + 1)))
def remI (g : Ctx) (e1 e2 : LE) : Option (Ctx × SV) := match e2 with
  | (c, []) => if 0 < c then (if 0 ≤ (ivn g e1).1 then some (remA g e1 c) else some (frI g (1 - c) (c - 1))) else none
  | _ => none
theorem i32_nn {x : Int32} (h : 0 ≤ x.toInt) : x.toInt = (x.toBitVec.toNat : Int) := by
  have h1 : x.toInt = _ := BitVec.toInt_eq_toNat_cond x.toBitVec
  split at h1
  next => exact h1
  next h2 =>
    have := x.toBitVec.isLt
    omega
theorem i32_ofN {x : Int32} (h : x.toBitVec.toNat < 2 ^ 31) : x.toInt = (x.toBitVec.toNat : Int) := by
  have h1 : x.toInt = _ := BitVec.toInt_eq_toNat_cond x.toBitVec
  split at h1
  next => exact h1
  next h2 => omega
theorem i32_and_le {x y : Int32} (hy : 0 ≤ y.toInt) : 0 ≤ (x &&& y).toInt ∧ (x &&& y).toInt ≤ y.toInt := by
  have h0 := i32_nn hy
  have hr := (i32_rng y).2
  have h1 : (x &&& y).toBitVec.toNat ≤ y.toBitVec.toNat := by
    rw [Int32.toBitVec_and, BitVec.toNat_and]
    exact Nat.and_le_right
  have h2 := i32_ofN (x := x &&& y) (by unfold i32hi at hr; omega)
  omega
theorem i32_and_comm (x y : Int32) : x &&& y = y &&& x := Int32.and_comm x y
theorem i32_or_lt {x y : Int32} {k : Nat} (hk : k < 32) (hx : 0 ≤ x.toInt) (hy : 0 ≤ y.toInt) (h1 : x.toInt < 2 ^ k) (h2 : y.toInt < 2 ^ k) : 0 ≤ (x ||| y).toInt ∧ (x ||| y).toInt ≤ 2 ^ k - 1 := by
  have a1 := i32_nn hx
  have a2 := i32_nn hy
  have hc : ((2 ^ k : Nat) : Int) = (2 : Int) ^ k := by simp
  have b1 : x.toBitVec.toNat < 2 ^ k := by omega
  have b2 : y.toBitVec.toNat < 2 ^ k := by omega
  have b3 : (x ||| y).toBitVec.toNat < 2 ^ k := by
    rw [Int32.toBitVec_or, BitVec.toNat_or]
    exact Nat.or_lt_two_pow b1 b2
  have b4 : 2 ^ k ≤ 2 ^ 31 := Nat.pow_le_pow_right (by decide) (by omega)
  have := i32_ofN (x := x ||| y) (by omega)
  omega
theorem i32_is {y : Int32} {c : Int} (h : y.toInt = c) (h0 : 0 ≤ c) (h1 : c < 32) : ((y &&& 31).toBitVec.smod 32).toNat = c.toNat := by
  have key : ∀ n, n < 32 → ((nI n &&& 31).toBitVec.smod 32).toNat = n := by decide +kernel
  have : y = nI c.toNat := by
    apply Int32.toInt_inj.mp
    rw [h, nI_toInt (by omega)]
    omega
  rw [this]
  exact key _ (by omega)
theorem divA_ok {v : List Int} {g : Ctx} (hx : SX v g) {e : LE} {z : Int} {d : Int} (hd : 0 < d) (he : EV v e z) (hb : (ivn g e).1 ≤ z ∧ z ≤ (ivn g e).2) {n : Int32} (hn : n.toInt = z / d) : RI v (divA g e d) n := by
  refine ⟨[n.toInt], ?_, fun ads => ⟨n, rfl, atom_new hx⟩⟩
  have ha : EV (v ++ [n.toInt]) (eV g.1.length) n.toInt := atom_new hx
  have he' : EV (v ++ [n.toInt]) e z := he.mono
  have h1 : d * (z / d) ≤ z := Int.mul_ediv_self_le (by omega)
  have h2 : z < d * (z / d) + d := Int.lt_mul_ediv_self_add hd
  refine fresh_ok hx ?_ ?_ ?_
  · rw [hn]; exact Int.ediv_le_ediv hd hb.1
  · rw [hn]; exact Int.ediv_le_ediv hd hb.2
  · intro e0 h0
    rcases List.mem_cons.mp h0 with rfl | h0
    · exact ⟨_, he'.sub (EV.sc ha), by rw [hn]; omega⟩
    · rw [List.mem_singleton.mp h0]
      exact ⟨_, (EV.plus (EV.sc ha)).sub he', by rw [hn]; omega⟩
theorem remA_ok {v : List Int} {g : Ctx} (hx : SX v g) {e : LE} {z : Int} {d : Int} (hd : 0 < d) (he : EV v e z) (hb : (ivn g e).1 ≤ z ∧ z ≤ (ivn g e).2) {n : Int32} (hn : n.toInt = z % d) : RI v (remA g e d) n := by
  have hx1 : SX (v ++ [z / d]) (g.1 ++ [((ivn g e).1 / d, (ivn g e).2 / d)], g.2 ++ []) := fresh_ok hx (Int.ediv_le_ediv hd hb.1) (Int.ediv_le_ediv hd hb.2) (fun _ h => by cases h)
  have hl : (g.1 ++ [((ivn g e).1 / d, (ivn g e).2 / d)]).length = g.1.length + 1 := by simp
  have e1 : v ++ [z / d, n.toInt] = (v ++ [z / d]) ++ [n.toInt] := by simp
  have hq : EV (v ++ [z / d, n.toInt]) (eV g.1.length) (z / d) := atom_new hx
  have hr : EV (v ++ [z / d, n.toInt]) (eV (g.1.length + 1)) n.toInt := by
    rw [e1, ← hl]
    exact atom_new hx1
  have he' : EV (v ++ [z / d, n.toInt]) e z := he.mono
  refine ⟨[z / d, n.toInt], ?_, fun ads => ⟨n, rfl, hr⟩⟩
  have h1 : 0 ≤ z % d := Int.emod_nonneg z (by omega)
  have h2 : z % d < d := Int.emod_lt_of_pos z hd
  have h3 : d * (z / d) + z % d = z := Int.mul_ediv_add_emod z d
  have := fresh_ok hx1 (x := n.toInt) (lo := 0) (hi := d - 1) (cs := [eSub e (eAdd (eSc d (eV g.1.length)) (eV (g.1.length + 1))), eSub (eAdd (eSc d (eV g.1.length)) (eV (g.1.length + 1))) e]) (by omega) (by omega) (by
    rw [← e1]
    intro e0 h0
    rcases List.mem_cons.mp h0 with rfl | h0
    · exact ⟨_, he'.sub ((EV.sc hq).add hr), by rw [hn]; omega⟩
    · rw [List.mem_singleton.mp h0]
      exact ⟨_, ((EV.sc hq).add hr).sub he', by rw [hn]; omega⟩)
  rw [← e1] at this
  exact this
theorem mulI_ok {v : List Int} {g : Ctx} (hx : SX v g) {e1 e2 : LE} {x y : Int32} (h1 : EV v e1 x.toInt) (h2 : EV v e2 y.toInt) : RI v (mulI g e1 e2) (x * y) := by
  have b1 := ivn_ok hx h1
  have b2 := ivn_ok hx h2
  unfold mulI
  split
  next h =>
    have m1 : (ivn g e1).1 * (ivn g e2).1 ≤ x.toInt * y.toInt := Int.mul_le_mul b1.1 b2.1 h.2.1 (by omega)
    have m2 : x.toInt * y.toInt ≤ (ivn g e1).2 * (ivn g e2).2 := Int.mul_le_mul b1.2 b2.2 (by omega) (by omega)
    have m3 : 0 ≤ (ivn g e1).1 * (ivn g e2).1 := Int.mul_nonneg h.1 h.2.1
    have hm : (x * y).toInt = x.toInt * y.toInt := nu_mul (by omega) (by unfold i32hi at h; omega)
    exact frI_ok hx (by rw [hm]; exact m1) (by rw [hm]; exact m2)
  next => exact full_ok hx _
theorem mulS_ok {v : List Int} {g : Ctx} (hx : SX v g) {e1 e2 : LE} {x y : Int32} (h1 : EV v e1 x.toInt) (h2 : EV v e2 y.toInt) : RI v (mulS g e1 e2) (x * y) := by
  unfold mulS
  split
  next k =>
    have hk := h2.const_inv rfl
    refine lin_ok hx (EV.sc h1) fun a b => ?_
    rw [← hk] at a b ⊢
    rw [Int.mul_comm] at a b ⊢
    exact nu_mul (by unfold i32lo at a; omega) (by unfold i32hi at b; omega)
  next =>
    split
    next k _ =>
      have hk := h1.const_inv rfl
      refine lin_ok hx (EV.sc h2) fun a b => ?_
      rw [← hk] at a b ⊢
      exact nu_mul (by unfold i32lo at a; omega) (by unfold i32hi at b; omega)
    next => exact mulI_ok hx h1 h2
theorem andI_ok {v : List Int} {g : Ctx} (hx : SX v g) {e1 e2 : LE} {x y : Int32} (h1 : EV v e1 x.toInt) (h2 : EV v e2 y.toInt) : RI v (andI g e1 e2) (x &&& y) := by
  have b1 := ivn_ok hx h1
  have b2 := ivn_ok hx h2
  unfold andI
  split
  next h =>
    have m := i32_and_le (x := x) (y := y) (by omega)
    refine frI_ok hx m.1 ?_
    split
    next h3 =>
      have m2 := i32_and_le (x := y) (y := x) (by omega)
      rw [i32_and_comm] at m2
      omega
    next => omega
  next =>
    split
    next h =>
      have m2 := i32_and_le (x := y) (y := x) (by omega)
      rw [i32_and_comm] at m2
      exact frI_ok hx m2.1 (by omega)
    next => exact full_ok hx _
theorem orI_ok {v : List Int} {g : Ctx} (hx : SX v g) {e1 e2 : LE} {x y : Int32} (h1 : EV v e1 x.toInt) (h2 : EV v e2 y.toInt) : RI v (orI g e1 e2) (x ||| y) := by
  have b1 := ivn_ok hx h1
  have b2 := ivn_ok hx h2
  unfold orI
  split
  next h =>
    split
    next k hk =>
      have hk1 := List.mem_range.mp (List.mem_of_find?_eq_some hk)
      have hk2 := List.find?_some hk
      simp only [Bool.and_eq_true, decide_eq_true_eq] at hk2
      have m := i32_or_lt (x := x) (y := y) hk1 (by omega) (by omega) (by omega) (by omega)
      exact frI_ok hx m.1 m.2
    next => exact full_ok hx _
  next => exact full_ok hx _
theorem shlI_ok {v : List Int} {g : Ctx} (hx : SX v g) {e1 e2 : LE} {x y : Int32} (h1 : EV v e1 x.toInt) (h2 : EV v e2 y.toInt) : RI v (shlI g e1 e2) (x <<< (y &&& 31)) := by
  have b1 := ivn_ok hx h1
  have b2 := ivn_ok hx h2
  unfold shlI
  split
  next k =>
    have hk := h2.const_inv rfl
    split
    next h =>
      refine lin_ok hx (EV.sc h1) fun a b => ?_
      rw [Int.mul_comm] at a b ⊢
      exact nu_shl x _ (i32_is hk h.1 h.2) (by unfold i32lo at a; omega) (by unfold i32hi at b; omega)
    next => exact full_ok hx _
  next =>
    split
    next h =>
      have hp : (2 : Nat) ^ y.toInt.toNat ≤ 2 ^ (ivn g e2).2.toNat := Nat.pow_le_pow_right (by decide) (by omega)
      have hp' : (2 : Int) ^ y.toInt.toNat ≤ 2 ^ (ivn g e2).2.toNat := by exact_mod_cast hp
      have h1p : (1 : Int) ≤ 2 ^ y.toInt.toNat := by
        have : 1 ≤ (2 : Nat) ^ y.toInt.toNat := Nat.one_le_two_pow
        exact_mod_cast this
      have m1 : x.toInt * 2 ^ y.toInt.toNat ≤ (ivn g e1).2 * 2 ^ (ivn g e2).2.toNat := Int.mul_le_mul b1.2 hp' (by omega) (by omega)
      have m0 : x.toInt * 1 ≤ x.toInt * 2 ^ y.toInt.toNat := Int.mul_le_mul_of_nonneg_left h1p (by omega)
      have hs := nu_shl x _ (i32_is (y := y) rfl (by omega) (by omega)) (by omega) (by unfold i32hi at h; omega)
      exact frI_ok hx (by rw [hs]; omega) (by rw [hs]; exact m1)
    next => exact full_ok hx _
theorem shrI_ok {v : List Int} {g : Ctx} (hx : SX v g) {e1 e2 : LE} {x y : Int32} (h1 : EV v e1 x.toInt) (h2 : EV v e2 y.toInt) : RI v (shrI g e1 e2) (x >>> (y &&& 31)) := by
  have b1 := ivn_ok hx h1
  unfold shrI
  split
  next k =>
    have hk := h2.const_inv rfl
    split
    next h =>
      refine divA_ok hx ?_ h1 b1 (nu_shr x _ (i32_is hk h.1 h.2))
      exact Int.pow_pos (by decide)
    next => exact full_ok hx _
  next =>
    have hs := nu_shr x (y &&& 31) rfl
    generalize ((y &&& 31).toBitVec.smod 32).toNat = k at hs
    have hd : (0 : Int) < 2 ^ k := Int.pow_pos (by decide)
    have h1' : 2 ^ k * (x.toInt / 2 ^ k) ≤ x.toInt := Int.mul_ediv_self_le (by omega)
    have h2' : x.toInt < 2 ^ k * (x.toInt / 2 ^ k) + 2 ^ k := Int.lt_mul_ediv_self_add hd
    refine frI_ok hx ?_ ?_
    · rw [hs]
      rcases Int.lt_or_le (x.toInt / 2 ^ k) 0 with hq | hq
      · have : 2 ^ k * (x.toInt / 2 ^ k + 1) ≤ 1 * (x.toInt / 2 ^ k + 1) := Int.mul_le_mul_of_nonpos_right (by omega) (by omega)
        rw [Int.mul_add] at this
        split <;> omega
      · split <;> omega
    · rw [hs]
      rcases Int.lt_or_le (x.toInt / 2 ^ k) 0 with hq | hq
      · split <;> omega
      · have : 1 * (x.toInt / 2 ^ k) ≤ 2 ^ k * (x.toInt / 2 ^ k) := Int.mul_le_mul_of_nonneg_right (by omega) hq
        split <;> omega
theorem divI_ok {v : List Int} {g : Ctx} (hx : SX v g) {e1 e2 : LE} {x y : Int32} (h1 : EV v e1 x.toInt) (h2 : EV v e2 y.toInt) {r : Ctx × SV} (h : divI g e1 e2 = some r) : ¬ y = 0 ∧ RI v r (x / y) := by
  have b1 := ivn_ok hx h1
  unfold divI at h
  split at h
  next c =>
    have hk := h2.const_inv rfl
    split at h
    next hc =>
      refine ⟨fun q => by rw [q, Int32.toInt_zero] at hk; omega, ?_⟩
      split at h
      next h0 =>
        cases h
        refine divA_ok hx hc h1 b1 ?_
        rw [nu_div (by omega), hk, Int.tdiv_eq_ediv_of_nonneg (by omega)]
      next => cases h; exact full_ok hx _
    next => cases h
  next => cases h
theorem remI_ok {v : List Int} {g : Ctx} (hx : SX v g) {e1 e2 : LE} {x y : Int32} (h1 : EV v e1 x.toInt) (h2 : EV v e2 y.toInt) {r : Ctx × SV} (h : remI g e1 e2 = some r) : ¬ y = 0 ∧ RI v r (x - x / y * y) := by
  have b1 := ivn_ok hx h1
  unfold remI at h
  split at h
  next c =>
    have hk := h2.const_inv rfl
    split at h
    next hc =>
      refine ⟨fun q => by rw [q, Int32.toInt_zero] at hk; omega, ?_⟩
      have hr := nu_rem x y
      rw [hk] at hr
      split at h
      next h0 =>
        cases h
        exact remA_ok hx hc h1 b1 (by rw [hr, Int.tmod_eq_emod_of_nonneg (by omega)])
      next =>
        cases h
        have := tmod_bounds (a := x.toInt) hc
        exact frI_ok hx (by omega) (by omega)
    next => cases h
  next => cases h
