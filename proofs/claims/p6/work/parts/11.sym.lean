/-! symbolic values, cells and worlds; what they say of values, cells and worlds -/
abbrev SV : Type := Option (Nat ⊕ (LE ⊕ Option LE))
abbrev XO : Type := Option (Nat × LE × LE × LE)
abbrev SE : Type := (Nat × LE × Int × Int × XO) ⊕ (Nat × List SV)
abbrev vRef (k : Nat) : SV := some (.inl k)
abbrev vInt (e : LE) : SV := some (.inr (.inl e))
abbrev vLong (o : Option LE) : SV := some (.inr (.inr o))
def VS (ads : List Nat) (v : List Int) (sv : SV) (x : Value) : Prop := match sv with
  | none => True
  | some (.inl k) => ∃ a, ads[k]? = some a ∧ x = .ref a
  | some (.inr (.inl e)) => ∃ n : Int32, x = .int n ∧ EV v e n.toInt
  | some (.inr (.inr o)) => ∃ n : Int64, x = .long n ∧ ∀ le, o = some le → EV v le n.toInt
theorem getElem?_mono {α : Type} {l r : List α} {i : Nat} {x : α} (h : l[i]? = some x) : (l ++ r)[i]? = some x := by
  rw [List.getElem?_append_left (List.getElem?_eq_some_iff.mp h).1]; exact h
theorem VS.mono {ads bs : List Nat} {v w : List Int} {sv : SV} {x : Value} (h : VS ads v sv x) : VS (ads ++ bs) (v ++ w) sv x := by
  match sv, h with
  | none, _ => trivial
  | some (.inl k), h =>
    obtain ⟨a, h1, h2⟩ := h
    exact ⟨a, getElem?_mono h1, h2⟩
  | some (.inr (.inl e)), h =>
    obtain ⟨n, h1, h2⟩ := h
    exact ⟨n, h1, h2.mono⟩
  | some (.inr (.inr o)), h =>
    obtain ⟨n, h1, h2⟩ := h
    exact ⟨n, h1, fun le hl => (h2 le hl).mono⟩
def FS (ads : List Nat) (v : List Int) : List SV → List Value → Prop
  | [], [] => True
  | a :: l, x :: r => VS ads v a x ∧ FS ads v l r
  | _, _ => False
theorem FS.mono {ads bs : List Nat} {v w : List Int} : ∀ {l : List SV} {r : List Value}, FS ads v l r → FS (ads ++ bs) (v ++ w) l r
  | [], [], _ => trivial
  | _ :: _, _ :: _, h => ⟨h.1.mono, FS.mono h.2⟩
  | [], _ :: _, h => h.elim
  | _ :: _, [], h => h.elim
theorem FS.len {ads : List Nat} {v : List Int} : ∀ {l : List SV} {r : List Value}, FS ads v l r → l.length = r.length
  | [], [], _ => rfl
  | _ :: _, _ :: _, h => by rw [List.length_cons, List.length_cons, FS.len h.2]
  | [], _ :: _, h => h.elim
  | _ :: _, [], h => h.elim
theorem FS.get {ads : List Nat} {v : List Int} : ∀ {l : List SV} {r : List Value} {k : Nat} {a : SV}, FS ads v l r → l[k]? = some a → ∃ x, r[k]? = some x ∧ VS ads v a x
  | _ :: _, y :: _, 0, a, h, hk => by
    rw [List.getElem?_cons_zero] at hk
    cases hk
    exact ⟨y, rfl, h.1⟩
  | _ :: _, _ :: _, k + 1, a, h, hk => by
    rw [List.getElem?_cons_succ] at hk ⊢
    exact FS.get h.2 hk
  | [], _, k, a, h, hk => by simp at hk
  | _ :: _, [], k, a, h, hk => h.elim
theorem FS.set {ads : List Nat} {v : List Int} : ∀ {l : List SV} {r : List Value} {k : Nat} {a : SV} {x : Value}, FS ads v l r → VS ads v a x → FS ads v (l.set k a) (r.set k x)
  | [], [], _, _, _, _, _ => trivial
  | _ :: _, _ :: _, 0, _, _, h, hx => ⟨hx, h.2⟩
  | _ :: _, _ :: _, _ + 1, _, _, h, hx => ⟨h.1, FS.set h.2 hx⟩
  | [], _ :: _, _, _, _, h, _ => h.elim
  | _ :: _, [], _, _, _, h, _ => h.elim
theorem FS.app {ads : List Nat} {v : List Int} : ∀ {l : List SV} {r : List Value} {l' : List SV} {r' : List Value}, FS ads v l r → FS ads v l' r' → FS ads v (l ++ l') (r ++ r')
  | [], [], _, _, _, h => h
  | _ :: _, _ :: _, _, _, h, h' => ⟨h.1, FS.app h.2 h'⟩
  | [], _ :: _, _, _, h, _ => h.elim
  | _ :: _, [], _, _, h, _ => h.elim
theorem FS.split {ads : List Nat} {v : List Int} : ∀ {l l' : List SV} {r : List Value}, FS ads v (l ++ l') r → ∃ r1 r2, r = r1 ++ r2 ∧ FS ads v l r1 ∧ FS ads v l' r2
  | [], l', r, h => ⟨[], r, rfl, trivial, h⟩
  | a :: l, l', x :: r, h => by
    obtain ⟨r1, r2, e, h1, h2⟩ := FS.split (l := l) h.2
    exact ⟨x :: r1, r2, by rw [e]; rfl, ⟨h.1, h1⟩, h2⟩
  | _ :: _, _, [], h => h.elim
theorem FS.rev {ads : List Nat} {v : List Int} : ∀ {l : List SV} {r : List Value}, FS ads v l r → FS ads v l.reverse r.reverse
  | [], [], _ => trivial
  | a :: l, x :: r, h => by
    rw [List.reverse_cons, List.reverse_cons]
    exact FS.app (FS.rev h.2) ⟨h.1, trivial⟩
  | [], _ :: _, h => h.elim
  | _ :: _, [], h => h.elim
/-- one for each 0, three for each other, of n places from a on -/
def psum (f : Nat → Int32) : Nat → Nat → Int
  | _, 0 => 0
  | a, n + 1 => (if (f a).toInt = 0 then 1 else 3) + psum f (a + 1) n
/-- more that is known of an array's places: 0: those below k are at most z; 1: the sum from k on up to z is at most r -/
def XS (v : List Int) (x : XO) (f : Nat → Int32) (n : Nat) : Prop := match x with
  | none => True
  | some (0, k, z, s) => ∃ kk zz, EV v k kk ∧ EV v z zz ∧ ∀ j : Nat, j < n → s.1 ≤ (j : Int) → (j : Int) < kk → (f j).toInt ≤ zz
  | some (_, k, z, r) => ∃ kk zz rr, EV v k kk ∧ EV v z zz ∧ EV v r rr ∧ 0 ≤ kk ∧ kk ≤ zz ∧ zz ≤ (n : Int) ∧ psum f kk.toNat (zz - kk).toNat ≤ rr
theorem XS.mono {v w : List Int} {x : XO} {f : Nat → Int32} {n : Nat} (h : XS v x f n) : XS (v ++ w) x f n := by
  unfold XS at h ⊢
  split
  · trivial
  · obtain ⟨kk, zz, h1, h2, h3⟩ := h
    exact ⟨kk, zz, h1.mono, h2.mono, h3⟩
  · rename_i q k z r hq
    match q, h with
    | 0, h => exact (hq rfl).elim
    | q + 1, h =>
      obtain ⟨kk, zz, rr, h1, h2, h3, h4⟩ := h
      exact ⟨kk, zz, rr, h1.mono, h2.mono, h3.mono, h4⟩
def ES (cy : Nat → ClassId) (ads : List Nat) (v : List Int) (se : SE) (e : va_E) : Prop := match se with
  | .inl (t, len, lo, hi, x) => ∃ (n : Nat) (f : Nat → Int32), e = .inl (cy t, n, .inl f) ∧ t < 2 ∧ n < 2 ^ 31 ∧ EV v len n ∧ (∀ j, j < n → lo ≤ (f j).toInt ∧ (f j).toInt ≤ hi) ∧ XS v x f n
  | .inr (ci, fs) => ∃ vs, e = .inr (ci, vs) ∧ FS ads v fs vs
theorem ES.mono {cy : Nat → ClassId} {ads bs : List Nat} {v w : List Int} {se : SE} {e : va_E} (h : ES cy ads v se e) : ES cy (ads ++ bs) (v ++ w) se e := by
  match se, h with
  | .inl (t, len, lo, hi, x), h =>
    obtain ⟨n, f, h1, h2, h3, h4, h5, h6⟩ := h
    exact ⟨n, f, h1, h2, h3, h4.mono, h5, h6.mono⟩
  | .inr (ci, fs), h =>
    obtain ⟨vs, h1, h2⟩ := h
    exact ⟨vs, h1, h2.mono⟩
abbrev SH : Type := List (Option SE)
def OS (cy : Nat → ClassId) (ads : List Nat) (v : List Int) (w0 ws : va_W) (k : Nat) (o : Option SE) : Prop := match o with
  | some se => ∃ q, ws[k]? = some q ∧ ES cy ads v se q.2
  | none => ws[k]? = w0[k]?
def HS (cy : Nat → ClassId) (ads : List Nat) (v : List Int) (w0 : va_W) (sh : SH) (ws : va_W) : Prop :=
  ws.map (fun q => q.1) = ads ∧ ws.length = sh.length ∧ ∀ (k : Nat) (o : Option SE), sh[k]? = some o → OS cy ads v w0 ws k o
theorem HS.mono {cy : Nat → ClassId} {ads : List Nat} {v w : List Int} {w0 ws : va_W} {sh : SH} (h : HS cy ads v w0 sh ws) : HS cy ads (v ++ w) w0 sh ws := by
  refine ⟨h.1, h.2.1, fun k o hk => ?_⟩
  have := h.2.2 k o hk
  match o, this with
  | some se, this =>
    obtain ⟨q, h1, h2⟩ := this
    refine ⟨q, h1, ?_⟩
    have := h2.mono (bs := []) (w := w)
    rwa [List.append_nil] at this
  | none, this => exact this
theorem HS.get {cy : Nat → ClassId} {ads : List Nat} {v : List Int} {w0 ws : va_W} {sh : SH} (h : HS cy ads v w0 sh ws) {k : Nat} {se : SE} (hk : sh[k]? = some (some se)) {a : Nat} (ha : ads[k]? = some a) : ∃ e, ws[k]? = some (a, e) ∧ ES cy ads v se e := by
  obtain ⟨q, h1, h2⟩ := h.2.2 k _ hk
  have h3 : (ws.map (fun q => q.1))[k]? = some q.1 := by rw [List.getElem?_map, h1]; rfl
  rw [h.1, ha] at h3
  cases h3
  exact ⟨q.2, h1, h2⟩
theorem HS.set {cy : Nat → ClassId} {ads : List Nat} {v : List Int} {w0 ws : va_W} {sh : SH} (h : HS cy ads v w0 sh ws) {k a : Nat} {e0 e : va_E} (hk : ws[k]? = some (a, e0)) {se : SE} (he : ES cy ads v se e) : HS cy ads v w0 (sh.set k (some se)) (ws.set k (a, e)) := by
  have hl := (List.getElem?_eq_some_iff.mp hk).1
  refine ⟨?_, by simp [h.2.1], fun j o hj => ?_⟩
  · rw [List.map_set, ← h.1]
    apply List.ext_getElem?
    intro i
    by_cases hi : i = k
    · subst hi
      rw [List.getElem?_set_self (by simpa using hl), List.getElem?_map, hk]
      rfl
    · rw [List.getElem?_set_ne (Ne.symm hi)]
  · by_cases hi : j = k
    · subst hi
      rw [List.getElem?_set_self (by rw [← h.2.1]; exact hl)] at hj
      cases hj
      exact ⟨_, List.getElem?_set_self hl, he⟩
    · rw [List.getElem?_set_ne (Ne.symm hi)] at hj
      have := h.2.2 j o hj
      match o, this with
      | some se, this =>
        obtain ⟨q, h1, h2⟩ := this
        exact ⟨q, by rw [List.getElem?_set_ne (Ne.symm hi)]; exact h1, h2⟩
      | none, this =>
        show (ws.set k (a, e))[j]? = w0[j]?
        rw [List.getElem?_set_ne (Ne.symm hi)]
        exact this
/-! locals -/
abbrev SL : Type := List (Nat × SV)
def LSat (ads : List Nat) (v : List Int) (ls : Array Slot) (nL : Nat) (sl : SL) : Prop := ls.size = nL ∧ lv_wf ls ∧ ∀ q ∈ sl, ∃ x, ls[q.1]? = some (.val x) ∧ VS ads v q.2 x
theorem LSat.mono {ads bs : List Nat} {v w : List Int} {ls : Array Slot} {nL : Nat} {sl : SL} (h : LSat ads v ls nL sl) : LSat (ads ++ bs) (v ++ w) ls nL sl := ⟨h.1, h.2.1, fun q hq => by
  obtain ⟨x, h1, h2⟩ := h.2.2 q hq
  exact ⟨x, h1, h2.mono⟩⟩
def lk (sl : SL) (i : Nat) : Option SV := match sl with
  | [] => none
  | (j, s) :: r => if j = i then some s else lk r i
theorem lk_mem {i : Nat} {s : SV} : ∀ {sl : SL}, lk sl i = some s → (i, s) ∈ sl
  | (j, t) :: r, h => by
    unfold lk at h
    split at h
    next hj => cases h; subst hj; exact List.mem_cons_self
    next => exact List.mem_cons_of_mem _ (lk_mem h)
theorem LSat.at {ads : List Nat} {v : List Int} {ls : Array Slot} {nL : Nat} {sl : SL} (h : LSat ads v ls nL sl) {i : Nat} {s : SV} (hi : lk sl i = some s) : ∃ x, ls[i]? = some (.val x) ∧ VS ads v s x := h.2.2 _ (lk_mem hi)
theorem LSat.lv {ads : List Nat} {v : List Int} {ls : Array Slot} {nL : Nat} : ∀ {sl : SL}, LSat ads v ls nL sl → ∃ lv : List (Nat × Value), lv_has ls nL lv ∧ ∀ q ∈ sl, ∃ x, (q.1, x) ∈ lv ∧ VS ads v q.2 x
  | [], h => ⟨[], ⟨h.1, h.2.1, fun _ hq => by cases hq⟩, fun _ hq => by cases hq⟩
  | q :: sl, h => by
    obtain ⟨lv, h1, h2⟩ := LSat.lv (sl := sl) ⟨h.1, h.2.1, fun r hr => h.2.2 r (List.mem_cons_of_mem _ hr)⟩
    obtain ⟨x, h3, h4⟩ := h.2.2 q List.mem_cons_self
    refine ⟨(q.1, x) :: lv, ⟨h1.1, h1.2.1, fun r hr => ?_⟩, fun r hr => ?_⟩
    · rcases List.mem_cons.mp hr with rfl | hr
      · exact h3
      · exact h1.2.2 r hr
    · rcases List.mem_cons.mp hr with rfl | hr
      · exact ⟨x, List.mem_cons_self, h4⟩
      · obtain ⟨y, g1, g2⟩ := h2 r hr
        exact ⟨y, List.mem_cons_of_mem _ g1, g2⟩
def oneS (s : SV) : Bool := match s with
  | some (.inl _) => true
  | some (.inr (.inl _)) => true
  | _ => false
theorem oneS_cat {ads : List Nat} {v : List Int} {s : SV} {x : Value} (h : oneS s = true) (hx : VS ads v s x) : x.category = 1 := by
  match s, h, hx with
  | some (.inl k), _, hx =>
    obtain ⟨a, -, rfl⟩ := hx
    rfl
  | some (.inr (.inl e)), _, hx =>
    obtain ⟨n, rfl, -⟩ := hx
    rfl
  | some (.inr (.inr o)), h, _ => cases h
  | none, h, _ => cases h
/-- a store into local i of one word (w = 1) or two -/
def sto (sl : SL) (i w : Nat) (s : SV) : SL := (i, s) :: sl.filter (fun q => !(q.1 == i) && ((!(q.1 == i + 1) || w == 1) && (!(q.1 + 1 == i) || oneS q.2)))
theorem LSat.sto1 {ads : List Nat} {v : List Int} {ls' : Array Slot} {nL i : Nat} {sl : SL} {s : SV} {x : Value} {lv : List (Nat × Value)} (hq : ∀ q ∈ sl, ∃ x, (q.1, x) ∈ lv ∧ VS ads v q.2 x)
    (hl : lv_has ls' nL ((i, x) :: lv.filter (fun q => !(q.1 == i) && !(q.1 + 1 == i && q.2.category == 2)))) (hx : VS ads v s x) : LSat ads v ls' nL (sto sl i 1 s) := by
  refine ⟨hl.1, hl.2.1, fun q hq' => ?_⟩
  rcases List.mem_cons.mp hq' with rfl | h
  · exact ⟨x, hl.2.2 _ List.mem_cons_self, hx⟩
  · obtain ⟨h1, h2⟩ := List.mem_filter.mp h
    obtain ⟨y, g1, g2⟩ := hq q h1
    refine ⟨y, hl.2.2 (q.1, y) (List.mem_cons_of_mem _ (List.mem_filter.mpr ⟨g1, ?_⟩)), g2⟩
    simp only [Bool.and_eq_true, Bool.not_eq_true', beq_eq_false_iff_ne, ne_eq, Bool.or_eq_true, Bool.and_eq_false_iff] at h2 ⊢
    refine ⟨h2.1, ?_⟩
    rcases h2.2.2 with z | z
    · exact Or.inl z
    · right
      rw [oneS_cat z g2]
      decide
theorem LSat.sto2 {ads : List Nat} {v : List Int} {ls' : Array Slot} {nL i : Nat} {sl : SL} {s : SV} {x : Value} {lv : List (Nat × Value)} (hq : ∀ q ∈ sl, ∃ x, (q.1, x) ∈ lv ∧ VS ads v q.2 x)
    (hl : lv_has ls' nL ((i, x) :: lv.filter (fun q => !(q.1 == i) && (!(q.1 == i + 1) && !(q.1 + 1 == i && q.2.category == 2))))) (hx : VS ads v s x) : LSat ads v ls' nL (sto sl i 2 s) := by
  refine ⟨hl.1, hl.2.1, fun q hq' => ?_⟩
  rcases List.mem_cons.mp hq' with rfl | h
  · exact ⟨x, hl.2.2 _ List.mem_cons_self, hx⟩
  · obtain ⟨h1, h2⟩ := List.mem_filter.mp h
    obtain ⟨y, g1, g2⟩ := hq q h1
    refine ⟨y, hl.2.2 (q.1, y) (List.mem_cons_of_mem _ (List.mem_filter.mpr ⟨g1, ?_⟩)), g2⟩
    simp only [Bool.and_eq_true, Bool.not_eq_true', beq_eq_false_iff_ne, ne_eq, Bool.or_eq_true, Bool.and_eq_false_iff] at h2 ⊢
    refine ⟨h2.1, ?_, ?_⟩
    · rcases h2.2.1 with z | z
      · exact z
      · exact absurd z (by decide)
    · rcases h2.2.2 with z | z
      · exact Or.inl z
      · right
        rw [oneS_cat z g2]
        decide
