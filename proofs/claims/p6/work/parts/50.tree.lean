/-! suit, the numbers alone: ways up a tree made of the two least each time -/
def fb : Nat → Int
  | 0 => 0
  | 1 => 1
  | n + 2 => fb n + fb (n + 1)
theorem fb_nn : ∀ n, 0 ≤ fb n ∧ 0 ≤ fb (n + 1)
  | 0 => by decide
  | n + 1 => by
    have h := fb_nn n
    refine ⟨h.2, ?_⟩
    show 0 ≤ fb n + fb (n + 1)
    omega
theorem fb_mono1 (n : Nat) : fb n ≤ fb (n + 1) := by
  cases n with
  | zero => decide
  | succ n =>
    show fb (n + 1) ≤ fb n + fb (n + 1)
    have := (fb_nn n).1
    omega
theorem fb_mono {a b : Nat} (h : a ≤ b) : fb a ≤ fb b := by
  induction h with
  | refl => exact Int.le_refl _
  | step _ ih => exact Int.le_trans ih (fb_mono1 _)
/-- a sum over the places below n -/
def sm (q : Nat → Int) : Nat → Int
  | 0 => 0
  | n + 1 => sm q n + q n
theorem sm_congr {q r : Nat → Int} : ∀ {n : Nat}, (∀ k, k < n → q k = r k) → sm q n = sm r n
  | 0, _ => rfl
  | n + 1, h => by
    show sm q n + q n = sm r n + r n
    rw [sm_congr (fun k hk => h k (by omega)), h n (by omega)]
theorem sm_upd {q r : Nat → Int} {a : Nat} : ∀ {n : Nat}, a < n → (∀ k, k ≠ a → q k = r k) → sm q n = sm r n - r a + q a
  | 0, h, _ => by omega
  | n + 1, h, hq => by
    show sm q n + q n = sm r n + r n - r a + q a
    by_cases ha : a = n
    · subst ha
      rw [sm_congr (q := q) (r := r) (fun k hk => hq k (by omega))]
      omega
    · rw [sm_upd (q := q) (r := r) (by omega) hq, hq n (fun h => ha h.symm)]
      omega
theorem sm_nn {q : Nat → Int} : ∀ {n : Nat}, (∀ k, k < n → 0 ≤ q k) → 0 ≤ sm q n
  | 0, _ => Int.le_refl 0
  | n + 1, h => by
    have := sm_nn (q := q) (n := n) (fun k hk => h k (by omega))
    have := h n (by omega)
    show 0 ≤ sm q n + q n
    omega
theorem sm_ge {q : Nat → Int} {a : Nat} : ∀ {n : Nat}, (∀ k, k < n → 0 ≤ q k) → a < n → q a ≤ sm q n
  | 0, _, h => by omega
  | n + 1, h, ha => by
    show q a ≤ sm q n + q n
    have h1 := sm_nn (q := q) (n := n) (fun k hk => h k (by omega))
    have h2 := h n (by omega)
    by_cases e : a = n
    · subst e; omega
    · have := sm_ge (q := q) (n := n) (fun k hk => h k (by omega)) (a := a) (by omega)
      omega
theorem sm_ge2 {q : Nat → Int} {a b : Nat} : ∀ {n : Nat}, (∀ k, k < n → 0 ≤ q k) → a < n → b < n → a ≠ b → q a + q b ≤ sm q n
  | 0, _, h, _, _ => by omega
  | n + 1, h, ha, hb, hab => by
    show q a + q b ≤ sm q n + q n
    have hn : ∀ k, k < n → 0 ≤ q k := fun k hk => h k (by omega)
    have h2 := h n (by omega)
    by_cases e : a = n
    · subst e
      have := sm_ge hn (a := b) (by omega)
      omega
    · by_cases e' : b = n
      · subst e'
        have := sm_ge hn (a := a) (by omega)
        omega
      · have := sm_ge2 hn (a := a) (b := b) (by omega) (by omega) hab
        omega
theorem sm_le {q : Nat → Int} {c : Int} : ∀ {n : Nat}, (∀ k, k < n → q k ≤ c) → sm q n ≤ c * n
  | 0, _ => by simp [sm]
  | n + 1, h => by
    have h1 := sm_le (q := q) (n := n) (fun k hk => h k (by omega))
    have h2 := h n (by omega)
    show sm q n + q n ≤ c * ((n + 1 : Nat) : Int)
    rw [show ((n + 1 : Nat) : Int) = (n : Int) + 1 from by omega, Int.mul_add, Int.mul_one]
    omega
/-- a node that no other is above -/
abbrev lvN (w p : Nat → Int) (k : Nat) : Prop := 0 < w k ∧ p k = -1
def lw (w p : Nat → Int) (k : Nat) : Int := if lvN w p k then w k else 0
def lc (w p : Nat → Int) (k : Nat) : Int := if lvN w p k then 1 else 0
theorem lw_y {w p : Nat → Int} {k : Nat} (h : lvN w p k) : lw w p k = w k := if_pos h
theorem lw_n {w p : Nat → Int} {k : Nat} (h : ¬ lvN w p k) : lw w p k = 0 := if_neg h
theorem lc_y {w p : Nat → Int} {k : Nat} (h : lvN w p k) : lc w p k = 1 := if_pos h
theorem lc_n {w p : Nat → Int} {k : Nat} (h : ¬ lvN w p k) : lc w p k = 0 := if_neg h
theorem lw_nn (w p : Nat → Int) (k : Nat) : 0 ≤ lw w p k := by
  unfold lw
  split
  next h => exact Int.le_of_lt h.1
  next => exact Int.le_refl 0
theorem lc_nn (w p : Nat → Int) (k : Nat) : 0 ≤ lc w p k := by
  unfold lc
  split <;> decide
/-- the tree so far: N nodes, n of them the first, S all weights -/
def Tr (n N : Nat) (S : Int) (w p : Nat → Int) : Prop :=
  n ≤ N ∧ (∀ k, k < N → 0 ≤ w k) ∧ (∀ k, N ≤ k → p k = -1) ∧ sm (lw w p) N ≤ S ∧ sm (lc w p) N + N ≤ 2 * n ∧ ∃ d : Nat → Nat,
    (∀ k, k < N → p k = -1 ∨ ((k : Int) < p k ∧ p k < N ∧ 0 < w (p k).toNat ∧ d k < d (p k).toNat)) ∧
    (∀ c, c < N → lvN w p c → fb (d c + 2) ≤ w c ∧ ∀ s, s < N → lvN w p s → s ≠ c → fb (d c + 1) ≤ w s)
theorem Tr.init {n : Nat} {w p : Nat → Int} {c S : Int} (hw : ∀ k, k < n → 0 ≤ w k ∧ w k ≤ c) (hc : 0 ≤ c) (hp : ∀ k, p k = -1) (hS : c * n ≤ S) : Tr n n S w p := by
  refine ⟨Nat.le_refl _, fun k hk => (hw k hk).1, fun k _ => hp k, ?_, ?_, fun _ => 0, fun k _ => Or.inl (hp k), fun c' hc' hl => ?_⟩
  · refine Int.le_trans (sm_le (c := c) fun k hk => ?_) hS
    unfold lw
    split
    · exact (hw k hk).2
    · exact hc
  · have := sm_le (q := lc w p) (c := 1) (n := n) (fun k _ => by unfold lc; split <;> decide)
    omega
  · have h1 : fb (0 + 2) = 1 := by decide
    have h2 : fb (0 + 1) = 1 := by decide
    refine ⟨?_, fun s _ hs _ => ?_⟩
    · rw [h1]; have := hl.1; omega
    · rw [h2]; have := hs.1; omega
/-- the least of the nodes that no other is above -/
def leastN (N : Nat) (w p : Nat → Int) (a : Nat) : Prop := a < N ∧ lvN w p a ∧ ∀ k, k < N → lvN w p k → w a ≤ w k
def up (f : Nat → Int) (a : Nat) (x : Int) : Nat → Int := fun k => if k = a then x else f k
theorem Tr.join {n N a b : Nat} {S : Int} {w p : Nat → Int} (h : Tr n N S w p) (ha : leastN N w p a) (hb : leastN N w (up p a N) b) : Tr n (N + 1) S (up w N (w a + w b)) (up (up p a N) b N) ∧ N + 2 ≤ 2 * n ∧ w a + w b ≤ S ∧ a ≠ b := by
  obtain ⟨h1, h2, h3, h4, h5, d, h6, h7⟩ := h
  obtain ⟨a1, a2, a3⟩ := ha
  obtain ⟨b1, b2, b3⟩ := hb
  have hNn : ¬ ((N : Nat) : Int) = -1 := by omega
  have hab : b ≠ a := fun e => by
    subst e
    have := b2.2
    simp only [up, if_true] at this
    omega
  have b2' : lvN w p b := ⟨b2.1, by have := b2.2; simp only [up, if_neg hab] at this; exact this⟩
  have hbl : ∀ k, k < N → k ≠ a → lvN w p k → w b ≤ w k := fun k hk ka hl => b3 k hk ⟨hl.1, by simp only [up, if_neg ka]; exact hl.2⟩
  have hwab : w a ≤ w b := a3 b b1 b2'
  generalize hw' : up w N (w a + w b) = w'
  generalize hp' : up (up p a N) b N = p'
  have w1 : ∀ k, k ≠ N → w' k = w k := fun k hk => by rw [← hw']; simp only [up, if_neg hk]
  have w2 : w' N = w a + w b := by rw [← hw']; simp only [up, if_true]
  have p1 : ∀ k, k ≠ a → k ≠ b → p' k = p k := fun k ka kb => by rw [← hp']; simp only [up, if_neg ka, if_neg kb]
  have p2 : p' a = N := by rw [← hp']; simp only [up, if_neg hab.symm, if_true]
  have p3 : p' b = N := by rw [← hp']; simp only [up, if_true]
  have lN : lvN w' p' N := ⟨by rw [w2]; have := a2.1; have := b2.1; omega, by rw [p1 N (by omega) (by omega)]; exact h3 N (Nat.le_refl _)⟩
  have la : ¬ lvN w' p' a := fun q => by have := q.2; rw [p2] at this; omega
  have lb : ¬ lvN w' p' b := fun q => by have := q.2; rw [p3] at this; omega
  have lk : ∀ k, k < N → k ≠ a → k ≠ b → (lvN w' p' k ↔ lvN w p k) := fun k hk ka kb => by unfold lvN; rw [w1 k (by omega), p1 k ka kb]
  have e1 : sm (lw w' p') N = sm (lw w p) N - w a - w b := by
    have s1 : sm (lw w' p') N = sm (up (lw w p) a 0) N - (up (lw w p) a 0) b + lw w' p' b := by
      rw [sm_congr (q := lw w' p') (r := up (up (lw w p) a 0) b 0) (fun k hk => ?_)]
      · rw [sm_upd (q := up (up (lw w p) a 0) b 0) (r := up (lw w p) a 0) (a := b) b1 (fun k hk => by simp only [up, if_neg hk])]
        simp only [up, if_true, lw, if_neg lb]
      · by_cases kb : k = b
        · subst kb; simp only [up, if_true, lw, if_neg lb]
        · by_cases ka : k = a
          · subst ka; simp only [up, if_neg kb, if_true, lw, if_neg la]
          · simp only [up, if_neg kb, if_neg ka]
            by_cases hv : lvN w p k
            · rw [lw_y hv, lw_y ((lk k hk ka kb).mpr hv), w1 k (by omega)]
            · rw [lw_n hv, lw_n (fun q => hv ((lk k hk ka kb).mp q))]
    have s2 : sm (up (lw w p) a 0) N = sm (lw w p) N - lw w p a + up (lw w p) a 0 a := sm_upd a1 (fun k hk => by simp only [up, if_neg hk])
    rw [s1, s2]
    simp only [up, if_true, if_neg hab, lw, if_neg lb, if_pos a2, if_pos b2']
    omega
  have e2 : sm (lc w' p') N = sm (lc w p) N - 2 := by
    have s1 : sm (lc w' p') N = sm (up (lc w p) a 0) N - (up (lc w p) a 0) b + lc w' p' b := by
      rw [sm_congr (q := lc w' p') (r := up (up (lc w p) a 0) b 0) (fun k hk => ?_)]
      · rw [sm_upd (q := up (up (lc w p) a 0) b 0) (r := up (lc w p) a 0) (a := b) b1 (fun k hk => by simp only [up, if_neg hk])]
        simp only [up, if_true, lc, if_neg lb]
      · by_cases kb : k = b
        · subst kb; simp only [up, if_true, lc, if_neg lb]
        · by_cases ka : k = a
          · subst ka; simp only [up, if_neg kb, if_true, lc, if_neg la]
          · simp only [up, if_neg kb, if_neg ka]
            by_cases hv : lvN w p k
            · rw [lc_y hv, lc_y ((lk k hk ka kb).mpr hv)]
            · rw [lc_n hv, lc_n (fun q => hv ((lk k hk ka kb).mp q))]
    have s2 : sm (up (lc w p) a 0) N = sm (lc w p) N - lc w p a + up (lc w p) a 0 a := sm_upd a1 (fun k hk => by simp only [up, if_neg hk])
    rw [s1, s2]
    simp only [up, if_true, if_neg hab, lc, if_neg lb, if_pos a2, if_pos b2']
    omega
  have e3 : w a + w b ≤ sm (lw w p) N := by
    have := sm_ge2 (q := lw w p) (n := N) (fun k _ => lw_nn w p k) a1 b1 hab.symm
    simp only [lw, if_pos a2, if_pos b2'] at this
    exact this
  have e4 : 2 ≤ sm (lc w p) N := by
    have := sm_ge2 (q := lc w p) (n := N) (fun k _ => lc_nn w p k) a1 b1 hab.symm
    simp only [lc, if_pos a2, if_pos b2'] at this
    exact this
  refine ⟨⟨by omega, fun k hk => ?_, fun k hk => ?_, ?_, ?_, fun k => if k = N then max (d a) (d b) + 1 else d k, fun k hk => ?_, fun c hc hl => ?_⟩, by omega, by omega, hab.symm⟩
  · by_cases e : k = N
    · subst e; rw [w2]; have := a2.1; have := b2.1; omega
    · rw [w1 k e]; exact h2 k (by omega)
  · rw [p1 k (by omega) (by omega)]
    exact h3 k (by omega)
  · show sm (lw w' p') N + lw w' p' N ≤ S
    rw [e1]
    simp only [lw, if_pos lN]
    rw [w2]
    omega
  · show sm (lc w' p') N + lc w' p' N + ((N + 1 : Nat) : Int) ≤ 2 * n
    rw [e2]
    simp only [lc, if_pos lN]
    omega
  · simp only []
    by_cases e : k = N
    · left
      subst e
      exact lN.2
    · have hkN : k < N := by omega
      by_cases ka : k = a
      · right
        subst ka
        rw [p2, Int.toNat_natCast, if_neg e, if_pos rfl]
        exact ⟨by omega, by omega, lN.1, by omega⟩
      · by_cases kb : k = b
        · right
          subst kb
          rw [p3, Int.toNat_natCast, if_neg e, if_pos rfl]
          exact ⟨by omega, by omega, lN.1, by omega⟩
        · rcases h6 k hkN with q | ⟨q1, q2, q3, q4⟩
          · left; rw [p1 k ka kb]; exact q
          · right
            rw [p1 k ka kb, w1 _ (by omega), if_neg e, if_neg (by omega)]
            exact ⟨q1, by omega, q3, q4⟩
  · simp only []
    by_cases e : c = N
    · subst e
      rw [if_pos rfl, w2]
      have ka := h7 a a1 a2
      have kb := h7 b b1 b2'
      by_cases hd : d a ≤ d b
      · rw [show max (d a) (d b) = d b by omega]
        refine ⟨?_, fun s hs hls hsc => ?_⟩
        · have := kb.2 a a1 a2 hab.symm
          show fb (d b + 1) + fb (d b + 2) ≤ _
          have := kb.1
          omega
        · have sa : s ≠ a := fun q => la (q ▸ hls)
          have sb : s ≠ b := fun q => lb (q ▸ hls)
          rw [w1 s hsc]
          have := hbl s (by omega) sa ((lk s (by omega) sa sb).mp hls)
          have := kb.1
          show fb (d b + 2) ≤ w s
          omega
      · rw [show max (d a) (d b) = d a by omega]
        refine ⟨?_, fun s hs hls hsc => ?_⟩
        · have := ka.2 b b1 b2' hab
          show fb (d a + 1) + fb (d a + 2) ≤ _
          have := ka.1
          omega
        · have sa : s ≠ a := fun q => la (q ▸ hls)
          have sb : s ≠ b := fun q => lb (q ▸ hls)
          rw [w1 s hsc]
          have := hbl s (by omega) sa ((lk s (by omega) sa sb).mp hls)
          have := ka.1
          show fb (d a + 2) ≤ w s
          omega
    · have ca : c ≠ a := fun q => la (q ▸ hl)
      have cb : c ≠ b := fun q => lb (q ▸ hl)
      have hl' := (lk c (by omega) ca cb).mp hl
      have kc := h7 c (by omega) hl'
      rw [if_neg e, w1 c e]
      refine ⟨kc.1, fun s hs hls hsc => ?_⟩
      by_cases es : s = N
      · subst es
        rw [w2]
        have := kc.2 a a1 a2 ca.symm
        have := b2.1
        omega
      · have sa : s ≠ a := fun q => la (q ▸ hls)
        have sb : s ≠ b := fun q => lb (q ▸ hls)
        rw [w1 s es]
        exact kc.2 s (by omega) ((lk s (by omega) sa sb).mp hls) hsc
/-- no way up is longer than 28 -/
theorem Tr.short {n N : Nat} {S : Int} {w p : Nat → Int} (h : Tr n N S w p) (hS : S < 1346269) : ∃ d : Nat → Nat, (∀ k, k < N → p k = -1 ∨ ((k : Int) < p k ∧ p k < N ∧ 0 < w (p k).toNat ∧ d k < d (p k).toNat)) ∧ ∀ k, k < N → 0 < w k → d k ≤ 28 := by
  obtain ⟨h1, h2, h3, h4, h5, d, h6, h7⟩ := h
  refine ⟨d, h6, fun k hk hw => ?_⟩
  have key : ∀ (m k : Nat), N - k ≤ m → k < N → 0 < w k → d k ≤ 28 := fun m => by
    induction m with
    | zero => intro k q1 q2; omega
    | succ m ih =>
      intro k q1 q2 q3
      rcases h6 k q2 with q | ⟨r1, r2, r3, r4⟩
      · have h8 := (h7 k q2 ⟨q3, q⟩).1
        have h9 : w k ≤ S := by
          have := sm_ge (q := lw w p) (n := N) (fun k _ => lw_nn w p k) q2
          simp only [lw, if_pos (show lvN w p k from ⟨q3, q⟩)] at this
          omega
        refine Nat.le_of_not_lt fun h10 => ?_
        have := fb_mono (show 31 ≤ d k + 2 by omega)
        have h31 : fb 31 = 1346269 := by decide +kernel
        omega
      · have := ih (p k).toNat (by omega) (by omega) r3
        omega
  exact key _ k (Nat.le_refl _) hk hw
