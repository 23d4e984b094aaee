/-! the checker is right -/
def Clm (p : Program) (l : Launch) (e : Env) (s : State) (m : MethodId) (args : Array Value) (below : List Frame) (meth : Method) (c : Code) (Q : State → Prop) (cl : List vw_C) (D : va_G) (cy : Nat → ClassId) (P : PD) (w0 : va_W) (mu0 : List Int) (lim : Option Int) (rk : Option LE) (x : Cf) : Prop :=
  ∀ (w : List Int) (bs : List Nat) (ws : va_W) (H : Heap) (locs : List Loc) (ls : Array Slot) (stk : List Value),
    SX (mu0 ++ w) x.2.1 → (∀ k, rk = some k → ∃ b, lim = some b ∧ EV (mu0 ++ w) k b) → LSat ((w0.map fun q => q.1) ++ bs) (mu0 ++ w) ls (pdNL P) x.2.2.1 → FS ((w0.map fun q => q.1) ++ bs) (mu0 ++ w) x.2.2.2.1 stk → HS cy ((w0.map fun q => q.1) ++ bs) (mu0 ++ w) w0 x.2.2.2.2.1 ws →
    va_P D cl ws H → va_D (va_A w0 s.heap.size) ws → va_S (va_A w0 s.heap.size) s.heap H locs → (∀ b ∈ bs, s.heap.size ≤ b) →
    W p l e (rmK (pdK P)) s m args below meth c H locs x.2.2.2.2.2.1 x.2.2.2.2.2.2 Q (F0 m x.1 ls stk)
def cfOf (q : Nat × Tm × LE) : Cf := (q.1, (q.2.1.1, q.2.1.2.1), q.2.1.2.2.1, q.2.1.2.2.2.1, q.2.1.2.2.2.2, 0, 0)
/-- what a class file, its links and the tables give for a method -/
def Cx0 (TB : List Cond) (cl : List vw_C) (G : List Nat → State → Prop) (ty : Nat → Nat → FieldType) (MT : List MI) (own : String) (P : PD) (cc : ByteArray) : Prop :=
  GCl G ∧ TBok TB ∧ MTok TB MT ∧ MLok TB G own MT (pdML P) ∧ CLok TB cl ty ∧ FLok TB own cl (pdFL P) ∧ LDok TB own (pdLD P) ∧ LLok TB own (pdLL P) ∧ NWok TB own cl (pdNW P) ∧ (Cond.arrayClass .int ∈ TB ∧ Cond.arrayClass .byte ∈ TB) ∧
  (∀ ix, pdOI P = some ix → Cond.methodLink own ix Lib.objectInit ∈ TB ∧ Cond.instanceMethod Lib.objectInit ∈ TB ∧ Cond.code Lib.objectInit ⟨#[0xb1]⟩ 1 none ∈ TB) ∧ MAok TB own (pdMA P) ∧ (∀ q ∈ P.1, decode cc q.1 = .ok q.2)
def Cx1 (p : Program) (l : Launch) (s : State) (m : MethodId) (args : Array Value) (meth : Method) (c : Code) (TB : List Cond) (cl : List vw_C) (G : List Nat → State → Prop) (D : va_G) (cy : Nat → ClassId) (MT : List MI) (CT : List CK) (own : String) (P : PD) (cc : ByteArray) (w0 : va_W) (mu0 : List Int) : Prop :=
  CallFix p m c cc (pdNL P) s args TB own ∧ (∀ (k : Nat) (K' : CK) (mi : MI), CT[k]? = some K' → MT[kMi K']? = some mi → Valid l TB cl G mi K') ∧ va_K D cl (tysOf cy) s ∧ G (w0.map fun q => q.1) s ∧ (pdIni P = true → meth.name = "<init>") ∧ meth.sig.returnType = pdRet P ∧ meth.locks = false ∧ mu0.length = (kB (pdK P)).length
section Sound
variable {p : Program} {l : Launch} {e : Env} {s : State} {m : MethodId} {args : Array Value} {below : List Frame} {meth : Method} {c : Code} {Q : State → Prop}
variable {TB : List Cond} {cl : List vw_C} {G : List Nat → State → Prop} {ty : Nat → Nat → FieldType} {D : va_G} {cy : Nat → ClassId} {MT : List MI} {CT : List CK} {own : String} {P : PD} {cc : ByteArray} {w0 : va_W} {mu0 : List Int} {lim : Option Int} {rk : Option LE}
theorem Clm.go {y : Cf} (hy : Clm p l e s m args below meth c Q cl D cy P w0 mu0 lim rk y) {w : List Int} {bs : List Nat} (hrk : ∀ k, rk = some k → ∃ b, lim = some b ∧ EV (mu0 ++ w) k b) (hbs : ∀ b ∈ bs, s.heap.size ≤ b)
    (w' : List Int) (bs' : List Nat) (ws : va_W) (H : Heap) (locs : List Loc) (ls : Array Slot) (stk : List Value)
    (h1 : SX ((mu0 ++ w) ++ w') y.2.1) (h2 : LSat (((w0.map fun q => q.1) ++ bs) ++ bs') ((mu0 ++ w) ++ w') ls (pdNL P) y.2.2.1) (h3 : FS (((w0.map fun q => q.1) ++ bs) ++ bs') ((mu0 ++ w) ++ w') y.2.2.2.1 stk) (h4 : HS cy (((w0.map fun q => q.1) ++ bs) ++ bs') ((mu0 ++ w) ++ w') w0 y.2.2.2.2.1 ws)
    (h5 : va_P D cl ws H) (h6 : va_D (va_A w0 s.heap.size) ws) (h7 : va_S (va_A w0 s.heap.size) s.heap H locs) (h8 : ∀ b ∈ bs', s.heap.size ≤ b) : W p l e (rmK (pdK P)) s m args below meth c H locs y.2.2.2.2.2.1 y.2.2.2.2.2.2 Q (F0 m y.1 ls stk) := by
  rw [List.append_assoc] at h1
  rw [List.append_assoc, List.append_assoc] at h2 h3 h4
  refine hy (w ++ w') (bs ++ bs') ws H locs ls stk h1 (fun k hk => ?_) h2 h3 h4 h5 h6 h7 (fun b hb => ?_)
  · obtain ⟨b, b1, b2⟩ := hrk k hk
    refine ⟨b, b1, ?_⟩
    rw [← List.append_assoc]
    exact b2.mono
  · rcases List.mem_append.mp hb with h | h
    · exact hbs b h
    · exact h8 b h
theorem Clm.go0 {y : Cf} (hy : Clm p l e s m args below meth c Q cl D cy P w0 mu0 lim rk y) {w : List Int} {bs : List Nat} (hrk : ∀ k, rk = some k → ∃ b, lim = some b ∧ EV (mu0 ++ w) k b) (hbs : ∀ b ∈ bs, s.heap.size ≤ b)
    (w' : List Int) (ws : va_W) (H : Heap) (locs : List Loc) (ls : Array Slot) (stk : List Value)
    (h1 : SX ((mu0 ++ w) ++ w') y.2.1) (h2 : LSat ((w0.map fun q => q.1) ++ bs) ((mu0 ++ w) ++ w') ls (pdNL P) y.2.2.1) (h3 : FS ((w0.map fun q => q.1) ++ bs) ((mu0 ++ w) ++ w') y.2.2.2.1 stk) (h4 : HS cy ((w0.map fun q => q.1) ++ bs) ((mu0 ++ w) ++ w') w0 y.2.2.2.2.1 ws)
    (h5 : va_P D cl ws H) (h6 : va_D (va_A w0 s.heap.size) ws) (h7 : va_S (va_A w0 s.heap.size) s.heap H locs) : W p l e (rmK (pdK P)) s m args below meth c H locs y.2.2.2.2.2.1 y.2.2.2.2.2.2 Q (F0 m y.1 ls stk) := by
  refine Clm.go hy hrk hbs w' [] ws H locs ls stk h1 ?_ ?_ ?_ h5 h6 h7 (fun _ h => by cases h)
  · rw [List.append_nil]; exact h2
  · rw [List.append_nil]; exact h3
  · rw [List.append_nil]; exact h4
set_option maxHeartbeats 2000000 in
theorem step2_ok (C0 : Cx0 TB cl G ty MT own P cc) (C1 : Cx1 p l s m args meth c TB cl G D cy MT CT own P cc w0 mu0)
    (hQ : ∀ (H : Heap) (locs : List Loc) (g : JFrame), W p l e (rmK (pdK P)) s m args below meth c H locs (kMc (pdK P)) (kMs (pdK P)) (MQ below (QK cl D cy (pdK P) mu0 (w0.map fun q => q.1) w0 s.heap.size) args s (kMc (pdK P)) (kMs (pdK P)) (va_A w0 s.heap.size)) g → W p l e (rmK (pdK P)) s m args below meth c H locs (kMc (pdK P)) (kMs (pdK P)) Q g)
    {i : Instr} {len : Nat} {x : Cf} {tp tp' : List TI} {cs : List (Bool × Cf)} (hdg : decode cc x.1 = .ok (i, len)) (h : step2 ty cl MT CT P i len x tp = some (cs, tp')) (hcs : ∀ y ∈ cs, Clm p l e s m args below meth c Q cl D cy P w0 mu0 lim rk y.2) : Clm p l e s m args below meth c Q cl D cy P w0 mu0 lim rk x := by
  obtain ⟨hGc, hT, hMT, hML, hcl, hfl, hld, hll, hnw, hai, hoi, hma, -⟩ := C0
  obtain ⟨S, hCT, hK, hG, hini, hret, hlocks, hmul⟩ := C1
  obtain ⟨hexec, hb, hml, hown, hts⟩ := id S
  obtain ⟨pc, g, sl, st, sh, ce, so⟩ := x
  intro w bs ws H locs ls stk hx hrk hL hS hH hP hD hSS hbs
  have hsz : ls.size = pdNL P := hL.1
  have app0 : ∀ {α : Type} (l : List α), l = l ++ [] := fun l => (List.append_nil l).symm
  have hx : SX (mu0 ++ w) g := hx
  have hL : LSat ((w0.map fun q => q.1) ++ bs) (mu0 ++ w) ls (pdNL P) sl := hL
  have hS : FS ((w0.map fun q => q.1) ++ bs) (mu0 ++ w) st stk := hS
  have hH : HS cy ((w0.map fun q => q.1) ++ bs) (mu0 ++ w) w0 sh ws := hH
  show W p l e (rmK (pdK P)) s m args below meth c H locs ce so Q (F0 m pc ls stk)
  -- nothing new: valuation and addresses as they were
  have keep : ∀ y ∈ cs, ∀ (ws1 : va_W) (H1 : Heap) (locs1 : List Loc) (stk1 : List Value), y.2.2.1 = g → y.2.2.2.1 = sl → FS ((w0.map fun q => q.1) ++ bs) (mu0 ++ w) y.2.2.2.2.1 stk1 → HS cy ((w0.map fun q => q.1) ++ bs) (mu0 ++ w) w0 y.2.2.2.2.2.1 ws1 → va_P D cl ws1 H1 → va_D (va_A w0 s.heap.size) ws1 → va_S (va_A w0 s.heap.size) s.heap H1 locs1 →
      W p l e (rmK (pdK P)) s m args below meth c H1 locs1 y.2.2.2.2.2.2.1 y.2.2.2.2.2.2.2 Q (F0 m y.2.1 ls stk1) := fun y hy ws1 H1 locs1 stk1 e1 e2 f1 f2 f3 f4 f5 => by
    refine Clm.go0 (hcs y hy) hrk hbs [] ws1 H1 locs1 ls stk1 ?_ ?_ ?_ ?_ f3 f4 f5
    · rw [List.append_nil, e1]; exact hx
    · rw [List.append_nil, e2]; exact hL
    · rw [List.append_nil]; exact f1
    · rw [List.append_nil]; exact f2
  have ways : ∀ (n : Nat) (al : List (List LE × List SV)), cs = ((al.filter fun q => !dead g q.1).map fun q => (false, ((pc + n, addcs g q.1, sl, q.2, sh, ce, so) : Cf))) → ∀ q ∈ al, SC (mu0 ++ w) q.1 → ∀ stk', FS ((w0.map fun q => q.1) ++ bs) (mu0 ++ w) q.2 stk' → W p l e (rmK (pdK P)) s m args below meth c H locs ce so Q (F0 m (pc + n) ls stk') := fun n al hal q hq hsc stk' f1 => by
    cases hd : dead g q.1 with
    | true => exact (dead_ok hx hsc hd).elim
    | false =>
      have hm : (false, ((pc + n, addcs g q.1, sl, q.2, sh, ce, so) : Cf)) ∈ cs := by rw [hal]; exact List.mem_map.mpr ⟨q, List.mem_filter.mpr ⟨hq, by rw [hd]; rfl⟩, rfl⟩
      refine Clm.go0 (hcs _ hm) hrk hbs [] ws H locs ls stk' ?_ ?_ ?_ ?_ hP hD hSS
      · rw [List.append_nil]; exact addcs_ok hx hsc
      · rw [List.append_nil]; exact hL
      · rw [List.append_nil]; exact f1
      · rw [List.append_nil]; exact hH
  unfold step2 at h
  simp only at h
  split at h
  · split at h
    next st' h1 =>
      split at h
      next hl =>
        subst hl
        cases h
        exact getF_ok hexec hb hts hcl hfl hown hK hP h1 hS hH hdg fun stk' f1 => keep _ List.mem_cons_self ws H locs stk' rfl rfl f1 hH hP hD hSS
      next => cases h
    next => cases h
  · split at h
    next st' sh' h1 =>
      split at h
      next hl =>
        subst hl
        cases h
        exact putF_ok hexec hb hts hcl hfl hown hK hP hD hSS hini hx h1 hS hH hdg fun stk' ws' H1 locs1 f1 f2 f3 f4 f5 => keep _ List.mem_cons_self ws' H1 locs1 stk' rfl rfl f1 f2 f3 f4 f5
      next => cases h
    next => cases h
  · split at h
    next st' h1 =>
      split at h
      next hl =>
        subst hl
        cases h
        exact alenF_ok hexec hb hK hP h1 hS hH hdg fun stk' f1 => keep _ List.mem_cons_self ws H locs stk' rfl rfl f1 hH hP hD hSS
      next => cases h
    next => cases h
  · split at h
    next le0 cs0 tp1 =>
      split at h
      next al h1 =>
        split at h
        next hl =>
          subst hl
          cases h
          refine ldxF_ok hexec hb hK hP hx h1 hS hH hdg fun q hq w' stk' f1 f2 f3 f4 => ?_
          cases hd : dead q.2.1 q.1 with
          | true => exact (dead_ok f1 f2 hd).elim
          | false =>
            have hm : (false, ((pc + 1, addcs q.2.1 q.1, sl, q.2.2.1, q.2.2.2, ce, so) : Cf)) ∈ (al.filter fun q => !dead q.2.1 q.1).map fun q => (false, ((pc + 1, addcs q.2.1 q.1, sl, q.2.2.1, q.2.2.2, ce, so) : Cf)) := List.mem_map.mpr ⟨q, List.mem_filter.mpr ⟨hq, by rw [hd]; rfl⟩, rfl⟩
            exact Clm.go0 (hcs _ hm) hrk hbs w' ws H locs ls stk' (addcs_ok f1 f2) hL.monoV f3 f4 hP hD hSS
        next => cases h
      next => cases h
    next =>
      split at h
      next g' st' h1 =>
        split at h
        next hl =>
          subst hl
          cases h
          exact aldF_ok hexec hb hK hP hx h1 hS hH (Or.inl ⟨rfl, hdg⟩) fun w' stk' f1 f2 => Clm.go0 (hcs _ List.mem_cons_self) hrk hbs w' ws H locs ls stk' f1 hL.monoV f2 hH.mono hP hD hSS
        next => cases h
      next => cases h
  · split at h
    next g' st' h1 =>
      split at h
      next hl =>
        subst hl
        cases h
        exact aldF_ok hexec hb hK hP hx h1 hS hH (Or.inr ⟨rfl, hdg⟩) fun w' stk' f1 f2 => Clm.go0 (hcs _ List.mem_cons_self) hrk hbs w' ws H locs ls stk' f1 hL.monoV f2 hH.mono hP hD hSS
      next => cases h
    next => cases h
  · split at h
    next st' sh' h1 =>
      split at h
      next hl =>
        subst hl
        cases h
        exact astF_ok hexec hb hK hP hD hSS hx h1 hS hH (Or.inl ⟨rfl, hdg⟩) fun stk' ws' H1 locs1 f1 f2 f3 f4 f5 => keep _ List.mem_cons_self ws' H1 locs1 stk' rfl rfl f1 f2 f3 f4 f5
      next => cases h
    next => cases h
  · split at h
    next st' sh' h1 =>
      split at h
      next hl =>
        subst hl
        cases h
        exact astF_ok hexec hb hK hP hD hSS hx h1 hS hH (Or.inr ⟨rfl, hdg⟩) fun stk' ws' H1 locs1 f1 f2 f3 f4 f5 => keep _ List.mem_cons_self ws' H1 locs1 stk' rfl rfl f1 f2 f3 f4 f5
      next => cases h
    next => cases h
  · split at h
    next n h1 =>
      split at h
      next hl =>
        subst hl
        cases h
        obtain ⟨a1, a2⟩ := hld _ (fnd_mem h1)
        exact lv_ldc hexec hb hown (hts _ a1) hdg (keep _ List.mem_cons_self ws H locs _ rfl rfl ⟨⟨_, rfl, by rw [a2]; exact EV.const _ _⟩, hS⟩ hH hP hD hSS)
      next => cases h
    next => cases h
  · split at h
    next n h1 =>
      split at h
      next hl =>
        subst hl
        cases h
        obtain ⟨a1, a2⟩ := hll _ (fnd_mem h1)
        exact lv_ldc2 hexec hb hown (hts _ a1) hdg (keep _ List.mem_cons_self ws H locs _ rfl rfl ⟨⟨_, rfl, fun c hc => by cases hc; rw [a2]; exact EV.const _ _⟩, hS⟩ hH hP hD hSS)
      next => cases h
    next => cases h
  · split at h
    next st' sh' ce' so' h1 =>
      split at h
      next hl =>
        subst hl
        cases h
        refine newF_ok hexec hb hts hcl hnw hown hK hP hD hSS rfl h1 hS hH hdg fun a ws' H1 stk' f0 f1 f2 f3 f4 f5 => ?_
        refine Clm.go (hcs _ List.mem_cons_self) hrk hbs [] [a] ws' H1 locs ls stk' ?_ ?_ ?_ ?_ f3 f4 f5 (fun b hb => by rw [List.mem_singleton.mp hb]; exact f0)
        · rw [List.append_nil]; exact hx
        · rw [List.append_nil]; exact hL.monoA
        · rw [List.append_nil]; exact f1
        · rw [List.append_nil]; exact f2
      next => cases h
    next => cases h
  · split at h
    next lo hi k0 cs0 tp1 =>
      split at h
      next st' sh' ce' so' h1 =>
        split at h
        next hl =>
          subst hl
          cases h
          refine nwaF_ok hexec hb hts hai hK hP hD hSS rfl hx h1 hS hH hdg fun a ws' H1 stk' f0 f1 f2 f3 f4 f5 => ?_
          refine Clm.go (hcs _ List.mem_cons_self) hrk hbs [] [a] ws' H1 locs ls stk' ?_ ?_ ?_ ?_ f3 f4 f5 (fun b hb => by rw [List.mem_singleton.mp hb]; exact f0)
          · rw [List.append_nil]; exact hx
          · rw [List.append_nil]; exact hL.monoA
          · rw [List.append_nil]; exact f1
          · rw [List.append_nil]; exact f2
        next => cases h
      next => cases h
    next => cases h
  · split at h
    next al h1 =>
      split at h
      next hl =>
        subst hl
        cases h
        exact lcmpF_ok hexec hb h1 hS hdg (ways 1 al rfl)
      next => cases h
    next => cases h
  · rename_i ix
    split at h
    next k hk =>
      split at h
      next hk5 =>
        subst hk5
        split at h
        next st1 sh1 h1 =>
          split at h
          next hl =>
            obtain ⟨rfl, l2, l3, l4⟩ := hl
            cases h
            exact copyF_ok hexec hb (hml.trans hsz.symm) hown hts hma (fnd_mem hk) l2 l3 hK hP hD hSS hx h1 hS hH l4 hdg fun stk1 ws1 H1 locs1 f1 f2 f3 f4 f5 => Clm.go0 (hcs _ List.mem_cons_self) hrk hbs [] ws1 H1 locs1 ls stk1 (by rw [List.append_nil]; exact hx) (by rw [List.append_nil]; exact hL) (by rw [List.append_nil]; exact f1) (by rw [List.append_nil]; exact f2) f3 f4 f5
          next => cases h
        next => cases h
      next =>
        split at h
        next al h1 =>
          split at h
          next hl =>
            obtain ⟨rfl, l2, l3, l4, l5, l6⟩ := hl
            cases h
            refine mathF_ok hexec hb (hml.trans hsz.symm) hown hts hma (fnd_mem hk) l2 (fun z hz => ?_) l5 l6 hx h1 hS l4 hdg (ways 3 al rfl)
            show z + 15 ≤ (pdK P).1.2.2.1
            omega
          next => cases h
        next => cases h
    next =>
     split at h
     next kc k0 cs0 tp1 =>
      split at h
      next g' st' sh' ce' so' h1 =>
        split at h
        next hl =>
          subst hl
          cases h
          exact callF_ok hGc hT S hMT hML hCT hK hP hD hSS hG rfl hbs (Or.inl rfl) hx hS hH hsz h1 hdg fun w' bs' ws' H1 locs1 stk' f1 f2 f3 f4 f5 f6 f7 => Clm.go (hcs _ List.mem_cons_self) hrk hbs w' bs' ws' H1 locs1 ls stk' f1 hL.mono f2 f3 f4 f5 f6 f7
        next => cases h
      next => cases h
     next => cases h
  · split at h
    next kc k0 cs0 tp1 =>
      split at h
      next g' st' sh' ce' so' h1 =>
        split at h
        next hl =>
          subst hl
          cases h
          exact callF_ok hGc hT S hMT hML hCT hK hP hD hSS hG rfl hbs (Or.inr (Or.inl rfl)) hx hS hH hsz h1 hdg fun w' bs' ws' H1 locs1 stk' f1 f2 f3 f4 f5 f6 f7 => Clm.go (hcs _ List.mem_cons_self) hrk hbs w' bs' ws' H1 locs1 ls stk' f1 hL.mono f2 f3 f4 f5 f6 f7
        next => cases h
      next => cases h
    next => cases h
  · rename_i ix
    split at h
    next hoi' =>
      split at h
      next k r =>
        split at h
        next hl =>
          obtain ⟨rfl, hl2, hl3⟩ := hl
          cases h
          obtain ⟨o1, o2, o3⟩ := hoi ix hoi'
          obtain ⟨y, rest, rfl, ⟨a, ha, rfl⟩, hr⟩ := hS.cons_inv
          refine W.objInit hexec hb hown (hts _ o1) (hts _ o2) (hts _ o3) rfl (hsz.trans hml.symm) rfl hdg hl2 ?_ (keep _ List.mem_cons_self ws H locs rest rfl rfl hr hH hP hD hSS)
          have := cats_le hr
          show 2 * 0 + (rest.map fun v => v.category).sum + 12 ≤ (pdK P).1.2.2.1
          omega
        next => cases h
      next => cases h
    next =>
      split at h
      next kc k0 cs0 tp1 =>
        split at h
        next g' st' sh' ce' so' h1 =>
          split at h
          next hl =>
            subst hl
            cases h
            exact callF_ok hGc hT S hMT hML hCT hK hP hD hSS hG rfl hbs (Or.inr (Or.inr rfl)) hx hS hH hsz h1 hdg fun w' bs' ws' H1 locs1 stk' f1 f2 f3 f4 f5 f6 f7 => Clm.go (hcs _ List.mem_cons_self) hrk hbs w' bs' ws' H1 locs1 ls stk' f1 hL.mono f2 f3 f4 f5 f6 f7
          next => cases h
        next => cases h
      next => cases h
  · split at h
    next hl =>
      obtain ⟨rfl, hend⟩ := hl
      unfold endF at hend
      split at hend
      next o ho =>
        simp only [Bool.and_eq_true, decide_eq_true_eq] at hend
        obtain ⟨e1, e2, e3⟩ := hend
        obtain ⟨q, hq⟩ := Option.isSome_iff_exists.mp e1
        refine W.widen e2 e3 (hQ H locs _ ?_)
        refine retF_ok hexec hb hx ho hS hret hlocks hdg (fun r t hr ht hW => ?_) (fun q hq => hSS.2.2 q hq)
        have hrs : FS ((w0.map fun q => q.1) ++ bs) (mu0 ++ w) o.toList r.toList := by
          cases o with
          | none => cases r with
            | none => trivial
            | some z => exact hr.elim
          | some t0 => cases r with
            | none => exact hr.elim
            | some z => exact ⟨hr, trivial⟩
        obtain ⟨mu, m1, m2, m3, -, m5, m6, m7⟩ := mtT_ok (ls := ls) (nL := pdNL P) hx ⟨hL.1, hL.2.1, fun _ h => by cases h⟩ hrs hH (by rw [List.length_append]; omega) (show _ = some (q.1, q.2) from hq)
        have hmu : mu = mu0 ++ mu.drop mu0.length := by
          refine take_eq (fun i hi => ?_) ?_
          · rw [m7 i (by omega), List.getElem?_append_left hi]
          · have : mu.length = (kB (pdK P) ++ kB' (pdK P)).length := m3.1.1
            rw [this, List.length_append]
            omega
        rw [hmu] at m3 m5 m6
        refine ⟨⟨r, rfl, mu.drop mu0.length, bs, ws, m3, ?_, m6, by rw [ht]; exact hP, hD, hbs⟩, hSS.F ht⟩
        generalize hko : kR' (pdK P) = ko at m5
        show RS _ _ (kR' (pdK P)) r
        rw [hko]
        cases ko with
        | none => cases r with
          | none => trivial
          | some z => exact m5.elim
        | some t0 => cases r with
          | none => exact m5.elim
          | some z => exact m5.1
      next => cases hend
    next => cases h
end Sound
