/-! the tables' words by their places -/
def TB : List Cond := lw_tbl.filter goodWord
theorem TB_ok : TBok TB := fun w h => good_of_word (List.mem_filter.mp h).2
def inT (w : Cond) (i : Nat) : Bool := decide (lw_tbl[i]? = some w) && goodWord w
theorem inT_ok {w : Cond} {i : Nat} (h : inT w i = true) : w ∈ TB := by
  unfold inT at h
  rw [Bool.and_eq_true, decide_eq_true_eq] at h
  exact List.mem_filter.mpr ⟨List.mem_of_getElem? h.1, h.2⟩
def inTs : List Cond → List Nat → Bool
  | [], [] => true
  | w :: l, i :: r => inT w i && inTs l r
  | _, _ => false
theorem inTs_ok : ∀ {l : List Cond} {r : List Nat}, inTs l r = true → ∀ w ∈ l, w ∈ TB
  | w :: l, i :: r, h, x, hx => by
    unfold inTs at h
    rw [Bool.and_eq_true] at h
    rcases List.mem_cons.mp hx with rfl | hx
    · exact inT_ok h.1
    · exact inTs_ok h.2 x hx
  | [], _, _, x, hx => by cases hx
  | _ :: _, [], h, x, hx => by unfold inTs at h; cases h
def mtB (q : MI × Nat) : Bool := plainName q.1.1.cls && (decide (q.1.1.cls ≠ "java/lang/invoke/MethodHandle") && (decide (q.1.1.cls ≠ "java/lang/invoke/VarHandle") && (decide ((parseMethodDescriptor q.1.1.desc).map (fun d => d.parameters.length) = some q.1.2.2.2.2) && inT (Cond.initialized q.1.1.cls) q.2)))
theorem codes_ok {L : List (MI × Nat)} (ps : List Nat) (h : L.map (fun q => Cond.code q.1.1 q.1.2.1 q.1.2.2.1 q.1.2.2.2.1) = ps.filterMap (fun i => lw_tbl[i]?)) : ∀ q ∈ L, Cond.code q.1.1 q.1.2.1 q.1.2.2.1 q.1.2.2.2.1 ∈ TB := fun q hq => by
  have h1 : Cond.code q.1.1 q.1.2.1 q.1.2.2.1 q.1.2.2.2.1 ∈ L.map (fun q => Cond.code q.1.1 q.1.2.1 q.1.2.2.1 q.1.2.2.2.1) := List.mem_map.mpr ⟨q, hq, rfl⟩
  rw [h] at h1
  obtain ⟨i, -, hi⟩ := List.mem_filterMap.mp h1
  exact List.mem_filter.mpr ⟨List.mem_of_getElem? hi, rfl⟩
theorem MTok_of {L : List (MI × Nat)} (h : L.all mtB = true) (hc : ∀ q ∈ L, Cond.code q.1.1 q.1.2.1 q.1.2.2.1 q.1.2.2.2.1 ∈ TB) : MTok TB (L.map fun q => q.1) := fun mi hm => by
  obtain ⟨q, hq, rfl⟩ := List.mem_map.mp hm
  have := List.all_eq_true.mp h q hq
  unfold mtB at this
  simp only [Bool.and_eq_true, decide_eq_true_eq] at this
  obtain ⟨a, b, c, d, f⟩ := this
  exact ⟨a, ⟨b, c, d⟩, hc q hq, inT_ok f⟩
theorem MTok_app {A B : List MI} (h : MTok TB A) (g : MTok TB B) : MTok TB (A ++ B) := fun q hq => by
  rcases List.mem_append.mp hq with h1 | h1
  · exact h q h1
  · exact g q h1
def flB (own : String) (cl : List vw_C) (q : (Nat × Nat × Nat × Bool) × Nat) : Bool := match cl[q.1.2.1]? with
  | some r => decide (q.1.2.2.1 < r.2.2) && (inT (Cond.fieldLink own q.1.1 r.1 (r.2.1 q.1.2.2.1).2.1 (r.2.1 q.1.2.2.1).2.2.1) q.2 && (decide ((r.2.1 q.1.2.2.1).1 = r.1) && (decide ((r.2.1 q.1.2.2.1).2.2.2 = q.1.2.2.2) && (!q.1.2.2.2 || decide (r.1 = own)))))
  | none => false
theorem FLok_of {own : String} {cl : List vw_C} {L : List ((Nat × Nat × Nat × Bool) × Nat)} (h : L.all (flB own cl) = true) : FLok TB own cl (L.map fun q => q.1) := fun x hx => by
  obtain ⟨q, hq, rfl⟩ := List.mem_map.mp hx
  have := List.all_eq_true.mp h q hq
  unfold flB at this
  split at this
  next r hr =>
    simp only [Bool.and_eq_true, decide_eq_true_eq, Bool.or_eq_true, Bool.not_eq_true'] at this
    obtain ⟨a, b, c, d, e⟩ := this
    refine ⟨r, hr, a, inT_ok b, c, d, fun hf => ?_⟩
    rcases e with e | e
    · rw [hf] at e; cases e
    · exact e
  next => cases this
def mlB (own : String) (MT : List MI) (q : (Nat × Nat × Nat) × List Nat) : Bool := match MT[q.1.2.1]? with
  | some mi => match q.1.2.2, q.2 with
    | 0, [a, b] => inT (Cond.methodLink own q.1.1 mi.1) a && inT (Cond.static mi.1) b
    | 1, [a, b, c] => inT (Cond.methodLink own q.1.1 mi.1) a && (inT (Cond.instanceMethod mi.1) b && inT (Cond.selects mi.1.cls mi.1 mi.1) c)
    | 2, [a, b] => inT (Cond.methodLink own q.1.1 mi.1) a && (inT (Cond.instanceMethod mi.1) b && (decide (mi.1.name = "<init>") && decide (mi.2.2.2.1 = none)))
    | _, _ => false
  | none => false
theorem MLok_of {G : List Nat → State → Prop} {own : String} {MT : List MI} {L : List ((Nat × Nat × Nat) × List Nat)} (h : L.all (mlB own MT) = true) : MLok TB G own MT (L.map fun q => q.1) := fun x hx => by
  obtain ⟨q, hq, rfl⟩ := List.mem_map.mp hx
  have := List.all_eq_true.mp h q hq
  unfold mlB at this
  split at this
  next mi hm =>
    refine ⟨mi, hm, ?_⟩
    split at this
    next a b e1 e2 =>
      rw [e1]
      rw [Bool.and_eq_true] at this
      exact ⟨inT_ok this.1, inT_ok this.2⟩
    next a b c e1 e2 =>
      rw [e1]
      simp only [Bool.and_eq_true] at this
      exact ⟨inT_ok this.1, inT_ok this.2.1, inT_ok this.2.2⟩
    next a b e1 e2 =>
      rw [e1]
      simp only [Bool.and_eq_true, decide_eq_true_eq] at this
      exact ⟨inT_ok this.1, inT_ok this.2.1, this.2.2.1, this.2.2.2⟩
    next => cases this
  next => cases this
theorem MLok_app {G : List Nat → State → Prop} {own : String} {MT : List MI} {A B : List (Nat × Nat × Nat)} (h : MLok TB G own MT A) (g : MLok TB G own MT B) : MLok TB G own MT (A ++ B) := fun q hq => by
  rcases List.mem_append.mp hq with h1 | h1
  · exact h q h1
  · exact g q h1
theorem LDok_of {own : String} {L : List ((Nat × Int) × Nat)} (h : L.all (fun q => inT (Cond.constant own q.1.1 (Int32.ofInt q.1.2)) q.2 && decide ((Int32.ofInt q.1.2).toInt = q.1.2)) = true) : LDok TB own (L.map fun q => q.1) := fun x hx => by
  obtain ⟨q, hq, rfl⟩ := List.mem_map.mp hx
  have := List.all_eq_true.mp h q hq
  rw [Bool.and_eq_true, decide_eq_true_eq] at this
  exact ⟨inT_ok this.1, this.2⟩
theorem LLok_of {own : String} {L : List ((Nat × Int) × Nat)} (h : L.all (fun q => inT (Cond.constantLong own q.1.1 (Int64.ofInt q.1.2)) q.2 && decide ((Int64.ofInt q.1.2).toInt = q.1.2)) = true) : LLok TB own (L.map fun q => q.1) := fun x hx => by
  obtain ⟨q, hq, rfl⟩ := List.mem_map.mp hx
  have := List.all_eq_true.mp h q hq
  rw [Bool.and_eq_true, decide_eq_true_eq] at this
  exact ⟨inT_ok this.1, this.2⟩
def nwB (own : String) (cl : List vw_C) (q : (Nat × Nat) × List Nat) : Bool := match cl[q.1.2]?, q.2 with
  | some r, [a, b, c] => inT (Cond.classLink own q.1.1 r.1) a && (inT (Cond.instantiable r.1 r.2.2) b && inT (Cond.initialized r.1) c)
  | _, _ => false
theorem NWok_of {own : String} {cl : List vw_C} {L : List ((Nat × Nat) × List Nat)} (h : L.all (nwB own cl) = true) : NWok TB own cl (L.map fun q => q.1) := fun x hx r hr => by
  obtain ⟨q, hq, rfl⟩ := List.mem_map.mp hx
  have := List.all_eq_true.mp h q hq
  unfold nwB at this
  split at this
  next r' a b c e1 e2 =>
    rw [hr] at e1
    cases e1
    simp only [Bool.and_eq_true] at this
    exact ⟨inT_ok this.1, inT_ok this.2.1, inT_ok this.2.2⟩
  next => cases this
theorem MAok_of {own : String} {L : List ((Nat × Nat) × List Nat)} (h : L.all (fun q => inTs (maW own q.1) q.2) = true) : MAok TB own (L.map fun q => q.1) := fun x hx => by
  obtain ⟨q, hq, rfl⟩ := List.mem_map.mp hx
  exact inTs_ok (List.all_eq_true.mp h q hq)
/-- a class's own tables -/
def CTab (cl : List vw_C) (G : List Nat → State → Prop) (MT : List MI) (own : String) (FL : List (Nat × Nat × Nat × Bool)) (LD LL : List (Nat × Int)) (ML : List (Nat × Nat × Nat)) (NW : List (Nat × Nat)) (oi : Option Nat) (MA : List (Nat × Nat)) : Prop :=
  MLok TB G own MT ML ∧ FLok TB own cl FL ∧ LDok TB own LD ∧ LLok TB own LL ∧ NWok TB own cl NW ∧ MAok TB own MA ∧ ∀ ix, oi = some ix → Cond.methodLink own ix Lib.objectInit ∈ TB ∧ Cond.instanceMethod Lib.objectInit ∈ TB ∧ Cond.code Lib.objectInit ⟨#[0xb1]⟩ 1 none ∈ TB
/-- all code rows of a method at once -/
def deB (cc : ByteArray) (q : Nat × Instr × Nat) : Bool := match decode cc q.1 with
  | .ok r => decide (r = q.2)
  | .error _ => false
theorem deB_ok {cc : ByteArray} {L : List (Nat × Instr × Nat)} (h : L.all (deB cc) = true) : ∀ q ∈ L, decode cc q.1 = .ok q.2 := fun q hq => by
  have := List.all_eq_true.mp h q hq
  unfold deB at this
  split at this
  next r hr => rw [hr, of_decide_eq_true this]
  next => cases this
/-- what is proved of the contracts so far -/
def AllV (l : Launch) (cl : List vw_C) (G : List Nat → State → Prop) (MT : List MI) (CT : List CK) : Prop := ∀ (k : Nat) (K' : CK) (mi : MI), CT[k]? = some K' → MT[kMi K']? = some mi → Valid l TB cl G mi K'
theorem AllV.nil {l : Launch} {cl : List vw_C} {G : List Nat → State → Prop} {MT : List MI} : AllV l cl G MT [] := fun k K' mi h => by simp at h
theorem AllV.snoc {l : Launch} {cl : List vw_C} {G : List Nat → State → Prop} {MT : List MI} {CT : List CK} {K : CK} {mi : MI} (h : AllV l cl G MT CT) (hm : MT[kMi K]? = some mi) (hK : Valid l TB cl G mi K) : AllV l cl G MT (CT ++ [K]) := fun k K' mi' hk hmi => by
  by_cases hl : k < CT.length
  · rw [List.getElem?_append_left hl] at hk
    exact h k K' mi' hk hmi
  · rw [List.getElem?_append_right (by omega)] at hk
    have hz : k - CT.length < 1 := (List.getElem?_eq_some_iff.mp hk).1
    rw [show k - CT.length = 0 by omega] at hk
    cases hk
    rw [hm] at hmi
    cases hmi
    exact hK
def runB (ty : Nat → Nat → FieldType) (cl : List vw_C) (MT : List MI) (CT : List CK) (P : PD) (fuel : Nat) (tp : List TI) (tps : List (List TI)) : Bool :=
  (exec ty cl MT CT P none fuel (false, entCf (pdK P)) tp).isSome && (decide (tps.length = (pdCuts P).length) && ((pdCuts P).zip tps).all (fun q => (exec ty cl MT CT P (some q.1.2.2) fuel (true, cfOf q.1) q.2).isSome))
theorem runB_ok {ty : Nat → Nat → FieldType} {cl : List vw_C} {MT : List MI} {CT : List CK} {P : PD} {fuel : Nat} {tp : List TI} {tps : List (List TI)} (h : runB ty cl MT CT P fuel tp tps = true) :
    (∃ n tp tp', exec ty cl MT CT P none n (false, entCf (pdK P)) tp = some tp') ∧ ∀ q ∈ pdCuts P, ∃ n tp tp', exec ty cl MT CT P (some q.2.2) n (true, cfOf q) tp = some tp' := by
  unfold runB at h
  simp only [Bool.and_eq_true, decide_eq_true_eq] at h
  obtain ⟨h1, h2, h3⟩ := h
  obtain ⟨t, ht⟩ := Option.isSome_iff_exists.mp h1
  refine ⟨⟨fuel, tp, t, ht⟩, fun q hq => ?_⟩
  obtain ⟨k, hk⟩ := List.getElem?_of_mem hq
  have hkl := (List.getElem?_eq_some_iff.mp hk).1
  have hz : ((pdCuts P).zip tps)[k]? = some (q, tps[k]'(by omega)) := by
    rw [List.getElem?_zip_eq_some]
    exact ⟨hk, List.getElem?_eq_getElem _⟩
  obtain ⟨t', ht'⟩ := Option.isSome_iff_exists.mp (List.all_eq_true.mp h3 _ (List.mem_of_getElem? hz))
  exact ⟨fuel, _, t', ht'⟩
def okB (P : PD) (mi : MI) : Bool := plainName mi.1.cls && (decide (pdNL P = mi.2.2.1) && (decide (pdRet P = mi.2.2.2.1) && ((!pdIni P || decide (mi.1.name = "<init>")) && (okSl (pdNL P) (kA (pdK P)) && P.1.all (deB mi.2.1)))))
/-- one more contract -/
theorem next_ok {l : Launch} {cl : List vw_C} {G : List Nat → State → Prop} {ty : Nat → Nat → FieldType} {MT : List MI} {CT : List CK} {P : PD} {mi : MI} (hGc : GCl G) (hMT : MTok TB MT) (hcl : CLok TB cl ty) (hai : Cond.arrayClass .int ∈ TB ∧ Cond.arrayClass .byte ∈ TB)
    (hA : AllV l cl G MT CT) (hm : MT[kMi (pdK P)]? = some mi) (hC : CTab cl G MT mi.1.cls (pdFL P) (pdLD P) (pdLL P) (pdML P) (pdNW P) (pdOI P) (pdMA P)) (hok : okB P mi = true) {fuel : Nat} {tp : List TI} {tps : List (List TI)} (hr : runB ty cl MT CT P fuel tp tps = true) : AllV l cl G MT (CT ++ [pdK P]) := by
  unfold okB at hok
  simp only [Bool.and_eq_true, decide_eq_true_eq, Bool.or_eq_true, Bool.not_eq_true'] at hok
  obtain ⟨k1, k2, k3, k4, k5, k6⟩ := hok
  obtain ⟨r1, r2⟩ := runB_ok hr
  obtain ⟨c1, c2, c3, c4, c5, c7, c6⟩ := hC
  refine hA.snoc hm (method_ok k1 ⟨hGc, TB_ok, hMT, c1, hcl, c2, c3, c4, c5, hai, c6, c7, deB_ok k6⟩ k2 k3 (fun h => ?_) k5 hA r1 r2)
  rcases k4 with k4 | k4
  · rw [h] at k4; cases k4
  · exact k4
