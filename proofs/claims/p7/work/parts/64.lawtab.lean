abbrev rmT : Room := { frames := 1, cells := 0, slots := 0, locals := 26 }
theorem sM_table {l : Launch} (v : Int32) {D : va_G} {cy : Nat → ClassId} {ads : List Nat} {H : Heap} {a : Nat} (h : Lies D nCl cy iMs ads H) (ha : ads[0]? = some a) : Met l miMt.1 (wsM TB miMt) rmT (stP D cy gM ads H [.ref a, .int v]) (stQ D cy iMs ads H (fun r => r = some (.int (tabA v)))) 0 0 (stA ads H.size) := by
  obtain ⟨T, hT, ws, hI, hP, hD⟩ := h
  have hads := hI.ads
  have key : Met l yMt (wsM TB miMt) rmT (va_Pc [.ref a, .int v] (fun U => U.heap.size = H.size ∧ va_P D nCl ws U.heap ∧ va_K D nCl (tysOf cy) U ∧ va_D (fun _ => True) ws)) (va_Qi (fun r (_ : Unit) => r = tabA v) (fun _ t => Lies D nCl cy [T] ads t.heap) (va_A ws H.size)) 0 0 (va_A ws H.size) := by
    rcases List.mem_cons.mp hT with rfl | hT
    · exact tabM_met (l := l) hI rfl rfl rfl rfl rfl (by decide +kernel) ha
    rcases List.mem_cons.mp hT with rfl | hT
    · exact tabM_met (l := l) hI rfl rfl rfl rfl rfl (by decide +kernel) ha
    obtain rfl := List.mem_singleton.mp hT
    exact tabM_met (l := l) hI rfl rfl rfl rfl rfl (by decide +kernel) ha
  refine key.imp (fun a U h => ?_) (fun a st o t h hq => ?_) (fun q h => ?_)
  · obtain ⟨h0, h1, h2, -⟩ := h
    exact ⟨h0, by rw [h1], by rw [h1]; exact hP, h2, hD⟩
  · obtain ⟨⟨r, u, hr, hp, T', hT', ws', hI', hP', hD'⟩, hF1, hF2⟩ := hq
    refine ⟨⟨some (.int r), hr, by rw [hp], T', ?_, ws', hI', hP', hD'⟩, hF1, fun q h1 h2 => hF2 q h1 fun z => h2 ?_⟩
    · rw [List.mem_singleton.mp hT']; exact hT
    · have := va_A.of.mp z
      rwa [hads] at this
  · have := va_A.of.mp h
    rwa [hads] at this
