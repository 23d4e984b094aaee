/-! the links of each class (by program) -/
def FLX0 : List ((Nat × Nat × Nat × Bool) × Nat) := [((7, 0, 0, true), 187), ((13, 0, 1, true), 188), ((16, 0, 2, true), 189), ((19, 0, 3, true), 190), ((22, 0, 4, true), 191), ((25, 0, 5, true), 192), ((51, 0, 6, false), 193)]
def LDX0 : List ((Nat × Int) × Nat) := []
def LLX0 : List ((Nat × Int) × Nat) := []
def MLX0 : List ((Nat × Nat × Nat) × List Nat) := [((28, 204, 0), [618, 564]), ((48, 8, 0), [619, 620]), ((34, 2, 1), [606, 607, 608]), ((44, 9, 1), [614, 616, 12]), ((55, 105, 1), [845, 816, 817]), ((61, 103, 1), [846, 811, 812])]
def NWX0 : List ((Nat × Nat) × List Nat) := []
def MAX0 : List ((Nat × Nat) × List Nat) := [((38, 1), [675, 523, 95, 524])]
abbrev mMLX0 : List (Nat × Nat × Nat) := (MLX0.map fun q => q.1)
theorem CTX0 {G : List Nat → State → Prop} : CTab nCl G nMT RX0 (FLX0.map fun q => q.1) (LDX0.map fun q => q.1) (LLX0.map fun q => q.1) mMLX0 (NWX0.map fun q => q.1) (some 1) (MAX0.map fun q => q.1) := by
  refine ⟨MLok_of (by decide +kernel), FLok_of (by decide +kernel), LDok_of (by decide +kernel), LLok_of (by decide +kernel), NWok_of (by decide +kernel), MAok_of (by decide +kernel), fun ix h => ?_⟩
  cases h
  exact ⟨inT_ok (i := 186) (by decide +kernel), inT_ok (i := 123) (by decide +kernel), inT_ok (i := 124) (by decide +kernel)⟩

def FLX1 : List ((Nat × Nat × Nat × Bool) × Nat) := [((11, 1, 0, true), 327), ((15, 1, 1, true), 328), ((18, 1, 2, true), 329)]
def LDX1 : List ((Nat × Int) × Nat) := []
def LLX1 : List ((Nat × Int) × Nat) := []
def MLX1 : List ((Nat × Nat × Nat) × List Nat) := [((21, 12, 0), [733, 734]), ((60, 204, 0), [732, 564]), ((25, 106, 1), [903, 904, 905]), ((30, 92, 1), [907, 724, 725]), ((36, 14, 1), [908, 910, 36]), ((40, 15, 1), [912, 914, 37]), ((44, 103, 1), [918, 811, 812]), ((48, 93, 1), [916, 865, 866]), ((51, 96, 1), [917, 833, 834]), ((66, 98, 1), [736, 737, 738]), ((70, 17, 1), [740, 742, 23]), ((73, 18, 1), [744, 746, 24])]
def NWX1 : List ((Nat × Nat) × List Nat) := []
def MAX1 : List ((Nat × Nat) × List Nat) := [((55, 1), [731, 523, 95, 524])]
abbrev mMLX1 : List (Nat × Nat × Nat) := (MLX1.map fun q => q.1)
theorem CTX1 {G : List Nat → State → Prop} : CTab nCl G nMT RX1 (FLX1.map fun q => q.1) (LDX1.map fun q => q.1) (LLX1.map fun q => q.1) mMLX1 (NWX1.map fun q => q.1) (some 3) (MAX1.map fun q => q.1) := by
  refine ⟨MLok_of (by decide +kernel), FLok_of (by decide +kernel), LDok_of (by decide +kernel), LLok_of (by decide +kernel), NWok_of (by decide +kernel), MAok_of (by decide +kernel), fun ix h => ?_⟩
  cases h
  exact ⟨inT_ok (i := 326) (by decide +kernel), inT_ok (i := 123) (by decide +kernel), inT_ok (i := 124) (by decide +kernel)⟩

def FLX2 : List ((Nat × Nat × Nat × Bool) × Nat) := []
def LDX2 : List ((Nat × Int) × Nat) := []
def LLX2 : List ((Nat × Int) × Nat) := []
def MLX2 : List ((Nat × Nat × Nat) × List Nat) := [((13, 3, 1), [602, 603, 604]), ((19, 7, 1), [610, 611, 612])]
def NWX2 : List ((Nat × Nat) × List Nat) := []
def MAX2 : List ((Nat × Nat) × List Nat) := []
abbrev mMLX2 : List (Nat × Nat × Nat) := (MLX2.map fun q => q.1)
theorem CTX2 {G : List Nat → State → Prop} : CTab nCl G nMT RX2 (FLX2.map fun q => q.1) (LDX2.map fun q => q.1) (LLX2.map fun q => q.1) mMLX2 (NWX2.map fun q => q.1) none (MAX2.map fun q => q.1) := by
  refine ⟨MLok_of (by decide +kernel), FLok_of (by decide +kernel), LDok_of (by decide +kernel), LLok_of (by decide +kernel), NWok_of (by decide +kernel), MAok_of (by decide +kernel), fun ix h => ?_⟩
  cases h

def FLX3 : List ((Nat × Nat × Nat × Bool) × Nat) := [((9, 2, 0, true), 244), ((15, 2, 1, true), 245), ((18, 2, 2, true), 246), ((26, 2, 3, true), 247), ((32, 2, 4, true), 248), ((36, 2, 5, true), 249), ((39, 2, 6, true), 250), ((42, 2, 7, true), 251), ((45, 2, 8, true), 252), ((48, 2, 9, true), 253), ((51, 2, 10, true), 254), ((54, 2, 11, true), 255), ((180, 2, 13, false), 257), ((184, 2, 14, false), 258), ((187, 2, 12, false), 256)]
def LDX3 : List ((Nat × Int) × Nat) := [((109, 65535), 598)]
def LLX3 : List ((Nat × Int) × Nat) := []
def MLX3 : List ((Nat × Nat × Nat) × List Nat) := [((23, 57, 2), [218, 219]), ((85, 26, 0), [599, 600]), ((120, 32, 0), [705, 706]), ((124, 34, 0), [642, 643]), ((127, 33, 0), [645, 646]), ((131, 35, 0), [648, 649]), ((142, 204, 0), [626, 564]), ((148, 37, 0), [639, 640]), ((200, 19, 0), [700, 701]), ((203, 20, 0), [712, 713]), ((57, 61, 1), [554, 555, 556]), ((61, 29, 1), [578, 580, 10]), ((65, 92, 1), [723, 724, 725]), ((71, 91, 1), [582, 583, 584]), ((74, 95, 1), [586, 587, 588]), ((77, 97, 1), [590, 591, 592]), ((81, 30, 1), [594, 596, 11]), ((89, 36, 1), [622, 624, 13]), ((92, 41, 1), [667, 669, 17]), ((95, 44, 1), [688, 690, 20]), ((98, 45, 1), [696, 698, 21]), ((102, 31, 1), [715, 717, 22]), ((110, 58, 1), [627, 628, 629]), ((113, 59, 1), [635, 636, 637]), ((117, 60, 1), [631, 632, 633]), ((134, 5, 1), [708, 709, 710]), ((139, 4, 1), [676, 677, 678]), ((151, 38, 1), [651, 653, 14]), ((155, 7, 1), [666, 611, 612]), ((164, 39, 1), [656, 658, 15]), ((167, 40, 1), [660, 662, 16]), ((171, 2, 1), [665, 607, 608]), ((177, 6, 1), [671, 672, 673]), ((190, 42, 1), [680, 682, 18]), ((193, 43, 1), [684, 686, 19]), ((197, 1, 1), [692, 693, 694])]
def NWX3 : List ((Nat × Nat) × List Nat) := [((21, 4), [216, 217, 101])]
def MAX3 : List ((Nat × Nat) × List Nat) := [((159, 1), [655, 523, 95, 524]), ((174, 0), [664, 389, 95, 390])]
abbrev mMLX3 : List (Nat × Nat × Nat) := ((MLX3.map fun q => q.1) ++ [(105, 124, 3)])
theorem CTX3 {G : List Nat → State → Prop} (hn0 : ∀ (ads : List Nat) (U : State), G ads U → va_Nw (Cond.methodLinkNest RX3 105 ⟨"FlateFilter", "byteSum", "([BI)J"⟩ "FlateFilter") U) : CTab nCl G nMT RX3 (FLX3.map fun q => q.1) (LDX3.map fun q => q.1) (LLX3.map fun q => q.1) mMLX3 (NWX3.map fun q => q.1) (some 3) (MAX3.map fun q => q.1) := by
  refine ⟨MLok_app (MLok_of (by decide +kernel)) (fun q hq => by
      rcases List.mem_cons.mp hq with rfl | hq
      · exact ⟨_, rfl, inT_ok (i := 720) (by decide +kernel), hn0⟩
      · cases hq), FLok_of (by decide +kernel), LDok_of (by decide +kernel), LLok_of (by decide +kernel), NWok_of (by decide +kernel), MAok_of (by decide +kernel), fun ix h => ?_⟩
  cases h
  exact ⟨inT_ok (i := 215) (by decide +kernel), inT_ok (i := 123) (by decide +kernel), inT_ok (i := 124) (by decide +kernel)⟩

def FLX4 : List ((Nat × Nat × Nat × Bool) × Nat) := [((9, 3, 0, true), 296), ((15, 3, 1, true), 297), ((18, 3, 2, true), 298), ((23, 3, 3, true), 299), ((27, 3, 6, false), 302), ((31, 3, 7, false), 303), ((117, 3, 4, false), 300), ((121, 3, 5, false), 301)]
def LDX4 : List ((Nat × Int) × Nat) := [((85, 65535), 831)]
def LLX4 : List ((Nat × Int) × Nat) := []
def MLX4 : List ((Nat × Nat × Nat) × List Nat) := [((69, 26, 0), [836, 600]), ((98, 22, 0), [851, 852]), ((101, 24, 0), [854, 855]), ((104, 25, 0), [857, 858]), ((111, 23, 0), [861, 862]), ((130, 19, 0), [877, 701]), ((146, 20, 0), [885, 713]), ((149, 21, 0), [886, 887]), ((35, 48, 1), [802, 804, 27]), ((39, 105, 1), [815, 816, 817]), ((45, 50, 1), [819, 821, 28]), ((48, 49, 1), [827, 829, 30]), ((52, 94, 1), [893, 894, 895]), ((58, 104, 1), [806, 807, 808]), ((62, 103, 1), [810, 811, 812]), ((66, 51, 1), [823, 825, 29]), ((73, 52, 1), [837, 839, 31]), ((76, 54, 1), [868, 870, 33]), ((79, 55, 1), [880, 882, 34]), ((82, 56, 1), [889, 891, 35]), ((86, 96, 1), [832, 833, 834]), ((89, 10, 1), [841, 842, 843]), ((95, 53, 1), [847, 849, 32]), ((108, 92, 1), [860, 724, 725]), ((114, 93, 1), [864, 865, 866]), ((124, 101, 1), [872, 873, 874]), ((127, 1, 1), [876, 693, 694]), ((133, 2, 1), [878, 607, 608]), ((137, 7, 1), [879, 611, 612])]
def NWX4 : List ((Nat × Nat) × List Nat) := []
def MAX4 : List ((Nat × Nat) × List Nat) := [((141, 1), [884, 523, 95, 524])]
abbrev mMLX4 : List (Nat × Nat × Nat) := (MLX4.map fun q => q.1)
theorem CTX4 {G : List Nat → State → Prop} : CTab nCl G nMT RX4 (FLX4.map fun q => q.1) (LDX4.map fun q => q.1) (LLX4.map fun q => q.1) mMLX4 (NWX4.map fun q => q.1) (some 3) (MAX4.map fun q => q.1) := by
  refine ⟨MLok_of (by decide +kernel), FLok_of (by decide +kernel), LDok_of (by decide +kernel), LLok_of (by decide +kernel), NWok_of (by decide +kernel), MAok_of (by decide +kernel), fun ix h => ?_⟩
  cases h
  exact ⟨inT_ok (i := 295) (by decide +kernel), inT_ok (i := 123) (by decide +kernel), inT_ok (i := 124) (by decide +kernel)⟩

def FLX5 : List ((Nat × Nat × Nat × Bool) × Nat) := [((7, 4, 0, true), 222), ((13, 4, 1, true), 223), ((16, 4, 2, true), 224), ((19, 4, 3, true), 225), ((22, 4, 4, false), 226), ((40, 4, 5, false), 227), ((43, 4, 6, false), 228)]
def LDX5 : List ((Nat × Int) × Nat) := []
def LLX5 : List ((Nat × Int) × Nat) := []
def MLX5 : List ((Nat × Nat × Nat) × List Nat) := [((50, 204, 0), [563, 564]), ((32, 63, 1), [559, 561, 6]), ((36, 64, 1), [566, 568, 7]), ((46, 62, 1), [574, 576, 9]), ((58, 65, 1), [570, 572, 8])]
def NWX5 : List ((Nat × Nat) × List Nat) := []
def MAX5 : List ((Nat × Nat) × List Nat) := [((26, 1), [558, 523, 95, 524])]
abbrev mMLX5 : List (Nat × Nat × Nat) := (MLX5.map fun q => q.1)
theorem CTX5 {G : List Nat → State → Prop} : CTab nCl G nMT RX5 (FLX5.map fun q => q.1) (LDX5.map fun q => q.1) (LLX5.map fun q => q.1) mMLX5 (NWX5.map fun q => q.1) (some 1) (MAX5.map fun q => q.1) := by
  refine ⟨MLok_of (by decide +kernel), FLok_of (by decide +kernel), LDok_of (by decide +kernel), LLok_of (by decide +kernel), NWok_of (by decide +kernel), MAok_of (by decide +kernel), fun ix h => ?_⟩
  cases h
  exact ⟨inT_ok (i := 221) (by decide +kernel), inT_ok (i := 123) (by decide +kernel), inT_ok (i := 124) (by decide +kernel)⟩

def FLX6 : List ((Nat × Nat × Nat × Bool) × Nat) := [((9, 5, 0, false), 138), ((13, 5, 1, false), 139), ((16, 5, 2, false), 140)]
def LDX6 : List ((Nat × Int) × Nat) := []
def LLX6 : List ((Nat × Int) × Nat) := []
def MLX6 : List ((Nat × Nat × Nat) × List Nat) := [((39, 74, 0), [537, 538]), ((43, 75, 0), [540, 541]), ((28, 71, 1), [525, 527, 3]), ((32, 73, 1), [533, 535, 5]), ((36, 72, 1), [529, 531, 4])]
def NWX6 : List ((Nat × Nat) × List Nat) := []
def MAX6 : List ((Nat × Nat) × List Nat) := [((19, 0), [388, 389, 95, 390]), ((25, 1), [522, 523, 95, 524]), ((47, 2), [543, 544, 95, 545])]
abbrev mMLX6 : List (Nat × Nat × Nat) := (MLX6.map fun q => q.1)
theorem CTX6 {G : List Nat → State → Prop} : CTab nCl G nMT RX6 (FLX6.map fun q => q.1) (LDX6.map fun q => q.1) (LLX6.map fun q => q.1) mMLX6 (NWX6.map fun q => q.1) (some 1) (MAX6.map fun q => q.1) := by
  refine ⟨MLok_of (by decide +kernel), FLok_of (by decide +kernel), LDok_of (by decide +kernel), LLok_of (by decide +kernel), NWok_of (by decide +kernel), MAok_of (by decide +kernel), fun ix h => ?_⟩
  cases h
  exact ⟨inT_ok (i := 137) (by decide +kernel), inT_ok (i := 123) (by decide +kernel), inT_ok (i := 124) (by decide +kernel)⟩

def FLX7 : List ((Nat × Nat × Nat × Bool) × Nat) := []
def LDX7 : List ((Nat × Int) × Nat) := []
def LLX7 : List ((Nat × Int) × Nat) := []
def MLX7 : List ((Nat × Nat × Nat) × List Nat) := [((15, 77, 0), [752, 753]), ((27, 78, 0), [756, 757]), ((21, 95, 1), [755, 587, 588]), ((30, 104, 1), [922, 807, 808]), ((36, 96, 1), [923, 833, 834]), ((40, 103, 1), [924, 811, 812])]
def NWX7 : List ((Nat × Nat) × List Nat) := []
def MAX7 : List ((Nat × Nat) × List Nat) := [((9, 1), [751, 523, 95, 524])]
abbrev mMLX7 : List (Nat × Nat × Nat) := (MLX7.map fun q => q.1)
theorem CTX7 {G : List Nat → State → Prop} : CTab nCl G nMT RX7 (FLX7.map fun q => q.1) (LDX7.map fun q => q.1) (LLX7.map fun q => q.1) mMLX7 (NWX7.map fun q => q.1) none (MAX7.map fun q => q.1) := by
  refine ⟨MLok_of (by decide +kernel), FLok_of (by decide +kernel), LDok_of (by decide +kernel), LLok_of (by decide +kernel), NWok_of (by decide +kernel), MAok_of (by decide +kernel), fun ix h => ?_⟩
  cases h

def FLX8 : List ((Nat × Nat × Nat × Bool) × Nat) := []
def LDX8 : List ((Nat × Int) × Nat) := []
def LLX8 : List ((Nat × Int) × Nat) := [((44, 256), 770), ((50, 85), 774), ((60, 33), 941), ((62, 117), 940), ((64, 4294967295), 945)]
def MLX8 : List ((Nat × Nat × Nat) × List Nat) := [((9, 81, 0), [762, 763]), ((27, 82, 0), [929, 930]), ((46, 85, 0), [771, 772]), ((52, 87, 0), [937, 938]), ((56, 88, 0), [942, 943]), ((15, 95, 1), [765, 587, 588]), ((21, 104, 1), [928, 807, 808]), ((30, 103, 1), [932, 811, 812]), ((34, 96, 1), [933, 833, 834])]
def NWX8 : List ((Nat × Nat) × List Nat) := []
def MAX8 : List ((Nat × Nat) × List Nat) := [((38, 1), [769, 523, 95, 524])]
abbrev mMLX8 : List (Nat × Nat × Nat) := (MLX8.map fun q => q.1)
theorem CTX8 {G : List Nat → State → Prop} : CTab nCl G nMT RX8 (FLX8.map fun q => q.1) (LDX8.map fun q => q.1) (LLX8.map fun q => q.1) mMLX8 (NWX8.map fun q => q.1) none (MAX8.map fun q => q.1) := by
  refine ⟨MLok_of (by decide +kernel), FLok_of (by decide +kernel), LDok_of (by decide +kernel), LLok_of (by decide +kernel), NWok_of (by decide +kernel), MAok_of (by decide +kernel), fun ix h => ?_⟩
  cases h

def FLX9 : List ((Nat × Nat × Nat × Bool) × Nat) := [((7, 6, 0, false), 174), ((13, 6, 1, false), 175)]
def LDX9 : List ((Nat × Int) × Nat) := []
def LLX9 : List ((Nat × Int) × Nat) := []
def MLX9 : List ((Nat × Nat × Nat) × List Nat) := [((17, 92, 1), [897, 724, 725])]
def NWX9 : List ((Nat × Nat) × List Nat) := []
def MAX9 : List ((Nat × Nat) × List Nat) := []
abbrev mMLX9 : List (Nat × Nat × Nat) := ((MLX9.map fun q => q.1) ++ [(21, 124, 3)])
theorem CTX9 {G : List Nat → State → Prop} (hn0 : ∀ (ads : List Nat) (U : State), G ads U → va_Nw (Cond.methodLinkNest RX9 21 ⟨"FlateFilter", "byteSum", "([BI)J"⟩ "FlateFilter") U) : CTab nCl G nMT RX9 (FLX9.map fun q => q.1) (LDX9.map fun q => q.1) (LLX9.map fun q => q.1) mMLX9 (NWX9.map fun q => q.1) (some 1) (MAX9.map fun q => q.1) := by
  refine ⟨MLok_app (MLok_of (by decide +kernel)) (fun q hq => by
      rcases List.mem_cons.mp hq with rfl | hq
      · exact ⟨_, rfl, inT_ok (i := 720) (by decide +kernel), hn0⟩
      · cases hq), FLok_of (by decide +kernel), LDok_of (by decide +kernel), LLok_of (by decide +kernel), NWok_of (by decide +kernel), MAok_of (by decide +kernel), fun ix h => ?_⟩
  cases h
  exact ⟨inT_ok (i := 173) (by decide +kernel), inT_ok (i := 123) (by decide +kernel), inT_ok (i := 124) (by decide +kernel)⟩

def FLX10 : List ((Nat × Nat × Nat × Bool) × Nat) := [((7, 7, 0, false), 155), ((13, 7, 3, false), 158), ((23, 7, 1, false), 156), ((26, 7, 2, false), 157)]
def LDX10 : List ((Nat × Int) × Nat) := []
def LLX10 : List ((Nat × Int) × Nat) := []
def MLX10 : List ((Nat × Nat × Nat) × List Nat) := []
def NWX10 : List ((Nat × Nat) × List Nat) := []
def MAX10 : List ((Nat × Nat) × List Nat) := [((17, 1), [793, 523, 95, 524]), ((29, 0), [814, 389, 95, 390])]
abbrev mMLX10 : List (Nat × Nat × Nat) := (MLX10.map fun q => q.1)
theorem CTX10 {G : List Nat → State → Prop} : CTab nCl G nMT RX10 (FLX10.map fun q => q.1) (LDX10.map fun q => q.1) (LLX10.map fun q => q.1) mMLX10 (NWX10.map fun q => q.1) (some 1) (MAX10.map fun q => q.1) := by
  refine ⟨MLok_of (by decide +kernel), FLok_of (by decide +kernel), LDok_of (by decide +kernel), LLok_of (by decide +kernel), NWok_of (by decide +kernel), MAok_of (by decide +kernel), fun ix h => ?_⟩
  cases h
  exact ⟨inT_ok (i := 154) (by decide +kernel), inT_ok (i := 123) (by decide +kernel), inT_ok (i := 124) (by decide +kernel)⟩

def FLX11 : List ((Nat × Nat × Nat × Bool) × Nat) := [((20, 8, 0, true), 337), ((24, 8, 1, true), 338), ((28, 8, 3, false), 340), ((31, 8, 5, false), 342), ((34, 8, 6, true), 343), ((40, 8, 8, true), 345), ((47, 8, 9, true), 346), ((54, 8, 10, true), 347), ((70, 8, 11, true), 348), ((77, 8, 12, true), 349), ((84, 8, 13, true), 350), ((88, 8, 2, false), 339), ((133, 8, 7, false), 344), ((151, 8, 4, false), 341)]
def LDX11 : List ((Nat × Int) × Nat) := [((163, 32768), 395), ((228, 65521), 722), ((229, (-306674912)), 996)]
def LLX11 : List ((Nat × Int) × Nat) := [((9, 4000), 125), ((230, 4294967295), 997)]
def MLX11 : List ((Nat × Nat × Nat) × List Nat) := [((39, 66, 2), [134, 135]), ((46, 99, 2), [151, 152]), ((53, 89, 2), [170, 171]), ((62, 0, 2), [183, 184]), ((67, 27, 2), [212, 213]), ((76, 46, 2), [292, 293]), ((83, 11, 2), [323, 324]), ((98, 118, 0), [486, 487]), ((166, 124, 0), [992, 720]), ((170, 125, 0), [993, 994]), ((195, 76, 0), [748, 749]), ((198, 80, 0), [759, 760]), ((203, 84, 0), [766, 767]), ((213, 79, 0), [919, 920]), ((214, 83, 0), [925, 926]), ((217, 86, 0), [934, 935]), ((109, 120, 1), [506, 508, 1]), ((115, 92, 1), [775, 724, 725]), ((119, 122, 1), [777, 779, 25]), ((123, 100, 1), [789, 790, 791]), ((127, 90, 1), [546, 547, 548]), ((130, 121, 1), [794, 796, 26]), ((137, 119, 1), [510, 512, 2]), ((140, 70, 1), [946, 947, 948]), ((144, 101, 1), [950, 873, 874]), ((148, 102, 1), [951, 952, 953]), ((159, 68, 1), [384, 385, 386]), ((176, 123, 1), [1005, 1007, 38]), ((181, 67, 1), [514, 515, 516]), ((184, 69, 1), [518, 519, 520]), ((188, 28, 1), [550, 551, 552]), ((192, 16, 1), [727, 728, 729]), ((206, 47, 1), [798, 799, 800]), ((210, 13, 1), [899, 900, 901])]
def NWX11 : List ((Nat × Nat) × List Nat) := [((37, 5), [132, 133, 96]), ((44, 7), [149, 150, 97]), ((51, 6), [168, 169, 98]), ((58, 0), [181, 182, 99]), ((65, 2), [210, 211, 100]), ((74, 3), [290, 291, 102]), ((81, 1), [321, 322, 103])]
def MAX11 : List ((Nat × Nat) × List Nat) := [((11, 4), [126, 127, 95, 128]), ((17, 3), [129, 130, 95, 131]), ((173, 1), [781, 523, 95, 524]), ((220, 0), [1009, 389, 95, 390]), ((222, 5), [1010, 1012, 1011, 116])]
abbrev mMLX11 : List (Nat × Nat × Nat) := (MLX11.map fun q => q.1)
theorem CTX11 {G : List Nat → State → Prop} : CTab nCl G nMT RX11 (FLX11.map fun q => q.1) (LDX11.map fun q => q.1) (LLX11.map fun q => q.1) mMLX11 (NWX11.map fun q => q.1) (some 3) (MAX11.map fun q => q.1) := by
  refine ⟨MLok_of (by decide +kernel), FLok_of (by decide +kernel), LDok_of (by decide +kernel), LLok_of (by decide +kernel), NWok_of (by decide +kernel), MAok_of (by decide +kernel), fun ix h => ?_⟩
  cases h
  exact ⟨inT_ok (i := 122) (by decide +kernel), inT_ok (i := 123) (by decide +kernel), inT_ok (i := 124) (by decide +kernel)⟩

def FLX12 : List ((Nat × Nat × Nat × Bool) × Nat) := [((7, 9, 3, true), 1031), ((13, 9, 5, true), 1033), ((16, 9, 12, true), 1040), ((19, 9, 14, true), 1042), ((22, 9, 16, true), 1044), ((25, 9, 21, true), 1049), ((28, 9, 22, true), 1050), ((31, 9, 25, true), 1053), ((34, 9, 26, true), 1054), ((37, 9, 27, true), 1055), ((40, 9, 28, true), 1056), ((43, 9, 29, true), 1057), ((46, 9, 30, true), 1058), ((49, 9, 31, true), 1059), ((52, 9, 33, true), 1061), ((55, 9, 34, true), 1062), ((58, 9, 38, true), 1066), ((61, 9, 39, true), 1067), ((66, 9, 1, true), 1029), ((70, 9, 0, false), 1028), ((73, 9, 2, false), 1030), ((76, 9, 8, false), 1036), ((79, 9, 9, false), 1037), ((82, 9, 10, false), 1038), ((96, 9, 11, false), 1039), ((99, 9, 7, false), 1035), ((105, 9, 13, false), 1041), ((108, 9, 17, false), 1045), ((112, 9, 18, false), 1046), ((115, 9, 19, false), 1047), ((144, 9, 23, false), 1051), ((147, 9, 24, false), 1052), ((150, 9, 20, false), 1048), ((171, 9, 32, false), 1060), ((232, 9, 15, false), 1043), ((275, 9, 4, false), 1032), ((285, 9, 35, false), 1063), ((288, 9, 37, false), 1065), ((291, 9, 36, false), 1064), ((334, 9, 6, false), 1034)]
def LDX12 : List ((Nat × Int) × Nat) := [((213, 65535), 1208)]
def LLX12 : List ((Nat × Int) × Nat) := [((64, 4000), 1027), ((196, 65521), 1289), ((198, 65536), 1290), ((200, 4294967295), 1447), ((202, 2), 1448), ((204, 3988292384), 1449), ((227, 255), 1291), ((248, 256), 1322), ((250, 52200625), 1323), ((252, 33), 1324), ((254, 85), 1325), ((301, 32768), 1390), ((350, 4294967296), 1422), ((352, 84), 1423)]
def MLX12 : List ((Nat × Nat × Nat) × List Nat) := [((89, 129, 0), [1177, 1178]), ((132, 143, 0), [1243, 1244]), ((135, 145, 0), [1252, 1253]), ((138, 144, 0), [1240, 1241]), ((141, 146, 0), [1249, 1250]), ((162, 147, 0), [1237, 1238]), ((168, 148, 0), [1246, 1247]), ((190, 153, 0), [1283, 1284]), ((223, 159, 0), [1286, 1287]), ((235, 163, 0), [1296, 1297]), ((245, 168, 0), [1315, 1316]), ((343, 192, 0), [1411, 1412]), ((372, 160, 0), [1444, 1445]), ((85, 128, 1), [1165, 1167, 41]), ((92, 130, 1), [1173, 1175, 43]), ((102, 131, 1), [1169, 1171, 42]), ((118, 133, 1), [1192, 1194, 47]), ((122, 134, 1), [1200, 1202, 49]), ((125, 140, 1), [1263, 1265, 60]), ((128, 139, 1), [1221, 1223, 54]), ((153, 149, 1), [1213, 1215, 52]), ((156, 136, 1), [1233, 1235, 57]), ((159, 151, 1), [1229, 1231, 56]), ((165, 135, 1), [1196, 1198, 48]), ((174, 155, 1), [1271, 1273, 62]), ((178, 154, 1), [1275, 1277, 63]), ((181, 141, 1), [1259, 1261, 59]), ((184, 156, 1), [1267, 1269, 61]), ((187, 157, 1), [1279, 1281, 64]), ((193, 152, 1), [1225, 1227, 55]), ((206, 138, 1), [1188, 1190, 46]), ((210, 137, 1), [1204, 1206, 50]), ((214, 150, 1), [1209, 1211, 51]), ((217, 142, 1), [1217, 1219, 53]), ((220, 158, 1), [1255, 1257, 58]), ((229, 161, 1), [1184, 1186, 45]), ((238, 164, 1), [1299, 1301, 66]), ((242, 166, 1), [1307, 1309, 68]), ((256, 132, 1), [1161, 1163, 40]), ((260, 162, 1), [1180, 1182, 44]), ((263, 165, 1), [1292, 1294, 65]), ((266, 167, 1), [1303, 1305, 67]), ((269, 169, 1), [1311, 1313, 69]), ((272, 170, 1), [1318, 1320, 70]), ((278, 171, 1), [1157, 1159, 39]), ((282, 172, 1), [1326, 1328, 71]), ((294, 175, 1), [1342, 1344, 73]), ((298, 176, 1), [1346, 1348, 74]), ((303, 182, 1), [1386, 1388, 84]), ((306, 179, 1), [1358, 1360, 77]), ((309, 177, 1), [1350, 1352, 75]), ((312, 180, 1), [1362, 1364, 78]), ((315, 181, 1), [1370, 1372, 80]), ((318, 186, 1), [1374, 1376, 81]), ((321, 183, 1), [1382, 1384, 83]), ((325, 185, 1), [1366, 1368, 79]), ((328, 184, 1), [1354, 1356, 76]), ((331, 187, 1), [1378, 1380, 82]), ((337, 178, 1), [1395, 1397, 86]), ((340, 190, 1), [1403, 1405, 88]), ((346, 194, 1), [1418, 1420, 91]), ((354, 188, 1), [1338, 1340, 72]), ((357, 189, 1), [1391, 1393, 85]), ((360, 191, 1), [1399, 1401, 87]), ((363, 193, 1), [1407, 1409, 89]), ((366, 195, 1), [1414, 1416, 90]), ((369, 196, 1), [1424, 1426, 92])]
def NWX12 : List ((Nat × Nat) × List Nat) := []
def MAX12 : List ((Nat × Nat) × List Nat) := []
abbrev mMLX12 : List (Nat × Nat × Nat) := (MLX12.map fun q => q.1)
theorem CTX12 {G : List Nat → State → Prop} : CTab nCl G nMT RX12 (FLX12.map fun q => q.1) (LDX12.map fun q => q.1) (LLX12.map fun q => q.1) mMLX12 (NWX12.map fun q => q.1) (some 1) (MAX12.map fun q => q.1) := by
  refine ⟨MLok_of (by decide +kernel), FLok_of (by decide +kernel), LDok_of (by decide +kernel), LLok_of (by decide +kernel), NWok_of (by decide +kernel), MAok_of (by decide +kernel), fun ix h => ?_⟩
  cases h
  exact ⟨inT_ok (i := 1026) (by decide +kernel), inT_ok (i := 123) (by decide +kernel), inT_ok (i := 124) (by decide +kernel)⟩

def FLJ7 : List ((Nat × Nat × Nat × Bool) × Nat) := []
def LDJ7 : List ((Nat × Int) × Nat) := []
def LLJ7 : List ((Nat × Int) × Nat) := []
def MLJ7 : List ((Nat × Nat × Nat) × List Nat) := []
def NWJ7 : List ((Nat × Nat) × List Nat) := []
def MAJ7 : List ((Nat × Nat) × List Nat) := []
abbrev mMLJ7 : List (Nat × Nat × Nat) := (MLJ7.map fun q => q.1)
theorem CTJ7 {G : List Nat → State → Prop} : CTab nCl G nMT RJ7 (FLJ7.map fun q => q.1) (LDJ7.map fun q => q.1) (LLJ7.map fun q => q.1) mMLJ7 (NWJ7.map fun q => q.1) none (MAJ7.map fun q => q.1) := by
  refine ⟨MLok_of (by decide +kernel), FLok_of (by decide +kernel), LDok_of (by decide +kernel), LLok_of (by decide +kernel), NWok_of (by decide +kernel), MAok_of (by decide +kernel), fun ix h => ?_⟩
  cases h
