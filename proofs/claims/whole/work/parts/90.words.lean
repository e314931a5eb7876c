/-! the makings, walked by program -/
abbrev zA (cI : ClassId) (n : Nat) : va_E := .inl (cI, n, .inl (fun _ => 0))
theorem mf1 : parseFieldDescriptor "[I" = some (.array .int) := by decide +kernel
theorem mf2 : parseFieldDescriptor "[[I" = some (.array (.array .int)) := by decide +kernel
theorem mf3 : parseFieldDescriptor "LNineLands$Tape;" = some (.object "NineLands$Tape") := by decide +kernel
theorem mf4 : parseFieldDescriptor "LNineLands$Book;" = some (.object "NineLands$Book") := by decide +kernel
theorem mf5 : parseFieldDescriptor "LNineLands$Sums;" = some (.object "NineLands$Sums") := by decide +kernel
theorem lw9 (i c : Nat) : (9 : Int32) * nI i + nI c = nI (9 * i + c) := by rw [L9, pk_mul, nI_add]
def lawIt : Nat → Nat → (Nat → Int32) → Nat → Int32
  | 0, _, f => f
  | k + 1, i, f => lawIt k (i + 1) (upd (upd (upd (upd (upd f (9 * i + 0) 120) (9 * i + 1) 780) (9 * i + 2) 10) (9 * i + 4) 9999) (9 * i + 8) 15)
theorem bn0 : ∀ j, j < 5 → defaultValue (tyX0 j) = vp_V [.null, .null, .null, .null, .int 0] j := fun j hj => by
  rcases (show j = 0 ∨ j = 1 ∨ j = 2 ∨ j = 3 ∨ j = 4 by omega) with rfl | rfl | rfl | rfl | rfl <;> rfl
theorem bn1 : ∀ j, j < 10 → defaultValue (tyX1 j) = vp_V [.null, .null, .null, .null, .null, .null, .null, .int 0, .int 0, .int 0] j := fun j hj => by
  rcases (show j = 0 ∨ j = 1 ∨ j = 2 ∨ j = 3 ∨ j = 4 ∨ j = 5 ∨ j = 6 ∨ j = 7 ∨ j = 8 ∨ j = 9 by omega) with rfl | rfl | rfl | rfl | rfl | rfl | rfl | rfl | rfl | rfl <;> rfl
theorem bn2 : ∀ j, j < 3 → defaultValue (tyX2 j) = vp_V [.null, .int 0, .int 0] j := fun j hj => by
  rcases (show j = 0 ∨ j = 1 ∨ j = 2 by omega) with rfl | rfl | rfl <;> rfl
theorem bn3 : ∀ j, j < 8 → defaultValue (tyX3 j) = vp_V [.null, .null, .null, .null, .null, .null, .int 0, .int 0] j := fun j hj => by
  rcases (show j = 0 ∨ j = 1 ∨ j = 2 ∨ j = 3 ∨ j = 4 ∨ j = 5 ∨ j = 6 ∨ j = 7 by omega) with rfl | rfl | rfl | rfl | rfl | rfl | rfl | rfl <;> rfl
theorem bn4 : ∀ j, j < 30 → defaultValue (tyX4 j) = vp_V [.null, .null, .null, .null, .null, .null, .null, .null, .null, .null, .null, .null, .null, .int 0, .int 0, .int 0, .int 0, .null, .null, .null, .null, .null, .null, .int 0, .null, .int 0, .null, .int 0, .int 0, .int 0] j := fun j hj => by
  rcases (show j = 0 ∨ j = 1 ∨ j = 2 ∨ j = 3 ∨ j = 4 ∨ j = 5 ∨ j = 6 ∨ j = 7 ∨ j = 8 ∨ j = 9 ∨ j = 10 ∨ j = 11 ∨ j = 12 ∨ j = 13 ∨ j = 14 ∨ j = 15 ∨ j = 16 ∨ j = 17 ∨ j = 18 ∨ j = 19 ∨ j = 20 ∨ j = 21 ∨ j = 22 ∨ j = 23 ∨ j = 24 ∨ j = 25 ∨ j = 26 ∨ j = 27 ∨ j = 28 ∨ j = 29 by omega) with rfl | rfl | rfl | rfl | rfl | rfl | rfl | rfl | rfl | rfl | rfl | rfl | rfl | rfl | rfl | rfl | rfl | rfl | rfl | rfl | rfl | rfl | rfl | rfl | rfl | rfl | rfl | rfl | rfl | rfl <;> rfl
theorem u60 : Cond.initialized "NineLands$Tape" ∈ tW := List.mem_filter.mpr ⟨List.mem_of_getElem? (i := 60) (by decide +kernel), by decide +kernel⟩
theorem u61 : Cond.initialized "NineLands$Book" ∈ tW := List.mem_filter.mpr ⟨List.mem_of_getElem? (i := 61) (by decide +kernel), by decide +kernel⟩
theorem u62 : Cond.initialized "java/lang/System" ∈ tW := List.mem_filter.mpr ⟨List.mem_of_getElem? (i := 62) (by decide +kernel), by decide +kernel⟩
theorem u63 : Cond.initialized "NineLands$Sums" ∈ tW := List.mem_filter.mpr ⟨List.mem_of_getElem? (i := 63) (by decide +kernel), by decide +kernel⟩
theorem u77 : Cond.methodLink "NineLands" 1 objectInit ∈ tW := List.mem_filter.mpr ⟨List.mem_of_getElem? (i := 77) (by decide +kernel), by decide +kernel⟩
theorem u78 : Cond.instanceMethod objectInit ∈ tW := List.mem_filter.mpr ⟨List.mem_of_getElem? (i := 78) (by decide +kernel), by decide +kernel⟩
theorem u79 : Cond.code objectInit ⟨#[0xb1]⟩ 1 none ∈ tW := List.mem_filter.mpr ⟨List.mem_of_getElem? (i := 79) (by decide +kernel), by decide +kernel⟩
theorem u80 : Cond.classLink "NineLands" 7 "NineLands$Tape" ∈ tW := List.mem_filter.mpr ⟨List.mem_of_getElem? (i := 80) (by decide +kernel), by decide +kernel⟩
theorem u81 : Cond.instantiable "NineLands$Tape" 3 ∈ tW := List.mem_filter.mpr ⟨List.mem_of_getElem? (i := 81) (by decide +kernel), by decide +kernel⟩
theorem u82 : Cond.methodLinkNest "NineLands" 9 yX2_init "NineLands" ∈ nW := List.mem_filter.mpr ⟨List.mem_of_getElem? (i := 82) (by decide +kernel), by decide +kernel⟩
theorem u83 : Cond.instanceMethod yX2_init ∈ tW := List.mem_filter.mpr ⟨List.mem_of_getElem? (i := 83) (by decide +kernel), by decide +kernel⟩
theorem u84 : Cond.code yX2_init cX2_init 1 none ∈ tW := List.mem_filter.mpr ⟨List.mem_of_getElem? (i := 84) (by decide +kernel), by decide +kernel⟩
theorem u85 : Cond.methodLink "NineLands$Tape" 3 objectInit ∈ tW := List.mem_filter.mpr ⟨List.mem_of_getElem? (i := 85) (by decide +kernel), by decide +kernel⟩
theorem u86 : Cond.fieldLink "NineLands$Tape" 9 "NineLands$Tape" "bytes" "[I" ∈ tW := List.mem_filter.mpr ⟨List.mem_of_getElem? (i := 86) (by decide +kernel), by decide +kernel⟩
theorem u88 : Cond.fieldLink "NineLands$Tape" 15 "NineLands$Tape" "length" "I" ∈ tW := List.mem_filter.mpr ⟨List.mem_of_getElem? (i := 88) (by decide +kernel), by decide +kernel⟩
theorem u90 : Cond.fieldLink "NineLands$Tape" 19 "NineLands$Tape" "place" "I" ∈ tW := List.mem_filter.mpr ⟨List.mem_of_getElem? (i := 90) (by decide +kernel), by decide +kernel⟩
theorem u99 : Cond.arrayClass .int ∈ tW := List.mem_filter.mpr ⟨List.mem_of_getElem? (i := 99) (by decide +kernel), by decide +kernel⟩
theorem u100 : Cond.classLink "NineLands" 16 "NineLands$Book" ∈ tW := List.mem_filter.mpr ⟨List.mem_of_getElem? (i := 100) (by decide +kernel), by decide +kernel⟩
theorem u101 : Cond.instantiable "NineLands$Book" 5 ∈ tW := List.mem_filter.mpr ⟨List.mem_of_getElem? (i := 101) (by decide +kernel), by decide +kernel⟩
theorem u102 : Cond.methodLinkNest "NineLands" 18 yX0_init "NineLands" ∈ nW := List.mem_filter.mpr ⟨List.mem_of_getElem? (i := 102) (by decide +kernel), by decide +kernel⟩
theorem u103 : Cond.instanceMethod yX0_init ∈ tW := List.mem_filter.mpr ⟨List.mem_of_getElem? (i := 103) (by decide +kernel), by decide +kernel⟩
theorem u104 : Cond.code yX0_init cX0_init 2 none ∈ tW := List.mem_filter.mpr ⟨List.mem_of_getElem? (i := 104) (by decide +kernel), by decide +kernel⟩
theorem u105 : Cond.methodLink "NineLands$Book" 3 objectInit ∈ tW := List.mem_filter.mpr ⟨List.mem_of_getElem? (i := 105) (by decide +kernel), by decide +kernel⟩
theorem u106 : Cond.classLink "NineLands$Book" 9 "[[I" ∈ tW := List.mem_filter.mpr ⟨List.mem_of_getElem? (i := 106) (by decide +kernel), by decide +kernel⟩
theorem u108 : Cond.fieldLinkNest "NineLands$Book" 30 "NineLands" "LAW_AT_FIRST" "[I" "NineLands" ∈ nW := List.mem_filter.mpr ⟨List.mem_of_getElem? (i := 108) (by decide +kernel), by decide +kernel⟩
theorem u110 : Cond.methodLink "NineLands$Book" 33 arraycopyName ∈ tW := List.mem_filter.mpr ⟨List.mem_of_getElem? (i := 110) (by decide +kernel), by decide +kernel⟩
theorem u111 : Cond.static arraycopyName ∈ tW := List.mem_filter.mpr ⟨List.mem_of_getElem? (i := 111) (by decide +kernel), by decide +kernel⟩
theorem u112 : Cond.native arraycopyName ∈ tW := List.mem_filter.mpr ⟨List.mem_of_getElem? (i := 112) (by decide +kernel), by decide +kernel⟩
theorem u113 : Cond.fieldLink "NineLands$Book" 11 "NineLands$Book" "spells" "[[I" ∈ tW := List.mem_filter.mpr ⟨List.mem_of_getElem? (i := 113) (by decide +kernel), by decide +kernel⟩
theorem u115 : Cond.fieldLink "NineLands$Book" 16 "NineLands$Book" "laws" "[[I" ∈ tW := List.mem_filter.mpr ⟨List.mem_of_getElem? (i := 115) (by decide +kernel), by decide +kernel⟩
theorem u118 : Cond.fieldLink "NineLands$Book" 19 "NineLands$Book" "kinds" "[I" ∈ tW := List.mem_filter.mpr ⟨List.mem_of_getElem? (i := 118) (by decide +kernel), by decide +kernel⟩
theorem u121 : Cond.fieldLink "NineLands$Book" 23 "NineLands$Book" "pacts" "[[I" ∈ tW := List.mem_filter.mpr ⟨List.mem_of_getElem? (i := 121) (by decide +kernel), by decide +kernel⟩
theorem u124 : Cond.fieldLink "NineLands$Book" 26 "NineLands$Book" "written" "I" ∈ tW := List.mem_filter.mpr ⟨List.mem_of_getElem? (i := 124) (by decide +kernel), by decide +kernel⟩
theorem u137 : Cond.classLink "NineLands" 26 "NineLands$Sums" ∈ tW := List.mem_filter.mpr ⟨List.mem_of_getElem? (i := 137) (by decide +kernel), by decide +kernel⟩
theorem u138 : Cond.instantiable "NineLands$Sums" 10 ∈ tW := List.mem_filter.mpr ⟨List.mem_of_getElem? (i := 138) (by decide +kernel), by decide +kernel⟩
theorem u139 : Cond.methodLinkNest "NineLands" 28 yX1_init "NineLands" ∈ nW := List.mem_filter.mpr ⟨List.mem_of_getElem? (i := 139) (by decide +kernel), by decide +kernel⟩
theorem u140 : Cond.instanceMethod yX1_init ∈ tW := List.mem_filter.mpr ⟨List.mem_of_getElem? (i := 140) (by decide +kernel), by decide +kernel⟩
theorem u141 : Cond.code yX1_init cX1_init 1 none ∈ tW := List.mem_filter.mpr ⟨List.mem_of_getElem? (i := 141) (by decide +kernel), by decide +kernel⟩
theorem u142 : Cond.methodLink "NineLands$Sums" 3 objectInit ∈ tW := List.mem_filter.mpr ⟨List.mem_of_getElem? (i := 142) (by decide +kernel), by decide +kernel⟩
theorem u143 : Cond.fieldLink "NineLands$Sums" 9 "NineLands$Sums" "payHere" "[I" ∈ tW := List.mem_filter.mpr ⟨List.mem_of_getElem? (i := 143) (by decide +kernel), by decide +kernel⟩
theorem u144 : Cond.fieldLink "NineLands$Sums" 15 "NineLands$Sums" "months" "[I" ∈ tW := List.mem_filter.mpr ⟨List.mem_of_getElem? (i := 144) (by decide +kernel), by decide +kernel⟩
theorem u146 : Cond.fieldLink "NineLands$Sums" 18 "NineLands$Sums" "pays" "[I" ∈ tW := List.mem_filter.mpr ⟨List.mem_of_getElem? (i := 146) (by decide +kernel), by decide +kernel⟩
theorem u148 : Cond.fieldLink "NineLands$Sums" 21 "NineLands$Sums" "putMonths" "[I" ∈ tW := List.mem_filter.mpr ⟨List.mem_of_getElem? (i := 148) (by decide +kernel), by decide +kernel⟩
theorem u150 : Cond.fieldLink "NineLands$Sums" 24 "NineLands$Sums" "putPays" "[I" ∈ tW := List.mem_filter.mpr ⟨List.mem_of_getElem? (i := 150) (by decide +kernel), by decide +kernel⟩
theorem u152 : Cond.fieldLink "NineLands$Sums" 27 "NineLands$Sums" "whole" "[I" ∈ tW := List.mem_filter.mpr ⟨List.mem_of_getElem? (i := 152) (by decide +kernel), by decide +kernel⟩
theorem u153 : Cond.fieldLink "NineLands$Sums" 30 "NineLands$Sums" "owes" "[I" ∈ tW := List.mem_filter.mpr ⟨List.mem_of_getElem? (i := 153) (by decide +kernel), by decide +kernel⟩
theorem u155 : Cond.fieldLink "NineLands$Sums" 33 "NineLands$Sums" "overMonths" "I" ∈ tW := List.mem_filter.mpr ⟨List.mem_of_getElem? (i := 155) (by decide +kernel), by decide +kernel⟩
theorem u157 : Cond.fieldLink "NineLands$Sums" 37 "NineLands$Sums" "firstOver" "I" ∈ tW := List.mem_filter.mpr ⟨List.mem_of_getElem? (i := 157) (by decide +kernel), by decide +kernel⟩
theorem u159 : Cond.fieldLink "NineLands$Sums" 40 "NineLands$Sums" "isAtRest" "Z" ∈ tW := List.mem_filter.mpr ⟨List.mem_of_getElem? (i := 159) (by decide +kernel), by decide +kernel⟩
theorem u182 : Cond.fieldLink "NineLands" 10 "NineLands" "tape" "LNineLands$Tape;" ∈ tW := List.mem_filter.mpr ⟨List.mem_of_getElem? (i := 182) (by decide +kernel), by decide +kernel⟩
theorem u183 : Cond.fieldLink "NineLands" 19 "NineLands" "book" "LNineLands$Book;" ∈ tW := List.mem_filter.mpr ⟨List.mem_of_getElem? (i := 183) (by decide +kernel), by decide +kernel⟩
theorem u184 : Cond.fieldLink "NineLands" 23 "NineLands" "kept" "LNineLands$Book;" ∈ tW := List.mem_filter.mpr ⟨List.mem_of_getElem? (i := 184) (by decide +kernel), by decide +kernel⟩
theorem u185 : Cond.fieldLink "NineLands" 29 "NineLands" "sums" "LNineLands$Sums;" ∈ tW := List.mem_filter.mpr ⟨List.mem_of_getElem? (i := 185) (by decide +kernel), by decide +kernel⟩
theorem u186 : Cond.fieldLink "NineLands" 33 "NineLands" "row" "[I" ∈ tW := List.mem_filter.mpr ⟨List.mem_of_getElem? (i := 186) (by decide +kernel), by decide +kernel⟩
theorem u187 : Cond.fieldLink "NineLands" 37 "NineLands" "refused" "[I" ∈ tW := List.mem_filter.mpr ⟨List.mem_of_getElem? (i := 187) (by decide +kernel), by decide +kernel⟩
theorem u188 : Cond.fieldLink "NineLands" 40 "NineLands" "rowLength" "I" ∈ tW := List.mem_filter.mpr ⟨List.mem_of_getElem? (i := 188) (by decide +kernel), by decide +kernel⟩
theorem u189 : Cond.fieldLink "NineLands" 44 "NineLands" "hasKept" "Z" ∈ tW := List.mem_filter.mpr ⟨List.mem_of_getElem? (i := 189) (by decide +kernel), by decide +kernel⟩
theorem u589 : Cond.methodLink "NineLandsModel" 1 objectInit ∈ tW := List.mem_filter.mpr ⟨List.mem_of_getElem? (i := 589) (by decide +kernel), by decide +kernel⟩
theorem u590 : Cond.fieldLink "NineLandsModel" 7 "NineLandsModel" "refused" "[I" ∈ tW := List.mem_filter.mpr ⟨List.mem_of_getElem? (i := 590) (by decide +kernel), by decide +kernel⟩
theorem u591 : Cond.fieldLink "NineLandsModel" 13 "NineLandsModel" "tape" "[I" ∈ tW := List.mem_filter.mpr ⟨List.mem_of_getElem? (i := 591) (by decide +kernel), by decide +kernel⟩
theorem u592 : Cond.fieldLink "NineLandsModel" 16 "NineLandsModel" "landOf" "[I" ∈ tW := List.mem_filter.mpr ⟨List.mem_of_getElem? (i := 592) (by decide +kernel), by decide +kernel⟩
theorem u593 : Cond.fieldLink "NineLandsModel" 19 "NineLandsModel" "work" "[I" ∈ tW := List.mem_filter.mpr ⟨List.mem_of_getElem? (i := 593) (by decide +kernel), by decide +kernel⟩
theorem u594 : Cond.fieldLink "NineLandsModel" 22 "NineLandsModel" "from" "[I" ∈ tW := List.mem_filter.mpr ⟨List.mem_of_getElem? (i := 594) (by decide +kernel), by decide +kernel⟩
theorem u595 : Cond.fieldLink "NineLandsModel" 25 "NineLandsModel" "till" "[I" ∈ tW := List.mem_filter.mpr ⟨List.mem_of_getElem? (i := 595) (by decide +kernel), by decide +kernel⟩
theorem u596 : Cond.fieldLink "NineLandsModel" 28 "NineLandsModel" "pay" "[I" ∈ tW := List.mem_filter.mpr ⟨List.mem_of_getElem? (i := 596) (by decide +kernel), by decide +kernel⟩
theorem u597 : Cond.fieldLink "NineLandsModel" 31 "NineLandsModel" "paidIn" "[I" ∈ tW := List.mem_filter.mpr ⟨List.mem_of_getElem? (i := 597) (by decide +kernel), by decide +kernel⟩
theorem u598 : Cond.fieldLink "NineLandsModel" 34 "NineLandsModel" "shown" "[I" ∈ tW := List.mem_filter.mpr ⟨List.mem_of_getElem? (i := 598) (by decide +kernel), by decide +kernel⟩
theorem u599 : Cond.fieldLink "NineLandsModel" 37 "NineLandsModel" "law" "[I" ∈ tW := List.mem_filter.mpr ⟨List.mem_of_getElem? (i := 599) (by decide +kernel), by decide +kernel⟩
theorem u600 : Cond.fieldLink "NineLandsModel" 40 "NineLandsModel" "kind" "[I" ∈ tW := List.mem_filter.mpr ⟨List.mem_of_getElem? (i := 600) (by decide +kernel), by decide +kernel⟩
theorem u601 : Cond.fieldLink "NineLandsModel" 43 "NineLandsModel" "pact" "[I" ∈ tW := List.mem_filter.mpr ⟨List.mem_of_getElem? (i := 601) (by decide +kernel), by decide +kernel⟩
theorem u602 : Cond.fieldLink "NineLandsModel" 46 "NineLandsModel" "top" "[I" ∈ tW := List.mem_filter.mpr ⟨List.mem_of_getElem? (i := 602) (by decide +kernel), by decide +kernel⟩
theorem u606 : Cond.fieldLink "NineLandsModel" 49 "NineLandsModel" "without" "I" ∈ tW := List.mem_filter.mpr ⟨List.mem_of_getElem? (i := 606) (by decide +kernel), by decide +kernel⟩
theorem u607 : Cond.fieldLink "NineLandsModel" 53 "NineLandsModel" "month" "[I" ∈ tW := List.mem_filter.mpr ⟨List.mem_of_getElem? (i := 607) (by decide +kernel), by decide +kernel⟩
theorem u608 : Cond.fieldLink "NineLandsModel" 56 "NineLandsModel" "many" "[I" ∈ tW := List.mem_filter.mpr ⟨List.mem_of_getElem? (i := 608) (by decide +kernel), by decide +kernel⟩
theorem u609 : Cond.fieldLink "NineLandsModel" 59 "NineLandsModel" "pays" "[I" ∈ tW := List.mem_filter.mpr ⟨List.mem_of_getElem? (i := 609) (by decide +kernel), by decide +kernel⟩
theorem u610 : Cond.fieldLink "NineLandsModel" 62 "NineLandsModel" "putMany" "[I" ∈ tW := List.mem_filter.mpr ⟨List.mem_of_getElem? (i := 610) (by decide +kernel), by decide +kernel⟩
theorem u611 : Cond.fieldLink "NineLandsModel" 65 "NineLandsModel" "putPays" "[I" ∈ tW := List.mem_filter.mpr ⟨List.mem_of_getElem? (i := 611) (by decide +kernel), by decide +kernel⟩
theorem u612 : Cond.fieldLink "NineLandsModel" 68 "NineLandsModel" "owes" "[I" ∈ tW := List.mem_filter.mpr ⟨List.mem_of_getElem? (i := 612) (by decide +kernel), by decide +kernel⟩
theorem u614 : Cond.fieldLink "NineLandsModel" 71 "NineLandsModel" "row" "[I" ∈ tW := List.mem_filter.mpr ⟨List.mem_of_getElem? (i := 614) (by decide +kernel), by decide +kernel⟩
theorem u616 : Cond.fieldLink "NineLandsModel" 74 "NineLandsModel" "kept" "[I" ∈ tW := List.mem_filter.mpr ⟨List.mem_of_getElem? (i := 616) (by decide +kernel), by decide +kernel⟩
