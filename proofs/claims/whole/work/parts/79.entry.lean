/-! what holds at the law's entry: outside, classes, addresses -/
abbrev nFl : List Cond := flatC (Jvm.Cond.and given_1 narrow_1)
def nsA : List Nat := [19, 60, 33, 74, 5]
def nsL : List Nat := [20, 61, 34, 75, 6]
def nsE : List Nat := [21, 62, 35, 76, 7]
def nsW : List Nat := [713, 725, 723, 727, 232]
theorem ns_a : ∀ i, i < 5 → nFl[nsA.getD i 0]? = some (Cond.arrayOf (.static "QuayBerths" (qsn i) "[I") .int) := by decide +kernel
theorem ns_l : ∀ i, i < 5 → nFl[nsL.getD i 0]? = some (Cond.eq (.length (.static "QuayBerths" (qsn i) "[I")) (.int (Int32.ofNat (qsl i).length))) := by decide +kernel
theorem ns_e : ∀ i, i < 5 → ∀ j, j < (qsl i).length → nFl[nsE.getD i 0 + j]? = some (Cond.eq (.elem (.static "QuayBerths" (qsn i) "[I") (.int (Int32.ofNat j))) (.int (Int32.ofInt ((qsl i).getD j 0)))) := by decide +kernel
theorem ns_w : ∀ i, i < 5 → lw_tbl[nsW.getD i 0]? = some (Cond.laysStatic "QuayBerths" (qsn i) "[I") := by decide +kernel
def nkX : List Nat := [100, 108, 116, 126, 140, 152, 165, 182, 198, 214, 232]
def nkC : List Nat := [101, 109, 117, 127, 141, 153, 166, 183, 199, 215, 233]
def nkA : List Nat := [102, 110, 118, 128, 142, 154, 167, 184, 200, 216, 234]
def nkL : List Nat := [103, 111, 119, 129, 143, 155, 168, 185, 201, 217, 235]
def nkE : List Nat := [104, 112, 120, 130, 144, 156, 169, 186, 202, 218, 236]
def nkN : List (List Nat) := [[], [115], [124, 125], [137, 138, 139], [148, 149, 150, 151], [160, 161, 162, 163, 164], [176, 177, 178, 179, 180, 181], [191, 192, 193, 194, 195, 196, 197], [206, 207, 208, 209, 210, 211, 212, 213], [223, 224, 225, 226, 227, 228, 229, 230, 231], [240, 241, 242, 243, 244, 245, 246, 247, 248, 249]]
def nkR : List Nat := [621, 622, 623, 624, 625, 626, 627, 628, 629, 630, 631]
def nkI : List Nat := [125, 127, 129, 131, 133, 135, 137, 139, 141, 143, 145]
def nkT (i : Nat) : Term := .string "QuayBerths$Reader" (nkI.getD i 0)
theorem nk_x : ∀ i, i < 11 → nFl[nkX.getD i 0]? = some (Cond.exactly (nkT i) "java/lang/String") := by decide +kernel
theorem nk_c : ∀ i, i < 11 → nFl[nkC.getD i 0]? = some (Cond.eq (.field (nkT i) "java/lang/String" "coder" "B") (.int 0)) := by decide +kernel
theorem nk_a : ∀ i, i < 11 → nFl[nkA.getD i 0]? = some (Cond.arrayOf (.field (nkT i) "java/lang/String" "value" "[B") .byte) := by decide +kernel
theorem nk_l : ∀ i, i < 11 → nFl[nkL.getD i 0]? = some (Cond.eq (.length (.field (nkT i) "java/lang/String" "value" "[B")) (.int (Int32.ofNat (qslen.getD i 0)))) := by decide +kernel
theorem nk_e : ∀ i, i < 11 → ∀ j, j < qslen.getD i 0 → nFl[nkE.getD i 0 + j]? = some (Cond.eq (.elem (.field (nkT i) "java/lang/String" "value" "[B") (.int (Int32.ofNat j))) (.int ((qsbyt.getD i []).getD j 0))) := by decide +kernel
theorem nk_n : ∀ j, j < 11 → ∀ i, i < j → nFl[(nkN.getD j []).getD i 0]? = some (Cond.not (Cond.eq (nkT i) (nkT j))) := by decide +kernel
theorem nk_r : ∀ i, i < 11 → lw_tbl[nkR.getD i 0]? = (qskl[i]?).map (fun q => Cond.stringRef "QuayBerths$Reader" q.1 q.2) := by decide +kernel
theorem nk_i : ∀ i, i < 11 → (qskl[i]?).map (fun q => q.1) = some (nkI.getD i 0) := by decide +kernel
theorem nk_small : ∀ i, i < 11 → qslen.getD i 0 < 2 ^ 31 := by decide +kernel
theorem nz_c : nFl[13]? = some (Cond.eq (.static "java/lang/String" "COMPACT_STRINGS" "Z") (.int 1)) := by decide +kernel
theorem nz_f : nFl[14]? = some (Cond.isRef (.static "jdk/internal/util/Preconditions" "SIOOBE_FORMATTER" "Ljava/util/function/BiFunction;")) := by decide +kernel
theorem nl_cs : Cond.laysStatic "java/lang/String" "COMPACT_STRINGS" "Z" ∈ lw_tbl := List.mem_of_getElem? (i := 645) (by decide +kernel)
theorem nl_fm : Cond.laysStatic "jdk/internal/util/Preconditions" "SIOOBE_FORMATTER" "Ljava/util/function/BiFunction;" ∈ lw_tbl := List.mem_of_getElem? (i := 661) (by decide +kernel)
theorem nl_q : Cond.initialized "QuayBerths" ∈ lw_tbl := List.mem_of_getElem? (i := 125) (by decide +kernel)
theorem nl_s : Cond.initialized "java/lang/String" ∈ lw_tbl := List.mem_of_getElem? (i := 141) (by decide +kernel)
theorem nl_p : Cond.initialized "jdk/internal/util/Preconditions" ∈ lw_tbl := List.mem_of_getElem? (i := 143) (by decide +kernel)
theorem nl_ao : Cond.arrayOver (.array .int) ∈ lw_tbl := List.mem_of_getElem? (i := 501) (by decide +kernel)
theorem nl_f0 : Cond.fieldLinkNest "QuayBerths$Reader" 105 "QuayBerths" "LEAST_NUMBER" "[I" "QuayBerths" ∈ lw_tbl := List.mem_of_getElem? (i := 722) (by decide +kernel)
theorem nl_f1 : Cond.fieldLinkNest "QuayBerths$Reader" 75 "QuayBerths" "NUMBERS_OF" "[I" "QuayBerths" ∈ lw_tbl := List.mem_of_getElem? (i := 712) (by decide +kernel)
theorem nl_f2 : Cond.fieldLinkNest "QuayBerths$Reader" 95 "QuayBerths" "GREATEST_NUMBER" "[I" "QuayBerths" ∈ lw_tbl := List.mem_of_getElem? (i := 726) (by decide +kernel)
theorem nl_f3 : Cond.fieldLinkNest "QuayBerths$Reader" 98 "QuayBerths" "FIRST_NUMBER_OF" "[I" "QuayBerths" ∈ lw_tbl := List.mem_of_getElem? (i := 724) (by decide +kernel)
theorem nl_f4 : Cond.fieldLinkNest "QuayBerths$Told" 42 "QuayBerths" "WITHOUT_A_LINE" "[I" "QuayBerths" ∈ lw_tbl := List.mem_of_getElem? (i := 231) (by decide +kernel)
theorem nl_m0 : Cond.methodLinkNest RX11 15 yX8_init "QuayBerths" ∈ lw_tbl := List.mem_of_getElem? (i := 156) (by decide +kernel)
theorem nl_m1 : Cond.methodLinkNest RX11 98 yX2_init "QuayBerths" ∈ lw_tbl := List.mem_of_getElem? (i := 496) (by decide +kernel)
theorem nl_m2 : Cond.methodLinkNest RX11 105 yX10_init "QuayBerths" ∈ lw_tbl := List.mem_of_getElem? (i := 523) (by decide +kernel)
theorem q_tbl {w : Cond} (h : w ∈ qwords) : w ∈ lw_tbl := (List.mem_filter.mp h).1
