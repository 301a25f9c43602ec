theorem q_mem {i : Nat} {w : Cond} (h : lw_tbl[i]? = some w) : w ∈ lw_tbl := List.mem_of_getElem? h
def q_GT : List Cond := lw_tbl.filter goodWord
theorem q_inT {w : Cond} (h : w ∈ tables_1) (hg : goodWord w = true) : w ∈ q_GT := List.mem_filter.mpr ⟨List.mem_append_right _ h, hg⟩
theorem q_in1 {i : Nat} {w : Cond} (h : tables_1_1[i]? = some w) (hg : goodWord w = true) : w ∈ q_GT := q_inT (by unfold tables_1; exact List.mem_append_left _ (List.mem_of_getElem? h)) hg
theorem q_mm1 {i : Nat} {w : Cond} (h : tables_1_1[i]? = some w) : w ∈ lw_tbl := List.mem_append_right _ (by unfold tables_1; exact List.mem_append_left _ (List.mem_of_getElem? h))
theorem q_in2 {i : Nat} {w : Cond} (h : tables_1_2[i]? = some w) (hg : goodWord w = true) : w ∈ q_GT := q_inT (by unfold tables_1; exact List.mem_append_right _ (List.mem_append_left _ (List.mem_of_getElem? h))) hg
theorem q_mm2 {i : Nat} {w : Cond} (h : tables_1_2[i]? = some w) : w ∈ lw_tbl := List.mem_append_right _ (by unfold tables_1; exact List.mem_append_right _ (List.mem_append_left _ (List.mem_of_getElem? h)))
theorem q_in3 {i : Nat} {w : Cond} (h : tables_1_3[i]? = some w) (hg : goodWord w = true) : w ∈ q_GT := q_inT (by unfold tables_1; exact List.mem_append_right _ (List.mem_append_right _ (List.mem_append_left _ (List.mem_of_getElem? h)))) hg
theorem q_mm3 {i : Nat} {w : Cond} (h : tables_1_3[i]? = some w) : w ∈ lw_tbl := List.mem_append_right _ (by unfold tables_1; exact List.mem_append_right _ (List.mem_append_right _ (List.mem_append_left _ (List.mem_of_getElem? h))))
theorem q_in4 {i : Nat} {w : Cond} (h : tables_1_4[i]? = some w) (hg : goodWord w = true) : w ∈ q_GT := q_inT (by unfold tables_1; exact List.mem_append_right _ (List.mem_append_right _ (List.mem_append_right _ (List.mem_append_left _ (List.mem_of_getElem? h))))) hg
theorem q_mm4 {i : Nat} {w : Cond} (h : tables_1_4[i]? = some w) : w ∈ lw_tbl := List.mem_append_right _ (by unfold tables_1; exact List.mem_append_right _ (List.mem_append_right _ (List.mem_append_right _ (List.mem_append_left _ (List.mem_of_getElem? h)))))
theorem q_in5 {i : Nat} {w : Cond} (h : tables_1_5[i]? = some w) (hg : goodWord w = true) : w ∈ q_GT := q_inT (by unfold tables_1; exact List.mem_append_right _ (List.mem_append_right _ (List.mem_append_right _ (List.mem_append_right _ (List.mem_append_left _ (List.mem_of_getElem? h)))))) hg
theorem q_mm5 {i : Nat} {w : Cond} (h : tables_1_5[i]? = some w) : w ∈ lw_tbl := List.mem_append_right _ (by unfold tables_1; exact List.mem_append_right _ (List.mem_append_right _ (List.mem_append_right _ (List.mem_append_right _ (List.mem_append_left _ (List.mem_of_getElem? h))))))
theorem q_in6 {i : Nat} {w : Cond} (h : tables_1_6[i]? = some w) (hg : goodWord w = true) : w ∈ q_GT := q_inT (by unfold tables_1; exact List.mem_append_right _ (List.mem_append_right _ (List.mem_append_right _ (List.mem_append_right _ (List.mem_append_right _ (List.mem_append_left _ (List.mem_of_getElem? h))))))) hg
theorem q_mm6 {i : Nat} {w : Cond} (h : tables_1_6[i]? = some w) : w ∈ lw_tbl := List.mem_append_right _ (by unfold tables_1; exact List.mem_append_right _ (List.mem_append_right _ (List.mem_append_right _ (List.mem_append_right _ (List.mem_append_right _ (List.mem_append_left _ (List.mem_of_getElem? h)))))))
theorem q_in7 {i : Nat} {w : Cond} (h : tables_1_7[i]? = some w) (hg : goodWord w = true) : w ∈ q_GT := q_inT (by unfold tables_1; exact List.mem_append_right _ (List.mem_append_right _ (List.mem_append_right _ (List.mem_append_right _ (List.mem_append_right _ (List.mem_append_right _ (List.mem_append_left _ (List.mem_of_getElem? h)))))))) hg
theorem q_mm7 {i : Nat} {w : Cond} (h : tables_1_7[i]? = some w) : w ∈ lw_tbl := List.mem_append_right _ (by unfold tables_1; exact List.mem_append_right _ (List.mem_append_right _ (List.mem_append_right _ (List.mem_append_right _ (List.mem_append_right _ (List.mem_append_right _ (List.mem_append_left _ (List.mem_of_getElem? h))))))))
theorem q_in8 {i : Nat} {w : Cond} (h : tables_1_8[i]? = some w) (hg : goodWord w = true) : w ∈ q_GT := q_inT (by unfold tables_1; exact List.mem_append_right _ (List.mem_append_right _ (List.mem_append_right _ (List.mem_append_right _ (List.mem_append_right _ (List.mem_append_right _ (List.mem_append_right _ (List.mem_of_getElem? h)))))))) hg
theorem q_mm8 {i : Nat} {w : Cond} (h : tables_1_8[i]? = some w) : w ∈ lw_tbl := List.mem_append_right _ (by unfold tables_1; exact List.mem_append_right _ (List.mem_append_right _ (List.mem_append_right _ (List.mem_append_right _ (List.mem_append_right _ (List.mem_append_right _ (List.mem_append_right _ (List.mem_of_getElem? h))))))))
theorem q_inP1 {i : Nat} {q : MethodName × Nat} (h : lw_privs_1[i]? = some q) : Cond.selects q.1.cls q.1 q.1 ∈ q_GT := List.mem_filter.mpr ⟨List.mem_append_left _ (List.mem_map.mpr ⟨q, (by unfold lw_privs; exact List.mem_append_left _ (List.mem_of_getElem? h)), rfl⟩), rfl⟩
theorem q_inP2 {i : Nat} {q : MethodName × Nat} (h : lw_privs_2[i]? = some q) : Cond.selects q.1.cls q.1 q.1 ∈ q_GT := List.mem_filter.mpr ⟨List.mem_append_left _ (List.mem_map.mpr ⟨q, (by unfold lw_privs; exact List.mem_append_right _ (List.mem_append_left _ (List.mem_of_getElem? h))), rfl⟩), rfl⟩
theorem q_inP3 {i : Nat} {q : MethodName × Nat} (h : lw_privs_3[i]? = some q) : Cond.selects q.1.cls q.1 q.1 ∈ q_GT := List.mem_filter.mpr ⟨List.mem_append_left _ (List.mem_map.mpr ⟨q, (by unfold lw_privs; exact List.mem_append_right _ (List.mem_append_right _ (List.mem_append_left _ (List.mem_of_getElem? h)))), rfl⟩), rfl⟩
theorem q_inP4 {i : Nat} {q : MethodName × Nat} (h : lw_privs_4[i]? = some q) : Cond.selects q.1.cls q.1 q.1 ∈ q_GT := List.mem_filter.mpr ⟨List.mem_append_left _ (List.mem_map.mpr ⟨q, (by unfold lw_privs; exact List.mem_append_right _ (List.mem_append_right _ (List.mem_append_right _ (List.mem_append_left _ (List.mem_of_getElem? h))))), rfl⟩), rfl⟩
theorem q_inP5 {i : Nat} {q : MethodName × Nat} (h : lw_privs_5[i]? = some q) : Cond.selects q.1.cls q.1 q.1 ∈ q_GT := List.mem_filter.mpr ⟨List.mem_append_left _ (List.mem_map.mpr ⟨q, (by unfold lw_privs; exact List.mem_append_right _ (List.mem_append_right _ (List.mem_append_right _ (List.mem_append_right _ (List.mem_append_left _ (List.mem_of_getElem? h)))))), rfl⟩), rfl⟩
theorem q_inP6 {i : Nat} {q : MethodName × Nat} (h : lw_privs_6[i]? = some q) : Cond.selects q.1.cls q.1 q.1 ∈ q_GT := List.mem_filter.mpr ⟨List.mem_append_left _ (List.mem_map.mpr ⟨q, (by unfold lw_privs; exact List.mem_append_right _ (List.mem_append_right _ (List.mem_append_right _ (List.mem_append_right _ (List.mem_append_right _ (List.mem_append_left _ (List.mem_of_getElem? h))))))), rfl⟩), rfl⟩
theorem q_inP7 {i : Nat} {q : MethodName × Nat} (h : lw_privs_7[i]? = some q) : Cond.selects q.1.cls q.1 q.1 ∈ q_GT := List.mem_filter.mpr ⟨List.mem_append_left _ (List.mem_map.mpr ⟨q, (by unfold lw_privs; exact List.mem_append_right _ (List.mem_append_right _ (List.mem_append_right _ (List.mem_append_right _ (List.mem_append_right _ (List.mem_append_right _ (List.mem_append_left _ (List.mem_of_getElem? h)))))))), rfl⟩), rfl⟩
theorem q_inP8 {i : Nat} {q : MethodName × Nat} (h : lw_privs_8[i]? = some q) : Cond.selects q.1.cls q.1 q.1 ∈ q_GT := List.mem_filter.mpr ⟨List.mem_append_left _ (List.mem_map.mpr ⟨q, (by unfold lw_privs; exact List.mem_append_right _ (List.mem_append_right _ (List.mem_append_right _ (List.mem_append_right _ (List.mem_append_right _ (List.mem_append_right _ (List.mem_append_right _ (List.mem_of_getElem? h)))))))), rfl⟩), rfl⟩
theorem q_in {i : Nat} {w : Cond} (h : lw_tbl[i]? = some w) (hg : goodWord w = true) : w ∈ q_GT := List.mem_filter.mpr ⟨List.mem_of_getElem? h, hg⟩
def q_N0 : String := "WallLottery$Days"
def q_T0 : u_T := fun k => match k with
  | 0 => ("WallLottery$Days", "acts", "[I", true)
  | 1 => ("WallLottery$Days", "firsts", "[I", true)
  | 2 => ("WallLottery$Days", "seconds", "[I", true)
  | 3 => ("WallLottery$Days", "amounts", "[I", true)
  | _ => ("WallLottery$Days", "lines", "I", false)
def q_Y0 : Nat → FieldType := fun k => match k with
  | 0 => .array .int
  | 1 => .array .int
  | 2 => .array .int
  | 3 => .array .int
  | _ => .int
theorem q_Tn0 : ∀ a, a < 5 → ∀ b, b < 5 → a ≠ b → (q_T0 a).2.1 ≠ (q_T0 b).2.1 := by decide +kernel
theorem q_Ty0 : ∀ k, k < 5 → parseFieldDescriptor (q_T0 k).2.2.1 = some (q_Y0 k) := by decide +kernel
theorem q_Tw0 : ∀ w ∈ u_ws q_N0 q_T0 5, w ∈ q_GT := by
  intro w hw
  refine List.mem_filter.mpr ⟨?_, ?_⟩
  · exact (by decide +kernel : ∀ w ∈ u_ws q_N0 q_T0 5, w ∈ lw_tbl) w hw
  · exact (by decide +kernel : ∀ w ∈ u_ws q_N0 q_T0 5, goodWord w = true) w hw
def q_N1 : String := "WallLottery$Dice"
def q_T1 : u_T := fun k => match k with
  | 0 => ("WallLottery$Dice", "row", "[I", true)
  | _ => ("WallLottery$Dice", "seed", "J", false)
def q_Y1 : Nat → FieldType := fun k => match k with
  | 0 => .array .int
  | _ => .long
theorem q_Tn1 : ∀ a, a < 2 → ∀ b, b < 2 → a ≠ b → (q_T1 a).2.1 ≠ (q_T1 b).2.1 := by decide +kernel
theorem q_Ty1 : ∀ k, k < 2 → parseFieldDescriptor (q_T1 k).2.2.1 = some (q_Y1 k) := by decide +kernel
theorem q_Tw1 : ∀ w ∈ u_ws q_N1 q_T1 2, w ∈ q_GT := by
  intro w hw
  refine List.mem_filter.mpr ⟨?_, ?_⟩
  · exact (by decide +kernel : ∀ w ∈ u_ws q_N1 q_T1 2, w ∈ lw_tbl) w hw
  · exact (by decide +kernel : ∀ w ∈ u_ws q_N1 q_T1 2, goodWord w = true) w hw
def q_N2 : String := "WallLottery$Laws"
def q_T2 : u_T := fun k => match k with
  | 0 => ("WallLottery$Laws", "steps", "[I", true)
  | 1 => ("WallLottery$Laws", "from", "[I", true)
  | 2 => ("WallLottery$Laws", "to", "[I", true)
  | 3 => ("WallLottery$Laws", "told", "[Z", true)
  | 4 => ("WallLottery$Laws", "stack", "[I", true)
  | 5 => ("WallLottery$Laws", "size", "I", false)
  | _ => ("WallLottery$Laws", "stacked", "I", false)
def q_Y2 : Nat → FieldType := fun k => match k with
  | 0 => .array .int
  | 1 => .array .int
  | 2 => .array .int
  | 3 => .array .boolean
  | 4 => .array .int
  | 5 => .int
  | _ => .int
theorem q_Tn2 : ∀ a, a < 7 → ∀ b, b < 7 → a ≠ b → (q_T2 a).2.1 ≠ (q_T2 b).2.1 := by decide +kernel
theorem q_Ty2 : ∀ k, k < 7 → parseFieldDescriptor (q_T2 k).2.2.1 = some (q_Y2 k) := by decide +kernel
theorem q_Tw2 : ∀ w ∈ u_ws q_N2 q_T2 7, w ∈ q_GT := by
  intro w hw
  refine List.mem_filter.mpr ⟨?_, ?_⟩
  · exact (by decide +kernel : ∀ w ∈ u_ws q_N2 q_T2 7, w ∈ lw_tbl) w hw
  · exact (by decide +kernel : ∀ w ∈ u_ws q_N2 q_T2 7, goodWord w = true) w hw
def q_N3 : String := "WallLottery$Life"
def q_T3 : u_T := fun k => match k with
  | 0 => ("WallLottery$Life", "home", "[I", true)
  | 1 => ("WallLottery$Life", "coins", "[I", true)
  | 2 => ("WallLottery$Life", "debts", "[I", true)
  | 3 => ("WallLottery$Life", "draws", "I", false)
  | _ => ("WallLottery$Life", "lapsed", "I", false)
def q_Y3 : Nat → FieldType := fun k => match k with
  | 0 => .array .int
  | 1 => .array .int
  | 2 => .array .int
  | 3 => .int
  | _ => .int
theorem q_Tn3 : ∀ a, a < 5 → ∀ b, b < 5 → a ≠ b → (q_T3 a).2.1 ≠ (q_T3 b).2.1 := by decide +kernel
theorem q_Ty3 : ∀ k, k < 5 → parseFieldDescriptor (q_T3 k).2.2.1 = some (q_Y3 k) := by decide +kernel
theorem q_Tw3 : ∀ w ∈ u_ws q_N3 q_T3 5, w ∈ q_GT := by
  intro w hw
  refine List.mem_filter.mpr ⟨?_, ?_⟩
  · exact (by decide +kernel : ∀ w ∈ u_ws q_N3 q_T3 5, w ∈ lw_tbl) w hw
  · exact (by decide +kernel : ∀ w ∈ u_ws q_N3 q_T3 5, goodWord w = true) w hw
def q_N4 : String := "WallLottery$Reader"
def q_T4 : u_T := fun k => match k with
  | 0 => ("WallLottery$Reader", "tokens", "LWallLottery$Tokens;", true)
  | 1 => ("WallLottery$Reader", "first", "I", false)
  | _ => ("WallLottery$Reader", "second", "I", false)
def q_Y4 : Nat → FieldType := fun k => match k with
  | 0 => .object "WallLottery$Tokens"
  | 1 => .int
  | _ => .int
theorem q_Tn4 : ∀ a, a < 3 → ∀ b, b < 3 → a ≠ b → (q_T4 a).2.1 ≠ (q_T4 b).2.1 := by decide +kernel
theorem q_Ty4 : ∀ k, k < 3 → parseFieldDescriptor (q_T4 k).2.2.1 = some (q_Y4 k) := by decide +kernel
theorem q_Tw4 : ∀ w ∈ u_ws q_N4 q_T4 3, w ∈ q_GT := by
  intro w hw
  refine List.mem_filter.mpr ⟨?_, ?_⟩
  · exact (by decide +kernel : ∀ w ∈ u_ws q_N4 q_T4 3, w ∈ lw_tbl) w hw
  · exact (by decide +kernel : ∀ w ∈ u_ws q_N4 q_T4 3, goodWord w = true) w hw
def q_N5 : String := "WallLottery$Tales"
def q_T5 : u_T := fun k => match k with
  | 0 => ("WallLottery$Tales", "besides", "J", false)
  | 1 => ("WallLottery$Tales", "aparts", "J", false)
  | _ => ("WallLottery$Tales", "told", "I", false)
def q_Y5 : Nat → FieldType := fun k => match k with
  | 0 => .long
  | 1 => .long
  | _ => .int
theorem q_Tn5 : ∀ a, a < 3 → ∀ b, b < 3 → a ≠ b → (q_T5 a).2.1 ≠ (q_T5 b).2.1 := by decide +kernel
theorem q_Ty5 : ∀ k, k < 3 → parseFieldDescriptor (q_T5 k).2.2.1 = some (q_Y5 k) := by decide +kernel
theorem q_Tw5 : ∀ w ∈ u_ws q_N5 q_T5 3, w ∈ q_GT := by
  intro w hw
  refine List.mem_filter.mpr ⟨?_, ?_⟩
  · exact (by decide +kernel : ∀ w ∈ u_ws q_N5 q_T5 3, w ∈ lw_tbl) w hw
  · exact (by decide +kernel : ∀ w ∈ u_ws q_N5 q_T5 3, goodWord w = true) w hw
def q_N6 : String := "WallLottery$Tape"
def q_T6 : u_T := fun k => match k with
  | 0 => ("WallLottery$Tape", "signs", "[C", true)
  | _ => ("WallLottery$Tape", "length", "I", false)
def q_Y6 : Nat → FieldType := fun k => match k with
  | 0 => .array .char
  | _ => .int
theorem q_Tn6 : ∀ a, a < 2 → ∀ b, b < 2 → a ≠ b → (q_T6 a).2.1 ≠ (q_T6 b).2.1 := by decide +kernel
theorem q_Ty6 : ∀ k, k < 2 → parseFieldDescriptor (q_T6 k).2.2.1 = some (q_Y6 k) := by decide +kernel
theorem q_Tw6 : ∀ w ∈ u_ws q_N6 q_T6 2, w ∈ q_GT := by
  intro w hw
  refine List.mem_filter.mpr ⟨?_, ?_⟩
  · exact (by decide +kernel : ∀ w ∈ u_ws q_N6 q_T6 2, w ∈ lw_tbl) w hw
  · exact (by decide +kernel : ∀ w ∈ u_ws q_N6 q_T6 2, goodWord w = true) w hw
def q_N7 : String := "WallLottery$Tokens"
def q_T7 : u_T := fun k => match k with
  | 0 => ("WallLottery$Tokens", "tape", "LWallLottery$Tape;", true)
  | 1 => ("WallLottery$Tokens", "sort", "I", false)
  | 2 => ("WallLottery$Tokens", "place", "I", false)
  | 3 => ("WallLottery$Tokens", "behind", "I", false)
  | 4 => ("WallLottery$Tokens", "word", "LWallLottery$Word;", false)
  | 5 => ("WallLottery$Tokens", "letters", "J", false)
  | 6 => ("WallLottery$Tokens", "number", "I", false)
  | 7 => ("WallLottery$Tokens", "sign", "C", false)
  | 8 => ("WallLottery$Tokens", "taken", "I", false)
  | _ => ("WallLottery$Tokens", "fault", "I", false)
def q_Y7 : Nat → FieldType := fun k => match k with
  | 0 => .object "WallLottery$Tape"
  | 1 => .int
  | 2 => .int
  | 3 => .int
  | 4 => .object "WallLottery$Word"
  | 5 => .long
  | 6 => .int
  | 7 => .char
  | 8 => .int
  | _ => .int
theorem q_Tn7 : ∀ a, a < 10 → ∀ b, b < 10 → a ≠ b → (q_T7 a).2.1 ≠ (q_T7 b).2.1 := by decide +kernel
theorem q_Ty7 : ∀ k, k < 10 → parseFieldDescriptor (q_T7 k).2.2.1 = some (q_Y7 k) := by decide +kernel
theorem q_Tw7 : ∀ w ∈ u_ws q_N7 q_T7 10, w ∈ q_GT := by
  intro w hw
  refine List.mem_filter.mpr ⟨?_, ?_⟩
  · exact (by decide +kernel : ∀ w ∈ u_ws q_N7 q_T7 10, w ∈ lw_tbl) w hw
  · exact (by decide +kernel : ∀ w ∈ u_ws q_N7 q_T7 10, goodWord w = true) w hw
def q_N8 : String := "WallLottery$Town"
def q_T8 : u_T := fun k => match k with
  | 0 => ("WallLottery$Town", "houseNames", "[J", true)
  | 1 => ("WallLottery$Town", "familyNames", "[J", true)
  | 2 => ("WallLottery$Town", "kinds", "[I", true)
  | 3 => ("WallLottery$Town", "louds", "[I", true)
  | 4 => ("WallLottery$Town", "ears", "[I", true)
  | 5 => ("WallLottery$Town", "coins", "[I", true)
  | 6 => ("WallLottery$Town", "bricks", "[I", true)
  | 7 => ("WallLottery$Town", "likes", "[I", true)
  | 8 => ("WallLottery$Town", "hates", "[I", true)
  | 9 => ("WallLottery$Town", "debts", "[I", true)
  | 10 => ("WallLottery$Town", "customs", "[J", true)
  | 11 => ("WallLottery$Town", "heard", "[I", true)
  | 12 => ("WallLottery$Town", "laws", "LWallLottery$Laws;", true)
  | 13 => ("WallLottery$Town", "houses", "I", false)
  | 14 => ("WallLottery$Town", "families", "I", false)
  | 15 => ("WallLottery$Town", "walls", "I", false)
  | 16 => ("WallLottery$Town", "aparts", "I", false)
  | _ => ("WallLottery$Town", "besides", "I", false)
def q_Y8 : Nat → FieldType := fun k => match k with
  | 0 => .array .long
  | 1 => .array .long
  | 2 => .array .int
  | 3 => .array .int
  | 4 => .array .int
  | 5 => .array .int
  | 6 => .array .int
  | 7 => .array .int
  | 8 => .array .int
  | 9 => .array .int
  | 10 => .array .long
  | 11 => .array .int
  | 12 => .object "WallLottery$Laws"
  | 13 => .int
  | 14 => .int
  | 15 => .int
  | 16 => .int
  | _ => .int
theorem q_Tn8 : ∀ a, a < 18 → ∀ b, b < 18 → a ≠ b → (q_T8 a).2.1 ≠ (q_T8 b).2.1 := by decide +kernel
theorem q_Ty8 : ∀ k, k < 18 → parseFieldDescriptor (q_T8 k).2.2.1 = some (q_Y8 k) := by decide +kernel
theorem q_Tw8 : ∀ w ∈ u_ws q_N8 q_T8 18, w ∈ q_GT := by
  intro w hw
  refine List.mem_filter.mpr ⟨?_, ?_⟩
  · exact (by decide +kernel : ∀ w ∈ u_ws q_N8 q_T8 18, w ∈ lw_tbl) w hw
  · exact (by decide +kernel : ∀ w ∈ u_ws q_N8 q_T8 18, goodWord w = true) w hw
def q_N9 : String := "WallLottery$Ways"
def q_T9 : u_T := fun k => match k with
  | 0 => ("WallLottery$Ways", "rows", "[I", true)
  | 1 => ("WallLottery$Ways", "felt", "[J", true)
  | 2 => ("WallLottery$Ways", "pairs", "[J", true)
  | 3 => ("WallLottery$Ways", "content", "[I", true)
  | 4 => ("WallLottery$Ways", "joys", "[I", true)
  | 5 => ("WallLottery$Ways", "home", "[I", true)
  | 6 => ("WallLottery$Ways", "families", "I", false)
  | 7 => ("WallLottery$Ways", "size", "I", false)
  | _ => ("WallLottery$Ways", "known", "Z", false)
def q_Y9 : Nat → FieldType := fun k => match k with
  | 0 => .array .int
  | 1 => .array .long
  | 2 => .array .long
  | 3 => .array .int
  | 4 => .array .int
  | 5 => .array .int
  | 6 => .int
  | 7 => .int
  | _ => .boolean
theorem q_Tn9 : ∀ a, a < 9 → ∀ b, b < 9 → a ≠ b → (q_T9 a).2.1 ≠ (q_T9 b).2.1 := by decide +kernel
theorem q_Ty9 : ∀ k, k < 9 → parseFieldDescriptor (q_T9 k).2.2.1 = some (q_Y9 k) := by decide +kernel
theorem q_Tw9 : ∀ w ∈ u_ws q_N9 q_T9 9, w ∈ q_GT := by
  intro w hw
  refine List.mem_filter.mpr ⟨?_, ?_⟩
  · exact (by decide +kernel : ∀ w ∈ u_ws q_N9 q_T9 9, w ∈ lw_tbl) w hw
  · exact (by decide +kernel : ∀ w ∈ u_ws q_N9 q_T9 9, goodWord w = true) w hw
def q_N10 : String := "WallLottery"
def q_T10 : u_T := fun k => match k with
  | 0 => ("WallLottery", "tape", "LWallLottery$Tape;", true)
  | 1 => ("WallLottery", "tokens", "LWallLottery$Tokens;", true)
  | 2 => ("WallLottery", "reader", "LWallLottery$Reader;", true)
  | 3 => ("WallLottery", "ways", "LWallLottery$Ways;", true)
  | 4 => ("WallLottery", "dice", "LWallLottery$Dice;", true)
  | 5 => ("WallLottery", "tales", "LWallLottery$Tales;", true)
  | 6 => ("WallLottery", "now", "LWallLottery$Life;", true)
  | 7 => ("WallLottery", "trial", "LWallLottery$Life;", true)
  | 8 => ("WallLottery", "past", "[LWallLottery$Life;", true)
  | 9 => ("WallLottery", "markedLife", "[LWallLottery$Life;", true)
  | 10 => ("WallLottery", "markedTales", "[LWallLottery$Tales;", true)
  | 11 => ("WallLottery", "laid", "[Z", true)
  | 12 => ("WallLottery", "land", "LWallLottery$Town;", false)
  | 13 => ("WallLottery", "spareLand", "LWallLottery$Town;", false)
  | 14 => ("WallLottery", "plan", "LWallLottery$Days;", false)
  | 15 => ("WallLottery", "sparePlan", "LWallLottery$Days;", false)
  | 16 => ("WallLottery", "pastEnd", "I", false)
  | _ => ("WallLottery", "pastSize", "I", false)
def q_Y10 : Nat → FieldType := fun k => match k with
  | 0 => .object "WallLottery$Tape"
  | 1 => .object "WallLottery$Tokens"
  | 2 => .object "WallLottery$Reader"
  | 3 => .object "WallLottery$Ways"
  | 4 => .object "WallLottery$Dice"
  | 5 => .object "WallLottery$Tales"
  | 6 => .object "WallLottery$Life"
  | 7 => .object "WallLottery$Life"
  | 8 => .array (.object "WallLottery$Life")
  | 9 => .array (.object "WallLottery$Life")
  | 10 => .array (.object "WallLottery$Tales")
  | 11 => .array .boolean
  | 12 => .object "WallLottery$Town"
  | 13 => .object "WallLottery$Town"
  | 14 => .object "WallLottery$Days"
  | 15 => .object "WallLottery$Days"
  | 16 => .int
  | _ => .int
theorem q_Tn10 : ∀ a, a < 18 → ∀ b, b < 18 → a ≠ b → (q_T10 a).2.1 ≠ (q_T10 b).2.1 := by decide +kernel
theorem q_Ty10 : ∀ k, k < 18 → parseFieldDescriptor (q_T10 k).2.2.1 = some (q_Y10 k) := by decide +kernel
theorem q_Tw10 : ∀ w ∈ u_ws q_N10 q_T10 18, w ∈ q_GT := by
  intro w hw
  refine List.mem_filter.mpr ⟨?_, ?_⟩
  · exact (by decide +kernel : ∀ w ∈ u_ws q_N10 q_T10 18, w ∈ lw_tbl) w hw
  · exact (by decide +kernel : ∀ w ∈ u_ws q_N10 q_T10 18, goodWord w = true) w hw
def q_N11 : String := "WallLotteryModel"
def q_T11 : u_T := fun k => match k with
  | 0 => ("WallLotteryModel", "thrown", "I", false)
  | 1 => ("WallLotteryModel", "tape", "[I", true)
  | 2 => ("WallLotteryModel", "taped", "I", false)
  | 3 => ("WallLotteryModel", "size", "I", false)
  | 4 => ("WallLotteryModel", "sort", "[I", true)
  | 5 => ("WallLotteryModel", "place", "[I", true)
  | 6 => ("WallLotteryModel", "value", "[J", true)
  | 7 => ("WallLotteryModel", "at", "I", false)
  | 8 => ("WallLotteryModel", "fault", "I", false)
  | 9 => ("WallLotteryModel", "words", "[J", true)
  | 10 => ("WallLotteryModel", "towns", "[I", true)
  | 11 => ("WallLotteryModel", "op", "[I", true)
  | 12 => ("WallLotteryModel", "arg", "[I", true)
  | 13 => ("WallLotteryModel", "codes", "I", false)
  | 14 => ("WallLotteryModel", "names", "[J", true)
  | 15 => ("WallLotteryModel", "readNames", "[J", true)
  | 16 => ("WallLotteryModel", "nameOf", "[I", true)
  | 17 => ("WallLotteryModel", "readNameOf", "[I", true)
  | 18 => ("WallLotteryModel", "namesMany", "I", false)
  | 19 => ("WallLotteryModel", "readMany", "I", false)
  | 20 => ("WallLotteryModel", "factsHere", "I", false)
  | 21 => ("WallLotteryModel", "lines", "[I", true)
  | 22 => ("WallLotteryModel", "facts", "[I", true)
  | 23 => ("WallLotteryModel", "pile", "[I", true)
  | 24 => ("WallLotteryModel", "state", "[I", true)
  | 25 => ("WallLotteryModel", "undos", "I", false)
  | 26 => ("WallLotteryModel", "isMarked", "[Z", true)
  | 27 => ("WallLotteryModel", "noises", "[I", true)
  | 28 => ("WallLotteryModel", "g", "J", false)
  | 29 => ("WallLotteryModel", "row", "[I", true)
  | 30 => ("WallLotteryModel", "ways", "[I", true)
  | 31 => ("WallLotteryModel", "waysMany", "I", false)
  | 32 => ("WallLotteryModel", "bestHomes", "[I", true)
  | 33 => ("WallLotteryModel", "best", "I", false)
  | 34 => ("WallLotteryModel", "bestSwaps", "I", false)
  | 35 => ("WallLotteryModel", "nearIn", "[I", true)
  | _ => ("WallLotteryModel", "fitting", "I", false)
def q_Y11 : Nat → FieldType := fun k => match k with
  | 0 => .int
  | 1 => .array .int
  | 2 => .int
  | 3 => .int
  | 4 => .array .int
  | 5 => .array .int
  | 6 => .array .long
  | 7 => .int
  | 8 => .int
  | 9 => .array .long
  | 10 => .array .int
  | 11 => .array .int
  | 12 => .array .int
  | 13 => .int
  | 14 => .array .long
  | 15 => .array .long
  | 16 => .array .int
  | 17 => .array .int
  | 18 => .int
  | 19 => .int
  | 20 => .int
  | 21 => .array .int
  | 22 => .array .int
  | 23 => .array .int
  | 24 => .array .int
  | 25 => .int
  | 26 => .array .boolean
  | 27 => .array .int
  | 28 => .long
  | 29 => .array .int
  | 30 => .array .int
  | 31 => .int
  | 32 => .array .int
  | 33 => .int
  | 34 => .int
  | 35 => .array .int
  | _ => .int
theorem q_Tn11 : ∀ a, a < 37 → ∀ b, b < 37 → a ≠ b → (q_T11 a).2.1 ≠ (q_T11 b).2.1 := by decide +kernel
theorem q_Ty11 : ∀ k, k < 37 → parseFieldDescriptor (q_T11 k).2.2.1 = some (q_Y11 k) := by decide +kernel
theorem q_Tw11 : ∀ w ∈ u_ws q_N11 q_T11 37, w ∈ q_GT := by
  intro w hw
  refine List.mem_filter.mpr ⟨?_, ?_⟩
  · exact (by decide +kernel : ∀ w ∈ u_ws q_N11 q_T11 37, w ∈ lw_tbl) w hw
  · exact (by decide +kernel : ∀ w ∈ u_ws q_N11 q_T11 37, goodWord w = true) w hw
abbrev q_cl : List vw_C := [(q_N0, q_T0, 5), (q_N1, q_T1, 2), (q_N2, q_T2, 7), (q_N3, q_T3, 5), (q_N4, q_T4, 3), (q_N5, q_T5, 3), (q_N6, q_T6, 2), (q_N7, q_T7, 10), (q_N8, q_T8, 18), (q_N9, q_T9, 9), (q_N10, q_T10, 18), (q_N11, q_T11, 37)]
def q_fls : List (List Nat) := [[2, 2, 2, 2, 0], [2, 1], [2, 2, 2, 2, 2, 0, 0], [2, 2, 2, 0, 0], [2, 0, 0], [1, 1, 0], [2, 0], [2, 0, 0, 0, 2, 1, 0, 0, 0, 0], [2, 2, 2, 2, 2, 2, 2, 2, 2, 2, 2, 2, 2, 0, 0, 0, 0, 0], [2, 2, 2, 2, 2, 2, 0, 0, 0], [2, 2, 2, 2, 2, 2, 2, 2, 2, 2, 2, 2, 2, 2, 2, 2, 0, 0], [0, 2, 0, 0, 2, 2, 2, 0, 0, 2, 2, 2, 2, 0, 2, 2, 2, 2, 0, 0, 0, 2, 2, 2, 2, 0, 2, 2, 1, 2, 2, 0, 2, 0, 0, 2, 0]]
def q_fl (ci : Nat) : List Nat := q_fls.getD ci []
def q_kds : List (Nat × Nat) := [(0, 10), (0, 6), (4, 1000), (0, 7), (0, 4), (0, 9), (1, 720), (2, 720), (2, 720), (1, 720), (1, 6), (1, 6), (0, 1), (1, 6), (0, 5), (0, 3), (1, 6), (1, 6), (1, 36), (0, 3), (1, 6), (1, 6), (1, 36), (5, 16), (5, 4), (6, 4), (3, 4), (0, 8), (2, 6), (2, 6), (1, 6), (1, 6), (1, 6), (1, 6), (1, 36), (1, 36), (1, 36), (1, 36), (2, 8), (1, 360), (0, 2), (1, 1024), (1, 3), (1, 3), (3, 3), (1, 32), (0, 8), (2, 6), (2, 6), (1, 6), (1, 6), (1, 6), (1, 6), (1, 36), (1, 36), (1, 36), (1, 36), (2, 8), (1, 360), (0, 2), (1, 1024), (1, 3), (1, 3), (3, 3), (1, 32), (0, 0), (1, 24), (1, 24), (1, 24), (1, 24), (0, 0), (1, 24), (1, 24), (1, 24), (1, 24), (0, 3), (1, 6), (1, 6), (1, 36), (0, 3), (1, 6), (1, 6), (1, 36), (0, 3), (1, 6), (1, 6), (1, 36), (0, 3), (1, 6), (1, 6), (1, 36), (0, 3), (1, 6), (1, 6), (1, 36), (0, 3), (1, 6), (1, 6), (1, 36), (0, 3), (1, 6), (1, 6), (1, 36), (0, 3), (1, 6), (1, 6), (1, 36), (0, 3), (1, 6), (1, 6), (1, 36), (0, 3), (1, 6), (1, 6), (1, 36), (0, 3), (1, 6), (1, 6), (1, 36), (0, 3), (1, 6), (1, 6), (1, 36), (0, 3), (1, 6), (1, 6), (1, 36), (0, 3), (1, 6), (1, 6), (1, 36), (0, 3), (1, 6), (1, 6), (1, 36), (0, 3), (1, 6), (1, 6), (1, 36), (0, 3), (1, 6), (1, 6), (1, 36), (0, 5), (0, 3), (1, 6), (1, 6), (1, 36), (0, 5), (0, 3), (1, 6), (1, 6), (1, 36), (0, 5), (0, 3), (1, 6), (1, 6), (1, 36), (0, 5), (0, 11), (1, 1000), (1, 1002), (1, 1002), (2, 1002), (2, 33), (1, 400), (1, 2200), (1, 2200), (2, 12), (2, 12), (1, 12), (1, 12), (1, 210), (1, 8), (1, 1100), (1, 1886), (3, 4), (1, 360), (1, 6), (1, 4320), (1, 6), (1, 36), (2, 1)]
def q_kd (k : Nat) : Nat × Nat := q_kds.getD k (9, 0)
def q_NT : Nat := 183
