-- what the Statement gives of the start
def y_fl : Cond → List Cond
  | .and a b => y_fl a ++ y_fl b
  | c => [c]
theorem y_flat {a : Array Value} {s : State} (c : Cond) : c.before a s = true → ∀ w ∈ y_fl c, w.before a s = true := by
  induction c with
  | and x y ihx ihy =>
    intro h w hw
    rw [Cond.before_and, Bool.and_eq_true] at h
    rcases List.mem_append.mp hw with g | g
    · exact ihx h.1 w g
    · exact ihy h.2 w g
  | _ => intro h w hw; rw [List.mem_singleton.mp hw]; exact h
def y_W (k : Nat) : Term := .static "WallLottery$Word" (q_wn.getD k "") "LWallLottery$Word;"
theorem y1 : ∀ k, k < 34 → Cond.exactly (y_W k) "WallLottery$Word" ∈ y_fl (Jvm.Cond.and given_1 narrow_1) := by decide +kernel
theorem y2 : ∀ k, k < 34 → Cond.eq (.field (y_W k) "java/lang/Enum" "ordinal" "I") (.int (nI k)) ∈ y_fl (Jvm.Cond.and given_1 narrow_1) := by decide +kernel
theorem y3 : ∀ k, k < 34 → Cond.eq (.field (y_W k) "WallLottery$Word" "letters" "J") (.long (q_wl64.getD k 0)) ∈ y_fl (Jvm.Cond.and given_1 narrow_1) := by decide +kernel
theorem y4 : ∀ k, k < 34 → Cond.eq (.field (y_W k) "WallLottery$Word" "canBeName" "Z") (.int (q_wcn.getD k 0)) ∈ y_fl (Jvm.Cond.and given_1 narrow_1) := by decide +kernel
theorem y5 : ∀ k, k < 34 → Cond.eq (.elem (.static "WallLottery" "WORDS" "[LWallLottery$Word;") (.int (Int32.ofNat k))) (y_W k) ∈ y_fl (Jvm.Cond.and given_1 narrow_1) := by decide +kernel
theorem y6 : ∀ k, k < 15 → Cond.eq (.elem (.static "WallLottery$Laws" "UNTOLD" "[I") (.int (Int32.ofNat k))) (.int (q_unt.getD k 0)) ∈ y_fl (Jvm.Cond.and given_1 narrow_1) := by decide +kernel
theorem y7 : ∀ k, k < 34 → Cond.eq (.elem (.static "WallLottery$1" "$SwitchMap$WallLottery$Word" "[I") (.int (Int32.ofNat k))) (.int (q_smap.getD k 0)) ∈ y_fl (Jvm.Cond.and given_1 narrow_1) := by decide +kernel
def y_St : Term := .string "WallLottery$Tokens" 77
theorem y8 : ∀ k, k < 8 → Cond.eq (.elem (.field y_St "java/lang/String" "value" "[B") (.int (Int32.ofNat k))) (.int (q_sgn.getD k 0)) ∈ y_fl (Jvm.Cond.and given_1 narrow_1) := by decide +kernel
theorem y9 : [Cond.arrayOf (.static "WallLottery" "WORDS" "[LWallLottery$Word;") (.object "WallLottery$Word"), Cond.eq (.length (.static "WallLottery" "WORDS" "[LWallLottery$Word;")) (.int (Int32.ofNat 34)), Cond.arrayOf (.static "WallLottery$Laws" "UNTOLD" "[I") .int, Cond.eq (.length (.static "WallLottery$Laws" "UNTOLD" "[I")) (.int (Int32.ofNat 15)), Cond.arrayOf (.static "WallLottery$1" "$SwitchMap$WallLottery$Word" "[I") .int, Cond.eq (.length (.static "WallLottery$1" "$SwitchMap$WallLottery$Word" "[I")) (.int (Int32.ofNat 34)), Cond.exactly y_St "java/lang/String", Cond.eq (.field y_St "java/lang/String" "coder" "B") (.int 0), Cond.arrayOf (.field y_St "java/lang/String" "value" "[B") .byte, Cond.eq (.length (.field y_St "java/lang/String" "value" "[B")) (.int (Int32.ofNat 8)), Cond.eq (.static "java/lang/String" "COMPACT_STRINGS" "Z") (.int 1), Cond.isRef (.static Bundle.tN "UNASSIGNED_STACK" Bundle.steD), Cond.isRef (.static Bundle.tN "SUPPRESSED_SENTINEL" Bundle.listD)].all (fun w => decide (w ∈ y_fl (Jvm.Cond.and given_1 narrow_1))) = true := by decide +kernel
theorem y10 : ∀ k, k < 34 → Cond.laysStatic "WallLottery$Word" (q_wn.getD k "") "LWallLottery$Word;" ∈ lw_tbl := by decide +kernel
theorem y11 : [Cond.initialized "WallLottery$Word", Cond.initialized "WallLottery", Cond.initialized "WallLottery$Laws", Cond.initialized "WallLottery$1", Cond.initialized "java/lang/String", Cond.initialized Bundle.tN, Cond.laysStatic "WallLottery" "WORDS" "[LWallLottery$Word;", Cond.laysStatic "WallLottery$Laws" "UNTOLD" "[I", Cond.laysStatic "WallLottery$1" "$SwitchMap$WallLottery$Word" "[I", Cond.laysStatic "java/lang/String" "COMPACT_STRINGS" "Z", Cond.laysStatic Bundle.tN "UNASSIGNED_STACK" Bundle.steD, Cond.laysStatic Bundle.tN "SUPPRESSED_SENTINEL" Bundle.listD, Cond.stringRef "WallLottery$Tokens" 77 "()<=+-*;", Cond.arrayOver (.object "WallLottery$Life"), Cond.arrayOver (.object "WallLottery$Tales"), Cond.arrayClass .int, Cond.arrayClass .long, Cond.arrayClass .boolean, Cond.arrayClass .char].all (fun w => decide (w ∈ lw_tbl)) = true := by decide +kernel
