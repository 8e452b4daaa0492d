/-! ===== the two towns, by their own number ===== -/
abbrev isT (t : Nat) : Prop := t = 3 ∨ t = 22
theorem sT_0 {t : Nat} (h : isT t) : SRF t 0 = t + 1 := by rcases h with rfl | rfl <;> rfl
theorem sT_1 {t : Nat} (h : isT t) : SRF t 1 = t + 2 := by rcases h with rfl | rfl <;> rfl
theorem sT_2 {t : Nat} (h : isT t) : SRF t 2 = t + 3 := by rcases h with rfl | rfl <;> rfl
theorem sT_3 {t : Nat} (h : isT t) : SRF t 3 = t + 4 := by rcases h with rfl | rfl <;> rfl
theorem sT_4 {t : Nat} (h : isT t) : SRF t 4 = t + 5 := by rcases h with rfl | rfl <;> rfl
theorem sT_5 {t : Nat} (h : isT t) : SRF t 5 = t + 6 := by rcases h with rfl | rfl <;> rfl
theorem sT_6 {t : Nat} (h : isT t) : SRF t 6 = t + 7 := by rcases h with rfl | rfl <;> rfl
theorem sT_7 {t : Nat} (h : isT t) : SRF t 7 = t + 8 := by rcases h with rfl | rfl <;> rfl
theorem sT_8 {t : Nat} (h : isT t) : SRF t 8 = t + 9 := by rcases h with rfl | rfl <;> rfl
theorem sT_9 {t : Nat} (h : isT t) : SRF t 9 = t + 10 := by rcases h with rfl | rfl <;> rfl
theorem sT_10 {t : Nat} (h : isT t) : SRF t 10 = t + 11 := by rcases h with rfl | rfl <;> rfl
theorem sT_11 {t : Nat} (h : isT t) : SRF t 11 = t + 12 := by rcases h with rfl | rfl <;> rfl
theorem sT_12 {t : Nat} (h : isT t) : SRF t 12 = t + 13 := by rcases h with rfl | rfl <;> rfl
theorem sT_13 {t : Nat} (h : isT t) : SRF t 13 = t + 16 := by rcases h with rfl | rfl <;> rfl
theorem sF_0 {t : Nat} (h : isT t) : SRF (t + 13) 0 = t + 14 := by rcases h with rfl | rfl <;> rfl
theorem sF_1 {t : Nat} (h : isT t) : SRF (t + 13) 1 = t + 15 := by rcases h with rfl | rfl <;> rfl
theorem sG_0 {t : Nat} (h : isT t) : SRF (t + 16) 0 = t + 17 := by rcases h with rfl | rfl <;> rfl
theorem sG_1 {t : Nat} (h : isT t) : SRF (t + 16) 1 = t + 18 := by rcases h with rfl | rfl <;> rfl
theorem oT {t : Nat} (h : isT t) : isO SHL t 8 = true := by rcases h with rfl | rfl <;> rfl
theorem oF {t : Nat} (h : isT t) : isO SHL (t + 13) 2 = true := by rcases h with rfl | rfl <;> rfl
theorem oG {t : Nat} (h : isT t) : isO SHL (t + 16) 2 = true := by rcases h with rfl | rfl <;> rfl
theorem zT {t : Nat} (h : isT t) : (!(t == 0)) = true := by rcases h with rfl | rfl <;> rfl
theorem aT_1 {t : Nat} (h : isT t) (x : Int32) : inA SHL (t + 1) 4 x = inb x 4 := by rcases h with rfl | rfl <;> rfl
theorem aT_2 {t : Nat} (h : isT t) (x : Int32) : inA SHL (t + 2) 4 x = inb x 8 := by rcases h with rfl | rfl <;> rfl
theorem aT_3 {t : Nat} (h : isT t) (x : Int32) : inA SHL (t + 3) 4 x = inb x 4 := by rcases h with rfl | rfl <;> rfl
theorem aT_4 {t : Nat} (h : isT t) (x : Int32) : inA SHL (t + 4) 1 x = inb x 4 := by rcases h with rfl | rfl <;> rfl
theorem aT_5 {t : Nat} (h : isT t) (x : Int32) : inA SHL (t + 5) 1 x = inb x 4 := by rcases h with rfl | rfl <;> rfl
theorem aT_6 {t : Nat} (h : isT t) (x : Int32) : inA SHL (t + 6) 1 x = inb x 8 := by rcases h with rfl | rfl <;> rfl
theorem aT_7 {t : Nat} (h : isT t) (x : Int32) : inA SHL (t + 7) 1 x = inb x 8 := by rcases h with rfl | rfl <;> rfl
theorem aT_8 {t : Nat} (h : isT t) (x : Int32) : inA SHL (t + 8) 1 x = inb x 8 := by rcases h with rfl | rfl <;> rfl
theorem aT_9 {t : Nat} (h : isT t) (x : Int32) : inA SHL (t + 9) 1 x = inb x 8 := by rcases h with rfl | rfl <;> rfl
theorem aT_10 {t : Nat} (h : isT t) (x : Int32) : inA SHL (t + 10) 1 x = inb x 4 := by rcases h with rfl | rfl <;> rfl
theorem aT_11 {t : Nat} (h : isT t) (x : Int32) : inA SHL (t + 11) 1 x = inb x 4 := by rcases h with rfl | rfl <;> rfl
theorem aT_12 {t : Nat} (h : isT t) (x : Int32) : inA SHL (t + 12) 1 x = inb x 43 := by rcases h with rfl | rfl <;> rfl
theorem aT_14 {t : Nat} (h : isT t) (x : Int32) : inA SHL (t + 14) 1 x = inb x 300 := by rcases h with rfl | rfl <;> rfl
theorem aT_15 {t : Nat} (h : isT t) (x : Int32) : inA SHL (t + 15) 1 x = inb x 30 := by rcases h with rfl | rfl <;> rfl
theorem aT_17 {t : Nat} (h : isT t) (x : Int32) : inA SHL (t + 17) 1 x = inb x 300 := by rcases h with rfl | rfl <;> rfl
theorem aT_18 {t : Nat} (h : isT t) (x : Int32) : inA SHL (t + 18) 1 x = inb x 30 := by rcases h with rfl | rfl <;> rfl
/-- the rows that are looked at -/
abbrev isW (a : Nat) : Prop := a = 114 ∨ a = 57 ∨ a = 59
theorem aW {a : Nat} (h : isW a) (x : Int32) : inA SHL a 1 x = inb x 43 := by rcases h with rfl | rfl | rfl <;> rfl
theorem aWA {a : Nat} (h : isW a) : isA SHL a 1 = true := by rcases h with rfl | rfl | rfl <;> rfl
