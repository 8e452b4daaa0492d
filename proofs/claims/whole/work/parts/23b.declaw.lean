/-! ===== the law's own instructions are what its bytes say ===== -/
set_option maxRecDepth 100000 in
theorem aDl_0 : ∀ q ∈ (kc_Law_law.drop 0).take 60, decode code q.1 = .ok (q.2.1, q.2.2.1) := by decide +kernel
set_option maxRecDepth 100000 in
theorem aDl_1 : ∀ q ∈ (kc_Law_law.drop 60).take 60, decode code q.1 = .ok (q.2.1, q.2.2.1) := by decide +kernel
set_option maxRecDepth 100000 in
theorem aDl_2 : ∀ q ∈ (kc_Law_law.drop 120).take 60, decode code q.1 = .ok (q.2.1, q.2.2.1) := by decide +kernel
set_option maxRecDepth 100000 in
theorem aDl_3 : ∀ q ∈ (kc_Law_law.drop 180).take 60, decode code q.1 = .ok (q.2.1, q.2.2.1) := by decide +kernel
set_option maxRecDepth 100000 in
theorem aDl_4 : ∀ q ∈ (kc_Law_law.drop 240).take 60, decode code q.1 = .ok (q.2.1, q.2.2.1) := by decide +kernel
set_option maxRecDepth 100000 in
theorem aDl_5 : ∀ q ∈ (kc_Law_law.drop 300).take 60, decode code q.1 = .ok (q.2.1, q.2.2.1) := by decide +kernel
set_option maxRecDepth 100000 in
theorem aDl_6 : ∀ q ∈ (kc_Law_law.drop 360).take 60, decode code q.1 = .ok (q.2.1, q.2.2.1) := by decide +kernel
set_option maxRecDepth 100000 in
theorem aDl_7 : ∀ q ∈ (kc_Law_law.drop 420).take 60, decode code q.1 = .ok (q.2.1, q.2.2.1) := by decide +kernel
set_option maxRecDepth 100000 in
theorem aDl_8 : ∀ q ∈ (kc_Law_law.drop 480).take 60, decode code q.1 = .ok (q.2.1, q.2.2.1) := by decide +kernel
set_option maxRecDepth 100000 in
theorem aDl_9 : ∀ q ∈ (kc_Law_law.drop 540).take 60, decode code q.1 = .ok (q.2.1, q.2.2.1) := by decide +kernel
set_option maxRecDepth 100000 in
theorem aDl_10 : ∀ q ∈ (kc_Law_law.drop 600).take 60, decode code q.1 = .ok (q.2.1, q.2.2.1) := by decide +kernel
set_option maxRecDepth 100000 in
theorem aDl_11 : ∀ q ∈ (kc_Law_law.drop 660).take 60, decode code q.1 = .ok (q.2.1, q.2.2.1) := by decide +kernel
set_option maxRecDepth 100000 in
theorem aDl_12 : ∀ q ∈ (kc_Law_law.drop 720).take 60, decode code q.1 = .ok (q.2.1, q.2.2.1) := by decide +kernel
set_option maxRecDepth 100000 in
theorem aDl_last : ∀ q ∈ kc_Law_law.drop 780, decode code q.1 = .ok (q.2.1, q.2.2.1) := by decide +kernel
theorem aDl_st {P : aE → Prop} {l : List aE} (lo n : Nat) (h1 : ∀ q ∈ (l.drop lo).take n, P q) (h2 : ∀ q ∈ l.drop (lo + n), P q) : ∀ q ∈ l.drop lo, P q := by
  intro q hq
  rw [← List.take_append_drop n (l.drop lo), List.drop_drop] at hq
  rcases List.mem_append.mp hq with h | h
  · exact h1 q h
  · exact h2 q h
theorem aDl : ∀ q ∈ kc_Law_law, decode code q.1 = .ok (q.2.1, q.2.2.1) := by
  have h := (aDl_st 0 60 aDl_0 (aDl_st 60 60 aDl_1 (aDl_st 120 60 aDl_2 (aDl_st 180 60 aDl_3 (aDl_st 240 60 aDl_4 (aDl_st 300 60 aDl_5 (aDl_st 360 60 aDl_6 (aDl_st 420 60 aDl_7 (aDl_st 480 60 aDl_8 (aDl_st 540 60 aDl_9 (aDl_st 600 60 aDl_10 (aDl_st 660 60 aDl_11 (aDl_st 720 60 aDl_12 aDl_last)))))))))))))
  rwa [List.drop_zero] at h
