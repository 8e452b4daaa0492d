/-! ===== every instruction of the tables is what the bytes say ===== -/
set_option maxRecDepth 100000 in
theorem aDc_0 : ∀ j, j < 10 → ∀ q ∈ (aCdf (j + 0)).2, decode (aMt (j + 0)).2.2.1 q.1 = .ok (q.2.1, q.2.2.1) := by decide +kernel
set_option maxRecDepth 100000 in
theorem aDc_1 : ∀ j, j < 10 → ∀ q ∈ (aCdf (j + 10)).2, decode (aMt (j + 10)).2.2.1 q.1 = .ok (q.2.1, q.2.2.1) := by decide +kernel
set_option maxRecDepth 100000 in
theorem aDc_2 : ∀ j, j < 10 → ∀ q ∈ (aCdf (j + 20)).2, decode (aMt (j + 20)).2.2.1 q.1 = .ok (q.2.1, q.2.2.1) := by decide +kernel
set_option maxRecDepth 100000 in
theorem aDc_3 : ∀ j, j < 10 → ∀ q ∈ (aCdf (j + 30)).2, decode (aMt (j + 30)).2.2.1 q.1 = .ok (q.2.1, q.2.2.1) := by decide +kernel
set_option maxRecDepth 100000 in
theorem aDc_4 : ∀ j, j < 10 → ∀ q ∈ (aCdf (j + 40)).2, decode (aMt (j + 40)).2.2.1 q.1 = .ok (q.2.1, q.2.2.1) := by decide +kernel
set_option maxRecDepth 100000 in
theorem aDc_5 : ∀ j, j < 10 → ∀ q ∈ (aCdf (j + 50)).2, decode (aMt (j + 50)).2.2.1 q.1 = .ok (q.2.1, q.2.2.1) := by decide +kernel
set_option maxRecDepth 100000 in
theorem aDc_6 : ∀ j, j < 10 → ∀ q ∈ (aCdf (j + 60)).2, decode (aMt (j + 60)).2.2.1 q.1 = .ok (q.2.1, q.2.2.1) := by decide +kernel
set_option maxRecDepth 100000 in
theorem aDc_7 : ∀ j, j < 10 → ∀ q ∈ (aCdf (j + 70)).2, decode (aMt (j + 70)).2.2.1 q.1 = .ok (q.2.1, q.2.2.1) := by decide +kernel
set_option maxRecDepth 100000 in
theorem aDc_8 : ∀ j, j < 10 → ∀ q ∈ (aCdf (j + 80)).2, decode (aMt (j + 80)).2.2.1 q.1 = .ok (q.2.1, q.2.2.1) := by decide +kernel
set_option maxRecDepth 100000 in
theorem aDc_9 : ∀ j, j < 10 → ∀ q ∈ (aCdf (j + 90)).2, decode (aMt (j + 90)).2.2.1 q.1 = .ok (q.2.1, q.2.2.1) := by decide +kernel
set_option maxRecDepth 100000 in
theorem aDc_10 : ∀ j, j < 10 → ∀ q ∈ (aCdf (j + 100)).2, decode (aMt (j + 100)).2.2.1 q.1 = .ok (q.2.1, q.2.2.1) := by decide +kernel
set_option maxRecDepth 100000 in
theorem aDc_11 : ∀ j, j < 10 → ∀ q ∈ (aCdf (j + 110)).2, decode (aMt (j + 110)).2.2.1 q.1 = .ok (q.2.1, q.2.2.1) := by decide +kernel
set_option maxRecDepth 100000 in
theorem aDc_12 : ∀ j, j < 10 → ∀ q ∈ (aCdf (j + 120)).2, decode (aMt (j + 120)).2.2.1 q.1 = .ok (q.2.1, q.2.2.1) := by decide +kernel
set_option maxRecDepth 100000 in
theorem aDc_13 : ∀ j, j < 10 → ∀ q ∈ (aCdf (j + 130)).2, decode (aMt (j + 130)).2.2.1 q.1 = .ok (q.2.1, q.2.2.1) := by decide +kernel
set_option maxRecDepth 100000 in
theorem aDc_14 : ∀ j, j < 10 → ∀ q ∈ (aCdf (j + 140)).2, decode (aMt (j + 140)).2.2.1 q.1 = .ok (q.2.1, q.2.2.1) := by decide +kernel
set_option maxRecDepth 100000 in
theorem aDc_15 : ∀ j, j < 10 → ∀ q ∈ (aCdf (j + 150)).2, decode (aMt (j + 150)).2.2.1 q.1 = .ok (q.2.1, q.2.2.1) := by decide +kernel
set_option maxRecDepth 100000 in
theorem aDc_16 : ∀ j, j < 10 → ∀ q ∈ (aCdf (j + 160)).2, decode (aMt (j + 160)).2.2.1 q.1 = .ok (q.2.1, q.2.2.1) := by decide +kernel
set_option maxRecDepth 100000 in
theorem aDc_17 : ∀ j, j < 10 → ∀ q ∈ (aCdf (j + 170)).2, decode (aMt (j + 170)).2.2.1 q.1 = .ok (q.2.1, q.2.2.1) := by decide +kernel
set_option maxRecDepth 100000 in
theorem aDc_18 : ∀ j, j < 10 → ∀ q ∈ (aCdf (j + 180)).2, decode (aMt (j + 180)).2.2.1 q.1 = .ok (q.2.1, q.2.2.1) := by decide +kernel
set_option maxRecDepth 100000 in
theorem aDc_19 : ∀ j, j < 10 → ∀ q ∈ (aCdf (j + 190)).2, decode (aMt (j + 190)).2.2.1 q.1 = .ok (q.2.1, q.2.2.1) := by decide +kernel
set_option maxRecDepth 100000 in
theorem aDc_20 : ∀ j, j < 10 → ∀ q ∈ (aCdf (j + 200)).2, decode (aMt (j + 200)).2.2.1 q.1 = .ok (q.2.1, q.2.2.1) := by decide +kernel
set_option maxRecDepth 100000 in
theorem aDc_21 : ∀ j, j < 10 → ∀ q ∈ (aCdf (j + 210)).2, decode (aMt (j + 210)).2.2.1 q.1 = .ok (q.2.1, q.2.2.1) := by decide +kernel
set_option maxRecDepth 100000 in
theorem aDc_22 : ∀ j, j < 10 → ∀ q ∈ (aCdf (j + 220)).2, decode (aMt (j + 220)).2.2.1 q.1 = .ok (q.2.1, q.2.2.1) := by decide +kernel
set_option maxRecDepth 100000 in
theorem aDc_23 : ∀ j, j < 10 → ∀ q ∈ (aCdf (j + 230)).2, decode (aMt (j + 230)).2.2.1 q.1 = .ok (q.2.1, q.2.2.1) := by decide +kernel
set_option maxRecDepth 100000 in
theorem aDc_24 : ∀ j, j < 10 → ∀ q ∈ (aCdf (j + 240)).2, decode (aMt (j + 240)).2.2.1 q.1 = .ok (q.2.1, q.2.2.1) := by decide +kernel
set_option maxRecDepth 100000 in
theorem aDc_25 : ∀ j, j < 10 → ∀ q ∈ (aCdf (j + 250)).2, decode (aMt (j + 250)).2.2.1 q.1 = .ok (q.2.1, q.2.2.1) := by decide +kernel
set_option maxRecDepth 100000 in
theorem aDc_26 : ∀ j, j < 10 → ∀ q ∈ (aCdf (j + 260)).2, decode (aMt (j + 260)).2.2.1 q.1 = .ok (q.2.1, q.2.2.1) := by decide +kernel
set_option maxRecDepth 100000 in
theorem aDc_27 : ∀ j, j < 7 → ∀ q ∈ (aCdf (j + 270)).2, decode (aMt (j + 270)).2.2.1 q.1 = .ok (q.2.1, q.2.2.1) := by decide +kernel
theorem aDc {j : Nat} (h : j < 277) : ∀ q ∈ (aCdf j).2, decode (aMt j).2.2.1 q.1 = .ok (q.2.1, q.2.2.1) := by
  have hs : ∀ lo n, lo ≤ j → j < lo + n → (∀ i, i < n → ∀ q ∈ (aCdf (i + lo)).2, decode (aMt (i + lo)).2.2.1 q.1 = .ok (q.2.1, q.2.2.1)) → ∀ q ∈ (aCdf j).2, decode (aMt j).2.2.1 q.1 = .ok (q.2.1, q.2.2.1) := by
    intro lo n h1 h2 h3
    have := h3 (j - lo) (by omega)
    rwa [show j - lo + lo = j by omega] at this
  by_cases h0 : j < 10
  · exact hs 0 10 (by omega) (by omega) aDc_0
  by_cases h1 : j < 20
  · exact hs 10 10 (by omega) (by omega) aDc_1
  by_cases h2 : j < 30
  · exact hs 20 10 (by omega) (by omega) aDc_2
  by_cases h3 : j < 40
  · exact hs 30 10 (by omega) (by omega) aDc_3
  by_cases h4 : j < 50
  · exact hs 40 10 (by omega) (by omega) aDc_4
  by_cases h5 : j < 60
  · exact hs 50 10 (by omega) (by omega) aDc_5
  by_cases h6 : j < 70
  · exact hs 60 10 (by omega) (by omega) aDc_6
  by_cases h7 : j < 80
  · exact hs 70 10 (by omega) (by omega) aDc_7
  by_cases h8 : j < 90
  · exact hs 80 10 (by omega) (by omega) aDc_8
  by_cases h9 : j < 100
  · exact hs 90 10 (by omega) (by omega) aDc_9
  by_cases h10 : j < 110
  · exact hs 100 10 (by omega) (by omega) aDc_10
  by_cases h11 : j < 120
  · exact hs 110 10 (by omega) (by omega) aDc_11
  by_cases h12 : j < 130
  · exact hs 120 10 (by omega) (by omega) aDc_12
  by_cases h13 : j < 140
  · exact hs 130 10 (by omega) (by omega) aDc_13
  by_cases h14 : j < 150
  · exact hs 140 10 (by omega) (by omega) aDc_14
  by_cases h15 : j < 160
  · exact hs 150 10 (by omega) (by omega) aDc_15
  by_cases h16 : j < 170
  · exact hs 160 10 (by omega) (by omega) aDc_16
  by_cases h17 : j < 180
  · exact hs 170 10 (by omega) (by omega) aDc_17
  by_cases h18 : j < 190
  · exact hs 180 10 (by omega) (by omega) aDc_18
  by_cases h19 : j < 200
  · exact hs 190 10 (by omega) (by omega) aDc_19
  by_cases h20 : j < 210
  · exact hs 200 10 (by omega) (by omega) aDc_20
  by_cases h21 : j < 220
  · exact hs 210 10 (by omega) (by omega) aDc_21
  by_cases h22 : j < 230
  · exact hs 220 10 (by omega) (by omega) aDc_22
  by_cases h23 : j < 240
  · exact hs 230 10 (by omega) (by omega) aDc_23
  by_cases h24 : j < 250
  · exact hs 240 10 (by omega) (by omega) aDc_24
  by_cases h25 : j < 260
  · exact hs 250 10 (by omega) (by omega) aDc_25
  by_cases h26 : j < 270
  · exact hs 260 10 (by omega) (by omega) aDc_26
  exact hs 270 7 (by omega) (by omega) aDc_27
