/-! ===== the class's formula ===== -/
theorem evS_c (A : Nat → Int32) (c : Int32) (W st : List Int32) : evS A (c :: W) st = if c ≤ -8 then (if c = -8 then (match st with
        | v :: r => evS A W ((if v = 0 then 1 else 0) :: r)
        | [] => none)
      else (match st with
        | b :: a :: r => evS A W (jo c a b :: r)
        | _ => none))
    else if st.length < 30 then evS A W (evA A c :: st) else none := by first | rfl | (conv => lhs; unfold evS)
theorem evS_app (A : Nat → Int32) (D2 : List Int32) : ∀ (D1 st : List Int32), evS A (D1 ++ D2) st = (evS A D1 st).bind (fun s => evS A D2 s)
  | [], st => rfl
  | c :: W, st => by
    rw [List.cons_append, evS_c, evS_c]
    by_cases h8 : c ≤ -8
    · rw [if_pos h8, if_pos h8]
      by_cases h : c = -8
      · rw [if_pos h, if_pos h]
        cases st with
        | nil => rfl
        | cons v r => exact evS_app A D2 W _
      · rw [if_neg h, if_neg h]
        cases st with
        | nil => rfl
        | cons v r =>
          cases r with
          | nil => rfl
          | cons u r => exact evS_app A D2 W _
    · rw [if_neg h8, if_neg h8]
      by_cases hl : st.length < 30
      · rw [if_pos hl, if_pos hl]; exact evS_app A D2 W _
      · rw [if_neg hl, if_neg hl]; rfl
def ExpD (D : List Int32) (k : Nat) : Prop := 1 ≤ k ∧ ∀ A st, st.length + k ≤ 30 → ∃ v, evS A D st = some (v :: st)
theorem exp_atom {c : Int32} (h : ¬ c ≤ -8) : ExpD [c] 1 := by
  refine ⟨Nat.le_refl _, fun A st hl => ⟨evA A c, ?_⟩⟩
  show (if c ≤ -8 then _ else if st.length < 30 then evS A [] (evA A c :: st) else none) = _
  rw [if_neg h, if_pos (by omega)]; rfl
theorem exp_join {D1 D2 : List Int32} {k1 k2 : Nat} {c : Int32} (h1 : ExpD D1 k1) (h2 : ExpD D2 k2) (hc : c ≤ -8) (hc2 : c ≠ -8) : ExpD (D1 ++ (D2 ++ [c])) (k1 + k2) := by
  refine ⟨by have := h1.1; omega, fun A st hl => ?_⟩
  have q1 := h1.1
  obtain ⟨v1, e1⟩ := h1.2 A st (by omega)
  obtain ⟨v2, e2⟩ := h2.2 A (v1 :: st) (by rw [List.length_cons]; omega)
  refine ⟨jo c v1 v2, ?_⟩
  rw [evS_app, e1, Option.bind_some, evS_app, e2, Option.bind_some]
  show (if c ≤ -8 then (if c = -8 then _ else evS A [] (jo c v1 v2 :: st)) else _) = _
  rw [if_pos hc, if_neg hc2]; rfl
theorem exp_not {D : List Int32} {k : Nat} (h : ExpD D k) : ExpD (D ++ [-8]) k := by
  refine ⟨h.1, fun A st hl => ?_⟩
  obtain ⟨v, e⟩ := h.2 A st hl
  refine ⟨if v = 0 then 1 else 0, ?_⟩
  rw [evS_app, e, Option.bind_some]
  show (if (-8 : Int32) ≤ -8 then (if (-8 : Int32) = -8 then evS A [] ((if v = 0 then 1 else 0) :: st) else _) else _) = _
  rw [if_pos (by decide), if_pos rfl]; rfl
theorem cod_r {x : Int32} (h : isOp x) : cod x ≤ -8 ∧ -18 ≤ cod x ∧ (x ≠ 21 → cod x ≠ -8) := by
  rcases h with rfl | rfl | rfl | rfl | rfl | rfl | rfl | rfl | rfl | rfl | rfl <;> decide
def isF (fo : Nat) : Prop := fo = 16 ∨ fo = 19 ∨ fo = 35 ∨ fo = 38
theorem fo_O {fo : Nat} (h : isF fo) : isO SHL fo 2 = true := by rcases h with rfl | rfl | rfl | rfl <;> rfl
theorem fo_z {fo : Nat} (h : isF fo) : (!(fo == 0)) = true := by rcases h with rfl | rfl | rfl | rfl <;> rfl
theorem fo_S {fo : Nat} (h : isF fo) : SRF fo 0 = fo + 1 := by rcases h with rfl | rfl | rfl | rfl <;> rfl
theorem fo_A {fo : Nat} (h : isF fo) (x : Int32) : inA SHL (fo + 1) 1 x = inb x 300 := by rcases h with rfl | rfl | rfl | rfl <;> rfl
theorem fo_n {fo : Nat} (h : isF fo) : fo < 39 := by rcases h with rfl | rfl | rfl | rfl <;> omega
theorem fo_2 {fo : Nat} (h : isF fo) : (isO SHL fo 2 && (true && true)) = true := by rw [fo_O h]; rfl
def CF (n : Nat) (b : Nat → Nat) (fo i : Nat) (W : List Int32) (uu : Nat) (m : aMem) : Prop := cRd n b i m ∧ m.2.2 42 2 = fo ∧ isF fo ∧ m.1 fo 2 = Int32.ofNat W.length ∧ (∀ j (hj : j < W.length), m.1 (fo + 1) j = W[j]) ∧ m.1 fo 3 = Int32.ofNat uu
def OC (fo : Nat) (m m' : aMem) : Prop := OfL (fun a => a = 43 ∨ a = fo ∨ a = fo + 1) m m'
def OCF (fo : Nat) (m m' : aMem) : Prop := OfL (fun a => a = 42 ∨ a = 43 ∨ a = fo ∨ a = fo + 1) m m'
theorem cRd_of {n : Nat} {b : Nat → Nat} {i : Nat} {m m' : aMem} (h : cRd n b i m) (h1 : m'.1 43 = m.1 43) (h2 : m'.1 41 = m.1 41) (h3 : m'.2.1 43 = m.2.1 43) : cRd n b i m' := by
  obtain ⟨t, l, a4, a3, a7, a5, a6, a2⟩ := h
  exact ⟨cTx_of t (by rw [h1]) h2, l, by rw [h1]; exact a4, by rw [h1]; exact a3, fun hh => by rw [h3]; exact a7 hh, fun hh => by rw [h1]; exact a5 hh, fun hh => by rw [h1] at hh ⊢; exact a6 hh, fun hh => by rw [h1]; exact a2 hh⟩
section Fc
variable {n : Nat} {b : Nat → Nat} {fo i : Nat} {W : List Int32} {uu : Nat} {m : aMem}
theorem CF_next (d : Nat) (h : CF n b fo i W uu m) (h3 : tS n b i ≠ 3) : ∃ m', f_Re_next (d + 3) m = some m' ∧ CF n b fo (tX n b i) W uu m' ∧ OC fo m m' := by
  obtain ⟨hR, h42, hf, hl, hs, hu⟩ := h
  have := fo_n hf
  obtain ⟨m', e, o, r⟩ := s_next d (tX_le hR.2.1).1 hR.1 (hR.2.2.2.2.2.2.2 h3)
  exact ⟨m', e, ⟨r, by rw [ol_r o]; exact h42, hf, by rw [ol_1 o (by omega)]; exact hl, fun j hj => by rw [ol_1 o (by omega)]; exact hs j hj, by rw [ol_1 o (by omega)]; exact hu⟩, ol_mono o (by intro a ha; exact Or.inl ha)⟩
theorem CF_add (d : Nat) (h : CF n b fo i W uu m) (hW : W.length < 300) (c : Int32) : ∃ m', f_Fo_add (d + 1) fo c m = some m' ∧ CF n b fo i (W ++ [c]) uu m' ∧ OC fo m m' := by
  obtain ⟨hR, h42, hf, hl, hs, hu⟩ := h
  have := fo_n hf
  refine ⟨aUI (aUI m (fo + 1) W.length c) fo 2 (Int32.ofNat (W.length + 1)), ?_, ⟨cRd_of hR (by rw [w_off _ _ _ _ (by omega), w_off _ _ _ _ (by omega)]) (by rw [w_off _ _ _ _ (by omega), w_off _ _ _ _ (by omega)]) rfl, h42, hf, by rw [w_k, List.length_append]; rfl, fun j hj => ?_, by rw [w_same, if_neg (by omega), w_off _ _ _ _ (by omega)]; exact hu⟩, ol_I (ol_I (ol_rfl _ _) _ _ (by omega)) _ _ (by omega)⟩
  · rw [q_Fo_add, fo_O hf, grd_t, hl, if_neg (fun hh => absurd ((l_le (by omega) (by omega)).mp hh) (by omega)), grd_t, grd_t, fo_S hf, fo_A hf, n_inb (by omega) (by omega), grd_t, grd_t, grd_t, n_clamp (by omega), w_off _ _ _ _ (show fo ≠ fo + 1 by omega), hl, n_succ]
  · rw [w_off _ _ _ _ (by omega), w_same]
    rw [List.length_append] at hj
    by_cases hjw : j < W.length
    · rw [if_neg (by omega), List.getElem_append_left hjw]; exact hs j hjw
    · have : j = W.length := by simp at hj; omega
      subst this
      rw [if_pos rfl, List.getElem_append_right (Nat.le_refl _)]; simp
theorem CF_unit (h : CF n b fo i W uu m) : CF n b fo i W (uu + 1) (aUI m fo 3 (m.1 fo 3 + 1)) ∧ OC fo m (aUI m fo 3 (m.1 fo 3 + 1)) := by
  obtain ⟨hR, h42, hf, hl, hs, hu⟩ := h
  have := fo_n hf
  exact ⟨⟨cRd_of hR (w_off _ _ _ _ (by omega)) (w_off _ _ _ _ (by omega)) rfl, h42, hf, by rw [w_same, if_neg (by omega)]; exact hl, fun j hj => by rw [w_off _ _ _ _ (by omega)]; exact hs j hj, by rw [w_k, hu, n_succ]⟩, ol_I (ol_rfl _ _) _ _ (by omega)⟩
theorem CF_refuse (d : Nat) (h : CF n b fo i W uu m) : ∃ m', f_Te_refuse (d + 1) 2 m = some (0, m') ∧ FC n b i 2 m' ∧ OCF fo m m' :=
  ⟨_, s_refuse d h.1 2, ⟨by rw [w_same, if_neg (by omega), w_k], w_k _ _ _ _⟩, ol_I (ol_I (ol_rfl _ _) _ _ (by omega)) _ _ (by omega)⟩
end Fc
theorem oc_f {fo : Nat} {m m' : aMem} (h : OC fo m m') : OCF fo m m' := ol_mono h (by intro a ha; omega)
/-! ===== both ===== -/
def stuk (L n : Nat) (b : Nat → Nat) (i : Nat) (ρ : List Int32) : Prop := (L ≤ 6 → tS n b i ≠ 42 ∧ tS n b i ≠ 47 ∧ tS n b i ≠ 37) ∧ (L ≤ 5 → tS n b i ≠ 43 ∧ tS n b i ≠ 45) ∧ (L ≤ 3 → (tS n b i = 60 ∨ tS n b i = 62 ∨ tS n b i = 61) → hasRel ρ = true) ∧ (L ≤ 2 → isWd n b i 6385252 = false) ∧ (L ≤ 1 → isWd n b i 28530 = false)
def Ent (n : Nat) (b : Nat → Nat) (w fo nu δ : Nat) (σ : List Int32) (i : Nat) (W : List Int32) (uu : Nat) (mC mM : aMem) : Prop := CF n b fo i W uu mC ∧ MF n b w i W σ uu nu δ mM ∧ W.length ≤ 9 * uu ∧ uu ≤ 30 ∧ nu ≤ 30 ∧ σ.length ≤ uu + δ ∧ δ ≤ 7 ∧ w < 2
def Suc (n : Nat) (b : Nat → Nat) (i0 d w fo nu L Ls q δ : Nat) (σ W : List Int32) (uu : Nat) (mC mM r2 : aMem) (out : Option aMem) : Prop :=
  ∃ i' ρ V D uu' mM', out = b_M_formula_50 (d + 4) 1 mM' ∧ CF n b fo i' (W ++ D) uu' r2 ∧ MF n b w i' V (ρ ++ σ) uu' nu (δ + nots ρ) mM' ∧ W ++ D = V ++ ρ.map cod ∧ (∀ x, x ∈ ρ → isOp x ∧ L ≤ tig x) ∧ δ + nots ρ ≤ 7 ∧ uu + q < uu' ∧ uu' ≤ 30 ∧ D.length + 1 + δ ≤ 9 * (uu' - uu) ∧ ρ.length + σ.length ≤ uu' + (δ + nots ρ) ∧ ExpD D (uu' - uu) ∧ (∀ c, c ∈ D → -18 ≤ c) ∧ stuk Ls n b i' ρ ∧ OC fo mC r2 ∧ OF w mM mM' ∧ i0 ≤ i'
def Fai (n : Nat) (b : Nat → Nat) (w fo : Nat) (mC mM r2 : aMem) (out : Option aMem) : Prop := ∃ i' mF, out = some mF ∧ FC n b i' 2 r2 ∧ FM n b i' 2 mF ∧ OCF fo mC r2 ∧ OF w mM mF
noncomputable def gU (d : Nat) (m : aMem) : Option aMem := (f_M_unit (d + 4) m).bind (fun q => b_M_formula_50 (d + 4) 1 q)
/-- what a level does, in both -/
def Lvl (n : Nat) (b : Nat → Nat) (i0 d w fo nu L δ : Nat) (σ W : List Int32) (uu : Nat) (mC mM : aMem) (x : Option (Int32 × aMem)) (out : Option aMem) : Prop := wp x (fun r => (r.1 = 1 ∧ Suc n b i0 d w fo nu L L 0 δ σ W uu mC mM r.2 out) ∨ (r.1 = 0 ∧ Fai n b w fo mC mM r.2 out))
