/-! ===== a formula, whole ===== -/
theorem lvAll {n : Nat} {b : Nat → Nat} {d w fo nu : Nat} : ∀ (k δ : Nat), δ + k = 7 → ∀ D, 7 * k + 14 ≤ D → (∀ σ i W uu mC mM, Ent n b w fo nu δ σ i W uu mC mM → blk 1 σ → Lvl n b i d w fo nu 1 δ σ W uu mC mM (f_Te_takeAny D (Int32.ofNat δ) mC) (gU d mM)) ∧ (∀ σ i W uu mC mM, Ent n b w fo nu δ σ i W uu mC mM → blk 4 σ → Lvl n b i d w fo nu 3 δ σ W uu mC mM (f_Te_takeOne D (Int32.ofNat δ) mC) (gU d mM)) := by
  intro k
  induction k with
  | zero =>
    intro δ hδ D hD
    have one : ∀ D, 14 ≤ D → ∀ σ i W uu mC mM, Ent n b w fo nu δ σ i W uu mC mM → blk 4 σ → Lvl n b i d w fo nu 3 δ σ W uu mC mM (f_Te_takeOne D (Int32.ofNat δ) mC) (gU d mM) := by
      intro D hD
      obtain ⟨D, rfl⟩ : ∃ E, D = E + 4 := ⟨D - 4, by omega⟩
      exact fun σ i W uu mC mM hE hb => lvOne (D + 3) (by omega) (fun _ _ _ _ _ _ h1 h2 h3 => lvSum (D + 2) (by omega) (fun _ _ _ _ _ _ h1 h2 h3 => lvTerm (D + 1) (by omega) (fun _ _ _ _ _ _ h1 h2 => lvUnit D (by omega) (fun h => absurd h (by omega)) h1 h2) h1 h2 h3) h1 h2 h3) (fun h => absurd h (by omega)) hE hb
    refine ⟨?_, one D (by omega)⟩
    obtain ⟨D, rfl⟩ : ∃ E, D = E + 6 := ⟨D - 6, by omega⟩
    have one' : ∀ σ i W uu mC mM, Ent n b w fo nu δ σ i W uu mC mM → blk 4 σ → Lvl n b i d w fo nu 3 δ σ W uu mC mM (f_Te_takeOne (D + 4) (Int32.ofNat δ) mC) (gU d mM) := fun σ i W uu mC mM hE hb => lvOne (D + 3) (by omega) (fun _ _ _ _ _ _ h1 h2 h3 => lvSum (D + 2) (by omega) (fun _ _ _ _ _ _ h1 h2 h3 => lvTerm (D + 1) (by omega) (fun _ _ _ _ _ _ h1 h2 => lvUnit D (by omega) (fun h => absurd h (by omega)) h1 h2) h1 h2 h3) h1 h2 h3) (fun h => absurd h (by omega)) hE hb
    exact fun σ i W uu mC mM hE hb => lvAny (D + 5) (by omega) (fun _ _ _ _ _ _ h1 h2 => lvBoth (D + 4) (by omega) one' h1 h2) hE hb
  | succ k ih =>
    intro δ hδ D hD
    have one : ∀ D, 7 * (k + 1) + 12 ≤ D → ∀ σ i W uu mC mM, Ent n b w fo nu δ σ i W uu mC mM → blk 4 σ → Lvl n b i d w fo nu 3 δ σ W uu mC mM (f_Te_takeOne D (Int32.ofNat δ) mC) (gU d mM) := by
      intro D hD
      obtain ⟨D, rfl⟩ : ∃ E, D = E + 4 := ⟨D - 4, by omega⟩
      exact fun σ i W uu mC mM hE hb => lvOne (D + 3) (by omega) (fun _ _ _ _ _ _ h1 h2 h3 => lvSum (D + 2) (by omega) (fun _ _ _ _ _ _ h1 h2 h3 => lvTerm (D + 1) (by omega) (fun _ _ _ _ _ _ h1 h2 => lvUnit D (by omega) (fun _ => (ih (δ + 1) (by omega) (D - 1) (by omega)).1) h1 h2) h1 h2 h3) h1 h2 h3) (fun _ => (ih (δ + 1) (by omega) (D + 3 - 1) (by omega)).2) hE hb
    refine ⟨?_, one D (by omega)⟩
    obtain ⟨D, rfl⟩ : ∃ E, D = E + 6 := ⟨D - 6, by omega⟩
    exact fun σ i W uu mC mM hE hb => lvAny (D + 5) (by omega) (fun _ _ _ _ _ _ h1 h2 => lvBoth (D + 4) (by omega) (one (D + 4) (by omega)) h1 h2) hE hb
theorem fo_top (D d : Nat) (hD : 63 ≤ D) {n : Nat} {b : Nat → Nat} {w fo nu i : Nat} {mC mM : aMem} (hE : Ent n b w fo nu 0 [] i [] 0 mC mM) :
    wp (f_Te_takeAny D 0 mC) (fun r => (r.1 = 1 ∧ ∃ i' W uu' mM', gU d mM = some mM' ∧ CF n b fo i' W uu' r.2 ∧ MF n b w i' W [] uu' nu 0 mM' ∧ 0 < uu' ∧ uu' ≤ 30 ∧ W ≠ [] ∧ FoOk W ∧ OC fo mC r.2 ∧ OF w mM mM' ∧ i ≤ i') ∨ (r.1 = 0 ∧ Fai n b w fo mC mM r.2 (gU d mM))) := by
  refine wp_mono ((lvAll (d := d) 7 0 rfl D (by omega)).1 [] i [] 0 mC mM hE trivial) ?_
  rintro ⟨r, m1⟩ (⟨h1, S⟩ | h)
  · left
    refine ⟨h1, ?_⟩
    obtain ⟨i2, ρ, V, D2, u2, mm2, a1, a2, a3, a4, a5, a6, a7, a8, a9, a10, a11, a12, a13, a14, a15, a16⟩ := S
    rw [List.nil_append] at a2 a4
    rw [List.append_nil] at a3
    simp only [List.length_nil, Nat.add_zero, Nat.zero_add, Nat.sub_zero] at a6 a7 a9 a10 a11 a3
    have hlen : D2.length = (V ++ ρ.map cod).length := by rw [a4]
    rw [List.length_append, List.length_map] at hlen
    have h20 : has20 ρ = false := by
      cases hh : has20 ρ with
      | false => rfl
      | true => exact absurd rfl (op_20 (a5 20 (has20_iff.mp hh)).1)
    have g2 := s_stop d a3 (by omega) (Or.inr h20) (sgn_stuk a13)
    obtain ⟨m3, g3, M3, o3⟩ := s_end d hE.2.2.2.2.2.2.2 a3 (fun x hx => (a5 x hx).1) (by omega) (by omega) (by omega) (by omega)
    rw [← a4, Nat.sub_self] at M3
    refine ⟨i2, D2, u2, m3, by rw [a1, g2, g3], a2, M3, a7, a8, ?_, ⟨by omega, a12, Or.inr (fun A => ?_)⟩, a14, of_tr a15 o3, a16⟩
    · intro hh
      obtain ⟨v, hv⟩ := a11.2 (fun _ => 0) [] (by simpa using a8)
      rw [hh] at hv
      cases hv
    · exact a11.2 A [] (by simpa using a8)
  · exact Or.inr h
