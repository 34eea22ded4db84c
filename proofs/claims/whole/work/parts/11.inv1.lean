/-! ===== what always holds of a moment, and that cycles keep it ===== -/
def WK (π : Pt) (κ : Kt) : Prop := LB π κ ∧ WQ π κ ∧ WB π κ ∧ WH π κ ∧ DI π κ ∧ (∀ g, π 1 0 ≤ g → κ 12 g 0 = 0) ∧ κ 1 0 0 ≤ 99999 ∧ κ 2 0 0 ≤ 1 ∧ (κ 2 0 0 = 1 → (∀ g, κ 12 g 0 = 0) ∧ κ 3 0 0 = 0)
section I1
variable {π : Pt} {κ : Kt}
theorem WK.tb (h : WK π κ) (hT : κ 0 0 0 + 20 < 2147483647) : TB π κ := by
  obtain ⟨-, hQ, -, hH, -, hN, -⟩ := h
  refine ⟨fun g hg k hk => ?_, fun g hg => ⟨?_, hN g⟩, hH.1, fun k hk => ?_⟩
  · have := ((hQ g hg).2.1 k hk).2.1; omega
  · rcases Nat.lt_or_ge g (π 1 0) with q | q
    · exact (hQ g q).1
    · rw [hN g q]; omega
  · have := (hH.2.1 k hk).2.1; omega
theorem cy_f {f : Nat} (h : f ≠ 12 ∧ f ≠ 13 ∧ f ≠ 14) : cy π κ f = cy3 π κ f := tlA_f h _
theorem cy3_f {f : Nat} (h : f ≠ 1 ∧ f ≠ 4 ∧ f ≠ 5 ∧ f ≠ 6 ∧ f ≠ 7 ∧ f ≠ 9 ∧ f ≠ 10) : cy3 π κ f = cy2 π κ f := by
  unfold cy3
  rw [ku_f (by omega), chB_f (by omega)]
theorem cy_0 : cy π κ 0 = κ 0 := by rw [cy_f (by omega), cy3_f (by omega), cy2_f (by omega)]
theorem cy_2 : cy π κ 2 = κ 2 := by rw [cy_f (by omega), cy3_f (by omega), cy2_f (by omega)]
theorem cy_11 : cy π κ 11 = tkQ κ (π 1 0) 11 := by rw [cy_f (by omega), cy3_f (by omega), cy2_q (by omega)]
theorem cy_3 : cy π κ 3 0 0 = if hdu κ = true then κ 3 0 0 - 1 else κ 3 0 0 := by
  rw [cy_f (by omega), cy3_f (by omega)]
  unfold cy2
  split
  · have : tkQ κ (π 1 0) 3 = κ 3 := tkQ_f (by omega)
    show tkH (tkQ κ (π 1 0)) 3 0 0 = _
    unfold tkH
    rw [if_pos ⟨rfl, rfl, rfl⟩, this]
  · rw [tkQ_f (by omega)]
theorem cy_hand {f : Nat} (hf : f = 15 ∨ f = 16 ∨ f = 17) (k : Nat) : cy π κ f k 0 = if hdu κ = true then κ f (k + 1) 0 else κ f k 0 := by
  rw [cy_f (by omega), cy3_f (by omega)]
  unfold cy2
  have e : tkQ κ (π 1 0) f = κ f := tkQ_f (by omega)
  split
  · rcases hf with rfl | rfl | rfl <;> (show tkQ κ (π 1 0) _ (k + 1) 0 = _) <;> rw [e]
  · rw [e]
theorem cy_WH (hH : WH π κ) : WH π (cy π κ) := by
  unfold WH
  rw [cy_3, cy_0]
  have e15 := cy_hand (π := π) (κ := κ) (f := 15) (by omega)
  have e16 := cy_hand (π := π) (κ := κ) (f := 16) (by omega)
  have e17 := cy_hand (π := π) (κ := κ) (f := 17) (by omega)
  obtain ⟨h1, h2, h3⟩ := hH
  cases hd : hdu κ with
  | true =>
    rw [hd] at e15 e16 e17
    simp only [if_true] at e15 e16 e17 ⊢
    refine ⟨by omega, fun k hk => ?_, fun k hk => ?_⟩
    · rw [e15, e16, e17]; exact h2 (k + 1) (by omega)
    · rw [e15, e15]; exact h3 (k + 1) (by omega)
  | false =>
    rw [hd] at e15 e16 e17
    rw [if_neg (by decide)] at *
    refine ⟨h1, fun k hk => ?_, fun k hk => ?_⟩
    · rw [e15, e16, e17, if_neg (by decide), if_neg (by decide), if_neg (by decide)]; exact h2 k hk
    · rw [e15, e15, if_neg (by decide), if_neg (by decide)]; exact h3 k hk
theorem cy3_WB (hL : LB π κ) (hQ : WQ π κ) (hB : WB π κ) (hH : WH π κ) : WB π (cy3 π κ) := by
  have h := WB_chB (κ2 := cy2 π κ) (P := fun i => decide (i < π 0 0)) (t := tgt π κ) hB (cy2_f (by omega)) (cy2_f (by omega)) (cy2_f (by omega)) (cy2_f (by omega)) (cy2_f (by omega)) (fun w hw => tgt_lt hL hQ hH hw) (fun w hw => decide_eq_false (by omega))
  unfold WB cy3 at *
  rw [ku_f (by decide), ku_f (by decide), ku_f (by decide), ku_f (by decide), ku_f (by decide)]
  exact h
theorem cy_4 {w : Nat} (hw : w < π 0 0) : cy π κ 4 w 0 = tgt π κ w := by
  rw [cy_f (by omega)]
  unfold cy3
  rw [ku_f (by decide), chB_def]
  have e : cy2 π κ 4 = κ 4 := cy2_f (by omega)
  by_cases hc : tgt π κ w = κ 4 w 0
  · rw [if_neg (fun q => q.2 (by rw [e]; exact hc)), e]; exact hc.symm
  · rw [if_pos ⟨decide_eq_true hw, by rw [e]; exact hc⟩]; rfl
theorem cy_DI : DI π (cy π κ) := by
  intro w hw hd
  rw [cy_4 hw]
  rw [dl_congr (κ := tkQ κ (π 1 0)) (fun i _ => by rw [cy_11])]
  unfold tgt
  rw [if_pos hd]
theorem cy_WK (hW : WP π) (h : WK π κ) (h2 : κ 2 0 0 = 0) : WK π (cy π κ) := by
  obtain ⟨hL, hQ, hB, hH, hD, hN, hC, hE, hZ⟩ := h
  obtain ⟨hL3, hQ3⟩ := cy3_LQ hL hQ hH
  obtain ⟨hQ4, hL4⟩ := tlA_WQ (W := wk π (chd π κ)) hW hL3 hQ3 (π 1 0) (Nat.le_refl _)
  have hB3 := cy3_WB hL hQ hB hH
  refine ⟨hL4, hQ4, ?_, cy_WH hH, cy_DI, fun g hg => ?_, ?_, ?_, fun q => ?_⟩
  · unfold WB at *
    rw [cy_f (by omega), cy_f (by omega), cy_f (by omega), cy_f (by omega), cy_f (by omega)]
    exact hB3
  · show tlA _ _ _ _ 12 g 0 = 0
    rw [tlA_g _ hg, cy3_f (by omega), cy2_q (by omega), tkQ_i hg]
    exact hN g hg
  · rw [cy_f (by omega)]
    unfold cy3
    rw [ku_same]
    exact Nat.min_le_right _ _
  · rw [cy_2]; omega
  · rw [cy_2] at q; omega
/-- something is due -/
def ad (κ : Kt) : Nat → Bool
  | 0 => false
  | n + 1 => due κ n || ad κ n
theorem ad_iff : ∀ n, ad κ n = true ↔ ∃ g, g < n ∧ due κ g = true
  | 0 => ⟨fun h => by simp [ad] at h, fun ⟨g, h, _⟩ => by omega⟩
  | n + 1 => by
    have ih := ad_iff n
    unfold ad
    rw [Bool.or_eq_true, ih]
    constructor
    · rintro (h1 | ⟨g, h1, h2⟩)
      · exact ⟨n, by omega, h1⟩
      · exact ⟨g, by omega, h2⟩
    · rintro ⟨g, h1, h2⟩
      by_cases e : g = n
      · subst e; exact Or.inl h2
      · exact Or.inr ⟨g, by omega, h2⟩
theorem er_in : ∀ n, er κ n = 2147483647 ∨ (0 < κ 3 0 0 ∧ er κ n = κ 15 0 0) ∨ ∃ g, g < n ∧ 0 < κ 12 g 0 ∧ er κ n = κ 13 g 0
  | 0 => by
    unfold er
    by_cases h : 0 < κ 3 0 0
    · rw [if_pos h]; exact Or.inr (Or.inl ⟨h, rfl⟩)
    · rw [if_neg h]; exact Or.inl rfl
  | n + 1 => by
    have ih := er_in n
    unfold er
    have up : (er κ n = 2147483647 ∨ (0 < κ 3 0 0 ∧ er κ n = κ 15 0 0) ∨ ∃ g, g < n + 1 ∧ 0 < κ 12 g 0 ∧ er κ n = κ 13 g 0) := by
      rcases ih with a | a | ⟨g, a, b⟩
      · exact Or.inl a
      · exact Or.inr (Or.inl a)
      · exact Or.inr (Or.inr ⟨g, by omega, b⟩)
    by_cases h : 0 < κ 12 n 0
    · rw [if_pos h]
      by_cases h' : κ 13 n 0 < er κ n
      · rw [if_pos h']; exact Or.inr (Or.inr ⟨n, by omega, h, rfl⟩)
      · rw [if_neg h']; exact up
    · rw [if_neg h]; exact up
theorem er_hand : ∀ n, 0 < κ 3 0 0 → er κ n ≤ κ 15 0 0
  | 0, h => by unfold er; rw [if_pos h]; exact Nat.le_refl _
  | n + 1, h => by
    have := er_hand n h
    unfold er
    split
    · split <;> omega
    · exact this
theorem er_gate : ∀ n g, g < n → 0 < κ 12 g 0 → er κ n ≤ κ 13 g 0
  | 0, g, hg, _ => by omega
  | n + 1, g, hg, h => by
    unfold er
    by_cases e : g = n
    · subst e
      rw [if_pos h]
      split <;> omega
    · have := er_gate n g (by omega) h
      split
      · split <;> omega
      · exact this
theorem WQ.mono (h : WQ π κ) {g : Nat} (hg : g < π 1 0) : ∀ k, k < κ 12 g 0 → κ 13 g 0 ≤ κ 13 g k
  | 0, _ => Nat.le_refl _
  | k + 1, hk => by
    have := WQ.mono h hg k (by omega)
    have := (h g hg).2.2 k (by omega)
    omega
theorem WH.mono (h : WH π κ) : ∀ k, k < κ 3 0 0 → κ 15 0 0 ≤ κ 15 k 0
  | 0, _ => Nat.le_refl _
  | k + 1, hk => by
    have := WH.mono h k (by omega)
    have := h.2.2 k (by omega)
    omega
theorem WK.er_ge (h : WK π κ) (hT : κ 0 0 0 ≤ 2147483647) : κ 0 0 0 ≤ er κ 8 := by
  obtain ⟨hL, hQ, hB, hH, hD, hN, -⟩ := h
  rcases er_in (κ := κ) 8 with a | ⟨a, b⟩ | ⟨g, a, b, c⟩
  · omega
  · rw [b]; exact (hH.2.1 0 a).1
  · rw [c]
    rcases Nat.lt_or_ge g (π 1 0) with q | q
    · exact ((hQ g q).2.1 0 b).1
    · have := hN g q; omega
theorem WK.er_le (h : WK π κ) : er κ 8 = 2147483647 ∨ er κ 8 ≤ κ 0 0 0 + 20 := by
  obtain ⟨hL, hQ, hB, hH, hD, hN, -⟩ := h
  rcases er_in (κ := κ) 8 with a | ⟨a, b⟩ | ⟨g, a, b, c⟩
  · exact Or.inl a
  · rw [b]; exact Or.inr (hH.2.1 0 a).2.1
  · rw [c]
    rcases Nat.lt_or_ge g (π 1 0) with q | q
    · exact Or.inr ((hQ g q).2.1 0 b).2.1
    · have := hN g q; omega
/-- time goes on up to what waits -/
theorem WK.time (hW : WP π) (h : WK π κ) {t : Nat} (h1 : κ 0 0 0 ≤ t) (h2 : t ≤ er κ 8) : WK π (ku κ 0 t) := by
  obtain ⟨hL, hQ, hB, hH, hD, hN, hC, hE, hZ⟩ := h
  have hw1 := hW.2.1
  unfold WK LB WQ WB WH DI at *
  have e : ∀ f, f ≠ 0 → ku κ 0 t f = κ f := fun f hf => ku_f hf
  have e0 : ku κ 0 t 0 0 0 = t := ku_same
  rw [e 4 (by decide), e 11 (by decide), e 12 (by decide), e 13 (by decide), e 14 (by decide), e 5 (by decide), e 6 (by decide), e 7 (by decide), e 3 (by decide), e 15 (by decide), e 16 (by decide), e 17 (by decide), e 1 (by decide), e 2 (by decide), e0]
  refine ⟨hL, fun g hg => ⟨(hQ g hg).1, fun k hk => ?_, (hQ g hg).2.2⟩, ⟨fun w hw => ⟨(hB.1 w hw).1, (hB.1 w hw).2.1, ?_⟩, hB.2⟩, ⟨hH.1, fun k hk => ?_, hH.2.2⟩, fun w hw hd => ?_, hN, hC, hE, hZ⟩
  · have q := (hQ g hg).2.1 k hk
    have := WQ.mono (π := π) (κ := κ) hQ hg k hk
    have := er_gate (κ := κ) 8 g (by omega) (by omega)
    exact ⟨by omega, by omega, q.2.2⟩
  · have := (hB.1 w hw).2.2; omega
  · have q := hH.2.1 k hk
    have := WH.mono (π := π) (κ := κ) hH k hk
    have := er_hand (κ := κ) 8 (by omega)
    exact ⟨by omega, by omega, q.2.2⟩
  · rw [hD w hw hd]
    exact dl_congr (fun i _ => by rw [e 11 (by decide)]) _ |>.symm
end I1
