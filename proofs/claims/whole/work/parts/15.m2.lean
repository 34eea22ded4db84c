/-! ===== the reference: what waits, a wire changes ===== -/
theorem least_n {a b : Nat} (ha : a < 2 ^ 31) (hb : b < 2 ^ 31) : f_X9_least (nI a) (nI b) = nI (min a b) := by
  unfold f_X9_least
  by_cases h : a < b
  · rw [if_neg (nI_ge h hb), Nat.min_eq_left (by omega)]
  · rw [if_pos (nI_le (by omega) ha), Nat.min_eq_right (by omega)]
section M2
variable {mc ms : Nat} {z : Zt} {I I' J J' : It} {Q : Option Value → Zt → It → Prop} {x : Nat} {π : Pt} {κ κ' : Kt}
def HF (x : Nat) (I J : It) : Prop := (∀ a, a ≠ 309 → J a = I a) ∧ ∀ q, q ≠ x + 3 → (q < x + 320 ∨ x + 344 ≤ q) → J 309 q = I 309 q
theorem HF.tr {I J K : It} (h : HF x I J) (h' : HF x J K) : HF x I K := ⟨fun a ha => (h'.1 a ha).trans (h.1 a ha), fun q a b => (h'.2 q a b).trans (h.2 q a b)⟩
theorem HF.st {j : Nat} {v : Int32} (e : J = e_st I 309 j v) (hj : j = x + 3 ∨ (x + 320 ≤ j ∧ j < x + 344)) : HF x I J := ⟨fun a ha => by rw [e, e_st_a ha], fun q a b => by rw [e, e_st_k (by omega)]⟩
theorem FrR.hf (h : HF x I J) : FrR x I J := ⟨h.1, fun q hq => h.2 q (by omega) (by omega)⟩
theorem LM_dropHand (ho : isO z) (hx : x + 344 ≤ 6880) (hX : hR I x π κ) (hW : WP π) (hz8 : Z8 π κ) (h0 : 0 < κ 3 0 0) (k : ∀ I', FrR x I I' → hR I' x π (tkH κ) → Q none z I') : ∀ (r i : Nat) (K : It), i + r = κ 3 0 0 - 1 → HF x I K → K 309 (x + 3) = nI (κ 3 0 0 - 1) → (∀ q, i ≤ q → q < 8 → K 309 (x + 320 + q) = I 309 (x + 320 + q) ∧ K 309 (x + 328 + q) = I 309 (x + 328 + q) ∧ K 309 (x + 336 + q) = I 309 (x + 336 + q)) → (∀ q, q < i → K 309 (x + 320 + q) = I 309 (x + 320 + q + 1) ∧ K 309 (x + 328 + q) = I 309 (x + 328 + q + 1) ∧ K 309 (x + 336 + q) = I 309 (x + 336 + q + 1)) → E mX9_dropHand mc ms 14 [some (.ref 308), some (.int (nI x)), some (.int (nI i))] [] z K Q := by
  intro r
  have h8 := hz8.2
  induction r with
  | zero =>
    intro i K hi hf h3 h1 h2
    refine B_X9_dropHand_14 ho ⟨x + 3, ix2 x 3, by omega, ?_⟩
    rw [h3]
    refine pk_le (κ 3 0 0 - 1) i (fun _ => ?_) (fun h => absurd h (by omega))
    have f2 := hf.2
    have e3 : tkH κ 3 0 0 = κ 3 0 0 - 1 := by unfold tkH; rw [if_pos ⟨rfl, rfl, rfl⟩]
    refine k K (FrR.hf hf) ⟨⟨?_, ?_, ?_, ?_⟩, hX.2.1.to hW.1 (fun q a b => f2 q (by omega) (by omega)) (tkH_f (by omega)) (tkH_f (by omega)) (tkH_f (by omega)) (tkH_f (by omega)) (tkH_f (by omega)) (tkH_f (by omega)), hX.2.2.1.to hW.2.1 hz8.1 (fun q a b => f2 q (by omega) (by omega)) (tkH_f (by omega)) (tkH_f (by omega)) (tkH_f (by omega)) (tkH_f (by omega)), fun q hq => ?_⟩
    · rw [f2 x (by omega) (by omega), tkH_f (by omega)]; exact hX.1.1
    · rw [f2 (x + 1) (by omega) (by omega), tkH_f (by omega)]; exact hX.1.2.1
    · rw [f2 (x + 2) (by omega) (by omega), tkH_f (by omega)]; exact hX.1.2.2.1
    · rw [h3, e3]
    · rw [e3] at hq
      have a := h2 q (by omega)
      have b := hX.2.2.2 (q + 1) (by omega)
      rw [a.1, a.2.1, a.2.2]
      exact b
  | succ r ih =>
    intro i K hi hf h3 h1 h2
    refine B_X9_dropHand_14 ho ⟨x + 3, ix2 x 3, by omega, ?_⟩
    rw [h3]
    refine pk_le (κ 3 0 0 - 1) i (fun h => absurd h (by omega)) (fun _ => ⟨x + 320 + i + 1, ix7 x 320 i 1, by omega, x + 320 + i, ix3 x 320 i, by omega, fun I4 e4 => ⟨x + 328 + i + 1, ix7 x 328 i 1, by omega, x + 328 + i, ix3 x 328 i, by omega, fun I7 e7 => ⟨x + 336 + i + 1, ix7 x 336 i 1, by omega, x + 336 + i, ix3 x 336 i, by omega, fun I10 e10 => ?_⟩⟩⟩)
    rw [nI_1]
    refine ih (i + 1) I10 (by omega) (((hf.tr (HF.st e4 (by omega))).tr (HF.st e7 (by omega))).tr (HF.st e10 (by omega))) (by rw [e10, e_st_k (by omega), e7, e_st_k (by omega), e4, e_st_k (by omega)]; exact h3) (fun q hq hq8 => ?_) (fun q hq => ?_)
    · rw [e10, e_st_k (by omega), e_st_k (by omega), e_st_k (by omega), e7, e_st_k (by omega), e_st_k (by omega), e_st_k (by omega), e4, e_st_k (by omega), e_st_k (by omega), e_st_k (by omega)]
      exact h1 q (by omega) hq8
    · by_cases e : q = i
      · subst e
        have a := h1 (q + 1) (by omega) (by omega)
        rw [e10, e_st_same, e_st_k (by omega), e_st_k (by omega), e7, e_st_same, e_st_k (by omega), e_st_k (by omega), e4, e_st_same, e_st_k (by omega), e_st_k (by omega)]
        exact a
      · rw [e10, e_st_k (by omega), e_st_k (by omega), e_st_k (by omega), e7, e_st_k (by omega), e_st_k (by omega), e_st_k (by omega), e4, e_st_k (by omega), e_st_k (by omega), e_st_k (by omega)]
        exact h2 q (by omega)
theorem M_dropHand (ho : isO z) (hx : x + 344 ≤ 6880) (hX : hR I x π κ) (hW : WP π) (hz8 : Z8 π κ) (h0 : 0 < κ 3 0 0) (k : ∀ I', FrR x I I' → hR I' x π (tkH κ) → Q none z I') : E mX9_dropHand mc ms 0 [some (.ref 308), some (.int (nI x)), none] [] z I Q := by
  refine B_X9_dropHand_0 ho ⟨x + 3, ix2 x 3, by omega, fun I2 e2 => ?_⟩
  rw [hX.1.2.2.2, nI_dec h0] at e2
  refine LM_dropHand ho hx hX hW hz8 h0 k (κ 3 0 0 - 1) 0 I2 (by omega) (HF.st e2 (Or.inl rfl)) (by rw [e2, e_st_same]) (fun q _ hq => ?_) (fun q hq => absurd hq (by omega))
  rw [e2, e_st_k (by omega), e_st_k (by omega), e_st_k (by omega)]
  exact ⟨rfl, rfl, rfl⟩
-- what waits
def wv (κ : Kt) (n : Nat) : Int32 := if er κ n = 2147483647 then -1 else nI (er κ n)
theorem er_up (hN : ∀ g, π 1 0 ≤ g → κ 12 g 0 = 0) : ∀ d, er κ (π 1 0 + d) = er κ (π 1 0)
  | 0 => rfl
  | d + 1 => by
    have e : er κ (π 1 0 + d + 1) = er κ (π 1 0 + d) := if_neg (by have := hN (π 1 0 + d) (by omega); omega)
    exact e.trans (er_up hN d)
theorem er_8 (hW : WP π) (hN : ∀ g, π 1 0 ≤ g → κ 12 g 0 = 0) : er κ (π 1 0) = er κ 8 := by
  have hw1 := hW.2.1
  have := er_up hN (8 - π 1 0)
  rw [show π 1 0 + (8 - π 1 0) = 8 by omega] at this
  exact this.symm
theorem LM_waits (ho : isO z) (hx : x + 344 ≤ 6880) (hX : hR I x π κ) (hPl : hO I π) (hW : WP π) (hT : TB π κ) (k : Q (some (.int (wv κ (π 1 0)))) z I) : ∀ (r g : Nat), g + r = π 1 0 → E mX9_waits mc ms 28 [some (.ref 308), some (.int (nI x)), some (.int (wv κ g)), some (.int (nI g)), none] [] z I Q := by
  intro r
  have hw1 := hW.2.1
  induction r with
  | zero =>
    intro g hg
    refine B_X9_waits_28 ho ?_
    rw [hPl.2.1]
    have e : g = π 1 0 := by omega
    subst e
    exact pk_le (π 1 0) (π 1 0) (fun _ => k) (fun h => absurd h (by omega))
  | succ r ih =>
    intro g hg
    obtain ⟨a1, a2, a3⟩ := hX.2.2.1 g (by omega)
    have h8 := (hT.2.1 g (by omega)).1
    have hle := er_le hT g (by omega)
    have ih' := ih (g + 1) (by omega)
    refine B_X9_waits_28 ho ?_
    rw [hPl.2.1]
    refine pk_le (π 1 0) g (fun h => absurd h (by omega)) (fun _ => ⟨x + 192 + 8 * g, ix4 x 192 g, by omega, fun v2 e2 => ⟨x + 184 + g, ix3 x 184 g, by omega, ?_⟩⟩)
    rw [a2, nI_1]
    refine pk_le (κ 12 g 0) 0 (fun h => ?_) (fun h => ?_)
    · have e : wv κ (g + 1) = wv κ g := by
        have : er κ (g + 1) = er κ g := if_neg (by omega)
        unfold wv; rw [this]
      rw [e] at ih'; exact ih'
    · have hd : v2 = nI (κ 13 g 0) := by rw [e2]; exact (a3 0 h).1
      have ht := hT.1 g (by omega) 0 h
      have e1 : er κ (g + 1) = if κ 13 g 0 < er κ g then κ 13 g 0 else er κ g := if_pos h
      subst hd
      by_cases hn : er κ g = 2147483647
      · have ew : wv κ g = -1 := if_pos hn
        have e : wv κ (g + 1) = nI (κ 13 g 0) := by
          have e1' : er κ (g + 1) = κ 13 g 0 := by rw [e1, if_pos (by omega)]
          unfold wv; rw [e1', if_neg (by omega)]
        rw [e] at ih'
        rw [ew]
        exact ⟨fun _ => ih', fun q => absurd rfl q⟩
      · have ew : wv κ g = nI (er κ g) := if_neg hn
        rw [ew]
        refine ⟨fun q => absurd q (nI_neg1 (by omega)), fun _ => pk_le (er κ g) (κ 13 g 0) (fun hle2 => ?_) (fun hgt => ?_)⟩
        · have e : wv κ (g + 1) = nI (er κ g) := by
            have e1' : er κ (g + 1) = er κ g := by rw [e1, if_neg (by omega)]
            unfold wv; rw [e1', if_neg hn]
          rw [e] at ih'; exact ih'
        · have e : wv κ (g + 1) = nI (κ 13 g 0) := by
            have e1' : er κ (g + 1) = κ 13 g 0 := by rw [e1, if_pos (by omega)]
            unfold wv; rw [e1', if_neg (by omega)]
          rw [e] at ih'; exact ih'
theorem M_waits (ho : isO z) (hx : x + 344 ≤ 6880) (hX : hR I x π κ) (hPl : hO I π) (hW : WP π) (hT : TB π κ) (hN : ∀ g, π 1 0 ≤ g → κ 12 g 0 = 0) (k : Q (some (.int (wv κ 8))) z I) : E mX9_waits mc ms 0 [some (.ref 308), some (.int (nI x)), none, none, none] [] z I Q := by
  have k' : Q (some (.int (wv κ (π 1 0)))) z I := by
    unfold wv at k ⊢
    rw [er_8 hW hN]; exact k
  have h8 := hT.2.2.1
  refine B_X9_waits_0 ho ⟨x + 3, ix2 x 3, by omega, ?_⟩
  rw [hX.1.2.2.2]
  refine pk_le (κ 3 0 0) 0 (fun h => ?_) (fun h => ⟨x + 320, ix2 x 320, by omega, fun v3 e3 => ?_⟩)
  · have e : wv κ 0 = -1 := by
      have : er κ 0 = 2147483647 := if_neg (by omega)
      unfold wv; rw [if_pos this]
    have := LM_waits (mc := mc) (ms := ms) ho hx hX hPl hW hT k' (π 1 0) 0 (by omega)
    rw [e] at this; exact this
  · have e : wv κ 0 = v3 := by
      have h0 : er κ 0 = κ 15 0 0 := if_pos h
      have := hT.2.2.2 0 h
      have e4 : v3 = nI (κ 15 0 0) := by rw [e3]; exact (hX.2.2.2 0 h).1
      unfold wv; rw [h0, if_neg (by omega), e4]
    have := LM_waits (mc := mc) (ms := ms) ho hx hX hPl hW hT k' (π 1 0) 0 (by omega)
    rw [e] at this; exact this
-- a wire changes
def VF (x w : Nat) (I J : It) : Prop := (∀ a, a ≠ 309 → J a = I a) ∧ ∀ q, q ≠ x + 8 + w → q ≠ x + 16 + w → q ≠ x + 24 + w → q ≠ x + 32 + w → q ≠ x + 40 + w → (q < x + 48 + 8 * w ∨ x + 48 + 8 * w + 8 ≤ q) → (q < x + 112 + 8 * w ∨ x + 112 + 8 * w + 8 ≤ q) → J 309 q = I 309 q
theorem VF.rf {w : Nat} : VF x w I I := ⟨fun _ _ => rfl, fun _ _ _ _ _ _ _ _ => rfl⟩
theorem VF.tr {w : Nat} {I J K : It} (h : VF x w I J) (h' : VF x w J K) : VF x w I K := ⟨fun a ha => (h'.1 a ha).trans (h.1 a ha), fun q a b c d e f g => (h'.2 q a b c d e f g).trans (h.2 q a b c d e f g)⟩
theorem VF.st {w j : Nat} {v : Int32} (e : J = e_st I 309 j v) (hj : j = x + 8 + w ∨ j = x + 16 + w ∨ j = x + 24 + w ∨ j = x + 32 + w ∨ j = x + 40 + w ∨ (x + 48 + 8 * w ≤ j ∧ j < x + 48 + 8 * w + 8) ∨ (x + 112 + 8 * w ≤ j ∧ j < x + 112 + 8 * w + 8)) : VF x w I J := ⟨fun a ha => by rw [e, e_st_a ha], fun q a b c d f g h => by rw [e, e_st_k (by omega)]⟩
theorem FrR.vf {w : Nat} (h : VF x w I J) (hw : w < 8) : FrR x I J := ⟨h.1, fun q hq => h.2 q (by omega) (by omega) (by omega) (by omega) (by omega) (by omega) (by omega)⟩
theorem hR.ch {w l : Nat} (hX : hR I x π κ) (hW : WP π) (hz8 : Z8 π κ) (hw : w < π 0 0) (hl : l ≠ κ 4 w 0) (hf : VF x w I J) (v1 : J 309 (x + 8 + w) = nI l) (v2 : J 309 (x + 16 + w) = nI (min (κ 5 w 0 + 1) 9999)) (v3 : J 309 (x + 24 + w) = nI (κ 0 0 0)) (v4 : J 309 (x + 32 + w) = nI (if κ 6 w 0 = κ 0 0 0 + 1 then 1 else κ 7 w 0)) (v5 : J 309 (x + 40 + w) = nI (min (min (κ 5 w 0 + 1) 9999) 8)) (v6 : J 309 (x + 48 + 8 * w) = nI (κ 0 0 0) ∧ J 309 (x + 112 + 8 * w) = nI l) (v7 : ∀ k, k + 1 < 8 → J 309 (x + 48 + 8 * w + (k + 1)) = I 309 (x + 48 + 8 * w + k) ∧ J 309 (x + 112 + 8 * w + (k + 1)) = I 309 (x + 112 + 8 * w + k)) : hR J x π (ch1 κ w l) := by
  have hw0 := hW.1
  have f2 := hf.2
  have hc : w = w ∧ l ≠ κ 4 w 0 := ⟨rfl, hl⟩
  refine ⟨hX.1.to (fun q a b => f2 q (by omega) (by omega) (by omega) (by omega) (by omega) (by omega) (by omega)) (by rw [ch1_f (by omega)]) (by rw [ch1_f (by omega)]) (by rw [ch1_f (by omega)]) (by rw [ch1_f (by omega)]), fun i hi => ?_, hX.2.2.1.to hW.2.1 hz8.1 (fun q a b => f2 q (by omega) (by omega) (by omega) (by omega) (by omega) (by omega) (by omega)) (ch1_f (by omega)) (ch1_f (by omega)) (ch1_f (by omega)) (ch1_f (by omega)), hX.2.2.2.to hz8.2 (fun q a b => f2 q (by omega) (by omega) (by omega) (by omega) (by omega) (by omega) (by omega)) (by rw [ch1_f (by omega)]) (ch1_f (by omega)) (ch1_f (by omega)) (ch1_f (by omega))⟩
  obtain ⟨a1, a2, a3, a4, a5, a6⟩ := hX.2.1 i hi
  by_cases e : i = w
  · subst e
    have e4 : ch1 κ i l 4 i 0 = l := by rw [ch1_def, if_pos hc]; rfl
    have e5 : ch1 κ i l 5 i 0 = min (κ 5 i 0 + 1) 9999 := by rw [ch1_def, if_pos hc]; rfl
    have e6 : ch1 κ i l 6 i 0 = κ 0 0 0 + 1 := by rw [ch1_def, if_pos hc]; rfl
    have e7 : ch1 κ i l 7 i 0 = if κ 6 i 0 = κ 0 0 0 + 1 then 1 else κ 7 i 0 := by rw [ch1_def, if_pos hc]; rfl
    have e9 : ∀ k, ch1 κ i l 9 i k = if k = 0 then κ 0 0 0 else κ 9 i (k - 1) := fun k => by rw [ch1_def, if_pos hc]; rfl
    have e10 : ∀ k, ch1 κ i l 10 i k = if k = 0 then l else κ 10 i (k - 1) := fun k => by rw [ch1_def, if_pos hc]; rfl
    rw [e4, e5, e6, e7, v1, v2, v3, v4, v5]
    refine ⟨rfl, rfl, ?_, rfl, rfl, fun k hk1 hk2 => ?_⟩
    · rw [nI_dec (by omega)]; rfl
    · rw [e9, e10]
      by_cases k0 : k = 0
      · subst k0
        rw [if_pos rfl, if_pos rfl]; exact v6
      · rw [if_neg k0, if_neg k0]
        have := v7 (k - 1) (by omega)
        rw [show k - 1 + 1 = k by omega] at this
        rw [this.1, this.2]
        exact a6 (k - 1) (by omega) (by omega)
  · rw [ch1_i e, ch1_i e, ch1_i e, ch1_i e, ch1_i e, ch1_i e, f2 (x + 8 + i) (by omega) (by omega) (by omega) (by omega) (by omega) (by omega) (by omega), f2 (x + 16 + i) (by omega) (by omega) (by omega) (by omega) (by omega) (by omega) (by omega), f2 (x + 24 + i) (by omega) (by omega) (by omega) (by omega) (by omega) (by omega) (by omega), f2 (x + 32 + i) (by omega) (by omega) (by omega) (by omega) (by omega) (by omega) (by omega), f2 (x + 40 + i) (by omega) (by omega) (by omega) (by omega) (by omega) (by omega) (by omega)]
    exact ⟨a1, a2, a3, a4, a5, fun k hk1 hk2 => by rw [f2 (x + 48 + 8 * i + k) (by omega) (by omega) (by omega) (by omega) (by omega) (by omega) (by omega), f2 (x + 112 + 8 * i + k) (by omega) (by omega) (by omega) (by omega) (by omega) (by omega) (by omega)]; exact a6 k hk1 hk2⟩
theorem LM_change (ho : isO z) (hx : x + 344 ≤ 6880) (hX : hR I x π κ) (hW : WP π) (hz8 : Z8 π κ) (hB : WB π κ) {w l : Nat} (hw : w < π 0 0) (hl : l ≠ κ 4 w 0) (k : ∀ I', FrR x I I' → hR I' x π (ch1 κ w l) → Q none z I') : ∀ (i : Nat) (K : It), i < 8 → VF x w I K → K 309 (x + 8 + w) = nI l → K 309 (x + 16 + w) = nI (min (κ 5 w 0 + 1) 9999) → K 309 (x + 24 + w) = nI (κ 0 0 0) → K 309 (x + 32 + w) = nI (if κ 6 w 0 = κ 0 0 0 + 1 then 1 else κ 7 w 0) → K 309 (x + 40 + w) = I 309 (x + 40 + w) → (∀ q, q ≤ i → K 309 (x + 48 + 8 * w + q) = I 309 (x + 48 + 8 * w + q) ∧ K 309 (x + 112 + 8 * w + q) = I 309 (x + 112 + 8 * w + q)) → (∀ q, i ≤ q → q + 1 < 8 → K 309 (x + 48 + 8 * w + (q + 1)) = I 309 (x + 48 + 8 * w + q) ∧ K 309 (x + 112 + 8 * w + (q + 1)) = I 309 (x + 112 + 8 * w + q)) → E mX9_change mc ms 133 [some (.ref 308), some (.int (nI x)), some (.int (nI w)), some (.int (nI l)), some (.int (nI (κ 0 0 0))), some (.int (nI (x + 48 + 8 * w))), some (.int (nI (x + 112 + 8 * w))), some (.int (nI i))] [] z K Q := by
  intro i
  have hw0 := hW.1
  induction i with
  | zero =>
    intro K hi hf v1 v2 v3 v4 v5 h1 h2
    refine B_X9_change_133 ho (pk_le 0 0 (fun _ => ⟨x + 48 + 8 * w, rfl, by omega, fun I2 e2 => ⟨x + 112 + 8 * w, rfl, by omega, fun I4 e4 => ⟨x + 40 + w, ix3 x 40 w, by omega, fun I6 e6 => ?_⟩⟩⟩) (fun h => absurd h (by omega)))
    have h5 : I4 309 (x + 40 + w) = nI (min (κ 5 w 0) 8) := by
      rw [e4, e_st_k (by omega), e2, e_st_k (by omega), v5]; exact (hX.2.1 w hw).2.2.2.2.1
    have h99 := (hB.1 w hw).2.1
    rw [h5, nI_1, show (8 : Int32) = nI 8 from rfl, least_n (by omega) (by omega)] at e6
    have hf6 := ((hf.tr (VF.st e2 (by omega))).tr (VF.st e4 (by omega))).tr (VF.st (w := w) e6 (by omega))
    refine k I6 (FrR.vf hf6 (by omega)) (hX.ch hW hz8 hw hl hf6 ?_ ?_ ?_ ?_ ?_ ⟨?_, ?_⟩ (fun q hq => ?_))
    · rw [e6, e_st_k (by omega), e4, e_st_k (by omega), e2, e_st_k (by omega)]; exact v1
    · rw [e6, e_st_k (by omega), e4, e_st_k (by omega), e2, e_st_k (by omega)]; exact v2
    · rw [e6, e_st_k (by omega), e4, e_st_k (by omega), e2, e_st_k (by omega)]; exact v3
    · rw [e6, e_st_k (by omega), e4, e_st_k (by omega), e2, e_st_k (by omega)]; exact v4
    · rw [e6, e_st_same]; exact congrArg nI (by omega)
    · rw [e6, e_st_k (by omega), e4, e_st_k (by omega), e2, e_st_same]
    · rw [e6, e_st_k (by omega), e4, e_st_same]
    · rw [e6, e_st_k (by omega), e_st_k (by omega), e4, e_st_k (by omega), e_st_k (by omega), e2, e_st_k (by omega), e_st_k (by omega)]
      exact h2 q (by omega) hq
  | succ i ih =>
    intro K hi hf v1 v2 v3 v4 v5 h1 h2
    have ea : ∀ b : Nat, nI (b + 8 * w) + nI (i + 1) - 1 = nI (b + 8 * w + i) := fun b => by rw [ix2, nI_dec (by omega)]; exact congrArg nI (by omega)
    refine B_X9_change_133 ho (pk_le (i + 1) 0 (fun h => absurd h (by omega)) (fun _ => ⟨x + 48 + 8 * w + i, ea (x + 48), by omega, x + 48 + 8 * w + (i + 1), ix2 _ _, by omega, fun I3 e3 => ⟨x + 112 + 8 * w + i, ea (x + 112), by omega, x + 112 + 8 * w + (i + 1), ix2 _ _, by omega, fun I6 e6 => ?_⟩⟩))
    rw [nI_m1 (by omega : 0 < i + 1)]
    refine ih I6 (by omega) ((hf.tr (VF.st e3 (by omega))).tr (VF.st e6 (by omega))) ?_ ?_ ?_ ?_ ?_ (fun q hq => ?_) (fun q hq hq8 => ?_)
    · rw [e6, e_st_k (by omega), e3, e_st_k (by omega)]; exact v1
    · rw [e6, e_st_k (by omega), e3, e_st_k (by omega)]; exact v2
    · rw [e6, e_st_k (by omega), e3, e_st_k (by omega)]; exact v3
    · rw [e6, e_st_k (by omega), e3, e_st_k (by omega)]; exact v4
    · rw [e6, e_st_k (by omega), e3, e_st_k (by omega)]; exact v5
    · rw [e6, e_st_k (by omega), e_st_k (by omega), e3, e_st_k (by omega), e_st_k (by omega)]; exact h1 q (by omega)
    · by_cases e : q = i
      · subst e
        rw [e6, e_st_k (by omega), e_st_same, e3, e_st_same, e_st_k (by omega)]
        exact h1 q (by omega)
      · rw [e6, e_st_k (by omega), e_st_k (by omega), e3, e_st_k (by omega), e_st_k (by omega)]; exact h2 q (by omega) hq8
theorem M_change (ho : isO z) (hx : x + 344 ≤ 6880) (hX : hR I x π κ) (hW : WP π) (hz8 : Z8 π κ) (hB : WB π κ) (hT : κ 0 0 0 + 1 < 2147483647) {w l : Nat} (hw : w < π 0 0) (hl : l ≠ κ 4 w 0) (k : ∀ I', FrR x I I' → hR I' x π (ch1 κ w l) → Q none z I') : E mX9_change mc ms 0 [some (.ref 308), some (.int (nI x)), some (.int (nI w)), some (.int (nI l)), none, none, none, none] [] z I Q := by
  have hw0 := hW.1
  obtain ⟨a1, a2, a3, a4, a5, a6⟩ := hX.2.1 w hw
  obtain ⟨b1, b2, b3⟩ := hB.1 w hw
  have tail : ∀ (I6 : It) (y : Nat), VF x w I I6 → I6 309 (x + 8 + w) = nI l → I6 309 (x + 16 + w) = nI (min (κ 5 w 0 + 1) 9999) → I6 309 (x + 40 + w) = I 309 (x + 40 + w) → (∀ q, q < 8 → I6 309 (x + 48 + 8 * w + q) = I 309 (x + 48 + 8 * w + q) ∧ I6 309 (x + 112 + 8 * w + q) = I 309 (x + 112 + 8 * w + q)) → y = (if κ 6 w 0 = κ 0 0 0 + 1 then 1 else κ 7 w 0) → E mX9_change mc ms 93 [some (.ref 308), some (.int (nI x)), some (.int (nI w)), some (.int (nI l)), some (.int (nI (κ 0 0 0))), none, none, none] [.int (nI y), .int (nI x + 32 + nI w), .ref 309] z I6 Q := by
    intro I6 y hf v1 v2 v5 hq hy
    refine B_X9_change_93 ho ⟨x + 32 + w, ix3 x 32 w, by omega, fun I2 e2 => ⟨x + 24 + w, ix3 x 24 w, by omega, fun I4 e4 v5' e5 v6' e6 => ?_⟩⟩
    have e5' : v5' = nI (x + 48 + 8 * w) := by rw [e5]; exact ix4 x 48 w
    have e6' : v6' = nI (x + 112 + 8 * w) := by rw [e6]; exact ix4 x 112 w
    subst e5' e6'
    refine LM_change ho hx hX hW hz8 hB hw hl k 7 I4 (by omega) ((hf.tr (VF.st e2 (by omega))).tr (VF.st e4 (by omega))) ?_ ?_ ?_ ?_ ?_ (fun q hq' => ?_) (fun q h1 h2 => absurd h2 (by omega))
    · rw [e4, e_st_k (by omega), e2, e_st_k (by omega)]; exact v1
    · rw [e4, e_st_k (by omega), e2, e_st_k (by omega)]; exact v2
    · rw [e4, e_st_same]
    · rw [e4, e_st_k (by omega), e2, e_st_same, hy]
    · rw [e4, e_st_k (by omega), e2, e_st_k (by omega)]; exact v5
    · rw [e4, e_st_k (by omega), e_st_k (by omega), e2, e_st_k (by omega), e_st_k (by omega)]; exact hq q (by omega)
  refine B_X9_change_0 ho ⟨x, ix2 x 0, by omega, fun v2 e2 => ?_⟩
  rw [hX.1.1] at e2
  subst e2
  refine ⟨x + 8 + w, ix3 x 8 w, by omega, fun I4 e4 => ⟨x + 16 + w, ix3 x 16 w, by omega, fun I6 e6 => ⟨x + 24 + w, ix3 x 24 w, by omega, ?_⟩⟩⟩
  have h416 : I4 309 (x + 16 + w) = nI (κ 5 w 0) := by rw [e4, e_st_k (by omega)]; exact a2
  rw [h416, nI_1, show (9999 : Int32) = nI 9999 from rfl, least_n (by omega) (by omega)] at e6
  have h624 : I6 309 (x + 24 + w) = nI (κ 6 w 0) - 1 := by rw [e6, e_st_k (by omega), e4, e_st_k (by omega)]; exact a3
  have h632 : I6 309 (x + 32 + w) = nI (κ 7 w 0) := by rw [e6, e_st_k (by omega), e4, e_st_k (by omega)]; exact a4
  have hf : VF x w I I6 := (VF.st e4 (by omega)).tr (VF.st e6 (by omega))
  have c1 : I6 309 (x + 8 + w) = nI l := by rw [e6, e_st_k (by omega), e4, e_st_same]
  have c2 : I6 309 (x + 16 + w) = nI (min (κ 5 w 0 + 1) 9999) := by rw [e6, e_st_same]
  have c5 : I6 309 (x + 40 + w) = I 309 (x + 40 + w) := by rw [e6, e_st_k (by omega), e4, e_st_k (by omega)]
  have cq : ∀ q, q < 8 → I6 309 (x + 48 + 8 * w + q) = I 309 (x + 48 + 8 * w + q) ∧ I6 309 (x + 112 + 8 * w + q) = I 309 (x + 112 + 8 * w + q) := fun q hq => by
    rw [e6, e_st_k (by omega), e_st_k (by omega), e4, e_st_k (by omega), e_st_k (by omega)]; exact ⟨rfl, rfl⟩
  rw [h624]
  refine ⟨fun hne => ⟨x + 32 + w, ix3 x 32 w, by omega, ?_⟩, fun he => ?_⟩
  · rw [h632]
    refine tail I6 (κ 7 w 0) hf c1 c2 c5 cq ?_
    rw [if_neg (fun q => hne ((last_eq (by omega) (by omega)).mpr q))]
  · refine tail I6 1 hf c1 c2 c5 cq ?_
    rw [if_pos ((last_eq (by omega) (by omega)).mp he)]
end M2
