/-! ===== bits of small sets; rows kept ===== -/
theorem sh1 : ∀ a, a < 8 → (1 : Int32) <<< (nI a &&& 31) = nI (2 ^ a) := by decide +kernel
theorem bt1 : ∀ s, s < 256 → ∀ w, w < 8 → ((nI s >>> (nI w &&& 31)) &&& 1) = nI (s / 2 ^ w % 2) := by decide +kernel
theorem or1 : ∀ s, s < 256 → ∀ w, w < 8 → nI s ||| nI (2 ^ w) = nI (if s / 2 ^ w % 2 = 1 then s else s + 2 ^ w) := by decide +kernel
theorem an1 : ∀ s, s < 256 → ∀ w, w < 8 → (nI (2 ^ w) &&& nI s = 0 ↔ s / 2 ^ w % 2 = 0) := by decide +kernel
theorem an2 : ∀ a, a < 8 → ∀ b, b < 8 → ∀ s, s < 256 → ((nI (2 ^ a) ||| nI (2 ^ b)) &&& nI s = 0 ↔ s / 2 ^ a % 2 = 0 ∧ s / 2 ^ b % 2 = 0) := by decide +kernel
theorem bt2 : ∀ a, a < 8 → ∀ b, b < 8 → ∀ w, w < 8 → (((nI (2 ^ a) ||| nI (2 ^ b)) >>> (nI w &&& 31)) &&& 1 = 1 ↔ (a = w ∨ b = w)) := by decide +kernel
theorem bt3 : ∀ a, a < 8 → ∀ w, w < 8 → ((nI (2 ^ a) >>> (nI w &&& 31)) &&& 1 = 1 ↔ a = w) := by decide +kernel
theorem lt8 {w : Nat} (h : w < 8) : w = 0 ∨ w = 1 ∨ w = 2 ∨ w = 3 ∨ w = 4 ∨ w = 5 ∨ w = 6 ∨ w = 7 := by omega
theorem bsum_lt {f : Nat → Nat} (h : ∀ i, i < 8 → f i ≤ 1) : bsum f < 256 := by
  have h0 := h 0 (by omega); have h1 := h 1 (by omega); have h2 := h 2 (by omega); have h3 := h 3 (by omega); have h4 := h 4 (by omega); have h5 := h 5 (by omega); have h6 := h 6 (by omega); have h7 := h 7 (by omega)
  unfold bsum
  omega
theorem bsum_bit {f : Nat → Nat} (h : ∀ i, i < 8 → f i ≤ 1) {w : Nat} (hw : w < 8) : bsum f / 2 ^ w % 2 = f w := by
  have h0 := h 0 (by omega); have h1 := h 1 (by omega); have h2 := h 2 (by omega); have h3 := h 3 (by omega); have h4 := h 4 (by omega); have h5 := h 5 (by omega); have h6 := h 6 (by omega); have h7 := h 7 (by omega)
  unfold bsum
  rcases lt8 hw with rfl | rfl | rfl | rfl | rfl | rfl | rfl | rfl <;> simp only [Nat.reducePow] <;> omega
theorem bsum_ext {f g : Nat → Nat} (h : ∀ i, i < 8 → f i = g i) : bsum f = bsum g := by
  unfold bsum
  rw [h 0 (by omega), h 1 (by omega), h 2 (by omega), h 3 (by omega), h 4 (by omega), h 5 (by omega), h 6 (by omega), h 7 (by omega)]
theorem bsum_set {f : Nat → Nat} (h : ∀ i, i < 8 → f i ≤ 1) {w : Nat} (hw : w < 8) : bsum (fun i => if i = w then 1 else f i) = if f w = 1 then bsum f else bsum f + 2 ^ w := by
  have h0 := h 0 (by omega); have h1 := h 1 (by omega); have h2 := h 2 (by omega); have h3 := h 3 (by omega); have h4 := h 4 (by omega); have h5 := h 5 (by omega); have h6 := h 6 (by omega); have h7 := h 7 (by omega)
  unfold bsum
  rcases lt8 hw with rfl | rfl | rfl | rfl | rfl | rfl | rfl | rfl <;> simp <;> split <;> omega
theorem bsum_or {f : Nat → Nat} (h : ∀ i, i < 8 → f i ≤ 1) {w : Nat} (hw : w < 8) : nI (bsum f) ||| nI (2 ^ w) = nI (bsum (fun i => if i = w then 1 else f i)) := by
  rw [or1 _ (bsum_lt h) _ hw, bsum_bit h hw, bsum_set h hw]
/-- a set as a number -/
def mk (P : Nat → Bool) : Nat := bsum (fun i => if P i = true then 1 else 0)
theorem mk_le (P : Nat → Bool) : ∀ i, i < 8 → (if P i = true then 1 else 0 : Nat) ≤ 1 := fun i _ => by split <;> omega
theorem mk_lt (P : Nat → Bool) : mk P < 256 := bsum_lt (mk_le P)
theorem mk_bit (P : Nat → Bool) {w : Nat} (hw : w < 8) : mk P / 2 ^ w % 2 = if P w = true then 1 else 0 := bsum_bit (mk_le P) hw
theorem mk_or (P : Nat → Bool) {w : Nat} (hw : w < 8) : nI (mk P) ||| nI (2 ^ w) = nI (mk fun i => decide (i = w) || P i) := by
  unfold mk
  rw [bsum_or (mk_le P) hw]
  exact congrArg nI (bsum_ext fun i _ => by by_cases e : i = w <;> simp [e])
theorem mk_ext {P P' : Nat → Bool} (h : ∀ i, i < 8 → P i = P' i) : mk P = mk P' := bsum_ext fun i hi => by rw [h i hi]
theorem mk_0 {P : Nat → Bool} (h : ∀ i, i < 8 → P i = false) : mk P = 0 := by
  rw [mk_ext (P' := fun _ => false) h]; rfl
theorem mk_ne {P : Nat → Bool} {w : Nat} (hw : w < 8) (h : P w = true) : mk P ≠ 0 := fun e => by
  have := mk_bit P hw
  rw [e, h] at this
  simp at this
theorem mk_sh (P : Nat → Bool) {w : Nat} (hw : w < 8) : ((nI (mk P) >>> (nI w &&& 31)) &&& 1) = nI (if P w = true then 1 else 0) := by rw [bt1 _ (mk_lt P) _ hw, mk_bit P hw]
-- which parts of a moment stay
theorem hMs.to {I I' : It} {m : Nat} {κ κ' : Kt} (h : hMs I m κ) (h0 : I' m = I m) (k0 : κ' 0 0 0 = κ 0 0 0) (k1 : κ' 1 0 0 = κ 1 0 0) (k2 : κ' 2 0 0 = κ 2 0 0) (k3 : κ' 3 0 0 = κ 3 0 0) : hMs I' m κ' := by
  unfold hMs at *
  rw [h0, k0, k1, k2, k3]
  exact h
theorem hMw.to {I I' : It} {m n : Nat} {κ κ' : Kt} (h : hMw I m n κ) (h0 : I' m 3 = I m 3) (h1 : I' (m + 1) = I (m + 1)) (h2 : I' (m + 2) = I (m + 2)) (h3 : I' (m + 3) = I (m + 3)) (h4 : I' (m + 4) = I (m + 4)) (h5 : I' (m + 5) = I (m + 5)) (h6 : I' (m + 6) = I (m + 6)) (k4 : κ' 4 = κ 4) (k5 : κ' 5 = κ 5) (k6 : κ' 6 = κ 6) (k7 : κ' 7 = κ 7) (k9 : κ' 9 = κ 9) (k10 : κ' 10 = κ 10) : hMw I' m n κ' := by
  unfold hMw at *
  rw [h0, h1, h2, h3, h4, h5, h6, k4, k5, k6, k7, k9, k10]
  exact h
theorem hMg.to {I I' : It} {m n : Nat} {κ κ' : Kt} (h : hMg I m n κ) (h7 : I' (m + 7) = I (m + 7)) (h8 : I' (m + 8) = I (m + 8)) (h9 : I' (m + 9) = I (m + 9)) (h10 : I' (m + 10) = I (m + 10)) (k11 : κ' 11 = κ 11) (k12 : κ' 12 = κ 12) (k13 : κ' 13 = κ 13) (k14 : κ' 14 = κ 14) : hMg I' m n κ' := by
  unfold hMg at *
  rw [h7, h8, h9, h10, k11, k12, k13, k14]
  exact h
theorem hMh.to {I I' : It} {m : Nat} {κ κ' : Kt} (h : hMh I m κ) (h11 : I' (m + 11) = I (m + 11)) (h12 : I' (m + 12) = I (m + 12)) (h13 : I' (m + 13) = I (m + 13)) (k3 : κ' 3 0 0 = κ 3 0 0) (k15 : κ' 15 = κ 15) (k16 : κ' 16 = κ 16) (k17 : κ' 17 = κ 17) : hMh I' m κ' := by
  unfold hMh at *
  rw [h11, h12, h13, k3, k15, k16, k17]
  exact h
-- what a telling leaves of the state
theorem te_f {κ : Kt} {g d md lv f : Nat} (h : f ≠ 12 ∧ f ≠ 13 ∧ f ≠ 14) : te κ g d md lv f = κ f := by
  funext i j
  simp [te, h.1, h.2.1, h.2.2]
theorem te_g {κ : Kt} {g d md lv f i : Nat} (h : i ≠ g) : te κ g d md lv f i = κ f i := by
  funext j
  simp [te, h]
-- bounds of levels; queues in order
def LB (π : Pt) (κ : Kt) : Prop := (∀ w, w < π 0 0 → κ 4 w 0 < 4) ∧ ∀ g, g < π 1 0 → κ 11 g 0 < 4
def WQ (π : Pt) (κ : Kt) : Prop := ∀ g, g < π 1 0 → κ 12 g 0 ≤ 8 ∧ (∀ k, k < κ 12 g 0 → κ 0 0 0 ≤ κ 13 g k ∧ κ 13 g k ≤ κ 0 0 0 + 20 ∧ κ 14 g k < 4) ∧ ∀ k, k + 1 < κ 12 g 0 → κ 13 g k < κ 13 g (k + 1)
theorem ocK_lt {π : Pt} {κ : Kt} {g : Nat} (hP : WP π) (hL : LB π κ) (hg : g < π 1 0) : ocK π κ g < 4 := by
  obtain ⟨-, -, h⟩ := hP
  have := h g hg
  exact oc_lt _ this.1 _ (hL.1 _ this.2.1) _ (hL.1 _ this.2.2.1) _ (hL.2 g hg)
theorem tR_lt {t : Nat → Nat} {w : Nat} : ∀ n, 0 < tR t w n → t (tR t w n - 1) < w
  | 0, h => absurd h (by simp [tR])
  | n + 1, h => by
    unfold tR at h ⊢
    split
    next hl => simpa using hl
    next hl => rw [if_neg hl] at h; exact tR_lt n h
theorem te_WQ {π : Pt} {κ : Kt} {g d md lv : Nat} (h : WQ π κ) (hg : g < π 1 0) (hd : d ≤ 20) (hlv : lv < 4) : WQ π (te κ g d md lv) := by
  intro i hi
  by_cases e : i = g
  · subst e
    obtain ⟨h1, h2, h3⟩ := h i hi
    have hn := tR_le (κ 13 i) (κ 0 0 0 + d) (κ 12 i 0)
    have ha := aL_le (κ 14 i) lv (tN κ i d)
    have hs : tS κ i d md lv ≤ tN κ i d := by unfold tS; split <;> omega
    have hu : tU κ i d md lv ≤ tN κ i d ∧ tN κ i d - tU κ i d md lv < 8 ∧ tS κ i d md lv ≤ tU κ i d md lv := by
      unfold tU
      have : tN κ i d ≤ 8 := by unfold tN; omega
      split <;> omega
    have hN : tN κ i d ≤ κ 12 i 0 := hn
    have h0 : te κ i d md lv 0 0 0 = κ 0 0 0 := by rw [te_f (by omega)]
    have h12 : te κ i d md lv 12 i 0 = tN κ i d - tU κ i d md lv + 1 := by simp [te]
    have h13 : ∀ k, te κ i d md lv 13 i k = if k = tN κ i d - tU κ i d md lv then κ 0 0 0 + d else κ 13 i (k + tU κ i d md lv) := fun k => by simp [te]
    have h14 : ∀ k, te κ i d md lv 14 i k = if k = tN κ i d - tU κ i d md lv then lv else κ 14 i (k + tU κ i d md lv) := fun k => by simp [te]
    rw [h0, h12]
    refine ⟨by omega, fun k hk => ?_, fun k hk => ?_⟩
    · rw [h13, h14]
      split
      · exact ⟨by omega, by omega, hlv⟩
      · exact h2 _ (by omega)
    · rw [h13, h13, if_neg (by omega)]
      split
      next e2 =>
        have hp : 0 < tN κ i d := by omega
        have := tR_lt (t := κ 13 i) (w := κ 0 0 0 + d) (κ 12 i 0) hp
        have e3 : k + tU κ i d md lv = tR (κ 13 i) (κ 0 0 0 + d) (κ 12 i 0) - 1 := by
          have : tN κ i d = tR (κ 13 i) (κ 0 0 0 + d) (κ 12 i 0) := rfl
          omega
        rw [e3]; exact this
      next e2 =>
        have := h3 (k + tU κ i d md lv) (by omega)
        rw [show k + 1 + tU κ i d md lv = k + tU κ i d md lv + 1 by omega]; exact this
  · have h0 : te κ g d md lv 0 0 0 = κ 0 0 0 := by rw [te_f (by omega)]
    rw [te_g e, te_g e, te_g e, h0]
    exact h i hi
theorem tl_f {π : Pt} {κ : Kt} {g f : Nat} (h : f ≠ 12 ∧ f ≠ 13 ∧ f ≠ 14) : tl π κ g f = κ f := te_f h
theorem tl_LB {π : Pt} {κ : Kt} {g : Nat} (h : LB π κ) : LB π (tl π κ g) := by
  unfold LB at *
  rw [tl_f (by omega), tl_f (by omega)]
  exact h
theorem tlA_f {π : Pt} {W : Nat → Bool} {κ : Kt} {f : Nat} (h : f ≠ 12 ∧ f ≠ 13 ∧ f ≠ 14) : ∀ n, tlA π W κ n f = κ f
  | 0 => rfl
  | n + 1 => by
    unfold tlA
    split
    · rw [tl_f h]; exact tlA_f h n
    · exact tlA_f h n
theorem tlA_g {π : Pt} {W : Nat → Bool} {κ : Kt} {f i : Nat} : ∀ n, n ≤ i → tlA π W κ n f i = κ f i
  | 0, _ => rfl
  | n + 1, h => by
    unfold tlA
    split
    · show te _ n _ _ _ f i = _
      rw [te_g (by omega)]; exact tlA_g n (by omega)
    · exact tlA_g n (by omega)
theorem tlA_WQ {π : Pt} {W : Nat → Bool} {κ : Kt} (hP : WP π) (hL : LB π κ) (h : WQ π κ) : ∀ n, n ≤ π 1 0 → WQ π (tlA π W κ n) ∧ LB π (tlA π W κ n)
  | 0, _ => ⟨h, hL⟩
  | n + 1, hn => by
    obtain ⟨h1, h2⟩ := tlA_WQ hP hL h n (by omega) (W := W)
    unfold tlA
    split
    · have := hP.2.2 n (by omega)
      exact ⟨te_WQ h1 (by omega) this.2.2.2.2.1 (ocK_lt hP h2 (by omega)), tl_LB h2⟩
    · exact ⟨h1, h2⟩
