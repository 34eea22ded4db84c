/-! ===== THE MATHEMATICAL STATE: what both programs hold ===== -/
theorem lit_nI (n : Nat) : (OfNat.ofNat n : Int32) = nI (OfNat.ofNat n) := rfl
theorem pk_ne {x y : Int32} {A B : Prop} (a b : Nat) (f : a ≠ b → A) (g : a = b → B) (hx : x = nI a := by rfl) (hy : y = nI b := by rfl) (ha : a < 2 ^ 31 := by omega) (hb : b < 2 ^ 31 := by omega) : (¬ x = y → A) ∧ (x = y → B) := by
  subst hx hy
  rw [nI_eq ha hb]
  exact ⟨f, g⟩
theorem nI_dec {n : Nat} (h : 0 < n) : nI n - 1 = nI (n - 1) := pk_sub (a := n) (b := 1) h
theorem nI_m1 {n : Nat} (h : 0 < n) : nI n + (-1) = nI (n - 1) := by
  obtain ⟨k, rfl⟩ : ∃ k, n = k + 1 := ⟨n - 1, by omega⟩
  exact pk_m1 k
theorem nI_neg1 {n : Nat} (h : n < 2 ^ 31) : ¬ nI n = -1 := fun q => by
  have h1 := nI_toInt h
  rw [q] at h1
  have h2 : (-1 : Int32).toInt = -1 := by decide
  omega
theorem nI_n2 {n : Nat} (h : n < 2 ^ 31) : ¬ (-1 : Int32) = nI n := fun q => nI_neg1 h q.symm
abbrev Pt : Type := Nat → Nat → Nat
abbrev Kt : Type := Nat → Nat → Nat → Nat
-- levels
def jn (a b : Nat) : Nat := if a = 2 ∨ a = b then b else if b = 2 then a else 3
def fm (a : Nat) : Nat := if a = 2 then 3 else a
def oc (k a b d : Nat) : Nat :=
  if k = 0 then (if fm a = 3 then 3 else 1 - fm a)
  else if k = 1 then (if fm a = 0 ∨ fm b = 0 then 0 else if fm a = 1 ∧ fm b = 1 then 1 else 3)
  else if k = 2 then (if fm a = 1 ∨ fm b = 1 then 1 else if fm a = 0 ∧ fm b = 0 then 0 else 3)
  else if k = 3 then (if fm a = 3 ∨ fm b = 3 then 3 else if fm a = fm b then 0 else 1)
  else if k = 4 then (if fm b = 0 then 2 else if fm b = 1 then fm a else 3)
  else (if b = 1 then fm a else d)
theorem jn_c : ∀ a, a < 4 → ∀ b, b < 4 → f_X3_join (nI a) (nI b) = nI (jn a b) := by decide +kernel
theorem jn_m : ∀ a, a < 4 → ∀ b, b < 4 → f_X9_together (nI a) (nI b) = nI (jn a b) := by decide +kernel
theorem jn_lt : ∀ a, a < 4 → ∀ b, b < 4 → jn a b < 4 := by decide +kernel
theorem oc_c : ∀ k, k < 6 → ∀ a, a < 4 → ∀ b, b < 4 → ∀ d, d < 4 → f_X3_outcome (nI k) (nI a) (nI b) (nI d) = nI (oc k a b d) := by decide +kernel
theorem oc_m : ∀ k, k < 5 → ∀ a, a < 4 → ∀ b, b < 4 → f_X9_made (nI k) (nI a) (nI b) = nI (oc k a b 0) := by decide +kernel
theorem oc_d {k a b d : Nat} (h : k < 5) : oc k a b d = oc k a b 0 := by
  unfold oc
  have : k = 0 ∨ k = 1 ∨ k = 2 ∨ k = 3 ∨ k = 4 := by omega
  rcases this with rfl | rfl | rfl | rfl | rfl <;> rfl
theorem oc_5 {a b d : Nat} : oc 5 a b d = if b = 1 then fm a else d := rfl
theorem fm_m : ∀ a, a < 4 → f_X9_firm (nI a) = nI (fm a) := by decide +kernel
theorem fm_lt : ∀ a, a < 4 → fm a < 4 := by decide +kernel
theorem oc_lt : ∀ k, k < 6 → ∀ a, a < 4 → ∀ b, b < 4 → ∀ d, d < 4 → oc k a b d < 4 := by decide +kernel
-- who drives and looks; what is driven (gates below n, one left out)
def dc (π : Pt) (w : Nat) : Nat → Nat
  | 0 => 0
  | n + 1 => if π 5 n = w then dc π w n + 1 else dc π w n
def lk (π : Pt) (g w : Nat) : Prop := π 3 g = w ∨ (π 2 g ≠ 0 ∧ π 4 g = w)
def dl (π : Pt) (κ : Kt) (w but : Nat) : Nat → Nat
  | 0 => 2
  | n + 1 => if π 5 n = w ∧ n ≠ but then jn (dl π κ w but n) (κ 11 n 0) else dl π κ w but n
-- a queue is told
def tR (t : Nat → Nat) (w : Nat) : Nat → Nat
  | 0 => 0
  | n + 1 => if t n < w then n + 1 else tR t w n
def aL (l : Nat → Nat) (v : Nat) : Nat → Nat
  | 0 => 0
  | n + 1 => if l n = v then aL l v n + 1 else 0
theorem tR_le (t : Nat → Nat) (w n : Nat) : tR t w n ≤ n := by
  induction n with
  | zero => exact Nat.le_refl _
  | succ n ih => unfold tR; split <;> omega
theorem aL_le (l : Nat → Nat) (v n : Nat) : aL l v n ≤ n := by
  induction n with
  | zero => exact Nat.le_refl _
  | succ n ih => unfold aL; split <;> omega
def tN (κ : Kt) (g d : Nat) : Nat := tR (κ 13 g) (κ 0 0 0 + d) (κ 12 g 0)
def tS (κ : Kt) (g d md lv : Nat) : Nat := if md = 1 then tN κ g d - aL (κ 14 g) lv (tN κ g d) else 0
def tU (κ : Kt) (g d md lv : Nat) : Nat := if 8 ≤ tN κ g d - tS κ g d md lv then tS κ g d md lv + 1 else tS κ g d md lv
def te (κ : Kt) (g d md lv : Nat) : Kt := fun f i j =>
  if i = g ∧ f = 12 then tN κ g d - tU κ g d md lv + 1
  else if i = g ∧ f = 13 then (if j = tN κ g d - tU κ g d md lv then κ 0 0 0 + d else κ 13 g (j + tU κ g d md lv))
  else if i = g ∧ f = 14 then (if j = tN κ g d - tU κ g d md lv then lv else κ 14 g (j + tU κ g d md lv))
  else κ f i j
def ocK (π : Pt) (κ : Kt) (g : Nat) : Nat := oc (π 2 g) (κ 4 (π 3 g) 0) (κ 4 (π 4 g) 0) (κ 11 g 0)
def tl (π : Pt) (κ : Kt) (g : Nat) : Kt := te κ g (π 6 g) (π 7 g) (ocK π κ g)
def tlA (π : Pt) (W : Nat → Bool) (κ : Kt) : Nat → Kt
  | 0 => κ
  | n + 1 => if W n = true then tl π (tlA π W κ n) n else tlA π W κ n
-- what is due is taken
def tkQ (κ : Kt) (n : Nat) : Kt := fun f i j =>
  if i < n ∧ 0 < κ 12 i 0 ∧ κ 13 i 0 = κ 0 0 0 then (if f = 11 then κ 14 i 0 else if f = 12 then κ 12 i 0 - 1 else if f = 13 then κ 13 i (j + 1) else if f = 14 then κ 14 i (j + 1) else κ f i j) else κ f i j
def hdue (κ : Kt) : Prop := 0 < κ 3 0 0 ∧ κ 15 0 0 = κ 0 0 0
def tkH (κ : Kt) : Kt := fun f i j =>
  if f = 3 ∧ i = 0 ∧ j = 0 then κ 3 0 0 - 1 else if f = 15 then κ 15 (i + 1) j else if f = 16 then κ 16 (i + 1) j else if f = 17 then κ 17 (i + 1) j else κ f i j
-- wires change: those of P become t
def chA (κ : Kt) (t : Nat → Nat) (P : Nat → Prop) [DecidablePred P] : Kt := fun f i j =>
  if P i ∧ t i ≠ κ 4 i 0 then (if f = 4 then t i else if f = 5 then min (κ 5 i 0 + 1) 9999 else if f = 6 then κ 0 0 0 + 1 else if f = 7 then (if κ 6 i 0 = κ 0 0 0 + 1 then 1 else κ 7 i 0) else if f = 9 then (if j = 0 then κ 0 0 0 else κ 9 i (j - 1)) else if f = 10 then (if j = 0 then t i else κ 10 i (j - 1)) else κ f i j) else κ f i j
def ku (κ : Kt) (f v : Nat) : Kt := fun f' i j => if f' = f ∧ i = 0 ∧ j = 0 then v else κ f' i j
def bsum (f : Nat → Nat) : Nat := f 0 + 2 * f 1 + 4 * f 2 + 8 * f 3 + 16 * f 4 + 32 * f 5 + 64 * f 6 + 128 * f 7
/-! ===== how the class holds it: a moment at m ===== -/
def hMs (I : It) (m : Nat) (κ : Kt) : Prop := I m 0 = nI (κ 0 0 0) ∧ I m 1 = nI (κ 1 0 0) ∧ I m 2 = nI (κ 2 0 0) ∧ I m 14 = nI (κ 3 0 0)
def hMw (I : It) (m n : Nat) (κ : Kt) : Prop := I m 3 = nI (bsum fun w => κ 7 w 0) ∧ ∀ w, w < n → I (m + 1) w = nI (κ 4 w 0) ∧ I (m + 2) w = nI (κ 5 w 0) ∧ I (m + 3) w = nI (κ 6 w 0) - 1 ∧ ∃ e, e < 8 ∧ I (m + 4) w = nI e ∧ ∀ k, k < 8 → k < κ 5 w 0 → I (m + 5) (8 * w + (e + 7 - k) % 8) = nI (κ 9 w k) ∧ I (m + 6) (8 * w + (e + 7 - k) % 8) = nI (κ 10 w k)
def hMg (I : It) (m n : Nat) (κ : Kt) : Prop := (∀ g, g < n → I (m + 7) g = nI (κ 11 g 0)) ∧ (∀ g, g < 8 → I (m + 8) g = nI (κ 12 g 0)) ∧ ∀ g, g < n → ∀ k, k < κ 12 g 0 → I (m + 9) (8 * g + k) = nI (κ 13 g k) ∧ I (m + 10) (8 * g + k) = nI (κ 14 g k)
def hMh (I : It) (m : Nat) (κ : Kt) : Prop := ∀ k, k < κ 3 0 0 → I (m + 11) k = nI (κ 15 k 0) ∧ I (m + 12) k = nI (κ 16 k 0) ∧ I (m + 13) k = nI (κ 17 k 0)
def hM (I : It) (m : Nat) (π : Pt) (κ : Kt) : Prop := hMs I m κ ∧ hMw I m (π 0 0) κ ∧ hMg I m (π 1 0) κ ∧ hMh I m κ
def FrM (m : Nat) (I I' : It) : Prop := ∀ a, (a < m ∨ m + 13 < a) → I' a = I a
theorem FrM.rf {m : Nat} {I : It} : FrM m I I := fun _ _ => rfl
theorem FrM.tr {m : Nat} {I I' I'' : It} (h : FrM m I I') (h' : FrM m I' I'') : FrM m I I'' := fun a ha => (h' a ha).trans (h a ha)
-- a plan at p
def hP (I : It) (p : Nat) (π : Pt) : Prop := I p 0 = nI (π 0 0) ∧ I p 1 = nI (π 1 0) ∧ ∀ g, g < π 1 0 → I (p + 2) g = nI (π 2 g) ∧ I (p + 3) g = nI (π 3 g) ∧ I (p + 4) g = nI (π 4 g) ∧ I (p + 5) g = nI (π 5 g) ∧ I (p + 6) g = nI (π 6 g) ∧ I (p + 7) g = nI (π 7 g)
theorem hP.to {I I' : It} {p m : Nat} {π : Pt} (h : hP I p π) (hf : FrM m I I') (hpm : p + 7 < m) : hP I' p π := by
  unfold hP at *
  rw [hf p (by omega), hf (p + 2) (by omega), hf (p + 3) (by omega), hf (p + 4) (by omega), hf (p + 5) (by omega), hf (p + 6) (by omega), hf (p + 7) (by omega)]
  exact h
def WP (π : Pt) : Prop := π 0 0 ≤ 8 ∧ π 1 0 ≤ 8 ∧ ∀ g, g < π 1 0 → π 2 g < 6 ∧ π 3 g < π 0 0 ∧ π 4 g < π 0 0 ∧ π 5 g < π 0 0 ∧ π 6 g ≤ 20 ∧ π 7 g ≤ 1
/-! ===== how the reference holds it: a row at x ===== -/
def hRs (I : It) (x : Nat) (κ : Kt) : Prop := I 309 x = nI (κ 0 0 0) ∧ I 309 (x + 1) = nI (κ 1 0 0) ∧ I 309 (x + 2) = nI (κ 2 0 0) ∧ I 309 (x + 3) = nI (κ 3 0 0)
def hRw (I : It) (x n : Nat) (κ : Kt) : Prop := ∀ w, w < n → I 309 (x + 8 + w) = nI (κ 4 w 0) ∧ I 309 (x + 16 + w) = nI (κ 5 w 0) ∧ I 309 (x + 24 + w) = nI (κ 6 w 0) - 1 ∧ I 309 (x + 32 + w) = nI (κ 7 w 0) ∧ I 309 (x + 40 + w) = nI (min (κ 5 w 0) 8) ∧ ∀ k, k < 8 → k < κ 5 w 0 → I 309 (x + 48 + 8 * w + k) = nI (κ 9 w k) ∧ I 309 (x + 112 + 8 * w + k) = nI (κ 10 w k)
def hRg (I : It) (x n : Nat) (κ : Kt) : Prop := ∀ g, g < n → I 309 (x + 176 + g) = nI (κ 11 g 0) ∧ I 309 (x + 184 + g) = nI (κ 12 g 0) ∧ ∀ k, k < κ 12 g 0 → I 309 (x + 192 + 8 * g + k) = nI (κ 13 g k) ∧ I 309 (x + 256 + 8 * g + k) = nI (κ 14 g k)
def hRh (I : It) (x : Nat) (κ : Kt) : Prop := ∀ k, k < κ 3 0 0 → I 309 (x + 320 + k) = nI (κ 15 k 0) ∧ I 309 (x + 328 + k) = nI (κ 16 k 0) ∧ I 309 (x + 336 + k) = nI (κ 17 k 0)
def hR (I : It) (x : Nat) (π : Pt) (κ : Kt) : Prop := hRs I x κ ∧ hRw I x (π 0 0) κ ∧ hRg I x (π 1 0) κ ∧ hRh I x κ
def FrR (x : Nat) (I I' : It) : Prop := (∀ a, a ≠ 309 → I' a = I a) ∧ ∀ k, (k < x ∨ x + 344 ≤ k) → I' 309 k = I 309 k
theorem FrR.rf {x : Nat} {I : It} : FrR x I I := ⟨fun _ _ => rfl, fun _ _ => rfl⟩
theorem FrR.tr {x : Nat} {I I' I'' : It} (h : FrR x I I') (h' : FrR x I' I'') : FrR x I I'' := ⟨fun a ha => (h'.1 a ha).trans (h.1 a ha), fun k hk => (h'.2 k hk).trans (h.2 k hk)⟩
def hO (I : It) (π : Pt) : Prop := I 308 1 = nI (π 0 0) ∧ I 308 2 = nI (π 1 0) ∧ ∀ g, g < π 1 0 → ∀ j, j < 6 → I 310 (6 * g + j) = nI (π (2 + j) g)
theorem hO.to {I I' : It} {x : Nat} {π : Pt} (h : hO I π) (hf : FrR x I I') : hO I' π := by
  unfold hO at *
  rw [hf.1 308 (by decide), hf.1 310 (by decide)]
  exact h
