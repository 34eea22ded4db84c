/-! ===== all that is so ===== -/
theorem xc {x : Int32} (h : ¬ x < 0) : ∃ j, j < 2 ^ 31 ∧ x = nI j := by
  have h0 : (0 : Int) ≤ x.toInt := by
    rw [Int32.lt_iff_toInt_lt] at h
    have : (0 : Int32).toInt = 0 := rfl
    omega
  have h1 := Int32.toInt_lt x
  refine ⟨x.toInt.toNat, by omega, ?_⟩
  refine Int32.toInt_inj.mp ?_
  rw [nI_toInt (by omega)]
  omega
def un (x : Int32) : Nat := x.toNatClampNeg
theorem un_nI {j : Nat} (h : j < 2 ^ 31) : un (nI j) = j := nI_clamp h
abbrev Mt : Type := Nat → Nat → Nat
abbrev Gt : Type := Pt × Kt × (Nat → Kt) × Nat × Kt × Kt × Mt
def um (μ : Mt) (a b v : Nat) : Mt := fun a' b' => if a' = a ∧ b' = b then v else μ a' b'
theorem um_same {μ : Mt} {a b v : Nat} : um μ a b v a b = v := if_pos ⟨rfl, rfl⟩
theorem um_a {μ : Mt} {a b v a' : Nat} (h : a' ≠ a) : um μ a b v a' = μ a' := funext fun _ => if_neg fun q => h q.1
theorem um_b {μ : Mt} {a b v a' b' : Nat} (h : b' ≠ b) : um μ a b v a' b' = μ a' b' := if_neg fun q => h q.2
def hTx (I : It) (μ : Mt) : Prop := I 2 1 = nI (μ 7 0) ∧ (∀ k, k < μ 7 0 → I 3 k = nI (μ 8 k)) ∧ I 2 2 = nI (μ 9 0) - 1
def hC (I : It) (pa : Nat) : Gt → Prop
  | (π, κ, ρ, c, α, β, μ) => hP I pa π ∧ hM I 20 π κ ∧ hQ I π ρ c ∧ hI I π 274 α (μ 1 0) (μ 2 0) ∧ hI I π 289 β (μ 1 1) (μ 2 1) ∧ I 307 0 = nI (μ 3 0) ∧ hBk I μ ∧ hTx I μ
def WT (T : Nat) (π : Pt) (κ : Kt) : Prop := WK π κ ∧ κ 0 0 0 ≤ T
theorem WT.le {T T' : Nat} {π : Pt} {κ : Kt} (h : WT T π κ) (hT : T ≤ T') : WT T' π κ := ⟨h.1, Nat.le_trans h.2 hT⟩
def WTx (μ : Mt) : Prop := μ 7 0 ≤ 200 ∧ (∀ k, k < μ 7 0 → μ 8 k < 256) ∧ μ 9 0 ≤ 1000
def WG (T : Nat) : Gt → Prop
  | (π, κ, ρ, c, α, β, μ) => WP π ∧ WT T π κ ∧ (c ≤ 16 ∧ ∀ k, k < c → WT T π (ρ k)) ∧ (μ 1 0 ≤ 1 ∧ (μ 1 0 = 1 → WT T π α ∧ μ 2 0 < 2147483648)) ∧ (μ 1 1 ≤ 1 ∧ (μ 1 1 = 1 → WT T π β ∧ μ 2 1 < 2147483648)) ∧ μ 3 0 < 2147483648 ∧ WBk π μ ∧ WTx μ
def FrX (I I' : It) : Prop := ∀ a, (a = 0 ∨ 308 ≤ a) → I' a = I a
def FrY (I I' : It) : Prop := ∀ a, a < 308 → I' a = I a
theorem FrX.rf {I : It} : FrX I I := fun _ _ => rfl
theorem FrY.rf {I : It} : FrY I I := fun _ _ => rfl
theorem FrX.tr {I I' I'' : It} (h : FrX I I') (h' : FrX I' I'') : FrX I I'' := fun a ha => (h' a ha).trans (h a ha)
theorem FrY.tr {I I' I'' : It} (h : FrY I I') (h' : FrY I' I'') : FrY I I'' := fun a ha => (h' a ha).trans (h a ha)
theorem FrX.mo {m : Nat} {I I' : It} (h : FrM m I I') (h0 : 0 < m) (h1 : m + 13 < 308) : FrX I I' := fun a ha => h a (by omega)
section G1
variable {I I' : It} {pa m : Nat} {π : Pt} {κ κ' : Kt} {ρ ρ' : Nat → Kt} {c c' : Nat} {α β : Kt} {μ : Mt}
theorem hP.fr {p : Nat} (h : hP I p π) (he : ∀ a, p ≤ a → a ≤ p + 7 → I' a = I a) : hP I' p π := by
  unfold hP at *
  rw [he p (by omega) (by omega), he (p + 2) (by omega) (by omega), he (p + 3) (by omega) (by omega), he (p + 4) (by omega) (by omega), he (p + 5) (by omega) (by omega), he (p + 6) (by omega) (by omega), he (p + 7) (by omega) (by omega)]
  exact h
theorem hQ.fr (h : hQ I π ρ c) (he : ∀ a, 48 ≤ a → a ≤ 273 → I' a = I a) : hQ I' π ρ c := by
  obtain ⟨h1, h2, e, h3, h4, h5⟩ := h
  refine ⟨h1, by rw [he 48 (by omega) (by omega)]; exact h2, e, h3, by rw [he 48 (by omega) (by omega)]; exact h4, fun k hk => (h5 k hk).fr (fun a h1 h2 => he a (by omega) ?_)⟩
  have := Nat.mod_lt (e + 15 - k) (by omega : 16 > 0)
  omega
theorem hI.fr {i kp sd : Nat} (h : hI I π i α kp sd) (he : ∀ a, i ≤ a → a ≤ i + 14 → I' a = I a) : hI I' π i α kp sd := by
  obtain ⟨h1, h2, h3⟩ := h
  refine ⟨h1, by rw [he i (by omega) (by omega)]; exact h2, fun q => ⟨by rw [he i (by omega) (by omega)]; exact (h3 q).1, (h3 q).2.fr (fun a a1 a2 => he a (by omega) (by omega))⟩⟩
theorem hBk.fr (h : hBk I μ) (he : ∀ a, 304 ≤ a → a ≤ 306 → I' a = I a) : hBk I' μ := by
  unfold hBk at *
  rw [he 304 (by omega) (by omega), he 305 (by omega) (by omega), he 306 (by omega) (by omega)]
  exact h
theorem hTx.fr (h : hTx I μ) (he : ∀ a, 2 ≤ a → a ≤ 3 → I' a = I a) : hTx I' μ := by
  unfold hTx at *
  rw [he 2 (by omega) (by omega), he 3 (by omega) (by omega)]
  exact h
theorem hC.fr {G : Gt} (h : hC I pa G) (hpa : pa + 7 < 20) (he : ∀ a, a < 308 → I' a = I a) : hC I' pa G := by
  obtain ⟨π, κ, ρ, c, α, β, μ⟩ := G
  obtain ⟨h1, h2, h3, h4, h5, h6, h7, h8⟩ := h
  exact ⟨h1.fr (fun a _ _ => he a (by omega)), h2.fr (fun a _ _ => he a (by omega)), h3.fr (fun a _ _ => he a (by omega)), h4.fr (fun a _ _ => he a (by omega)), h5.fr (fun a _ _ => he a (by omega)), by rw [he 307 (by omega)]; exact h6, h7.fr (fun a _ _ => he a (by omega)), h8.fr (fun a _ _ => he a (by omega))⟩
theorem hC.now (h : hC I pa (π, κ, ρ, c, α, β, μ)) (hpa : pa + 7 < 20) (hf : FrM 20 I I') (hX : hM I' 20 π κ') : hC I' pa (π, κ', ρ, c, α, β, μ) := by
  obtain ⟨h1, h2, h3, h4, h5, h6, h7, h8⟩ := h
  exact ⟨h1.fr (fun a _ _ => hf a (by omega)), hX, h3.fr (fun a _ _ => hf a (by omega)), h4.fr (fun a _ _ => hf a (by omega)), h5.fr (fun a _ _ => hf a (by omega)), by rw [hf 307 (by omega)]; exact h6, h7.fr (fun a _ _ => hf a (by omega)), h8.fr (fun a _ _ => hf a (by omega))⟩
theorem hC.trial (h : hC I pa (π, κ, ρ, c, α, β, μ)) (hpa : pa + 7 < 20) (hf : FrM 34 I I') : hC I' pa (π, κ, ρ, c, α, β, μ) := by
  obtain ⟨h1, h2, h3, h4, h5, h6, h7, h8⟩ := h
  exact ⟨h1.fr (fun a _ _ => hf a (by omega)), h2.fr (fun a _ _ => hf a (by omega)), h3.fr (fun a _ _ => hf a (by omega)), h4.fr (fun a _ _ => hf a (by omega)), h5.fr (fun a _ _ => hf a (by omega)), by rw [hf 307 (by omega)]; exact h6, h7.fr (fun a _ _ => hf a (by omega)), h8.fr (fun a _ _ => hf a (by omega))⟩
theorem hC.past (h : hC I pa (π, κ, ρ, c, α, β, μ)) (hpa : pa + 7 < 20) (hf : FrC I I') (hX : hQ I' π ρ' c') : hC I' pa (π, κ, ρ', c', α, β, μ) := by
  obtain ⟨h1, h2, h3, h4, h5, h6, h7, h8⟩ := h
  exact ⟨h1.fr (fun a _ _ => hf a (by omega)), h2.fr (fun a _ _ => hf a (by omega)), hX, h4.fr (fun a _ _ => hf a (by omega)), h5.fr (fun a _ _ => hf a (by omega)), by rw [hf 307 (by omega)]; exact h6, h7.fr (fun a _ _ => hf a (by omega)), h8.fr (fun a _ _ => hf a (by omega))⟩
theorem FrX.past (hf : FrC I I') : FrX I I' := fun a ha => hf a (by omega)
end G1
-- answers that change nothing
def aWire (π : Pt) (κ : Kt) (x1 x2 : Int32) : Int32 :=
  if x1 < 0 ∨ nI (π 0 0) ≤ x1 then -1000000001 else if x2 = 0 then nI (κ 4 (un x1) 0) else if x2 = 1 then nI (dc π (un x1) (π 1 0)) else if x2 = 2 then nI (κ 5 (un x1) 0) else if x2 = 3 then nI (κ 6 (un x1) 0) - 1 else if x2 = 4 then nI (lc π (un x1) (π 1 0)) else -1000000002
def aWave (π : Pt) (κ : Kt) (x1 x2 x3 : Int32) : Int32 :=
  if x1 < 0 ∨ nI (π 0 0) ≤ x1 then -1000000001 else if ¬ (x3 = 0 ∨ x3 = 1) then -1000000002 else if x2 < 0 ∨ nI (min (κ 5 (un x1) 0) 8) ≤ x2 then -1 else if x3 = 0 then nI (κ 9 (un x1) (un x2)) else nI (κ 10 (un x1) (un x2))
def aGate (π : Pt) (κ : Kt) (x1 x2 : Int32) : Int32 :=
  if x1 < 0 ∨ nI (π 1 0) ≤ x1 then -1000000001 else if x2 = 0 then nI (π 2 (un x1)) else if x2 = 1 then nI (π 3 (un x1)) else if x2 = 2 then nI (π 4 (un x1)) else if x2 = 3 then nI (π 5 (un x1)) else if x2 = 4 then nI (π 6 (un x1)) else if x2 = 5 then nI (π 7 (un x1)) else if x2 = 6 then nI (κ 11 (un x1) 0) else if x2 = 7 then nI (ocK π κ (un x1)) else if x2 = 8 then nI (κ 12 (un x1) 0) else if x2 = 9 then nI (dl π κ (π 5 (un x1)) (un x1) (π 1 0)) else -1000000002
def aQueue (π : Pt) (κ : Kt) (x1 x2 x3 : Int32) : Int32 :=
  if x1 < 0 ∨ nI (π 1 0) ≤ x1 then -1000000001 else if ¬ (x3 = 0 ∨ x3 = 1) then -1000000002 else if x2 < 0 ∨ nI (κ 12 (un x1) 0) ≤ x2 then -1 else if x3 = 0 then nI (κ 13 (un x1) (un x2)) else nI (κ 14 (un x1) (un x2))
def aRes (x1 x2 : Int32) : Int32 := if x1 < 0 ∨ 3 < x1 ∨ x2 < 0 ∨ 3 < x2 then -1000000001 else nI (jn (un x1) (un x2))
def aCom (x1 x2 x3 : Int32) : Int32 := if x2 < 0 ∨ 3 < x2 ∨ x3 < 0 ∨ 3 < x3 then -1000000001 else if x1 < 0 ∨ 4 < x1 then -1000000002 else nI (oc (un x1) (un x2) (un x3) 0)
def sl (π : Pt) : Nat → Nat → Kt → Int32
  | 0, n, κ => if κ 2 0 0 = 0 ∧ er κ 8 = 2147483647 then nI n else -1
  | r + 1, n, κ => if κ 2 0 0 = 0 then (if er κ 8 = 2147483647 then nI n else sl π r (n + 1) (sp π κ)) else -1
def aTold (π : Pt) (κ : Kt) (c : Nat) (μ : Mt) (x1 : Int32) : Int32 :=
  if x1 = 0 then nI (π 0 0) else if x1 = 1 then nI (π 1 0) else if x1 = 2 then nI (μ 7 0) else if x1 = 3 then nI (κ 0 0 0) else if x1 = 4 then nI (κ 1 0 0) else if x1 = 5 then nI (κ 2 0 0) else if x1 = 6 then (if er κ 8 = 2147483647 then 1 else 0) else if x1 = 7 then nI (mk fun g => decide (g < π 1 0) && decide (κ 11 g 0 = ocK π κ g)) else if x1 = 8 then nI (bsum fun w => κ 7 w 0) else if x1 = 9 then sl π 100 0 κ else if x1 = 10 then nI (κ 3 0 0) else if x1 = 11 then nI (μ 4 0) else if x1 = 12 then fw (wrg π κ μ) (μ 4 0) 0 else if x1 = 13 then nI c else -1000000002
