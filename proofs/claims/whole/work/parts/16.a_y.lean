/-! ===== all that the reference holds ===== -/
def hYp (I : It) (π : Pt) (ρ : Nat → Kt) (c : Nat) : Prop := c ≤ 16 ∧ I 308 4 = nI c ∧ ∀ j, j < c → hR I (344 * (c - j)) π (ρ j)
def hYi (I : It) (π : Pt) (α β : Kt) (μ : Mt) : Prop := I 308 5 = nI (μ 1 0 + 2 * μ 1 1) ∧ (μ 1 0 = 1 → hR I 5848 π α ∧ I 311 0 = nI (μ 2 0)) ∧ (μ 1 1 = 1 → hR I 6192 π β ∧ I 311 1 = nI (μ 2 1))
def hYb (I : It) (μ : Mt) : Prop := I 308 10 = nI (μ 4 0) ∧ ∀ k, k < μ 4 0 → I 312 k = nI (μ 5 k) ∧ I 313 k = nI (μ 6 k)
def hYt (I : It) (μ : Mt) : Prop := I 308 12 = nI (μ 7 0) ∧ (∀ k, k < μ 7 0 → I 314 k = nI (μ 8 k)) ∧ I 308 13 = nI (μ 9 0) - 1
def hY (I : It) : Gt → Prop
  | (π, κ, ρ, c, α, β, μ) => hO I π ∧ hR I 0 π κ ∧ hYp I π ρ c ∧ hYi I π α β μ ∧ I 308 6 = nI (μ 3 0) ∧ hYb I μ ∧ hYt I μ
section Y1
variable {mc ms : Nat} {z : Zt} {I I' J : It} {Q : Option Value → Zt → It → Prop} {π : Pt} {κ κ' : Kt} {ρ ρ' : Nat → Kt} {c c' : Nat} {α β : Kt} {μ : Mt} {T : Nat} {x x1 x2 x3 : Int32}
theorem FrY.rr {r : Nat} (h : FrR r I I') : FrY I I' := fun a ha => h.1 a (by omega)
theorem hYp.fr (h : hYp I π ρ c) (hW : WP π) (h8 : ∀ j, j < c → Z8 π (ρ j)) (h4 : I' 308 4 = I 308 4) (he : ∀ q, 344 ≤ q → q < 5848 → I' 309 q = I 309 q) : hYp I' π ρ c := by
  obtain ⟨a1, a2, a3⟩ := h
  exact ⟨a1, by rw [h4]; exact a2, fun j hj => (a3 j hj).fr hW (h8 j hj) (fun q b1 b2 => he q (by omega) (by omega))⟩
theorem hYi.fr (h : hYi I π α β μ) (hW : WP π) (h1 : μ 1 0 = 1 → Z8 π α) (h2 : μ 1 1 = 1 → Z8 π β) (h5 : I' 308 5 = I 308 5) (h11 : I' 311 = I 311) (he : ∀ q, 5848 ≤ q → q < 6536 → I' 309 q = I 309 q) : hYi I' π α β μ := by
  obtain ⟨a1, a2, a3⟩ := h
  refine ⟨by rw [h5]; exact a1, fun q => ⟨(a2 q).1.fr hW (h1 q) (fun q b1 b2 => he q (by omega) (by omega)), by rw [h11]; exact (a2 q).2⟩, fun q => ⟨(a3 q).1.fr hW (h2 q) (fun q b1 b2 => he q (by omega) (by omega)), by rw [h11]; exact (a3 q).2⟩⟩
theorem WG.z8p (h : WG T (π, κ, ρ, c, α, β, μ)) : ∀ j, j < c → Z8 π (ρ j) := fun j hj => (h.2.2.1.2 j hj).1.z8
theorem WG.z8a (h : WG T (π, κ, ρ, c, α, β, μ)) : μ 1 0 = 1 → Z8 π α := fun q => (h.2.2.2.1.2 q).1.1.z8
theorem WG.z8b (h : WG T (π, κ, ρ, c, α, β, μ)) : μ 1 1 = 1 → Z8 π β := fun q => (h.2.2.2.2.1.2 q).1.1.z8
theorem hY.fr {G : Gt} (h : hY I G) (hG : WG T G) (he : ∀ a, 308 ≤ a → I' a = I a) : hY I' G := by
  obtain ⟨π, κ, ρ, c, α, β, μ⟩ := G
  obtain ⟨y1, y2, y3, y4, y5, y6, y7⟩ := h
  have hW := hG.1
  refine ⟨?_, y2.fr hW hG.2.1.1.z8 (fun q _ _ => by rw [he 309 (by omega)]), y3.fr hW hG.z8p (by rw [he 308 (by omega)]) (fun q _ _ => by rw [he 309 (by omega)]), y4.fr hW hG.z8a hG.z8b (by rw [he 308 (by omega)]) (he 311 (by omega)) (fun q _ _ => by rw [he 309 (by omega)]), by rw [he 308 (by omega)]; exact y5, ?_, ?_⟩
  · unfold hO at *; rw [he 308 (by omega), he 310 (by omega)]; exact y1
  · unfold hYb at *; rw [he 308 (by omega), he 312 (by omega), he 313 (by omega)]; exact y6
  · unfold hYt at *; rw [he 308 (by omega), he 314 (by omega)]; exact y7
theorem hY.now (h : hY I (π, κ, ρ, c, α, β, μ)) (hG : WG T (π, κ, ρ, c, α, β, μ)) (hf : FrR 0 I I') (hX : hR I' 0 π κ') : hY I' (π, κ', ρ, c, α, β, μ) := by
  obtain ⟨y1, y2, y3, y4, y5, y6, y7⟩ := h
  have hW := hG.1
  refine ⟨y1.to hf, hX, y3.fr hW hG.z8p (by rw [hf.1 308 (by decide)]) (fun q _ _ => hf.2 q (by omega)), y4.fr hW hG.z8a hG.z8b (by rw [hf.1 308 (by decide)]) (hf.1 311 (by decide)) (fun q _ _ => hf.2 q (by omega)), by rw [hf.1 308 (by decide)]; exact y5, ?_, ?_⟩
  · unfold hYb at *; rw [hf.1 308 (by decide), hf.1 312 (by decide), hf.1 313 (by decide)]; exact y6
  · unfold hYt at *; rw [hf.1 308 (by decide), hf.1 314 (by decide)]; exact y7
theorem hY.tried (h : hY I (π, κ, ρ, c, α, β, μ)) (hG : WG T (π, κ, ρ, c, α, β, μ)) (hf : FrR 6536 I I') : hY I' (π, κ, ρ, c, α, β, μ) := by
  obtain ⟨y1, y2, y3, y4, y5, y6, y7⟩ := h
  have hW := hG.1
  refine ⟨y1.to hf, y2.fr hW hG.2.1.1.z8 (fun q _ _ => hf.2 q (by omega)), y3.fr hW hG.z8p (by rw [hf.1 308 (by decide)]) (fun q _ _ => hf.2 q (by omega)), y4.fr hW hG.z8a hG.z8b (by rw [hf.1 308 (by decide)]) (hf.1 311 (by decide)) (fun q _ _ => hf.2 q (by omega)), by rw [hf.1 308 (by decide)]; exact y5, ?_, ?_⟩
  · unfold hYb at *; rw [hf.1 308 (by decide), hf.1 312 (by decide), hf.1 313 (by decide)]; exact y6
  · unfold hYt at *; rw [hf.1 308 (by decide), hf.1 314 (by decide)]; exact y7
/-- only the past differs -/
def FrP (I J : It) : Prop := (∀ a, a ≠ 308 → a ≠ 309 → J a = I a) ∧ (∀ q, q ≠ 4 → J 308 q = I 308 q) ∧ ∀ q, (q < 344 ∨ 5848 ≤ q) → J 309 q = I 309 q
theorem FrP.rf : FrP I I := ⟨fun _ _ _ => rfl, fun _ _ => rfl, fun _ _ => rfl⟩
theorem FrP.tr {I J K : It} (h : FrP I J) (h' : FrP J K) : FrP I K := ⟨fun a h1 h2 => (h'.1 a h1 h2).trans (h.1 a h1 h2), fun q h1 => (h'.2.1 q h1).trans (h.2.1 q h1), fun q h1 => (h'.2.2 q h1).trans (h.2.2 q h1)⟩
theorem FrP.row {y : Nat} (h : FrR y I J) (h1 : 344 ≤ y) (h2 : y + 344 ≤ 5848) : FrP I J := ⟨fun a _ h => by have := ‹FrR y I J›.1 a h; exact this, fun q _ => by rw [h.1 308 (by decide)], fun q hq => h.2 q (by omega)⟩
theorem FrP.cnt {v : Int32} (e : J = e_st I 308 4 v) : FrP I J := ⟨fun a h1 _ => by rw [e, e_st_a h1], fun q h => by rw [e, e_st_k h], fun q _ => by rw [e, e_st_a (by decide)]⟩
theorem hY.past (h : hY I (π, κ, ρ, c, α, β, μ)) (hG : WG T (π, κ, ρ, c, α, β, μ)) (hf : FrP I I') (hX : hYp I' π ρ' c') : hY I' (π, κ, ρ', c', α, β, μ) := by
  obtain ⟨y1, y2, y3, y4, y5, y6, y7⟩ := h
  have hW := hG.1
  refine ⟨?_, y2.fr hW hG.2.1.1.z8 (fun q _ _ => hf.2.2 q (by omega)), hX, y4.fr hW hG.z8a hG.z8b (hf.2.1 5 (by decide)) (hf.1 311 (by decide) (by decide)) (fun q _ _ => hf.2.2 q (by omega)), by rw [hf.2.1 6 (by decide)]; exact y5, ?_, ?_⟩
  · unfold hO at *; rw [hf.2.1 1 (by decide), hf.2.1 2 (by decide), hf.1 310 (by decide) (by decide)]; exact y1
  · unfold hYb at *; rw [hf.2.1 10 (by decide), hf.1 312 (by decide) (by decide), hf.1 313 (by decide) (by decide)]; exact y6
  · unfold hYt at *; rw [hf.2.1 12 (by decide), hf.2.1 13 (by decide), hf.1 314 (by decide) (by decide)]; exact y7
theorem FrY.pp (h : FrP I I') : FrY I I' := fun a ha => h.1 a (by omega) (by omega)
theorem XM_rem (ho : isO z) (hX : hR J 0 π κ) (hz8 : Z8 π κ) (hW : WP π) (hP : hYp J π ρ c) (hz8p : ∀ j, j < c → Z8 π (ρ j)) (hc : c ≤ 15) (hf : FrP I J) {v : Int32} (hv : v = nI (344 * (c + 1))) (k : ∀ I', FrP I I' → hYp I' π (psh κ ρ) (c + 1) → Q none z I') : E mX9_copyRow 0 0 0 [some (.ref 308), some (.int 0), some (.int v), none] [] z J (fun r z' I' => E mX9_remember mc ms 64 [some (.ref 308), none] (r.toList ++ []) z' I' Q) := by
  subst hv
  refine M_copyRow (x := 0) (y := 344 * (c + 1)) ho (by omega) (by omega) (by omega) (fun I1 hf1 he1 => B_X9_remember_64 ho (fun I2 e2 => ?_))
  obtain ⟨a1, a2, a3⟩ := hP
  have h14 : I1 308 4 = nI c := by rw [hf1.1 308 (by decide)]; exact a2
  rw [h14, nI_1] at e2
  refine k I2 ((hf.tr (FrP.row hf1 (by omega) (by omega))).tr (FrP.cnt e2)) ⟨by omega, by rw [e2, e_st_same], fun j hj => ?_⟩
  have r2 : ∀ q, I2 309 q = I1 309 q := fun q => by rw [e2, e_st_a (by decide)]
  unfold psh
  by_cases j0 : j = 0
  · subst j0
    rw [if_pos rfl]
    exact hX.cp hW hz8 (fun q hq => by rw [r2]; exact he1 q hq)
  · rw [if_neg j0]
    have := a3 (j - 1) (by omega)
    rw [show c - (j - 1) = c + 1 - j by omega] at this
    exact this.fr hW (hz8p _ (by omega)) (fun q b1 b2 => by rw [r2, hf1.2 q (by omega)])
theorem LM_rem (ho : isO z) (hX : hR I 0 π κ) (hz8 : Z8 π κ) (hW : WP π) (h4 : I 308 4 = nI 16) (hz8p : ∀ j, j < 16 → Z8 π (ρ j)) (k : ∀ I', FrP I I' → hYp I' π (psh κ ρ) 16 → Q none z I') : ∀ (r i : Nat) (K : It), 1 ≤ i → i + r = 16 → FrP I K → K 308 4 = nI 16 → (∀ j, 1 ≤ 15 - j → 15 - j < i → j < 15 → hR K (344 * (15 - j)) π (ρ j)) → (∀ j, j < 16 → i ≤ 16 - j → hR K (344 * (16 - j)) π (ρ j)) → E mX9_remember mc ms 11 [some (.ref 308), some (.int (nI i))] [] z K Q := by
  intro r
  induction r with
  | zero =>
    intro i K hi1 hi hf h4k h1 h2
    refine B_X9_remember_11 ho (pk_le 16 i (fun _ I1 e1 => ?_) (fun h => absurd h (by omega)))
    rw [h4k, nI_dec (by omega)] at e1
    have hI1 : I1 308 4 = nI 15 := by rw [e1, e_st_same]
    have r1 : ∀ q, I1 309 q = K 309 q := fun q => by rw [e1, e_st_a (by decide)]
    refine XM_rem (I := I) (ρ := ρ) (c := 15) ho (hX.fr hW hz8 (fun q b1 b2 => by rw [r1, hf.2.2 q (by omega)])) hz8 hW ⟨by omega, hI1, fun j hj => ?_⟩ (fun j hj => hz8p j (by omega)) (by omega) (hf.tr (FrP.cnt e1)) ?_ k
    · exact (h1 j (by omega) (by omega) hj).fr hW (hz8p j (by omega)) (fun q _ _ => r1 q)
    · rw [hI1]; rfl
  | succ r ih =>
    intro i K hi1 hi hf h4k h1 h2
    refine B_X9_remember_11 ho (pk_le 16 i (fun h => absurd h (by omega)) (fun _ => ?_))
    have e1 : (344 : Int32) * (nI i + 1) = nI (344 * (i + 1)) := by rw [nI_1]; exact ixm 344 (i + 1)
    have e2 : (344 : Int32) * nI i = nI (344 * i) := ixm 344 i
    rw [e1, e2]
    refine M_copyRow ho (by omega) (by omega) (by omega) (fun I1 hf1 he1 => B_X9_remember_33 ho ?_)
    rw [nI_1]
    refine ih (i + 1) I1 (by omega) (by omega) (hf.tr (FrP.row hf1 (by omega) (by omega))) (by rw [hf1.1 308 (by decide)]; exact h4k) (fun j a b c => ?_) (fun j a b => ?_)
    · by_cases e : 15 - j = i
      · have hh := h2 j (by omega) (by omega)
        rw [show 16 - j = i + 1 by omega] at hh
        rw [e]
        exact hh.cp hW (hz8p j (by omega)) he1
      · exact (h1 j a (by omega) c).fr hW (hz8p j (by omega)) (fun q b1 b2 => hf1.2 q (by omega))
    · exact (h2 j a (by omega)).fr hW (hz8p j a) (fun q b1 b2 => hf1.2 q (by omega))
theorem M_remember (ho : isO z) (h : hY I (π, κ, ρ, c, α, β, μ)) (hG : WG T (π, κ, ρ, c, α, β, μ)) (k : ∀ I', FrP I I' → hYp I' π (psh κ ρ) (min (c + 1) 16) → Q none z I') : E mX9_remember mc ms 0 [some (.ref 308), none] [] z I Q := by
  obtain ⟨y1, y2, y3, y4, y5, y6, y7⟩ := id h
  have hW := hG.1
  have hc := y3.1
  refine B_X9_remember_0 ho ?_
  rw [y3.2.1]
  refine pk_ne c 16 (fun hne => ?_) (fun he => ?_)
  · have e : min (c + 1) 16 = c + 1 := by omega
    rw [e] at k
    refine XM_rem ho y2 hG.2.1.1.z8 hW y3 hG.z8p (by omega) FrP.rf ?_ k
    rw [nI_1]; exact ixm 344 (c + 1)
  · subst he
    exact LM_rem ho y2 hG.2.1.1.z8 hW y3.2.1 hG.z8p k 15 1 I (by omega) (by omega) FrP.rf y3.2.1 (fun j a b _ => absurd b (by omega)) (fun j a _ => y3.2.2 j a)
end Y1
