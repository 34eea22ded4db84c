/-! ===== wires, by the class ===== -/
def oWires : Gt → Int32 × Gt
  | (π, κ, ρ, c, α, β, μ) => if (prs (μ 8) (μ 7 0)).1.1 = 0 then (nI ((prs (μ 8) (μ 7 0)).2.1 0 0), ((prs (μ 8) (μ 7 0)).2.1, bgn (prs (μ 8) (μ 7 0)).2.1 (prs (μ 8) (μ 7 0)).2.2, ρ, 0, α, β, um (um (um (um (um μ 1 0 0) 1 1 0) 4 0 0) 7 0 0) 9 0 0)) else (-10 - nI (prs (μ 8) (μ 7 0)).1.1, (π, κ, ρ, c, α, β, um (um μ 7 0 0) 9 0 ((prs (μ 8) (μ 7 0)).1.2.1 + 1)))
section V1
variable {t : Nat → Nat} {n p0 L W : Nat} {s : St} {π : Pt} {lv : Nat → Nat}
def bd (s : St) : Prop := s.2.1 ≤ 300 ∧ s.2.2 ≤ 300
theorem nm_bd (hn : n ≤ 200) (h : bd s) : bd (nm t n L s) := by
  have a := sk_le (t := t) (n := n) (p := s.2.2)
  have d := dg_le (t := t) (n := n) (p := sk t n s.2.2)
  have h2 := h.2
  unfold nm
  split
  · exact h
  · split
    · exact ⟨by show sk t n s.2.2 ≤ 300; omega, Nat.zero_le _⟩
    · exact ⟨Nat.zero_le _, by show dg t n (sk t n s.2.2) ≤ 300; omega⟩
theorem en_bd (hn : n ≤ 200) (h : bd s) : bd (en t n s) := by
  have a := sk_le (t := t) (n := n) (p := s.2.2)
  have h2 := h.2
  unfold en
  split
  · exact h
  · split
    next q => exact ⟨Nat.zero_le _, by show sk t n s.2.2 + 1 ≤ 300; have := q.1; omega⟩
    next => exact ⟨by show sk t n s.2.2 ≤ 300; omega, Nat.zero_le _⟩
theorem cS_bd (hn : n ≤ 200) (hp : p0 < n) : bd (cS t n π p0) := by
  have b1 : bd (q1 p0) := ⟨Nat.zero_le _, by show p0 + 1 ≤ 300; omega⟩
  have bx : ∀ c, bd (c, p0, 0) := fun c => ⟨by show p0 ≤ 300; omega, Nat.zero_le _⟩
  unfold cS
  split
  · split
    · exact bx 3
    · exact en_bd hn (nm_bd hn b1)
  · split
    · split
      · exact bx 3
      · have b5 : bd (q5 t n (π 0 0) p0) := nm_bd hn (nm_bd hn (nm_bd hn (nm_bd hn b1)))
        have b7 : bd (q7 t n (π 0 0) p0) := by
          unfold q7
          split
          · have a := sk_le (t := t) (n := n) (p := (q5 t n (π 0 0) p0).2.2)
            have := b5.2
            exact ⟨by show sk t n (q5 t n (π 0 0) p0).2.2 ≤ 300; omega, Nat.zero_le _⟩
          · exact nm_bd hn b5
        exact en_bd hn (nm_bd hn b7)
    · exact bx 1
theorem ps_bd (hn : n ≤ 200) : ∀ (r : Nat) (π : Pt) (lv : Nat → Nat) (p0 : Nat), p0 ≤ 300 → bd (ps t n r π lv p0).1
  | 0, π, lv, p0, h => ⟨Nat.zero_le _, h⟩
  | r + 1, π, lv, p0, h => by
    by_cases hlt : p0 < n
    · have b := cS_bd (t := t) (π := π) hn hlt
      by_cases hz : (cS t n π p0).1 = 0
      · have e : ps t n (r + 1) π lv p0 = ps t n r (cP t n π p0) (cL t n π lv p0) (sk t n (cS t n π p0).2.2) := by
          show (if p0 < n then (if (cS t n π p0).1 = 0 then _ else _) else _) = _
          rw [if_pos hlt, if_pos hz]
        rw [e]
        have a := sk_le (t := t) (n := n) (p := (cS t n π p0).2.2)
        have := b.2
        exact ps_bd hn r _ _ (sk t n (cS t n π p0).2.2) (by omega)
      · have e : ps t n (r + 1) π lv p0 = (cS t n π p0, π, lv) := by
          show (if p0 < n then (if (cS t n π p0).1 = 0 then _ else _) else _) = _
          rw [if_pos hlt, if_neg hz]
        rw [e]; exact b
    · have e : ps t n (r + 1) π lv p0 = ((0, 0, p0), π, lv) := if_neg hlt
      rw [e]; exact ⟨Nat.zero_le _, h⟩
theorem prs_bd (hn : n ≤ 200) : bd (prs t n).1 := by
  have a := sk_le (t := t) (n := n) (p := 0)
  exact ps_bd hn 200 π0 lv0 (sk t n 0) (by omega)
end V1
section V2
variable {mc ms : Nat} {z : Zt} {I : It} {Q : Option Value → Zt → It → Prop} {pa pb : Nat} {π : Pt} {κ : Kt} {ρ : Nat → Kt} {c : Nat} {α β : Kt} {μ : Mt} {T : Nat}
theorem W_wires (h : WG T (π, κ, ρ, c, α, β, μ)) : WG T (oWires (π, κ, ρ, c, α, β, μ)).2 := by
  obtain ⟨a1, a2, a3, a4, a5, a6, a7, a8⟩ := id h
  have hb := prs_bd (t := μ 8) a8.1
  have hw := prs_W (t := μ 8) (n := μ 7 0)
  show WG T (ite _ _ _ : Int32 × Gt).2
  generalize prs (μ 8) (μ 7 0) = P at *
  obtain ⟨⟨f, fp, p⟩, π', lv'⟩ := P
  by_cases hz : f = 0
  · rw [if_pos hz]
    refine ⟨hw.1, ⟨bgn_WK hw.1 hw.2, by rw [bgn_0]; exact Nat.zero_le _⟩, ⟨Nat.zero_le _, fun k hk => absurd hk (Nat.not_lt_zero _)⟩, ⟨Nat.zero_le _, fun q => absurd q (by show ¬ (0 : Nat) = 1; omega)⟩, ⟨Nat.zero_le _, fun q => absurd q (by show ¬ (0 : Nat) = 1; omega)⟩, a6, ⟨Nat.zero_le _, fun k hk => absurd hk (Nat.not_lt_zero _)⟩, ⟨Nat.zero_le _, fun k hk => absurd hk (Nat.not_lt_zero _), Nat.zero_le _⟩⟩
  · rw [if_neg hz]
    refine ⟨a1, a2, a3, a4, a5, a6, a7, ⟨Nat.zero_le _, fun k hk => absurd hk (Nat.not_lt_zero _), ?_⟩⟩
    have h1 : fp ≤ 300 := hb.1
    show fp + 1 ≤ 1000
    omega
theorem D_wires (hz : isZ z pa pb) (hab : (pa = 4 ∧ pb = 12) ∨ (pa = 12 ∧ pb = 4)) (hX : hC I pa (π, κ, ρ, c, α, β, μ)) (hG : WG T (π, κ, ρ, c, α, β, μ)) (k : ∀ I' z' pa' pb', isZ z' pa' pb' → ((pa' = 4 ∧ pb' = 12) ∨ (pa' = 12 ∧ pb' = 4)) → (isO z → isO z') → z'.1 = z.1 → z'.2.1 = z.2.1 → FrX I I' → hC I' pa' (oWires (π, κ, ρ, c, α, β, μ)).2 → Q (some (.int (oWires (π, κ, ρ, c, α, β, μ)).1)) z' I') : E mX8_wires mc ms 0 [some (.ref 1), none, none] [] z I Q := by
  obtain ⟨y1, y2, y3, y4, y5, y6, y7, y8⟩ := id hX
  obtain ⟨hW, ⟨hK, hKT⟩, hc, hi1, hi2, hs, hB, hTz⟩ := id hG
  have hT : hT3 I (μ 8) (μ 7 0) := ⟨y8.1, hTz.1, fun q hq => ⟨y8.2.1 q hq, hTz.2.1 q hq⟩⟩
  have hw := prs_W (t := μ 8) (n := μ 7 0)
  have k : ∀ I' z' pa' pb', isZ z' pa' pb' → ((pa' = 4 ∧ pb' = 12) ∨ (pa' = 12 ∧ pb' = 4)) → (isO z → isO z') → z'.1 = z.1 → z'.2.1 = z.2.1 → FrX I I' → hC I' pa' (ite ((prs (μ 8) (μ 7 0)).1.1 = 0) (nI ((prs (μ 8) (μ 7 0)).2.1 0 0), ((prs (μ 8) (μ 7 0)).2.1, bgn (prs (μ 8) (μ 7 0)).2.1 (prs (μ 8) (μ 7 0)).2.2, ρ, 0, α, β, um (um (um (um (um μ 1 0 0) 1 1 0) 4 0 0) 7 0 0) 9 0 0)) (-10 - nI (prs (μ 8) (μ 7 0)).1.1, (π, κ, ρ, c, α, β, um (um μ 7 0 0) 9 0 ((prs (μ 8) (μ 7 0)).1.2.1 + 1)))).2 → Q (some (.int (ite ((prs (μ 8) (μ 7 0)).1.1 = 0) (nI ((prs (μ 8) (μ 7 0)).2.1 0 0), ((prs (μ 8) (μ 7 0)).2.1, bgn (prs (μ 8) (μ 7 0)).2.1 (prs (μ 8) (μ 7 0)).2.2, ρ, 0, α, β, um (um (um (um (um μ 1 0 0) 1 1 0) 4 0 0) 7 0 0) 9 0 0)) (-10 - nI (prs (μ 8) (μ 7 0)).1.1, (π, κ, ρ, c, α, β, um (um μ 7 0 0) 9 0 ((prs (μ 8) (μ 7 0)).1.2.1 + 1)))).1)) z' I' := k
  refine B_X8_wires_0 hz (C_readInto hz.rd hz.pb (by omega) hT (fun I1 y hf1 hT1 hF1 hB1 hy => ?_))
  clear hT
  generalize prs (μ 8) (μ 7 0) = P at *
  obtain ⟨⟨f, fp, p⟩, π', lv'⟩ := P
  have hy' : y = nI f := hy
  subst hy'
  have hf4 : f ≤ 4 := hF1.2.1
  have r1 : ∀ a, a ≠ 2 → (a < pb ∨ pb + 7 < a) → I1 a = I a := hf1
  refine B_X8_wires_11 hz (fun I2 e2 => pk_eq f 0 (fun hz0 z1 ez1 => ?_) (fun hnz => ?_))
  · have hz0' : ((f, fp, p) : St).1 = 0 := hz0
    rw [if_pos hz0'] at k
    obtain ⟨b1, b2⟩ := hB1 hz0
    have hz1 : isZ z1 pb pa := by rw [ez1]; exact hz.swap
    have r2 : ∀ a, a ≠ 2 → I2 a = I1 a := fun a ha => by rw [e2, e_st_a ha]
    have b1' : hP I2 pb π' := b1.fr (fun a _ _ => r2 a (by omega))
    refine C_begin (lv := lv') hz1.now hz1.pa (by omega) b1' hw.1 (fun w hw' => by rw [r2 _ (by omega)]; exact b2 w hw') hw.2 (fun I3 hf3 h3 => B_X8_wires_57 hz1 (fun I4 e4 I5 e5 I6 e6 I7 e7 => ?_))
    have ro : ∀ a, a ≠ 48 → a ≠ 274 → a ≠ 289 → a ≠ 304 → I7 a = I3 a := fun a c1 c2 c3 c4 => by rw [e7, e_st_a c4, e6, e_st_a c3, e5, e_st_a c2, e4, e_st_a c1]
    have rx : ∀ a, a ≠ 2 → (a < pb ∨ pb + 7 < a) → (a < 20 ∨ 20 + 13 < a) → I3 a = I a := fun a c1 c2 c3 => by rw [hf3 a c3, r2 a c1, r1 a c1 c2]
    have h7p : I7 pb 0 = nI (π' 0 0) := by rw [ro pb (by omega) (by omega) (by omega) (by omega), hf3 pb (by omega)]; exact b1'.1
    rw [h7p]
    have hQ3 := y3.2.2
    obtain ⟨e, he1, he2, -⟩ := hQ3
    refine k I7 z1 pb pa hz1 (by omega) ?_ (by rw [ez1]; rfl) (by rw [ez1]; rfl) (fun a ha => by rw [ro a (by omega) (by omega) (by omega) (by omega), rx a (by omega) (by omega) (by omega)]) ⟨b1'.fr (fun a _ _ => by rw [ro a (by omega) (by omega) (by omega) (by omega), hf3 a (by omega)]), h3.fr (fun a _ _ => ro a (by omega) (by omega) (by omega) (by omega)), ⟨Nat.zero_le _, ?_, e, he1, ?_, fun j hj => absurd hj (Nat.not_lt_zero _)⟩, ⟨Nat.zero_le _, ?_, fun q => absurd q (by show ¬ (0 : Nat) = 1; omega)⟩, ⟨Nat.zero_le _, ?_, fun q => absurd q (by show ¬ (0 : Nat) = 1; omega)⟩, ?_, ⟨?_, fun j hj => absurd hj (Nat.not_lt_zero _)⟩, ⟨?_, fun j hj => absurd hj (Nat.not_lt_zero _), ?_⟩⟩
    · intro ho
      rw [ez1]
      exact (ho.rf).rf
    · rw [e7, e_st_a (by decide), e6, e_st_a (by decide), e5, e_st_a (by decide), e4, e_st_same]; rfl
    · rw [e7, e_st_a (by decide), e6, e_st_a (by decide), e5, e_st_a (by decide), e4, e_st_k (by decide), rx 48 (by omega) (by omega) (by omega)]; exact he2
    · rw [e7, e_st_a (by decide), e6, e_st_a (by decide), e5, e_st_same]; rfl
    · rw [e7, e_st_a (by decide), e6, e_st_same]; rfl
    · rw [ro 307 (by omega) (by omega) (by omega) (by omega), rx 307 (by omega) (by omega) (by omega)]; exact y6
    · rw [e7, e_st_same]; rfl
    · rw [ro 2 (by omega) (by omega) (by omega) (by omega), hf3 2 (by omega), e2, e_st_same]; rfl
    · rw [ro 2 (by omega) (by omega) (by omega) (by omega), hf3 2 (by omega), e2, e_st_k (by decide)]
      exact hF1.2.2.1 hz0
  · have hnz' : ¬ ((f, fp, p) : St).1 = 0 := hnz
    rw [if_neg hnz'] at k
    have ro : ∀ a, a ≠ 2 → (a < pb ∨ pb + 7 < a) → I2 a = I a := fun a c1 c2 => by rw [e2, e_st_a c1, r1 a c1 c2]
    refine k I2 z pa pb hz hab id rfl rfl (fun a ha => ro a (by omega) (by omega)) ⟨y1.fr (fun a _ _ => ro a (by omega) (by omega)), y2.fr (fun a _ _ => ro a (by omega) (by omega)), y3.fr (fun a _ _ => ro a (by omega) (by omega)), hI.fr (I' := I2) y4 (fun a _ _ => ro a (by omega) (by omega)), hI.fr (I' := I2) y5 (fun a _ _ => ro a (by omega) (by omega)), by rw [ro 307 (by omega) (by omega)]; exact y6, hBk.fr (I' := I2) y7 (fun a _ _ => ro a (by omega) (by omega)), ⟨?_, fun j hj => absurd hj (Nat.not_lt_zero _), ?_⟩⟩
    · rw [e2, e_st_same]; rfl
    · rw [e2, e_st_k (by decide), um_same, nI_dec (by omega)]
      exact hF1.2.2.2 hnz
end V2
