/-! ===== the deeds ===== -/
def oFeed : Gt → Int32 → Int32 × Gt
  | (π, κ, ρ, c, α, β, μ), x => if x < 0 ∨ 255 < x then (-1000000002, (π, κ, ρ, c, α, β, μ)) else if μ 7 0 < 200 then (nI (μ 7 0 + 1), (π, κ, ρ, c, α, β, um (um μ 8 (μ 7 0) (un x)) 7 0 (μ 7 0 + 1))) else (-1000000004, (π, κ, ρ, c, α, β, μ))
def oStep : Gt → Int32 × Gt
  | (π, κ, ρ, c, α, β, μ) => if κ 2 0 0 = 0 ∧ er κ 8 ≠ 2147483647 then (nI (er κ 8), (π, sp π κ, psh κ ρ, min (c + 1) 16, α, β, μ)) else (-1000000003, (π, κ, ρ, c, α, β, μ))
def oRun : Gt → Int32 → Int32 × Gt
  | (π, κ, ρ, c, α, β, μ), x => if x < 1 ∨ 200 < x then (-1000000002, (π, κ, ρ, c, α, β, μ)) else if κ 2 0 0 = 0 then (nI (rc π (κ 0 0 0 + un x) 201 κ), (π, re π (κ 0 0 0 + un x) κ, psh κ ρ, min (c + 1) 16, α, β, μ)) else (-1000000003, (π, κ, ρ, c, α, β, μ))
def oSet : Gt → Int32 → Int32 → Int32 → Int32 × Gt
  | (π, κ, ρ, c, α, β, μ), x, y, d => if x < 0 ∨ nI (π 0 0) ≤ x ∨ y < 0 ∨ 3 < y then (-1000000001, (π, κ, ρ, c, α, β, μ)) else if d < 0 ∨ 20 < d then (-1000000002, (π, κ, ρ, c, α, β, μ)) else if κ 2 0 0 = 0 ∧ dc π (un x) (π 1 0) = 0 then (if κ 3 0 0 < 8 then (nI (κ 3 0 0 + 1), (π, ah κ (un x) (un y) (κ 0 0 0 + un d), psh κ ρ, min (c + 1) 16, α, β, μ)) else (-1000000004, (π, κ, ρ, c, α, β, μ))) else (-1000000003, (π, κ, ρ, c, α, β, μ))
def oCalm : Gt → Int32 × Gt
  | (π, κ, ρ, c, α, β, μ) => if κ 2 0 0 = 0 then (-1000000003, (π, κ, ρ, c, α, β, μ)) else (nI (κ 0 0 0), (π, tlA π (fun _ => true) (ku κ 2 0) (π 1 0), psh κ ρ, min (c + 1) 16, α, β, μ))
def d1k (π : Pt) (κ : Kt) (w l d : Nat) : Kt := if κ 2 0 0 = 0 ∧ dc π w (π 1 0) = 0 ∧ κ 3 0 0 < 8 then ah κ w l (κ 0 0 0 + d) else κ
def d1s (π : Pt) (κ : Kt) : Kt := if κ 2 0 0 = 0 ∧ er κ 8 ≠ 2147483647 then sp π κ else κ
def d1 : Gt → Gt
  | (π, κ, ρ, c, α, β, μ) => (π, d1s π (d1k π κ (dS (μ 3 0) / 65536 % π 0 0) (dS (dS (μ 3 0)) / 65536 % 4) (dS (dS (dS (μ 3 0))) / 65536 % 21)), psh κ ρ, min (c + 1) 16, α, β, um μ 3 0 (dS (dS (dS (μ 3 0)))))
def dN : Nat → Gt → Gt
  | 0, G => G
  | n + 1, G => dN n (d1 G)
def oDrift : Gt → Int32 → Int32 × Gt
  | (π, κ, ρ, c, α, β, μ), x => if x < 1 ∨ 16 < x then (-1000000002, (π, κ, ρ, c, α, β, μ)) else if π 0 0 = 0 then (nI (κ 0 0 0), (π, κ, ρ, c, α, β, μ)) else (nI ((dN (un x) (π, κ, ρ, c, α, β, μ)).2.1 0 0 0), dN (un x) (π, κ, ρ, c, α, β, μ))
def oUndo : Gt → Int32 → Int32 × Gt
  | (π, κ, ρ, c, α, β, μ), x => if x < 1 ∨ 16 < x then (-1000000002, (π, κ, ρ, c, α, β, μ)) else if un x ≤ c then (nI (ρ (un x - 1) 0 0 0), (π, ρ (un x - 1), (fun k => ρ (k + un x)), c - un x, α, β, μ)) else (-1000000003, (π, κ, ρ, c, α, β, μ))
def oWrite : Gt → Int32 → Int32 → Int32 × Gt
  | (π, κ, ρ, c, α, β, μ), x, y => if x < 0 ∨ nI (π 0 0) ≤ x ∨ y < 0 ∨ 3 < y then (-1000000001, (π, κ, ρ, c, α, β, μ)) else if μ 4 0 < 20 then (nI (μ 4 0 + 1), (π, κ, ρ, c, α, β, um (um (um μ 5 (μ 4 0) (un x)) 6 (μ 4 0) (un y)) 4 0 (μ 4 0 + 1))) else (-1000000004, (π, κ, ρ, c, α, β, μ))
def oTear : Gt → Int32 × Gt
  | (π, κ, ρ, c, α, β, μ) => (nI (μ 4 0), (π, κ, ρ, c, α, β, um μ 4 0 0))
def oSeed : Gt → Int32 → Int32 × Gt
  | (π, κ, ρ, c, α, β, μ), x => if x < 0 then (-1000000002, (π, κ, ρ, c, α, β, μ)) else (nI (μ 3 0), (π, κ, ρ, c, α, β, um μ 3 0 (un x)))
def oKeep : Gt → Int32 → Int32 × Gt
  | (π, κ, ρ, c, α, β, μ), x => if x = 0 then (1, (π, κ, ρ, 0, κ, β, um (um μ 1 0 1) 2 0 (μ 3 0))) else if x = 1 then (1, (π, κ, ρ, 0, α, κ, um (um μ 1 1 1) 2 1 (μ 3 0))) else (-1000000001, (π, κ, ρ, c, α, β, μ))
def oBack : Gt → Int32 → Int32 × Gt
  | (π, κ, ρ, c, α, β, μ), x => if x = 0 then (if μ 1 0 = 1 then (1, (π, α, ρ, 0, α, β, um μ 3 0 (μ 2 0))) else (-1000000003, (π, κ, ρ, c, α, β, μ))) else if x = 1 then (if μ 1 1 = 1 then (1, (π, β, ρ, 0, α, β, um μ 3 0 (μ 2 1))) else (-1000000003, (π, κ, ρ, c, α, β, μ))) else (-1000000001, (π, κ, ρ, c, α, β, μ))
section W1
variable {π : Pt} {κ κ' : Kt} {ρ : Nat → Kt} {c : Nat} {α β : Kt} {μ : Mt} {T T' : Nat} {x x1 x2 x3 : Int32}
theorem WG.le {G : Gt} (h : WG T G) (hT : T ≤ T') : WG T' G := by
  obtain ⟨π, κ, ρ, c, α, β, μ⟩ := G
  obtain ⟨a1, a2, a3, a4, a5, a6, a7, a8⟩ := h
  exact ⟨a1, a2.le hT, ⟨a3.1, fun k hk => (a3.2 k hk).le hT⟩, ⟨a4.1, fun q => ⟨(a4.2 q).1.le hT, (a4.2 q).2⟩⟩, ⟨a5.1, fun q => ⟨(a5.2 q).1.le hT, (a5.2 q).2⟩⟩, a6, a7, a8⟩
/-- a deed is remembered, and the moment becomes another -/
theorem WG.deed (h : WG T (π, κ, ρ, c, α, β, μ)) (hT : T ≤ T') (h' : WT T' π κ') : WG T' (π, κ', psh κ ρ, min (c + 1) 16, α, β, μ) := by
  obtain ⟨a1, a2, a3, a4, a5, a6, a7, a8⟩ := WG.le h hT
  refine ⟨a1, h', ⟨Nat.min_le_right _ _, fun k hk => ?_⟩, a4, a5, a6, a7, a8⟩
  unfold psh
  split
  · exact a2
  · exact a3.2 (k - 1) (by omega)
theorem x1_n {b : Nat} (hb : b < 2 ^ 31) (h : ¬ (x < 1 ∨ nI b < x)) : ∃ j, 1 ≤ j ∧ j ≤ b ∧ x = nI j := by
  have h0 : ¬ x < 0 := fun q => h (Or.inl (by
    rw [Int32.lt_iff_toInt_lt] at q ⊢
    have e0 : (0 : Int32).toInt = 0 := rfl
    have e1 : (1 : Int32).toInt = 1 := rfl
    omega))
  obtain ⟨j, hj, rfl⟩ := xc h0
  refine ⟨j, ?_, ?_, rfl⟩
  · rcases Nat.lt_or_ge j 1 with q | q
    · exact absurd (Or.inl (nI_lt q (by omega))) h
    · exact q
  · rcases Nat.lt_or_ge b j with q | q
    · exact absurd (Or.inr (nI_lt q hj)) h
    · exact q
theorem x0_n {b : Nat} (hb : b < 2 ^ 31) (h : ¬ (x < 0 ∨ nI b < x)) : ∃ j, j ≤ b ∧ x = nI j := by
  obtain ⟨j, hj, rfl⟩ := xc (fun q => h (Or.inl q))
  refine ⟨j, ?_, rfl⟩
  rcases Nat.lt_or_ge b j with q | q
  · exact absurd (Or.inr (nI_lt q hj)) h
  · exact q
theorem W_feed (h : WG T (π, κ, ρ, c, α, β, μ)) : WG T (oFeed (π, κ, ρ, c, α, β, μ) x).2 := by
  show WG T (ite _ _ _ : Int32 × Gt).2
  by_cases h1 : x < 0 ∨ 255 < x
  · rw [if_pos h1]; exact h
  · rw [if_neg h1]
    by_cases h2 : μ 7 0 < 200
    · rw [if_pos h2]
      obtain ⟨a1, a2, a3, a4, a5, a6, a7, a8⟩ := h
      obtain ⟨j, hj, rfl⟩ := x0_n (b := 255) (by omega) h1
      refine ⟨a1, a2, a3, a4, a5, a6, a7, ?_⟩
      unfold WTx
      rw [um_same, um_a (a' := 8) (by decide), um_a (a' := 9) (by decide), um_a (a' := 9) (by decide), un_nI (by omega)]
      refine ⟨by omega, fun k hk => ?_, a8.2.2⟩
      by_cases e : k = μ 7 0
      · subst e; rw [um_same]; omega
      · rw [um_b e]; exact a8.2.1 k (by omega)
    · rw [if_neg h2]; exact h
theorem W_step (h : WG T (π, κ, ρ, c, α, β, μ)) (hT : T + 3000 < 2147483647) : WG (T + 400) (oStep (π, κ, ρ, c, α, β, μ)).2 := by
  show WG _ (ite _ _ _ : Int32 × Gt).2
  by_cases h1 : κ 2 0 0 = 0 ∧ er κ 8 ≠ 2147483647
  · rw [if_pos h1]
    obtain ⟨a1, ⟨a2, a2'⟩, a3⟩ := id h
    have := a2.er_le
    exact h.deed (by omega) ⟨sp_WK a1 a2 h1.1 (by omega), by rw [sp_time]; omega⟩
  · rw [if_neg h1]; exact h.le (by omega)
theorem W_run (h : WG T (π, κ, ρ, c, α, β, μ)) (hT : T + 3000 < 2147483647) : WG (T + 400) (oRun (π, κ, ρ, c, α, β, μ) x).2 := by
  show WG _ (ite _ _ _ : Int32 × Gt).2
  by_cases h1 : x < 1 ∨ 200 < x
  · rw [if_pos h1]; exact h.le (by omega)
  · rw [if_neg h1]
    by_cases h2 : κ 2 0 0 = 0
    · rw [if_pos h2]
      obtain ⟨a1, ⟨a2, a2'⟩, a3⟩ := id h
      obtain ⟨j, hj, hj2, rfl⟩ := x1_n (b := 200) (by omega) h1
      rw [un_nI (by omega)]
      obtain ⟨b1, b2⟩ := re_WK a1 (e := κ 0 0 0 + j) (by omega) a2 (by omega) (by omega)
      exact h.deed (by omega) ⟨b1, by omega⟩
    · rw [if_neg h2]; exact h.le (by omega)
theorem W_set (h : WG T (π, κ, ρ, c, α, β, μ)) (hT : T + 3000 < 2147483647) : WG (T + 400) (oSet (π, κ, ρ, c, α, β, μ) x1 x2 x3).2 := by
  show WG _ (ite _ _ _ : Int32 × Gt).2
  by_cases h1 : x1 < 0 ∨ nI (π 0 0) ≤ x1 ∨ x2 < 0 ∨ 3 < x2
  · rw [if_pos h1]; exact h.le (by omega)
  · rw [if_neg h1]
    by_cases h2 : x3 < 0 ∨ 20 < x3
    · rw [if_pos h2]; exact h.le (by omega)
    · rw [if_neg h2]
      by_cases h3 : κ 2 0 0 = 0 ∧ dc π (un x1) (π 1 0) = 0
      · rw [if_pos h3]
        by_cases h4 : κ 3 0 0 < 8
        · rw [if_pos h4]
          obtain ⟨a1, ⟨a2, a2'⟩, a3⟩ := id h
          have hw0 := a1.1
          obtain ⟨w, hw, rfl⟩ := lt_n (n := π 0 0) (by omega) (fun q => h1 (Or.inl q)) (fun q => h1 (Or.inr (Or.inl q)))
          obtain ⟨l, hl, rfl⟩ := le3 (fun q => h1 (Or.inr (Or.inr (Or.inl q)))) (fun q => h1 (Or.inr (Or.inr (Or.inr q))))
          obtain ⟨d, hd, rfl⟩ := x0_n (b := 20) (by omega) h2
          rw [un_nI (by omega)] at h3
          rw [un_nI (by omega), un_nI (by omega), un_nI (by omega)]
          refine h.deed (by omega) ⟨ah_WK a2 h3.1 h4 hw h3.2 hl (by omega) (by omega), ?_⟩
          rw [ah_f (by omega)]; omega
        · rw [if_neg h4]; exact h.le (by omega)
      · rw [if_neg h3]; exact h.le (by omega)
theorem calm_WK (hW : WP π) (h : WK π κ) (h2 : κ 2 0 0 ≠ 0) : WK π (tlA π (fun _ => true) (ku κ 2 0) (π 1 0)) := by
  refine tlA_WK hW ?_ ku_same
  obtain ⟨hL, hQ, hB, hH, hD, hN, hC, hE, hZ⟩ := h
  have e : ∀ f, f ≠ 2 → ku κ 2 0 f = κ f := fun f hf => ku_f hf
  refine ⟨?_, ?_, ?_, ?_, fun w hw hd => ?_, fun g hg => ?_, ?_, ?_, fun q => ?_⟩
  · unfold LB at *; rw [e 4 (by decide), e 11 (by decide)]; exact hL
  · unfold WQ at *; rw [e 12 (by decide), e 13 (by decide), e 14 (by decide), e 0 (by decide)]; exact hQ
  · unfold WB at *; rw [e 4 (by decide), e 5 (by decide), e 6 (by decide), e 7 (by decide), e 0 (by decide)]; exact hB
  · unfold WH at *; rw [e 3 (by decide), e 15 (by decide), e 16 (by decide), e 17 (by decide), e 0 (by decide)]; exact hH
  · rw [e 4 (by decide), hD w hw hd]
    exact (dl_congr (fun i _ => by rw [e 11 (by decide)]) _).symm
  · rw [e 12 (by decide)]; exact hN g hg
  · rw [e 1 (by decide)]; exact hC
  · rw [ku_same]; omega
  · rw [ku_same] at q; omega
theorem W_calm (h : WG T (π, κ, ρ, c, α, β, μ)) : WG (T + 400) (oCalm (π, κ, ρ, c, α, β, μ)).2 := by
  show WG _ (ite _ _ _ : Int32 × Gt).2
  by_cases h1 : κ 2 0 0 = 0
  · rw [if_pos h1]; exact h.le (by omega)
  · rw [if_neg h1]
    obtain ⟨a1, ⟨a2, a2'⟩, a3⟩ := id h
    refine h.deed (by omega) ⟨calm_WK a1 a2 h1, ?_⟩
    rw [tlA_f (by omega), ku_f (by decide)]; omega
theorem d1k_WK (hW : WP π) (h : WK π κ) {w l d : Nat} (hw : w < π 0 0) (hl : l < 4) (hd : d ≤ 20) : WK π (d1k π κ w l d) ∧ d1k π κ w l d 0 0 0 = κ 0 0 0 := by
  unfold d1k
  split
  next hc => exact ⟨ah_WK h hc.1 hc.2.2 hw hc.2.1 hl (by omega) (by omega), by rw [ah_f (by omega)]⟩
  next => exact ⟨h, rfl⟩
theorem d1s_WK (hW : WP π) (h : WK π κ) (hT : κ 0 0 0 ≤ 2147483647) : WK π (d1s π κ) ∧ d1s π κ 0 0 0 ≤ κ 0 0 0 + 20 := by
  unfold d1s
  split
  next hc =>
    have := h.er_le
    exact ⟨sp_WK hW h hc.1 hT, by rw [sp_time]; omega⟩
  next => exact ⟨h, by omega⟩
theorem W_d1' (h : WG T (π, κ, ρ, c, α, β, μ)) (hT : T + 3000 < 2147483647) {w l d s : Nat} (hw : w < π 0 0) (hl : l < 4) (hd : d ≤ 20) (hs : s < 2147483648) : WG (T + 20) (π, d1s π (d1k π κ w l d), psh κ ρ, min (c + 1) 16, α, β, um μ 3 0 s) := by
  obtain ⟨a1, ⟨a2, a2'⟩, a3, a4, a5, a6, a7, a8⟩ := id h
  have b := d1k_WK a1 a2 hw hl hd
  have b' := d1s_WK a1 b.1 (by rw [b.2]; omega)
  rw [b.2] at b'
  obtain ⟨g1, g2, g3, g4, g5, g6, g7, g8⟩ := h.deed (T' := T + 20) (by omega) ⟨b'.1, by omega⟩
  exact ⟨g1, g2, g3, g4, g5, hs, g7, g8⟩
theorem d1_e : d1 (π, κ, ρ, c, α, β, μ) = (π, d1s π (d1k π κ (dS (μ 3 0) / 65536 % π 0 0) (dS (dS (μ 3 0)) / 65536 % 4) (dS (dS (dS (μ 3 0))) / 65536 % 21)), psh κ ρ, min (c + 1) 16, α, β, um μ 3 0 (dS (dS (dS (μ 3 0))))) := rfl
theorem W_d1 (h : WG T (π, κ, ρ, c, α, β, μ)) (hT : T + 3000 < 2147483647) (h0 : 0 < π 0 0) : WG (T + 20) (d1 (π, κ, ρ, c, α, β, μ)) := by
  rw [d1_e]
  have h21 : dS (dS (dS (μ 3 0))) / 65536 % 21 ≤ 20 := Nat.le_of_lt_succ (Nat.mod_lt _ (by omega))
  have h4 : dS (dS (μ 3 0)) / 65536 % 4 < 4 := Nat.mod_lt _ (by omega)
  have hn : dS (μ 3 0) / 65536 % π 0 0 < π 0 0 := Nat.mod_lt _ h0
  have hs := dS_lt (dS (dS (μ 3 0)))
  generalize dS (dS (dS (μ 3 0))) = s3 at *
  generalize dS (dS (μ 3 0)) / 65536 % 4 = l at *
  generalize dS (μ 3 0) / 65536 % π 0 0 = w at *
  generalize s3 / 65536 % 21 = d at *
  exact W_d1' h hT hn h4 h21 hs
theorem d1_1 {G : Gt} : (d1 G).1 = G.1 := by obtain ⟨π, κ, ρ, c, α, β, μ⟩ := G; rfl
theorem W_dN : ∀ (n : Nat) (T : Nat) (G : Gt), WG T G → T + 20 * n + 3000 < 2147483647 → 0 < G.1 0 0 → WG (T + 20 * n) (dN n G)
  | 0, T, G, h, _, _ => h
  | n + 1, T, G, h, hT, h0 => by
    obtain ⟨π, κ, ρ, c, α, β, μ⟩ := G
    have := W_dN n (T + 20) _ (W_d1 h (by omega) h0) (by omega) (by rw [d1_1]; exact h0)
    rw [show T + 20 * (n + 1) = T + 20 + 20 * n by omega]
    exact this
theorem W_drift (h : WG T (π, κ, ρ, c, α, β, μ)) (hT : T + 4000 < 2147483647) : WG (T + 400) (oDrift (π, κ, ρ, c, α, β, μ) x).2 := by
  show WG _ (ite _ _ _ : Int32 × Gt).2
  by_cases h1 : x < 1 ∨ 16 < x
  · rw [if_pos h1]; exact h.le (by omega)
  · rw [if_neg h1]
    by_cases h2 : π 0 0 = 0
    · rw [if_pos h2]; exact h.le (by omega)
    · rw [if_neg h2]
      obtain ⟨j, hj, hj2, rfl⟩ := x1_n (b := 16) (by omega) h1
      rw [un_nI (by omega)]
      exact (W_dN j T _ h (by omega) (by show 0 < π 0 0; omega)).le (by omega)
theorem W_undo (h : WG T (π, κ, ρ, c, α, β, μ)) : WG T (oUndo (π, κ, ρ, c, α, β, μ) x).2 := by
  show WG _ (ite _ _ _ : Int32 × Gt).2
  by_cases h1 : x < 1 ∨ 16 < x
  · rw [if_pos h1]; exact h
  · rw [if_neg h1]
    obtain ⟨j, hj, hj2, rfl⟩ := x1_n (b := 16) (by omega) h1
    rw [un_nI (by omega)]
    by_cases h2 : j ≤ c
    · rw [if_pos h2]
      obtain ⟨a1, a2, a3, a4, a5, a6, a7, a8⟩ := h
      exact ⟨a1, a3.2 _ (by omega), ⟨by omega, fun k hk => a3.2 _ (by omega)⟩, a4, a5, a6, a7, a8⟩
    · rw [if_neg h2]; exact h
theorem W_write (h : WG T (π, κ, ρ, c, α, β, μ)) : WG T (oWrite (π, κ, ρ, c, α, β, μ) x1 x2).2 := by
  show WG _ (ite _ _ _ : Int32 × Gt).2
  by_cases h1 : x1 < 0 ∨ nI (π 0 0) ≤ x1 ∨ x2 < 0 ∨ 3 < x2
  · rw [if_pos h1]; exact h
  · rw [if_neg h1]
    by_cases h2 : μ 4 0 < 20
    · rw [if_pos h2]
      obtain ⟨a1, a2, a3, a4, a5, a6, a7, a8⟩ := h
      have hw0 := a1.1
      obtain ⟨w, hw, rfl⟩ := lt_n (n := π 0 0) (by omega) (fun q => h1 (Or.inl q)) (fun q => h1 (Or.inr (Or.inl q)))
      obtain ⟨l, hl, rfl⟩ := le3 (fun q => h1 (Or.inr (Or.inr (Or.inl q)))) (fun q => h1 (Or.inr (Or.inr (Or.inr q))))
      rw [un_nI (by omega), un_nI (by omega)]
      refine ⟨a1, a2, a3, a4, a5, a6, ?_, a8⟩
      unfold WBk
      rw [um_same, um_a (a' := 5) (by decide), um_a (a' := 5) (by decide), um_a (a' := 6) (by decide)]
      refine ⟨by omega, fun k hk => ?_⟩
      by_cases e : k = μ 4 0
      · subst e; rw [um_same, um_same]; exact ⟨hw, hl⟩
      · rw [um_b e, um_b e, um_a (by decide)]; exact a7.2 k (by omega)
    · rw [if_neg h2]; exact h
theorem W_tear (h : WG T (π, κ, ρ, c, α, β, μ)) : WG T (oTear (π, κ, ρ, c, α, β, μ)).2 := by
  obtain ⟨a1, a2, a3, a4, a5, a6, a7, a8⟩ := h
  exact ⟨a1, a2, a3, a4, a5, a6, ⟨Nat.zero_le _, fun k hk => absurd hk (Nat.not_lt_zero _)⟩, a8⟩
theorem W_seed (h : WG T (π, κ, ρ, c, α, β, μ)) : WG T (oSeed (π, κ, ρ, c, α, β, μ) x).2 := by
  show WG _ (ite _ _ _ : Int32 × Gt).2
  by_cases h1 : x < 0
  · rw [if_pos h1]; exact h
  · rw [if_neg h1]
    obtain ⟨a1, a2, a3, a4, a5, a6, a7, a8⟩ := h
    obtain ⟨j, hj, rfl⟩ := xc h1
    refine ⟨a1, a2, a3, a4, a5, ?_, a7, a8⟩
    rw [um_same, un_nI (by omega)]; omega
theorem W_keep (h : WG T (π, κ, ρ, c, α, β, μ)) : WG T (oKeep (π, κ, ρ, c, α, β, μ) x).2 := by
  show WG _ (ite _ _ _ : Int32 × Gt).2
  by_cases h1 : x = 0
  · rw [if_pos h1]
    obtain ⟨a1, a2, a3, a4, a5, a6, a7, a8⟩ := h
    exact ⟨a1, a2, ⟨by omega, fun k hk => absurd hk (by omega)⟩, ⟨Nat.le_refl 1, fun _ => ⟨a2, a6⟩⟩, a5, a6, a7, a8⟩
  · rw [if_neg h1]
    by_cases h2 : x = 1
    · rw [if_pos h2]
      obtain ⟨a1, a2, a3, a4, a5, a6, a7, a8⟩ := h
      exact ⟨a1, a2, ⟨by omega, fun k hk => absurd hk (by omega)⟩, a4, ⟨Nat.le_refl 1, fun _ => ⟨a2, a6⟩⟩, a6, a7, a8⟩
    · rw [if_neg h2]; exact h
theorem W_back (h : WG T (π, κ, ρ, c, α, β, μ)) : WG T (oBack (π, κ, ρ, c, α, β, μ) x).2 := by
  show WG _ (ite _ _ _ : Int32 × Gt).2
  by_cases h1 : x = 0
  · rw [if_pos h1]
    by_cases h3 : μ 1 0 = 1
    · rw [if_pos h3]
      obtain ⟨a1, a2, a3, a4, a5, a6, a7, a8⟩ := h
      exact ⟨a1, (a4.2 h3).1, ⟨by omega, fun k hk => absurd hk (by omega)⟩, a4, a5, (a4.2 h3).2, a7, a8⟩
    · rw [if_neg h3]; exact h
  · rw [if_neg h1]
    by_cases h2 : x = 1
    · rw [if_pos h2]
      by_cases h3 : μ 1 1 = 1
      · rw [if_pos h3]
        obtain ⟨a1, a2, a3, a4, a5, a6, a7, a8⟩ := h
        exact ⟨a1, (a5.2 h3).1, ⟨by omega, fun k hk => absurd hk (by omega)⟩, a4, a5, (a5.2 h3).2, a7, a8⟩
      · rw [if_neg h3]; exact h
    · rw [if_neg h2]; exact h
end W1
