/-! ===== the reference does its deeds ===== -/
theorem or_k0 : ∀ a, a < 2 → ∀ b, b < 2 → nI (a + 2 * b) ||| (1 <<< ((0 : Int32) &&& 31)) = nI (1 + 2 * b) := by decide +kernel
theorem or_k1 : ∀ a, a < 2 → ∀ b, b < 2 → nI (a + 2 * b) ||| (1 <<< ((1 : Int32) &&& 31)) = nI (a + 2 * 1) := by decide +kernel
theorem bt_k0 : ∀ a, a < 2 → ∀ b, b < 2 → ((nI (a + 2 * b) >>> ((0 : Int32) &&& 31)) &&& 1 = 0 ↔ a = 0) := by decide +kernel
theorem bt_k1 : ∀ a, a < 2 → ∀ b, b < 2 → ((nI (a + 2 * b) >>> ((1 : Int32) &&& 31)) &&& 1 = 0 ↔ b = 0) := by decide +kernel
section Y3
variable {mc ms : Nat} {z : Zt} {I I' J : It} {Q : Option Value → Zt → It → Prop} {π : Pt} {κ κ' : Kt} {ρ ρ' : Nat → Kt} {c c' : Nat} {α β : Kt} {μ : Mt} {T : Nat} {x x1 x2 x3 : Int32}
theorem N_feed (ho : isO z) (hX : hY I (π, κ, ρ, c, α, β, μ)) (hG : WG T (π, κ, ρ, c, α, β, μ)) (k : ∀ I', FrY I I' → hY I' (oFeed (π, κ, ρ, c, α, β, μ) x1).2 → Q (some (.int (oFeed (π, κ, ρ, c, α, β, μ) x1).1)) z I') : E mX9_feed mc ms 0 [some (.ref 308), some (.int x1)] [] z I Q := by
  obtain ⟨y1, y2, y3, y4, y5, y6, y7⟩ := id hX
  obtain ⟨hW, hK, hc, hi1, hi2, hs, hB, hTz⟩ := id hG
  have kI := k I FrY.rf
  refine B_X9_feed_0 ho ⟨fun h => ?_, fun h1 => ⟨fun h => ?_, fun h2 => ?_⟩⟩
  · have e : oFeed (π, κ, ρ, c, α, β, μ) x1 = _ := if_pos (Or.inl h)
    rw [e] at kI; exact kI hX
  · have e : oFeed (π, κ, ρ, c, α, β, μ) x1 = _ := if_pos (Or.inr h)
    rw [e] at kI; exact kI hX
  · have e : oFeed (π, κ, ρ, c, α, β, μ) x1 = _ := if_neg (fun q => by rcases q with q | q <;> contradiction)
    rw [y7.1]
    have h200 := hTz.1
    refine pk_ne (μ 7 0) 200 (fun h3 => ⟨μ 7 0, rfl, by omega, fun I2 e2 I3 e3 => ?_⟩) (fun h3 => ?_)
    · rw [if_pos (by omega)] at e
      rw [e] at k
      obtain ⟨j, hj, rfl⟩ := xc h1
      rw [un_nI hj] at k
      have h21 : I2 308 12 = nI (μ 7 0) := by rw [e2, e_st_a (by decide), y7.1]
      rw [h21, nI_1] at e3
      have h31 : I3 308 12 = nI (μ 7 0 + 1) := by rw [e3, e_st_same]
      rw [h31]
      have ro : ∀ a, a ≠ 308 → a ≠ 314 → I3 a = I a := fun a a2 a3 => by rw [e3, e_st_a a2, e2, e_st_a a3]
      have r8 : ∀ q, q ≠ 12 → I3 308 q = I 308 q := fun q hq => by rw [e3, e_st_k hq, e2, e_st_a (by decide)]
      have r9 : I3 309 = I 309 := ro 309 (by decide) (by decide)
      refine k I3 (fun a ha => ro a (by omega) (by omega)) ⟨?_, y2.fr hW hK.1.z8 (fun q _ _ => by rw [r9]), y3.fr hW hG.z8p (r8 4 (by decide)) (fun q _ _ => by rw [r9]), hYi.fr (I' := I3) y4 hW hG.z8a hG.z8b (r8 5 (by decide)) (ro 311 (by decide) (by decide)) (fun q _ _ => by rw [r9]), by rw [r8 6 (by decide)]; exact y5, ?_, ?_⟩
      · unfold hO at *; rw [r8 1 (by decide), r8 2 (by decide), ro 310 (by decide) (by decide)]; exact y1
      · have : hYb I3 μ := by unfold hYb at *; rw [r8 10 (by decide), ro 312 (by decide) (by decide), ro 313 (by decide) (by decide)]; exact y6
        exact this
      · unfold hYt
        rw [um_same, um_a (a' := 8) (by decide), um_a (a' := 9) (by decide), um_a (a' := 9) (by decide)]
        refine ⟨h31, fun q hq => ?_, by rw [r8 13 (by decide)]; exact y7.2.2⟩
        rw [e3, e_st_a (by decide), e2, e_st_row]
        by_cases eq : q = μ 7 0
        · subst eq; rw [xd_same, um_same]
        · rw [xd_ne eq, um_b eq]; exact y7.2.1 q (by omega)
    · rw [if_neg (by omega)] at e
      rw [e] at kI; exact kI hX
theorem N_step (ho : isO z) (hX : hY I (π, κ, ρ, c, α, β, μ)) (hG : WG T (π, κ, ρ, c, α, β, μ)) (hT : T + 3000 < 2147483647) (k : ∀ I', FrY I I' → hY I' (oStep (π, κ, ρ, c, α, β, μ)).2 → Q (some (.int (oStep (π, κ, ρ, c, α, β, μ)).1)) z I') : E mX9_step mc ms 0 [some (.ref 308)] [] z I Q := by
  obtain ⟨y1, y2, y3, y4, y5, y6, y7⟩ := id hX
  obtain ⟨hW, ⟨hK, hKT⟩, hc, hi1, hi2, hs, hB, hTz⟩ := id hG
  have hb := hK.2.2.2.2.2.2.2.1
  have kI := k I FrY.rf
  have s2 : I 309 2 = nI (κ 2 0 0) := y2.1.2.2.1
  refine B_X9_step_0 ho (M_isStill (x := 0) ho (by omega) y2 y1 hW (hK.tb (by omega)) hK.2.2.2.2.2.1 (B_X9_step_5 ho ?_))
  by_cases hst : er κ 8 = 2147483647
  · have e : oStep (π, κ, ρ, c, α, β, μ) = _ := if_neg (fun q' => q'.2 hst)
    rw [if_pos hst]
    rw [e] at kI
    exact ⟨fun _ => kI hX, fun q => absurd q (by decide)⟩
  · rw [if_neg hst, s2]
    refine ⟨fun q => absurd rfl q, fun _ => pk_ne (κ 2 0 0) 1 (fun q => ?_) (fun q => ?_)⟩
    · have e : oStep (π, κ, ρ, c, α, β, μ) = _ := if_pos ⟨by omega, hst⟩
      rw [e] at k
      refine M_remember ho hX hG (fun I1 hf1 h1 => B_X9_step_25 ho ?_)
      have hX1 := hX.past hG hf1 h1
      have hG1 := hG.deed (T' := T) (Nat.le_refl _) ⟨hK, hKT⟩
      refine M_stepIn (x := 0) ho (by omega) hX1.2.1 hX1.1 hW hK (by omega) (by omega) hst (fun I2 hf2 h2 => B_X9_step_30 ho ?_)
      have t0 : I2 309 0 = nI (sp π κ 0 0 0) := h2.1.1
      rw [t0, sp_time]
      exact k I2 ((FrY.pp hf1).tr (FrY.rr hf2)) (hX1.now hG1 hf2 h2)
    · have e : oStep (π, κ, ρ, c, α, β, μ) = _ := if_neg (fun q' => by have := q'.1; omega)
      rw [e] at kI; exact kI hX
theorem hR.idw (hX : hR J 0 π κ) (hW : WP π) (hz8 : Z8 π κ) (e : I = e_st J 309 0 (J 309 0)) : hR I 0 π κ := hX.fr hW hz8 (fun q _ _ => by
  rw [e]
  by_cases h : q = 0
  · subst h; rw [e_st_same]
  · rw [e_st_k h])
theorem LM_run (ho : isO z) (hPl : hO I π) (hW : WP π) {e : Nat} (he : e + 40 < 2147483647) : ∀ (n s : Nat) (J : It) (κ : Kt), (κ 2 0 0 = 1 ∨ e < er κ 8 + n) → FrR 0 I J → hR J 0 π κ → WK π κ → κ 0 0 0 ≤ e → (∀ I', FrR 0 I I' → hR I' 0 π (if rk π e n κ 2 0 0 = 0 then ku (rk π e n κ) 0 e else rk π e n κ) → Q (some (.int (nI (s + rc π e n κ)))) z I') → E mX9_run mc ms 42 [some (.ref 308), none, some (.int (nI e)), some (.int (nI s))] [] z J Q := by
  have exit : ∀ (s : Nat) (J : It) (κ : Kt), FrR 0 I J → hR J 0 π κ → WK π κ → (∀ I', FrR 0 I I' → hR I' 0 π (if κ 2 0 0 = 0 then ku κ 0 e else κ) → Q (some (.int (nI s))) z I') → E mX9_run mc ms 70 [some (.ref 308), none, some (.int (nI e)), some (.int (nI s))] [] z J Q := by
    intro s J κ hf h hK k
    have hb := hK.2.2.2.2.2.2.2.1
    have s2 : J 309 2 = nI (κ 2 0 0) := h.1.2.2.1
    refine B_X9_run_70 ho ?_
    rw [s2]
    refine pk_ne (κ 2 0 0) 1 (fun q I1 e1 => ?_) (fun q I1 e1 => ?_)
    · rw [if_pos (by omega)] at k
      exact k I1 (hf.tr (FrR.st e1 (by omega))) (h.sc hW hK.z8 (Or.inl ⟨rfl, rfl⟩) e1)
    · rw [if_neg (by omega)] at k
      exact k I1 (hf.tr (FrR.st e1 (by omega))) (h.idw hW hK.z8 e1)
  intro n
  induction n with
  | zero =>
    intro s J κ hn hf h hK h0 k
    have hTB := hK.tb (by omega)
    have hN := hK.2.2.2.2.2.1
    have hPJ := hPl.to hf
    have hle := er_le hTB 8 (by omega)
    refine B_X9_run_42 ho (M_isStill (x := 0) ho (by omega) h hPJ hW hTB hN (B_X9_run_47 ho ?_))
    have ex := exit s J κ hf h hK (fun I' a b => k I' a b)
    by_cases hst : er κ 8 = 2147483647
    · rw [if_pos hst]; exact ⟨fun _ => ex, fun q => absurd q (by decide)⟩
    · rw [if_neg hst]
      refine ⟨fun q => absurd rfl q, fun _ => M_waits (x := 0) ho (by omega) h hPJ hW hTB hN (B_X9_run_55 ho ?_)⟩
      have ew : wv κ 8 = nI (er κ 8) := if_neg hst
      rw [ew]
      refine pk_lt e (er κ 8) (fun _ => ex) (fun q => ?_)
      exfalso
      rcases hn with q' | q'
      · have z := hK.2.2.2.2.2.2.2.2 q'
        exact hst (er_empty z.1 z.2 8)
      · omega
  | succ n ih =>
    intro s J κ hn hf h hK h0 k
    have hTB := hK.tb (by omega)
    have hN := hK.2.2.2.2.2.1
    have hPJ := hPl.to hf
    have hle := er_le hTB 8 (by omega)
    have hb := hK.2.2.2.2.2.2.2.1
    refine B_X9_run_42 ho (M_isStill (x := 0) ho (by omega) h hPJ hW hTB hN (B_X9_run_47 ho ?_))
    have ex : ¬ (κ 2 0 0 = 0 ∧ er κ 8 ≤ e) → E mX9_run mc ms 70 [some (.ref 308), none, some (.int (nI e)), some (.int (nI s))] [] z J Q := fun q => by
      obtain ⟨e1, e2⟩ := rk_no (π := π) q n
      rw [e1, e2] at k
      exact exit s J κ hf h hK (fun I' a b => k I' a b)
    by_cases hst : er κ 8 = 2147483647
    · rw [if_pos hst]; exact ⟨fun _ => ex (fun q => by omega), fun q => absurd q (by decide)⟩
    · rw [if_neg hst]
      have h2 : κ 2 0 0 = 0 := by
        rcases Nat.eq_zero_or_pos (κ 2 0 0) with q | q
        · exact q
        · have z := hK.2.2.2.2.2.2.2.2 (by omega)
          exact absurd (er_empty z.1 z.2 8) hst
      refine ⟨fun q => absurd rfl q, fun _ => M_waits (x := 0) ho (by omega) h hPJ hW hTB hN (B_X9_run_55 ho ?_)⟩
      have ew : wv κ 8 = nI (er κ 8) := if_neg hst
      rw [ew]
      refine pk_lt e (er κ 8) (fun q => ex (fun q' => by omega)) (fun q => ?_)
      obtain ⟨e1, e2⟩ := rk_go (π := π) (e := e) (κ := κ) ⟨h2, by omega⟩ n
      rw [e1, e2] at k
      refine M_stepIn (x := 0) ho (by omega) h hPJ hW hK h2 (by omega) hst (fun I' hf' h' => B_X9_run_64 ho ?_)
      rw [nI_1 s]
      have hse := sp_end hW hK h2 (by omega) hst
      refine ih (s + 1) I' (sp π κ) ?_ (hf.tr hf') h' (sp_WK hW hK h2 (by omega)) (by rw [sp_time]; omega) (fun I2 hf2 h2 => ?_)
      · rcases hse with q' | q'
        · exact Or.inl q'
        · right; rcases hn with q2 | q2 <;> omega
      · have := k I2 hf2 h2
        rw [show s + (rc π e n (sp π κ) + 1) = s + 1 + rc π e n (sp π κ) by omega] at this
        exact this
theorem N_run (ho : isO z) (hX : hY I (π, κ, ρ, c, α, β, μ)) (hG : WG T (π, κ, ρ, c, α, β, μ)) (hT : T + 3000 < 2147483647) (k : ∀ I', FrY I I' → hY I' (oRun (π, κ, ρ, c, α, β, μ) x1).2 → Q (some (.int (oRun (π, κ, ρ, c, α, β, μ) x1).1)) z I') : E mX9_run mc ms 0 [some (.ref 308), some (.int x1), none, none] [] z I Q := by
  obtain ⟨y1, y2, y3, y4, y5, y6, y7⟩ := id hX
  obtain ⟨hW, ⟨hK, hKT⟩, hc, hi1, hi2, hs, hB, hTz⟩ := id hG
  have hb := hK.2.2.2.2.2.2.2.1
  have kI := k I FrY.rf
  have s2 : I 309 2 = nI (κ 2 0 0) := y2.1.2.2.1
  refine B_X9_run_0 ho ⟨fun h => ?_, fun h1 => ⟨fun h => ?_, fun h2 => ?_⟩⟩
  · have e : oRun (π, κ, ρ, c, α, β, μ) x1 = _ := if_pos (Or.inl h)
    rw [e] at kI; exact kI hX
  · have e : oRun (π, κ, ρ, c, α, β, μ) x1 = _ := if_pos (Or.inr h)
    rw [e] at kI; exact kI hX
  · have hno : ¬ (x1 < 1 ∨ 200 < x1) := fun q => by rcases q with q | q <;> contradiction
    have e : oRun (π, κ, ρ, c, α, β, μ) x1 = _ := if_neg hno
    obtain ⟨j, hj, hj2, rfl⟩ := x1_n (b := 200) (by omega) hno
    rw [un_nI (by omega)] at e
    rw [s2]
    refine pk_ne (κ 2 0 0) 1 (fun q => ?_) (fun q => ?_)
    · rw [if_pos (by omega)] at e
      rw [e] at k
      refine M_remember ho hX hG (fun I1 hf1 h1 => B_X9_run_31 ho (fun v1 e1 => ?_))
      have hX1 := hX.past hG hf1 h1
      have hG1 := hG.deed (T' := T) (Nat.le_refl _) ⟨hK, hKT⟩
      have t0 : I1 309 0 = nI (κ 0 0 0) := hX1.2.1.1.1
      rw [t0, nI_add] at e1
      subst e1
      have hge := hK.er_ge (by omega)
      refine LM_run (I := I1) ho hX1.1 hW (by omega) 201 0 I1 κ (Or.inr (by omega)) FrR.rf hX1.2.1 hK (by omega) (fun I2 hf2 h2 => ?_)
      rw [Nat.zero_add]
      exact k I2 ((FrY.pp hf1).tr (FrY.rr hf2)) (hX1.now hG1 hf2 h2)
    · rw [if_neg (by omega)] at e
      rw [e] at kI; exact kI hX
def may (π : Pt) (κ : Kt) (w : Nat) : Int32 := if κ 2 0 0 = 0 ∧ dc π w (π 1 0) = 0 then (if κ 3 0 0 < 8 then 1 else -1000000004) else -1000000003
theorem M_may (ho : isO z) (hX : hR I 0 π κ) (hPl : hO I π) (hW : WP π) (hK : WK π κ) {w : Nat} (hw : w < 8) (k : Q (some (.int (may π κ w))) z I) : E mX9_mayBeSet mc ms 0 [some (.ref 308), some (.int (nI w))] [] z I Q := by
  have hb := hK.2.2.2.2.2.2.2.1
  have h8 := hK.2.2.2.1.1
  have hdl := dc_le π w (π 1 0)
  have hw1 := hW.2.1
  have s2 : I 309 2 = nI (κ 2 0 0) := hX.1.2.2.1
  have s3 : I 309 3 = nI (κ 3 0 0) := hX.1.2.2.2
  refine B_X9_mayBeSet_0 ho (M_driversOf ho hPl hW hw (B_X9_mayBeSet_5 ho (pk_lt 0 (dc π w (π 1 0)) (fun q => ?_) (fun q => ?_))))
  · unfold may at k; rw [if_neg (fun q' => by omega)] at k; exact k
  · rw [s2, s3]
    refine pk_ne (κ 2 0 0) 1 (fun q2 => pk_ne (κ 3 0 0) 8 (fun q3 => ?_) (fun q3 => ?_)) (fun q2 => ?_)
    · unfold may at k; rw [if_pos ⟨by omega, by omega⟩, if_pos (by omega)] at k; exact k
    · unfold may at k; rw [if_pos ⟨by omega, by omega⟩, if_neg (by omega)] at k; exact k
    · unfold may at k; rw [if_neg (fun q' => by omega)] at k; exact k
theorem N_set (ho : isO z) (hX : hY I (π, κ, ρ, c, α, β, μ)) (hG : WG T (π, κ, ρ, c, α, β, μ)) (hT : T + 3000 < 2147483647) (k : ∀ I', FrY I I' → hY I' (oSet (π, κ, ρ, c, α, β, μ) x1 x2 x3).2 → Q (some (.int (oSet (π, κ, ρ, c, α, β, μ) x1 x2 x3).1)) z I') : E mX9_set mc ms 0 [some (.ref 308), some (.int x1), some (.int x2), some (.int x3), none] [] z I Q := by
  obtain ⟨y1, y2, y3, y4, y5, y6, y7⟩ := id hX
  obtain ⟨hW, ⟨hK, hKT⟩, hc, hi1, hi2, hs, hB, hTz⟩ := id hG
  have hw0 := hW.1
  have kI := k I FrY.rf
  refine B_X9_set_0 ho ?_
  rw [y1.1]
  refine ⟨fun h => ?_, fun h1 => ⟨fun h => ?_, fun h2 => ⟨fun h => ?_, fun h3 => ⟨fun h => ?_, fun h4 => ⟨fun h => ?_, fun h5 => ⟨fun h => ?_, fun h6 => ?_⟩⟩⟩⟩⟩⟩
  · have e : oSet (π, κ, ρ, c, α, β, μ) x1 x2 x3 = _ := if_pos (Or.inl h)
    rw [e] at kI; exact kI hX
  · have e : oSet (π, κ, ρ, c, α, β, μ) x1 x2 x3 = _ := if_pos (Or.inr (Or.inl ((pm1 (by omega) h1).mp h)))
    rw [e] at kI; exact kI hX
  · have e : oSet (π, κ, ρ, c, α, β, μ) x1 x2 x3 = _ := if_pos (Or.inr (Or.inr (Or.inl h)))
    rw [e] at kI; exact kI hX
  · have e : oSet (π, κ, ρ, c, α, β, μ) x1 x2 x3 = _ := if_pos (Or.inr (Or.inr (Or.inr h)))
    rw [e] at kI; exact kI hX
  · have h2 : ¬ nI (π 0 0) ≤ x1 := fun q => h2 ((pm1 (by omega) h1).mpr q)
    have e : oSet (π, κ, ρ, c, α, β, μ) x1 x2 x3 = _ := if_neg (fun q => by rcases q with q | q | q | q <;> contradiction)
    rw [if_pos (Or.inl h)] at e
    rw [e] at kI; exact kI hX
  · have h2 : ¬ nI (π 0 0) ≤ x1 := fun q => h2 ((pm1 (by omega) h1).mpr q)
    have e : oSet (π, κ, ρ, c, α, β, μ) x1 x2 x3 = _ := if_neg (fun q => by rcases q with q | q | q | q <;> contradiction)
    rw [if_pos (Or.inr h)] at e
    rw [e] at kI; exact kI hX
  · have h2 : ¬ nI (π 0 0) ≤ x1 := fun q => h2 ((pm1 (by omega) h1).mpr q)
    have e : oSet (π, κ, ρ, c, α, β, μ) x1 x2 x3 = _ := if_neg (fun q => by rcases q with q | q | q | q <;> contradiction)
    have hno : ¬ (x3 < 0 ∨ 20 < x3) := fun q => by rcases q with q | q <;> contradiction
    rw [if_neg hno] at e
    obtain ⟨w, hw, rfl⟩ := lt_n (n := π 0 0) (by omega) h1 h2
    obtain ⟨l, hl, rfl⟩ := le3 h3 h4
    obtain ⟨d, hd, rfl⟩ := x0_n (b := 20) (by omega) hno
    rw [un_nI (by omega), un_nI (by omega), un_nI (by omega)] at e
    refine M_may ho y2 y1 hW hK (by omega) (B_X9_set_36 ho ?_)
    unfold may
    by_cases hm : κ 2 0 0 = 0 ∧ dc π w (π 1 0) = 0
    · rw [if_pos hm] at e ⊢
      by_cases h8 : κ 3 0 0 < 8
      · rw [if_pos h8] at e ⊢
        rw [e] at k
        refine ⟨fun _ => M_remember ho hX hG (fun I1 hf1 h1 => B_X9_set_51 ho ?_), fun q => absurd rfl q⟩
        have hX1 := hX.past hG hf1 h1
        have hG1 := hG.deed (T' := T) (Nat.le_refl _) ⟨hK, hKT⟩
        have t0 : I1 309 0 = nI (κ 0 0 0) := hX1.2.1.1.1
        rw [t0, nI_add]
        refine M_layHand ho hX1.2.1 hW hK.z8 hK.2.2.2.1 h8 (by omega) (by omega) (fun I2 hf2 h2 => B_X9_set_65 ho ?_)
        have t3 : I2 309 3 = nI (ah κ w l (κ 0 0 0 + d) 3 0 0) := h2.1.2.2.2
        rw [t3, ah_3]
        exact k I2 ((FrY.pp hf1).tr (FrY.rr hf2)) (hX1.now hG1 hf2 h2)
      · rw [if_neg h8] at e ⊢
        rw [e] at kI
        exact ⟨fun q => absurd q (by decide), fun _ => kI hX⟩
    · rw [if_neg hm] at e ⊢
      rw [e] at kI
      exact ⟨fun q => absurd q (by decide), fun _ => kI hX⟩
theorem N_calm (ho : isO z) (hX : hY I (π, κ, ρ, c, α, β, μ)) (hG : WG T (π, κ, ρ, c, α, β, μ)) (hT : T + 3000 < 2147483647) (k : ∀ I', FrY I I' → hY I' (oCalm (π, κ, ρ, c, α, β, μ)).2 → Q (some (.int (oCalm (π, κ, ρ, c, α, β, μ)).1)) z I') : E mX9_calm mc ms 0 [some (.ref 308)] [] z I Q := by
  obtain ⟨y1, y2, y3, y4, y5, y6, y7⟩ := id hX
  obtain ⟨hW, ⟨hK, hKT⟩, hc, hi1, hi2, hs, hB, hTz⟩ := id hG
  have hb := hK.2.2.2.2.2.2.2.1
  have kI := k I FrY.rf
  have s2 : I 309 2 = nI (κ 2 0 0) := y2.1.2.2.1
  refine B_X9_calm_0 ho ?_
  rw [s2]
  refine pk_ne (κ 2 0 0) 0 (fun q => ?_) (fun q => ?_)
  · have e : oCalm (π, κ, ρ, c, α, β, μ) = _ := if_neg q
    rw [e] at k
    refine M_remember ho hX hG (fun I1 hf1 h1 => B_X9_calm_16 ho (fun I2 e2 => ?_))
    have hX1 := hX.past hG hf1 h1
    have hG1 := hG.deed (T' := T) (Nat.le_refl _) ⟨hK, hKT⟩
    have h2 : hR I2 0 π (ku κ 2 0) := hX1.2.1.sc (c := 0) hW hK.z8 (Or.inr (Or.inr ⟨rfl, rfl⟩)) e2
    have hf2 : FrR 0 I1 I2 := FrR.st e2 (by omega)
    have hL : LB π (ku κ 2 0) := by
      unfold LB; rw [ku_f (by decide), ku_f (by decide)]; exact hK.1
    have hQ' : WQ π (ku κ 2 0) := by
      unfold WQ; rw [ku_f (by decide), ku_f (by decide), ku_f (by decide), ku_f (by decide)]; exact hK.2.1
    refine M_tellAll (x := 0) ho (by omega) h2 (hX1.1.to hf2) hW hL hQ' (by rw [ku_f (by decide)]; exact hK.2.2.2.1.1) (by rw [ku_f (by decide)]; omega) (fun I3 hf3 h3 => B_X9_calm_28 ho ?_)
    have t0 : I3 309 0 = nI (tlA π (fun _ => true) (ku κ 2 0) (π 1 0) 0 0 0) := h3.1.1
    rw [t0, tlA_f (by omega), ku_f (by decide)]
    exact k I3 ((FrY.pp hf1).tr (FrY.rr (hf2.tr hf3))) (hX1.now hG1 (hf2.tr hf3) h3)
  · have e : oCalm (π, κ, ρ, c, α, β, μ) = _ := if_pos q
    rw [e] at kI; exact kI hX
theorem hY.sd {s : Nat} (hX : hY I (π, κ, ρ, c, α, β, μ)) (hG : WG T (π, κ, ρ, c, α, β, μ)) (e : I' = e_st I 308 6 (nI s)) : hY I' (π, κ, ρ, c, α, β, um μ 3 0 s) := by
  obtain ⟨y1, y2, y3, y4, y5, y6, y7⟩ := hX
  have hW := hG.1
  have ro : ∀ a, a ≠ 308 → I' a = I a := fun a ha => by rw [e, e_st_a ha]
  have r8 : ∀ q, q ≠ 6 → I' 308 q = I 308 q := fun q hq => by rw [e, e_st_k hq]
  refine ⟨?_, y2.fr hW hG.2.1.1.z8 (fun q _ _ => by rw [ro 309 (by decide)]), y3.fr hW hG.z8p (r8 4 (by decide)) (fun q _ _ => by rw [ro 309 (by decide)]), hYi.fr (I' := I') y4 hW hG.z8a hG.z8b (r8 5 (by decide)) (ro 311 (by decide)) (fun q _ _ => by rw [ro 309 (by decide)]), by rw [e, e_st_same, um_same], ?_, ?_⟩
  · unfold hO at *; rw [r8 1 (by decide), r8 2 (by decide), ro 310 (by decide)]; exact y1
  · have : hYb I' μ := by unfold hYb at *; rw [r8 10 (by decide), ro 312 (by decide), ro 313 (by decide)]; exact y6
    exact this
  · have : hYt I' μ := by unfold hYt at *; rw [r8 12 (by decide), r8 13 (by decide), ro 314 (by decide)]; exact y7
    exact this
theorem FrY.o {q : Nat} {v : Int32} (e : I' = e_st I 308 q v) : FrY I I' := fun a ha => by rw [e, e_st_a (by omega)]
theorem M_draw (ho : isO z) {s n : Nat} (hs : I 308 6 = nI s) (h : s < 2147483648) (hn0 : 0 < n) (hn : n < 2147483648) (k : ∀ I', I' = e_st I 308 6 (nI (dS s)) → Q (some (.int (nI (dS s / 65536 % n)))) z I') : E mX9_draw mc ms 0 [some (.ref 308), some (.int (nI n)), none, none] [] z I Q := by
  refine B_X9_draw_0 ho (fun I1 e1 => ?_)
  rw [hs, dr_m h] at e1
  have h1 : I1 308 6 = nI (dS s) := by rw [e1, e_st_same]
  rw [h1, dr_q (dS_lt s) hn]
  refine ⟨?_, k I1 e1⟩
  rw [show (0 : Int32) = nI 0 from rfl, nI_eq (by omega) (by omega)]
  omega
theorem WG.sd {s : Nat} (hG : WG T (π, κ, ρ, c, α, β, μ)) (hs : s < 2147483648) : WG T (π, κ, ρ, c, α, β, um μ 3 0 s) := by
  obtain ⟨a1, a2, a3, a4, a5, a6, a7, a8⟩ := hG
  exact ⟨a1, a2, a3, a4, a5, hs, a7, a8⟩
theorem M_d1s (ho : isO z) (hX : hY I (π, κ, ρ, c, α, β, μ)) (hG : WG T (π, κ, ρ, c, α, β, μ)) (hT : T + 40 < 2147483647) (k : ∀ I', FrY I I' → hY I' (π, d1s π κ, ρ, c, α, β, μ) → Q none z I') : E mX9_isStill 0 0 0 [some (.ref 308), some (.int 0)] [] z I (fun r z' I' => E mX9_time mc ms 50 [some (.ref 308), none, none, none] (r.toList ++ []) z' I' Q) := by
  obtain ⟨y1, y2, y3, y4, y5, y6, y7⟩ := id hX
  obtain ⟨hW, ⟨hK, hKT⟩, -⟩ := id hG
  have hb := hK.2.2.2.2.2.2.2.1
  have s2 : I 309 2 = nI (κ 2 0 0) := y2.1.2.2.1
  refine M_isStill (x := 0) ho (by omega) y2 y1 hW (hK.tb (by omega)) hK.2.2.2.2.2.1 (B_X9_time_50 ho ?_)
  by_cases hs : er κ 8 = 2147483647
  · have e : d1s π κ = κ := if_neg (fun q' => q'.2 hs)
    rw [e] at k
    rw [if_pos hs]
    exact ⟨fun _ => k I FrY.rf hX, fun q => absurd q (by decide)⟩
  · rw [if_neg hs, s2]
    refine ⟨fun q => absurd rfl q, fun _ => pk_ne (κ 2 0 0) 0 (fun q => ?_) (fun q => ?_)⟩
    · have e : d1s π κ = κ := if_neg (fun q' => q q'.1)
      rw [e] at k; exact k I FrY.rf hX
    · have e : d1s π κ = sp π κ := if_pos ⟨q, hs⟩
      rw [e] at k
      exact M_stepIn (x := 0) ho (by omega) y2 y1 hW hK q (by omega) hs (fun I2 hf2 h2 => B_X9_time_67 (k I2 (FrY.rr hf2) (hX.now hG hf2 h2)))
theorem M_timeTail (ho : isO z) (hX : hY I (π, κ, ρ, c, α, β, μ)) (hG : WG T (π, κ, ρ, c, α, β, μ)) (hT : T + 60 < 2147483647) {w l d : Nat} (hw : w < π 0 0) (hl : l < 4) (hd : d ≤ 20) (k : ∀ I', FrY I I' → hY I' (π, d1s π (d1k π κ w l d), ρ, c, α, β, μ) → Q none z I') : E mX9_time mc ms 21 [some (.ref 308), some (.int (nI w)), some (.int (nI l)), none] [.int (nI d)] z I Q := by
  obtain ⟨y1, y2, y3, y4, y5, y6, y7⟩ := id hX
  obtain ⟨hW, ⟨hK, hKT⟩, -⟩ := id hG
  have hw0 := hW.1
  refine B_X9_time_21 ho (M_may ho y2 y1 hW hK (by omega) (B_X9_time_27 ho ?_))
  unfold may
  by_cases hm : κ 2 0 0 = 0 ∧ dc π w (π 1 0) = 0
  · rw [if_pos hm]
    by_cases h8 : κ 3 0 0 < 8
    · rw [if_pos h8]
      have e : d1k π κ w l d = ah κ w l (κ 0 0 0 + d) := if_pos ⟨hm.1, hm.2, h8⟩
      rw [e] at k
      refine ⟨fun q => absurd rfl q, fun _ => ?_⟩
      have t0 : I 309 0 = nI (κ 0 0 0) := y2.1.1
      rw [t0, nI_add]
      refine M_layHand ho y2 hW hK.z8 hK.2.2.2.1 h8 (by omega) (by omega) (fun I2 hf2 h2 => B_X9_time_45 ho ?_)
      have hX2 := hX.now hG hf2 h2
      have hG2 : WG T (π, ah κ w l (κ 0 0 0 + d), ρ, c, α, β, μ) := by
        obtain ⟨a1, a2, a3⟩ := hG
        exact ⟨a1, ⟨ah_WK hK hm.1 h8 hw hm.2 hl (by omega) (by omega), by rw [ah_f (by omega)]; exact hKT⟩, a3⟩
      exact M_d1s ho hX2 hG2 (by omega) (fun I3 hf3 h3 => k I3 ((FrY.rr hf2).tr hf3) h3)
    · rw [if_neg h8]
      have e : d1k π κ w l d = κ := if_neg (fun q' => h8 q'.2.2)
      rw [e] at k
      exact ⟨fun _ => M_d1s ho hX hG (by omega) k, fun q => absurd q (by decide)⟩
  · rw [if_neg hm]
    have e : d1k π κ w l d = κ := if_neg (fun q' => hm ⟨q'.1, q'.2.1⟩)
    rw [e] at k
    exact ⟨fun _ => M_d1s ho hX hG (by omega) k, fun q => absurd q (by decide)⟩
theorem M_time (ho : isO z) (hX : hY I (π, κ, ρ, c, α, β, μ)) (hG : WG T (π, κ, ρ, c, α, β, μ)) (hT : T + 60 < 2147483647) (h0 : 0 < π 0 0) (k : ∀ I', FrY I I' → hY I' (π, d1s π (d1k π κ (dS (μ 3 0) / 65536 % π 0 0) (dS (dS (μ 3 0)) / 65536 % 4) (dS (dS (dS (μ 3 0))) / 65536 % 21)), ρ, c, α, β, um μ 3 0 (dS (dS (dS (μ 3 0))))) → Q none z I') : E mX9_time mc ms 0 [some (.ref 308), none, none, none] [] z I Q := by
  obtain ⟨y1, y2, y3, y4, y5, y6, y7⟩ := id hX
  obtain ⟨hW, ⟨hK, hKT⟩, hc, hi1, hi2, hs, hB, hTz⟩ := id hG
  have hw0 := hW.1
  have h1 : dS (μ 3 0) < 2147483648 := dS_lt _
  have h2 : dS (dS (μ 3 0)) < 2147483648 := dS_lt _
  have h3 : dS (dS (dS (μ 3 0))) < 2147483648 := dS_lt _
  have h21 : dS (dS (dS (μ 3 0))) / 65536 % 21 ≤ 20 := Nat.le_of_lt_succ (Nat.mod_lt _ (by omega))
  have h4 : dS (dS (μ 3 0)) / 65536 % 4 < 4 := Nat.mod_lt _ (by omega)
  have hn : dS (μ 3 0) / 65536 % π 0 0 < π 0 0 := Nat.mod_lt _ h0
  refine B_X9_time_0 ho ?_
  rw [y1.1]
  refine M_draw ho y5 hs h0 (by omega) (fun I2 e2 => B_X9_time_8 ho ?_)
  refine M_draw (n := 4) ho (by rw [e2, e_st_same]) h1 (by omega) (by omega) (fun I3 e3 => B_X9_time_14 ho ?_)
  refine M_draw (n := 21) ho (by rw [e3, e_st_same]) h2 (by omega) (by omega) (fun I4 e4 => ?_)
  have e5 : I4 = e_st I 308 6 (nI (dS (dS (dS (μ 3 0))))) := by
    rw [e4, e3, e2]
    funext a q
    unfold e_st
    by_cases h : a = 308 ∧ q = 6
    · rw [if_pos h, if_pos h]
    · rw [if_neg h, if_neg h, if_neg h, if_neg h]
  clear e4 e3 e2
  generalize dS (dS (dS (μ 3 0))) = s3 at *
  generalize dS (dS (μ 3 0)) / 65536 % 4 = l at *
  generalize dS (μ 3 0) / 65536 % π 0 0 = w at *
  generalize s3 / 65536 % 21 = d at *
  have hX4 := hX.sd hG e5
  have hG4 := hG.sd h3
  exact M_timeTail ho hX4 hG4 hT hn h4 h21 (fun I5 hf5 h5 => k I5 ((FrY.o e5).tr hf5) h5)
theorem LM_drift (ho : isO z) (n : Nat) (hn : n ≤ 16) : ∀ (r i : Nat) (J : It) (G : Gt) (T : Nat), i + r = n → FrY I J → hY J G → WG T G → T + 20 * r + 3000 < 2147483647 → 0 < G.1 0 0 → (∀ I', FrY I I' → hY I' (dN r G) → Q (some (.int (nI ((dN r G).2.1 0 0 0)))) z I') → E mX9_drift mc ms 15 [some (.ref 308), some (.int (nI n)), some (.int (nI i))] [] z J Q := by
  intro r
  induction r with
  | zero =>
    intro i J G T hi hf hX hG hT h0 k
    obtain ⟨π, κ, ρ, c, α, β, μ⟩ := G
    refine B_X9_drift_15 ho (pk_le n i (fun _ => ?_) (fun h => absurd h (by omega)))
    have t0 : J 309 0 = nI (κ 0 0 0) := hX.2.1.1.1
    rw [t0]
    exact k J hf hX
  | succ r ih =>
    intro i J G T hi hf hX hG hT h0 k
    obtain ⟨π, κ, ρ, c, α, β, μ⟩ := G
    have hw0 := hG.1.1
    have h0' : 0 < π 0 0 := h0
    refine B_X9_drift_15 ho (pk_le n i (fun h => absurd h (by omega)) (fun _ => ?_))
    rw [hX.1.1]
    refine pk_le (π 0 0) 0 (fun h => absurd h (by omega)) (fun _ => M_remember ho hX hG (fun I1 hf1 h1 => B_X9_drift_31 ho ?_))
    have hX1 := hX.past hG hf1 h1
    have hG1 := hG.deed (T' := T) (Nat.le_refl _) hG.2.1
    refine M_time ho hX1 hG1 (by omega) h0' (fun I2 hf2 h2 => B_X9_drift_35 ho ?_)
    rw [nI_1]
    exact ih (i + 1) I2 _ (T + 20) (by omega) ((hf.tr (FrY.pp hf1)).tr hf2) h2 (W_d1 hG (by omega) h0') (by omega) h0' k
theorem N_drift (ho : isO z) (hX : hY I (π, κ, ρ, c, α, β, μ)) (hG : WG T (π, κ, ρ, c, α, β, μ)) (hT : T + 4000 < 2147483647) (k : ∀ I', FrY I I' → hY I' (oDrift (π, κ, ρ, c, α, β, μ) x1).2 → Q (some (.int (oDrift (π, κ, ρ, c, α, β, μ) x1).1)) z I') : E mX9_drift mc ms 0 [some (.ref 308), some (.int x1), none] [] z I Q := by
  obtain ⟨y1, y2, y3, y4, y5, y6, y7⟩ := id hX
  obtain ⟨hW, ⟨hK, hKT⟩, hc, hi1, hi2, hs, hB, hTz⟩ := id hG
  have kI := k I FrY.rf
  refine B_X9_drift_0 ho ⟨fun h => ?_, fun h1 => ⟨fun h => ?_, fun h2 => ?_⟩⟩
  · have e : oDrift (π, κ, ρ, c, α, β, μ) x1 = _ := if_pos (Or.inl h)
    rw [e] at kI; exact kI hX
  · have e : oDrift (π, κ, ρ, c, α, β, μ) x1 = _ := if_pos (Or.inr h)
    rw [e] at kI; exact kI hX
  · have hno : ¬ (x1 < 1 ∨ 16 < x1) := fun q => by rcases q with q | q <;> contradiction
    have e : oDrift (π, κ, ρ, c, α, β, μ) x1 = _ := if_neg hno
    obtain ⟨j, hj, hj2, rfl⟩ := x1_n (b := 16) (by omega) hno
    rw [un_nI (by omega)] at e
    by_cases hz0 : π 0 0 = 0
    · rw [if_pos hz0] at e
      rw [e] at kI
      refine B_X9_drift_15 ho (pk_le j 0 (fun h => absurd h (by omega)) (fun _ => ?_))
      have t0 : I 309 0 = nI (κ 0 0 0) := y2.1.1
      rw [y1.1, hz0, t0]
      exact pk_le 0 0 (fun _ => kI hX) (fun h => absurd h (by omega))
    · rw [if_neg hz0] at e
      rw [e] at k
      exact LM_drift ho j hj2 j 0 I _ T (by omega) FrY.rf hX hG (by omega) (by show 0 < π 0 0; omega) k
theorem N_undo (ho : isO z) (hX : hY I (π, κ, ρ, c, α, β, μ)) (hG : WG T (π, κ, ρ, c, α, β, μ)) (k : ∀ I', FrY I I' → hY I' (oUndo (π, κ, ρ, c, α, β, μ) x1).2 → Q (some (.int (oUndo (π, κ, ρ, c, α, β, μ) x1).1)) z I') : E mX9_undo mc ms 0 [some (.ref 308), some (.int x1)] [] z I Q := by
  obtain ⟨y1, y2, y3, y4, y5, y6, y7⟩ := id hX
  obtain ⟨hW, ⟨hK, hKT⟩, hc, hi1, hi2, hs, hB, hTz⟩ := id hG
  have kI := k I FrY.rf
  refine B_X9_undo_0 ho ⟨fun h => ?_, fun h1 => ⟨fun h => ?_, fun h2 => ?_⟩⟩
  · have e : oUndo (π, κ, ρ, c, α, β, μ) x1 = _ := if_pos (Or.inl h)
    rw [e] at kI; exact kI hX
  · have e : oUndo (π, κ, ρ, c, α, β, μ) x1 = _ := if_pos (Or.inr h)
    rw [e] at kI; exact kI hX
  · have hno : ¬ (x1 < 1 ∨ 16 < x1) := fun q => by rcases q with q | q <;> contradiction
    have e : oUndo (π, κ, ρ, c, α, β, μ) x1 = _ := if_neg hno
    obtain ⟨j, hj, hj2, rfl⟩ := x1_n (b := 16) (by omega) hno
    rw [un_nI (by omega)] at e
    rw [y3.2.1]
    have hc16 := hc.1
    refine pk_le j c (fun q I1 e1 => ?_) (fun q => ?_)
    · rw [if_pos q] at e
      rw [e] at k
      rw [pk_sub q] at e1
      have h14 : I1 308 4 = nI (c - j) := by rw [e1, e_st_same]
      have ev : (344 : Int32) * (I1 308 4 + 1) = nI (344 * (c - j + 1)) := by rw [h14, nI_1]; exact ixm 344 _
      rw [ev]
      have r19 : I1 309 = I 309 := by rw [e1, e_st_a (by decide)]
      refine M_copyRow (y := 0) ho (by omega) (by omega) (by omega) (fun I2 hf2 he2 => B_X9_undo_49 ho ?_)
      have hp0 := y3.2.2 (j - 1) (by omega)
      rw [show c - (j - 1) = c - j + 1 by omega] at hp0
      have hz := hG.z8p
      have h2 : hR I2 0 π (ρ (j - 1)) := hp0.cp hW (hz _ (by omega)) (fun q hq => by rw [he2 q hq, r19])
      have t0 : I2 309 0 = nI (ρ (j - 1) 0 0 0) := h2.1.1
      rw [t0]
      have ro : ∀ a, a ≠ 308 → a ≠ 309 → I2 a = I a := fun a a1 a2 => by rw [hf2.1 a a2, e1, e_st_a a1]
      have r8 : ∀ q, q ≠ 4 → I2 308 q = I 308 q := fun q hq => by rw [hf2.1 308 (by decide), e1, e_st_k hq]
      have r9 : ∀ q, 344 ≤ q → I2 309 q = I 309 q := fun q hq => by rw [hf2.2 q (by omega), r19]
      refine k I2 (fun a ha => ro a (by omega) (by omega)) ⟨?_, h2, ⟨by omega, by rw [hf2.1 308 (by decide)]; exact h14, fun i hi => ?_⟩, y4.fr hW hG.z8a hG.z8b (r8 5 (by decide)) (ro 311 (by decide) (by decide)) (fun q _ _ => r9 q (by omega)), by rw [r8 6 (by decide)]; exact y5, ?_, ?_⟩
      · unfold hO at *; rw [r8 1 (by decide), r8 2 (by decide), ro 310 (by decide) (by decide)]; exact y1
      · have := y3.2.2 (i + j) (by omega)
        rw [show c - (i + j) = c - j - i by omega] at this
        exact this.fr hW (hz _ (by omega)) (fun q b1 b2 => r9 q (by omega))
      · unfold hYb at *; rw [r8 10 (by decide), ro 312 (by decide) (by decide), ro 313 (by decide) (by decide)]; exact y6
      · unfold hYt at *; rw [r8 12 (by decide), r8 13 (by decide), ro 314 (by decide) (by decide)]; exact y7
    · rw [if_neg (by omega)] at e
      rw [e] at kI; exact kI hX
theorem N_write (ho : isO z) (hX : hY I (π, κ, ρ, c, α, β, μ)) (hG : WG T (π, κ, ρ, c, α, β, μ)) (k : ∀ I', FrY I I' → hY I' (oWrite (π, κ, ρ, c, α, β, μ) x1 x2).2 → Q (some (.int (oWrite (π, κ, ρ, c, α, β, μ) x1 x2).1)) z I') : E mX9_write mc ms 0 [some (.ref 308), some (.int x1), some (.int x2)] [] z I Q := by
  obtain ⟨y1, y2, y3, y4, y5, y6, y7⟩ := id hX
  obtain ⟨hW, ⟨hK, hKT⟩, hc, hi1, hi2, hs, hB, hTz⟩ := id hG
  have hw0 := hW.1
  have kI := k I FrY.rf
  refine B_X9_write_0 ho ?_
  rw [y1.1]
  refine ⟨fun h => ?_, fun h1 => ⟨fun h => ?_, fun h2 => ⟨fun h => ?_, fun h3 => ⟨fun h => ?_, fun h4 => ?_⟩⟩⟩⟩
  · have e : oWrite (π, κ, ρ, c, α, β, μ) x1 x2 = _ := if_pos (Or.inl h)
    rw [e] at kI; exact kI hX
  · have e : oWrite (π, κ, ρ, c, α, β, μ) x1 x2 = _ := if_pos (Or.inr (Or.inl ((pm1 (by omega) h1).mp h)))
    rw [e] at kI; exact kI hX
  · have e : oWrite (π, κ, ρ, c, α, β, μ) x1 x2 = _ := if_pos (Or.inr (Or.inr (Or.inl h)))
    rw [e] at kI; exact kI hX
  · have e : oWrite (π, κ, ρ, c, α, β, μ) x1 x2 = _ := if_pos (Or.inr (Or.inr (Or.inr h)))
    rw [e] at kI; exact kI hX
  · have h2 : ¬ nI (π 0 0) ≤ x1 := fun q => h2 ((pm1 (by omega) h1).mpr q)
    have e : oWrite (π, κ, ρ, c, α, β, μ) x1 x2 = _ := if_neg (fun q => by rcases q with q | q | q | q <;> contradiction)
    obtain ⟨w, hw, rfl⟩ := lt_n (n := π 0 0) (by omega) h1 h2
    obtain ⟨l, hl, rfl⟩ := le3 h3 h4
    rw [un_nI (by omega), un_nI (by omega)] at e
    rw [y6.1]
    have h20 := hB.1
    refine pk_ne (μ 4 0) 20 (fun h5 => ⟨μ 4 0, rfl, by omega, fun I2 e2 => ⟨μ 4 0, ?_, by omega, fun I4 e4 I5 e5 => ?_⟩⟩) (fun h5 => ?_)
    · rw [e2, e_st_a (by decide), y6.1]
    · rw [if_pos (by omega)] at e
      rw [e] at k
      have h42 : I4 308 10 = nI (μ 4 0) := by rw [e4, e_st_a (by decide), e2, e_st_a (by decide), y6.1]
      rw [h42, nI_1] at e5
      have h52 : I5 308 10 = nI (μ 4 0 + 1) := by rw [e5, e_st_same]
      rw [h52]
      have ro : ∀ a, a ≠ 308 → a ≠ 312 → a ≠ 313 → I5 a = I a := fun a a1 a2 a3 => by rw [e5, e_st_a a1, e4, e_st_a a3, e2, e_st_a a2]
      have r8 : ∀ q, q ≠ 10 → I5 308 q = I 308 q := fun q hq => by rw [e5, e_st_k hq, e4, e_st_a (by decide), e2, e_st_a (by decide)]
      have r9 : I5 309 = I 309 := ro 309 (by decide) (by decide) (by decide)
      refine k I5 (fun a ha => ro a (by omega) (by omega) (by omega)) ⟨?_, y2.fr hW hK.z8 (fun q _ _ => by rw [r9]), y3.fr hW hG.z8p (r8 4 (by decide)) (fun q _ _ => by rw [r9]), hYi.fr (I' := I5) y4 hW hG.z8a hG.z8b (r8 5 (by decide)) (ro 311 (by decide) (by decide) (by decide)) (fun q _ _ => by rw [r9]), by rw [r8 6 (by decide)]; exact y5, ?_, ?_⟩
      · unfold hO at *; rw [r8 1 (by decide), r8 2 (by decide), ro 310 (by decide) (by decide) (by decide)]; exact y1
      · unfold hYb
        rw [um_same, um_a (a' := 5) (by decide), um_a (a' := 5) (by decide), um_a (a' := 6) (by decide)]
        refine ⟨h52, fun q hq => ?_⟩
        rw [e5, e_st_a (by decide), e_st_a (by decide), e4, e_st_row, e_st_a (by decide), e2, e_st_row, e_st_a (by decide)]
        by_cases eq : q = μ 4 0
        · subst eq; rw [xd_same, xd_same, um_same, um_same]; exact ⟨rfl, rfl⟩
        · rw [xd_ne eq, xd_ne eq, um_b eq, um_b eq, um_a (by decide)]; exact y6.2 q (by omega)
      · have : hYt I5 μ := by unfold hYt at *; rw [r8 12 (by decide), r8 13 (by decide), ro 314 (by decide) (by decide) (by decide)]; exact y7
        exact this
    · rw [if_neg (by omega)] at e
      rw [e] at kI; exact kI hX
theorem N_tear (ho : isO z) (hX : hY I (π, κ, ρ, c, α, β, μ)) (hG : WG T (π, κ, ρ, c, α, β, μ)) (k : ∀ I', FrY I I' → hY I' (oTear (π, κ, ρ, c, α, β, μ)).2 → Q (some (.int (oTear (π, κ, ρ, c, α, β, μ)).1)) z I') : E mX9_tear mc ms 0 [some (.ref 308), none] [] z I Q := by
  obtain ⟨y1, y2, y3, y4, y5, y6, y7⟩ := id hX
  obtain ⟨hW, ⟨hK, hKT⟩, -⟩ := id hG
  refine B_X9_tear_0 ho (fun v1 e1 I2 e2 => ?_)
  rw [y6.1] at e1
  subst e1
  have ro : ∀ a, a ≠ 308 → I2 a = I a := fun a a1 => by rw [e2, e_st_a a1]
  have r8 : ∀ q, q ≠ 10 → I2 308 q = I 308 q := fun q hq => by rw [e2, e_st_k hq]
  have r9 : I2 309 = I 309 := ro 309 (by decide)
  refine k I2 (FrY.o e2) ⟨?_, y2.fr hW hK.z8 (fun q _ _ => by rw [r9]), y3.fr hW hG.z8p (r8 4 (by decide)) (fun q _ _ => by rw [r9]), hYi.fr (I' := I2) y4 hW hG.z8a hG.z8b (r8 5 (by decide)) (ro 311 (by decide)) (fun q _ _ => by rw [r9]), by rw [r8 6 (by decide)]; exact y5, ⟨?_, fun q hq => absurd hq (Nat.not_lt_zero _)⟩, ?_⟩
  · unfold hO at *; rw [r8 1 (by decide), r8 2 (by decide), ro 310 (by decide)]; exact y1
  · rw [e2, e_st_same]; rfl
  · have : hYt I2 μ := by unfold hYt at *; rw [r8 12 (by decide), r8 13 (by decide), ro 314 (by decide)]; exact y7
    exact this
theorem N_seed (ho : isO z) (hX : hY I (π, κ, ρ, c, α, β, μ)) (hG : WG T (π, κ, ρ, c, α, β, μ)) (k : ∀ I', FrY I I' → hY I' (oSeed (π, κ, ρ, c, α, β, μ) x1).2 → Q (some (.int (oSeed (π, κ, ρ, c, α, β, μ) x1).1)) z I') : E mX9_seed mc ms 0 [some (.ref 308), some (.int x1), none] [] z I Q := by
  have y5 := hX.2.2.2.2.1
  have hnn : 0 ≤ x1 → ¬ x1 < 0 := le_n
  refine B_X9_seed_0 ho ⟨fun h v1 e1 I2 e2 => ?_, fun h => ?_⟩
  · have e : oSeed (π, κ, ρ, c, α, β, μ) x1 = _ := if_neg (hnn h)
    rw [e] at k
    obtain ⟨j, hj, rfl⟩ := xc (hnn h)
    rw [un_nI hj] at k
    have e1' : v1 = nI (μ 3 0) := by rw [e1]; exact y5
    subst e1'
    exact k I2 (FrY.o e2) (hX.sd hG e2)
  · have e : oSeed (π, κ, ρ, c, α, β, μ) x1 = _ := if_pos (nlt_of h)
    rw [e] at k; exact k I FrY.rf hX
theorem N_keep (ho : isO z) (hX : hY I (π, κ, ρ, c, α, β, μ)) (hG : WG T (π, κ, ρ, c, α, β, μ)) (k : ∀ I', FrY I I' → hY I' (oKeep (π, κ, ρ, c, α, β, μ) x1).2 → Q (some (.int (oKeep (π, κ, ρ, c, α, β, μ) x1).1)) z I') : E mX9_keep mc ms 0 [some (.ref 308), some (.int x1)] [] z I Q := by
  obtain ⟨y1, y2, y3, y4, y5, y6, y7⟩ := id hX
  obtain ⟨hW, ⟨hK, hKT⟩, hc, hi1, hi2, hs, hB, hTz⟩ := id hG
  have m0 := hi1.1
  have m1 := hi2.1
  refine B_X9_keep_0 ho ⟨fun h => ?_, fun h1 => ⟨fun h => ?_, fun h2 => ?_⟩⟩
  · have e : oKeep (π, κ, ρ, c, α, β, μ) x1 = _ := if_neg (fun q => by subst q; exact absurd h (by decide))
    rw [if_neg (fun q => by subst q; exact absurd h (by decide))] at e
    rw [e] at k; exact k I FrY.rf hX
  · have e : oKeep (π, κ, ρ, c, α, β, μ) x1 = _ := if_neg (fun q => by subst q; exact absurd h (by decide))
    rw [if_neg (fun q => by subst q; exact absurd h (by decide))] at e
    rw [e] at k; exact k I FrY.rf hX
  · rcases in01 h1 h2 with q | q
    · subst q
      have e : oKeep (π, κ, ρ, c, α, β, μ) 0 = (1, (π, κ, ρ, 0, κ, β, um (um μ 1 0 1) 2 0 (μ 3 0))) := rfl
      rw [e] at k
      refine M_copyRow (x := 0) (y := 5848) ho (by omega) (by omega) (by omega) (fun I1 hf1 he1 => B_X9_keep_26 ho ⟨0, rfl, by omega, fun I2 e2 I3 e3 I4 e4 => ?_⟩)
      have s6 : I1 308 6 = nI (μ 3 0) := by rw [hf1.1 308 (by decide)]; exact y5
      have s5 : I2 308 5 = nI (μ 1 0 + 2 * μ 1 1) := by rw [e2, e_st_a (by decide), hf1.1 308 (by decide)]; exact y4.1
      rw [s6] at e2
      rw [s5, or_k0 _ (by omega) _ (by omega)] at e3
      have ro : ∀ a, a ≠ 308 → a ≠ 309 → a ≠ 311 → I4 a = I a := fun a a1 a2 a3 => by rw [e4, e_st_a a1, e3, e_st_a a1, e2, e_st_a a3, hf1.1 a a2]
      have r8 : ∀ q, q ≠ 4 → q ≠ 5 → I4 308 q = I 308 q := fun q h4 h5 => by rw [e4, e_st_k h4, e3, e_st_k h5, e2, e_st_a (by decide), hf1.1 308 (by decide)]
      have r9 : I4 309 = I1 309 := by rw [e4, e_st_a (by decide), e3, e_st_a (by decide), e2, e_st_a (by decide)]
      have r11 : I4 311 = upd (I 311) 0 (nI (μ 3 0)) := by rw [e4, e_st_a (by decide), e3, e_st_a (by decide), e2, e_st_row, hf1.1 311 (by decide)]
      refine k I4 (fun a ha => ro a (by omega) (by omega) (by omega)) ⟨?_, y2.fr hW hK.z8 (fun q _ _ => by rw [r9, hf1.2 q (by omega)]), ⟨by omega, by rw [e4, e_st_same]; rfl, fun j hj => absurd hj (by omega)⟩, ⟨?_, fun _ => ⟨?_, ?_⟩, fun q => ⟨?_, ?_⟩⟩, ?_, ?_, ?_⟩
      · unfold hO at *; rw [r8 1 (by decide) (by decide), r8 2 (by decide) (by decide), ro 310 (by decide) (by decide) (by decide)]; exact y1
      · rw [e4, e_st_k (by decide), e3, e_st_same]; rfl
      · exact y2.cp hW hK.z8 (fun q hq => by rw [r9]; exact he1 q hq)
      · rw [r11, xd_same]; rfl
      · exact (y4.2.2 q).1.fr hW (hG.z8b q) (fun q' b1 b2 => by rw [r9, hf1.2 q' (by omega)])
      · rw [r11, xd_ne (by decide)]; exact (y4.2.2 q).2
      · rw [r8 6 (by decide) (by decide)]; exact y5
      · have : hYb I4 μ := by unfold hYb at *; rw [r8 10 (by decide) (by decide), ro 312 (by decide) (by decide) (by decide), ro 313 (by decide) (by decide) (by decide)]; exact y6
        exact this
      · have : hYt I4 μ := by unfold hYt at *; rw [r8 12 (by decide) (by decide), r8 13 (by decide) (by decide), ro 314 (by decide) (by decide) (by decide)]; exact y7
        exact this
    · subst q
      have e : oKeep (π, κ, ρ, c, α, β, μ) 1 = (1, (π, κ, ρ, 0, α, κ, um (um μ 1 1 1) 2 1 (μ 3 0))) := rfl
      rw [e] at k
      refine M_copyRow (x := 0) (y := 6192) ho (by omega) (by omega) (by omega) (fun I1 hf1 he1 => B_X9_keep_26 ho ⟨1, rfl, by omega, fun I2 e2 I3 e3 I4 e4 => ?_⟩)
      have s6 : I1 308 6 = nI (μ 3 0) := by rw [hf1.1 308 (by decide)]; exact y5
      have s5 : I2 308 5 = nI (μ 1 0 + 2 * μ 1 1) := by rw [e2, e_st_a (by decide), hf1.1 308 (by decide)]; exact y4.1
      rw [s6] at e2
      rw [s5, or_k1 _ (by omega) _ (by omega)] at e3
      have ro : ∀ a, a ≠ 308 → a ≠ 309 → a ≠ 311 → I4 a = I a := fun a a1 a2 a3 => by rw [e4, e_st_a a1, e3, e_st_a a1, e2, e_st_a a3, hf1.1 a a2]
      have r8 : ∀ q, q ≠ 4 → q ≠ 5 → I4 308 q = I 308 q := fun q h4 h5 => by rw [e4, e_st_k h4, e3, e_st_k h5, e2, e_st_a (by decide), hf1.1 308 (by decide)]
      have r9 : I4 309 = I1 309 := by rw [e4, e_st_a (by decide), e3, e_st_a (by decide), e2, e_st_a (by decide)]
      have r11 : I4 311 = upd (I 311) 1 (nI (μ 3 0)) := by rw [e4, e_st_a (by decide), e3, e_st_a (by decide), e2, e_st_row, hf1.1 311 (by decide)]
      refine k I4 (fun a ha => ro a (by omega) (by omega) (by omega)) ⟨?_, y2.fr hW hK.z8 (fun q _ _ => by rw [r9, hf1.2 q (by omega)]), ⟨by omega, by rw [e4, e_st_same]; rfl, fun j hj => absurd hj (by omega)⟩, ⟨?_, fun q => ⟨?_, ?_⟩, fun _ => ⟨?_, ?_⟩⟩, ?_, ?_, ?_⟩
      · unfold hO at *; rw [r8 1 (by decide) (by decide), r8 2 (by decide) (by decide), ro 310 (by decide) (by decide) (by decide)]; exact y1
      · rw [e4, e_st_k (by decide), e3, e_st_same]; rfl
      · exact (y4.2.1 q).1.fr hW (hG.z8a q) (fun q' b1 b2 => by rw [r9, hf1.2 q' (by omega)])
      · rw [r11, xd_ne (by decide)]; exact (y4.2.1 q).2
      · exact y2.cp hW hK.z8 (fun q hq => by rw [r9]; exact he1 q hq)
      · rw [r11, xd_same]; rfl
      · rw [r8 6 (by decide) (by decide)]; exact y5
      · have : hYb I4 μ := by unfold hYb at *; rw [r8 10 (by decide) (by decide), ro 312 (by decide) (by decide) (by decide), ro 313 (by decide) (by decide) (by decide)]; exact y6
        exact this
      · have : hYt I4 μ := by unfold hYt at *; rw [r8 12 (by decide) (by decide), r8 13 (by decide) (by decide), ro 314 (by decide) (by decide) (by decide)]; exact y7
        exact this
theorem XM_back (ho : isO z) {y j sd : Nat} {γ : Kt} (hX : hY I (π, κ, ρ, c, α, β, μ)) (hG : WG T (π, κ, ρ, c, α, β, μ)) (hy : 344 ≤ y) (hy2 : y + 344 ≤ 6880) (hj : j < 2) (hr : hR I y π γ) (hz8 : Z8 π γ) (hsd : I 311 j = nI sd) (k : ∀ I', FrY I I' → hY I' (π, γ, ρ, 0, α, β, um μ 3 0 sd) → Q (some (.int 1)) z I') : E mX9_copyRow 0 0 0 [some (.ref 308), some (.int (nI y)), some (.int 0), none] [] z I (fun r z' I' => E mX9_goBack mc ms 40 [some (.ref 308), some (.int (nI j))] (r.toList ++ []) z' I' Q) := by
  obtain ⟨y1, y2, y3, y4, y5, y6, y7⟩ := id hX
  have hW := hG.1
  refine M_copyRow (y := 0) ho (by omega) (by omega) (by omega) (fun I1 hf1 he1 => B_X9_goBack_40 ho ⟨j, rfl, by omega, fun I2 e2 I3 e3 => ?_⟩)
  have s11 : I1 311 j = nI sd := by rw [hf1.1 311 (by decide)]; exact hsd
  rw [s11] at e2
  have ro : ∀ a, a ≠ 308 → a ≠ 309 → I3 a = I a := fun a a1 a2 => by rw [e3, e_st_a a1, e2, e_st_a a1, hf1.1 a a2]
  have r8 : ∀ q, q ≠ 4 → q ≠ 6 → I3 308 q = I 308 q := fun q h4 h5 => by rw [e3, e_st_k h4, e2, e_st_k h5, hf1.1 308 (by decide)]
  have r9 : I3 309 = I1 309 := by rw [e3, e_st_a (by decide), e2, e_st_a (by decide)]
  refine k I3 (fun a ha => ro a (by omega) (by omega)) ⟨?_, hr.cp hW hz8 (fun q hq => by rw [r9]; exact he1 q hq), ⟨by omega, by rw [e3, e_st_same]; rfl, fun j hj => absurd hj (by omega)⟩, ?_, by rw [e3, e_st_k (by decide), e2, e_st_same, um_same], ?_, ?_⟩
  · unfold hO at *; rw [r8 1 (by decide) (by decide), r8 2 (by decide) (by decide), ro 310 (by decide) (by decide)]; exact y1
  · have := hYi.fr (I' := I3) y4 hW hG.z8a hG.z8b (r8 5 (by decide) (by decide)) (ro 311 (by decide) (by decide)) (fun q _ _ => by rw [r9, hf1.2 q (by omega)])
    exact this
  · have : hYb I3 μ := by unfold hYb at *; rw [r8 10 (by decide) (by decide), ro 312 (by decide) (by decide), ro 313 (by decide) (by decide)]; exact y6
    exact this
  · have : hYt I3 μ := by unfold hYt at *; rw [r8 12 (by decide) (by decide), r8 13 (by decide) (by decide), ro 314 (by decide) (by decide)]; exact y7
    exact this
theorem N_goBack (ho : isO z) (hX : hY I (π, κ, ρ, c, α, β, μ)) (hG : WG T (π, κ, ρ, c, α, β, μ)) (k : ∀ I', FrY I I' → hY I' (oBack (π, κ, ρ, c, α, β, μ) x1).2 → Q (some (.int (oBack (π, κ, ρ, c, α, β, μ) x1).1)) z I') : E mX9_goBack mc ms 0 [some (.ref 308), some (.int x1)] [] z I Q := by
  obtain ⟨y1, y2, y3, y4, y5, y6, y7⟩ := id hX
  obtain ⟨hW, ⟨hK, hKT⟩, hc, hi1, hi2, hs, hB, hTz⟩ := id hG
  have m0 := hi1.1
  have m1 := hi2.1
  refine B_X9_goBack_0 ho ⟨fun h => ?_, fun h1 => ⟨fun h => ?_, fun h2 => ?_⟩⟩
  · have e : oBack (π, κ, ρ, c, α, β, μ) x1 = _ := if_neg (fun q => by subst q; exact absurd h (by decide))
    rw [if_neg (fun q => by subst q; exact absurd h (by decide))] at e
    rw [e] at k; exact k I FrY.rf hX
  · have e : oBack (π, κ, ρ, c, α, β, μ) x1 = _ := if_neg (fun q => by subst q; exact absurd h (by decide))
    rw [if_neg (fun q => by subst q; exact absurd h (by decide))] at e
    rw [e] at k; exact k I FrY.rf hX
  · rw [y4.1]
    rcases in01 h1 h2 with q | q
    · subst q
      have e : oBack (π, κ, ρ, c, α, β, μ) 0 = if μ 1 0 = 1 then (1, (π, α, ρ, 0, α, β, um μ 3 0 (μ 2 0))) else (-1000000003, (π, κ, ρ, c, α, β, μ)) := rfl
      rw [bt_k0 _ (by omega) _ (by omega)]
      refine ⟨fun q => ?_, fun q => ?_⟩
      · have q1 : μ 1 0 = 1 := by omega
        rw [if_pos q1] at e
        rw [e] at k
        exact XM_back (y := 5848) (j := 0) ho hX hG (by omega) (by omega) (by omega) (y4.2.1 q1).1 (hG.z8a q1) (y4.2.1 q1).2 k
      · rw [if_neg (by omega)] at e
        rw [e] at k; exact k I FrY.rf hX
    · subst q
      have e : oBack (π, κ, ρ, c, α, β, μ) 1 = if μ 1 1 = 1 then (1, (π, β, ρ, 0, α, β, um μ 3 0 (μ 2 1))) else (-1000000003, (π, κ, ρ, c, α, β, μ)) := rfl
      rw [bt_k1 _ (by omega) _ (by omega)]
      refine ⟨fun q => ?_, fun q => ?_⟩
      · have q1 : μ 1 1 = 1 := by omega
        rw [if_pos q1] at e
        rw [e] at k
        exact XM_back (y := 6192) (j := 1) ho hX hG (by omega) (by omega) (by omega) (y4.2.2 q1).1 (hG.z8b q1) (y4.2.2 q1).2 k
      · rw [if_neg (by omega)] at e
        rw [e] at k; exact k I FrY.rf hX
end Y3
