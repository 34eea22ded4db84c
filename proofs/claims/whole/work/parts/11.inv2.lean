/-! ===== a step ===== -/
def fin (κ : Kt) : Kt := emq (ku κ 2 1)
def sg (π : Pt) (κ : Kt) : Nat := if mk (chd π κ) = 0 then 0 else 1
def st (π : Pt) : Nat → Nat → Kt → Kt
  | 0, _, κ => κ
  | n + 1, s, κ => if er κ 8 ≤ κ 0 0 0 then (if s + sg π κ = 40 then fin (cy π κ) else st π n (s + sg π κ) (cy π κ)) else κ
def sp (π : Pt) (κ : Kt) : Kt := st π 1000 0 (ku κ 0 (er κ 8))
section I2
variable {π : Pt} {κ : Kt}
theorem emq_f {f : Nat} (h : f ≠ 12 ∧ f ≠ 3) : emq κ f = κ f := by
  funext i j
  unfold emq
  rw [if_neg h.1, if_neg (fun q => h.2 q.1)]
theorem fin_f {f : Nat} (h : f ≠ 12 ∧ f ≠ 3 ∧ f ≠ 2) : fin κ f = κ f := by
  unfold fin
  rw [emq_f ⟨h.1, h.2.1⟩, ku_f h.2.2]
theorem fin_12 (g k : Nat) : fin κ 12 g k = 0 := by unfold fin emq; rw [if_pos rfl]
theorem fin_3 : fin κ 3 0 0 = 0 := by unfold fin emq; rw [if_neg (by decide), if_pos ⟨rfl, rfl, rfl⟩]
theorem fin_2 : fin κ 2 0 0 = 1 := by unfold fin; rw [emq_f (by omega), ku_same]
theorem fin_WK (h : WK π κ) : WK π (fin κ) := by
  obtain ⟨hL, hQ, hB, hH, hD, hN, hC, hE, hZ⟩ := h
  refine ⟨?_, fun g hg => ?_, ?_, ?_, fun w hw hd => ?_, fun g _ => fin_12 g 0, ?_, ?_, fun _ => ⟨fun g => fin_12 g 0, fin_3⟩⟩
  · unfold LB at *; rw [fin_f (by omega), fin_f (by omega)]; exact hL
  · rw [fin_12]; exact ⟨by omega, fun k hk => by omega, fun k hk => by omega⟩
  · unfold WB at *; rw [fin_f (by omega), fin_f (by omega), fin_f (by omega), fin_f (by omega), fin_f (by omega)]; exact hB
  · unfold WH; rw [fin_3]; exact ⟨by omega, fun k hk => by omega, fun k hk => by omega⟩
  · rw [fin_f (by omega), hD w hw hd]
    exact (dl_congr (fun i _ => by rw [fin_f (by omega)]) _).symm
  · rw [fin_f (by omega)]; exact hC
  · rw [fin_2]; omega
theorem er_empty (h1 : ∀ g, κ 12 g 0 = 0) (h2 : κ 3 0 0 = 0) : ∀ n, er κ n = 2147483647
  | 0 => by unfold er; rw [if_neg (by omega)]
  | n + 1 => by unfold er; rw [if_neg (by have := h1 n; omega)]; exact er_empty h1 h2 n
theorem st_time : ∀ n s κ, st π n s κ 0 = κ 0
  | 0, _, _ => rfl
  | n + 1, s, κ => by
    unfold st
    split
    · split
      · rw [fin_f (by omega), cy_0]
      · rw [st_time n, cy_0]
    · rfl
theorem st_WK (hW : WP π) : ∀ n s κ, WK π κ → κ 2 0 0 = 0 → WK π (st π n s κ)
  | 0, _, _, h, _ => h
  | n + 1, s, κ, h, h2 => by
    unfold st
    have hc := cy_WK hW h h2
    split
    · split
      · exact fin_WK hc
      · exact st_WK hW n _ _ hc (by rw [cy_2]; exact h2)
    · exact h
/-- what bounds the cycles of a step -/
def ph (π : Pt) (κ : Kt) (s : Nat) : Nat := 2 * (40 - s) + κ 3 0 0 + (if ad κ (π 1 0) = true then 1 else 0)
theorem mk_z {P : Nat → Bool} (h : mk P = 0) : ∀ i, i < 8 → P i = false := fun i hi => by
  cases e : P i with
  | false => rfl
  | true => exact absurd h (mk_ne hi e)
theorem tlA_id {W : Nat → Bool} : ∀ n, (∀ g, g < n → W g = false) → tlA π W κ n = κ
  | 0, _ => rfl
  | n + 1, h => by
    unfold tlA
    rw [h n (by omega), if_neg (by decide)]
    exact tlA_id n (fun g hg => h g (by omega))
theorem still_due (hW : WP π) (h : WK π κ) (hm : mk (chd π κ) = 0) : ad (cy π κ) (π 1 0) = false := by
  obtain ⟨hL, hQ, -⟩ := h
  have hz : ∀ i, chd π κ i = false := fun i => by
    rcases Nat.lt_or_ge i 8 with q | q
    · exact mk_z hm i q
    · unfold chd; rw [decide_eq_false (by have := hW.1; omega)]; rfl
  have e : cy π κ = cy3 π κ := tlA_id _ (fun g _ => by unfold wk; rw [hz, hz]; simp)
  cases hc : ad (cy π κ) (π 1 0) with
  | false => rfl
  | true =>
    exfalso
    obtain ⟨g, hg, hd⟩ := (ad_iff _).mp hc
    rw [e] at hd
    have hd' := due_iff.mp hd
    rw [cy3_f (by omega), cy3_f (by omega), cy3_f (by omega), cy2_q (by omega), cy2_q (by omega), cy2_q (by omega), tkQ_f (f := 0) (by omega)] at hd'
    obtain ⟨d1, d2⟩ := hd'
    by_cases hq : g < π 1 0 ∧ 0 < κ 12 g 0 ∧ κ 13 g 0 = κ 0 0 0
    · have e12 : tkQ κ (π 1 0) 12 g 0 = κ 12 g 0 - 1 := by unfold tkQ; rw [if_pos hq]; rfl
      have e13 : tkQ κ (π 1 0) 13 g 0 = κ 13 g 1 := by unfold tkQ; rw [if_pos hq]; rfl
      rw [e12] at d1
      rw [e13] at d2
      have : κ 13 g 0 < κ 13 g 1 := (hQ g hg).2.2 0 (by omega)
      omega
    · have e12 : ∀ f, tkQ κ (π 1 0) f g 0 = κ f g 0 := fun f => by unfold tkQ; rw [if_neg hq]
      rw [e12] at d1 d2
      exact hq ⟨hg, d1, d2⟩
theorem ph_step (hW : WP π) (h : WK π κ) (hT : κ 0 0 0 + 20 < 2147483647) {s : Nat} (hs : s < 40) (hd : er κ 8 ≤ κ 0 0 0) (hn : s + sg π κ ≠ 40) : ph π (cy π κ) (s + sg π κ) < ph π κ s := by
  unfold ph
  have e3 := cy_3 (π := π) (κ := κ)
  have hl : cy π κ 3 0 0 ≤ κ 3 0 0 := by rw [e3]; split <;> omega
  by_cases hm : mk (chd π κ) = 0
  · have e : sg π κ = 0 := by unfold sg; rw [if_pos hm]
    rw [e, still_due hW h hm, if_neg (by decide)]
    obtain ⟨hL, hQ, hB, hH, hD, hN, -⟩ := h
    cases ha : ad κ (π 1 0) with
    | true => rw [if_pos rfl]; omega
    | false =>
      rw [if_neg (by decide)]
      have hh : hdu κ = true := by
        rcases er_in (κ := κ) 8 with a | ⟨a, b⟩ | ⟨g, a, b, c⟩
        · omega
        · exact hdu_iff.mpr ⟨a, by have := (hH.2.1 0 a).1; omega⟩
        · exfalso
          rcases Nat.lt_or_ge g (π 1 0) with q | q
          · have h0 := ((hQ g q).2.1 0 b).1
            have : ad κ (π 1 0) = true := (ad_iff _).mpr ⟨g, q, due_iff.mpr ⟨b, by omega⟩⟩
            rw [ha] at this; cases this
          · have := hN g q; omega
      rw [hh, if_pos rfl] at e3
      have := (hdu_iff.mp hh).1
      omega
  · have e : sg π κ = 1 := by unfold sg; rw [if_neg hm]
    rw [e] at hn ⊢
    have : (if ad (cy π κ) (π 1 0) = true then 1 else 0 : Nat) ≤ 1 := by split <;> omega
    omega
theorem st_end (hW : WP π) : ∀ n s κ, WK π κ → κ 2 0 0 = 0 → κ 0 0 0 + 20 < 2147483647 → s < 40 → ph π κ s ≤ n → st π n s κ 2 0 0 = 1 ∨ κ 0 0 0 < er (st π n s κ) 8
  | 0, s, κ, _, _, _, hs, hp => by unfold ph at hp; omega
  | n + 1, s, κ, h, h2, hT, hs, hp => by
    unfold st
    by_cases hd : er κ 8 ≤ κ 0 0 0
    · rw [if_pos hd]
      by_cases hn : s + sg π κ = 40
      · rw [if_pos hn]; exact Or.inl fin_2
      · rw [if_neg hn]
        have hph := ph_step hW h hT hs hd hn
        have hsg : sg π κ ≤ 1 := by unfold sg; split <;> omega
        have := st_end hW n (s + sg π κ) (cy π κ) (cy_WK hW h h2) (by rw [cy_2]; exact h2) (by rw [cy_0]; exact hT) (by omega) (by omega)
        rw [cy_0] at this
        exact this
    · rw [if_neg hd]; exact Or.inr (by omega)
theorem ph_le (h : WK π κ) : ph π κ 0 ≤ 89 := by
  unfold ph
  have := h.2.2.2.1.1
  split <;> omega
/-- a step: what it keeps -/
theorem sp_time : sp π κ 0 0 0 = er κ 8 := by unfold sp; rw [st_time, ku_same]
theorem sp_WK (hW : WP π) (h : WK π κ) (h2 : κ 2 0 0 = 0) (hT : κ 0 0 0 ≤ 2147483647) : WK π (sp π κ) :=
  st_WK hW _ _ _ (h.time hW (h.er_ge hT) (Nat.le_refl _)) (by rw [ku_f (by decide)]; exact h2)
theorem er_ku0 {t : Nat} : ∀ n, er (ku κ 0 t) n = er κ n
  | 0 => by unfold er; rw [ku_f (by decide), ku_f (by decide)]
  | n + 1 => by unfold er; rw [ku_f (by decide), ku_f (by decide), er_ku0 n]
theorem sp_end (hW : WP π) (h : WK π κ) (h2 : κ 2 0 0 = 0) (hT : κ 0 0 0 + 40 < 2147483647) (hs : er κ 8 ≠ 2147483647) : sp π κ 2 0 0 = 1 ∨ er κ 8 < er (sp π κ) 8 := by
  have h' := h.time hW (h.er_ge (by omega)) (Nat.le_refl _)
  have := h.er_le
  have hp := ph_le h'
  have q := st_end hW 1000 0 (ku κ 0 (er κ 8)) h' (by rw [ku_f (by decide)]; exact h2) (by rw [ku_same]; omega) (by omega) (by omega)
  rw [ku_same] at q
  exact q
end I2
/-! the class makes a step -/
section C7
variable {mc ms : Nat} {z : Zt} {I : It} {Q : Option Value → Zt → It → Prop} {m p : Nat} {π : Pt} {κ : Kt}
theorem hM.sc {J I1 : It} (h : hM J m π κ) {f q c : Nat} (hfq : (f = 0 ∧ q = 0) ∨ (f = 1 ∧ q = 1) ∨ (f = 2 ∧ q = 2)) (e : I1 = e_st J m q (nI c)) : hM I1 m π (ku κ f c) := by
  obtain ⟨x1, x2, x3, x4⟩ := h
  have ro : ∀ a, a ≠ m → I1 a = J a := fun a ha => by rw [e, e_st_a ha]
  have kf : ∀ f', 3 ≤ f' → ku κ f c f' = κ f' := fun f' hf' => ku_f (by omega)
  refine ⟨?_, x2.to (by rw [e, e_st_k (by omega)]) (ro _ (by omega)) (ro _ (by omega)) (ro _ (by omega)) (ro _ (by omega)) (ro _ (by omega)) (ro _ (by omega)) (kf _ (by omega)) (kf _ (by omega)) (kf _ (by omega)) (kf _ (by omega)) (kf _ (by omega)) (kf _ (by omega)), x3.to (ro _ (by omega)) (ro _ (by omega)) (ro _ (by omega)) (ro _ (by omega)) (kf _ (by omega)) (kf _ (by omega)) (kf _ (by omega)) (kf _ (by omega)), x4.to (ro _ (by omega)) (ro _ (by omega)) (ro _ (by omega)) (by rw [kf _ (by omega)]) (kf _ (by omega)) (kf _ (by omega)) (kf _ (by omega))⟩
  unfold hMs at *
  obtain ⟨y0, y1, y2, y3⟩ := x1
  rw [e]
  rcases hfq with ⟨rfl, rfl⟩ | ⟨rfl, rfl⟩ | ⟨rfl, rfl⟩
  · rw [e_st_same, e_st_k (by decide), e_st_k (by decide), e_st_k (by decide), ku_same, ku_f (by decide), ku_f (by decide), ku_f (by decide)]; exact ⟨rfl, y1, y2, y3⟩
  · rw [e_st_same, e_st_k (by decide), e_st_k (by decide), e_st_k (by decide), ku_same, ku_f (by decide), ku_f (by decide), ku_f (by decide)]; exact ⟨y0, rfl, y2, y3⟩
  · rw [e_st_same, e_st_k (by decide), e_st_k (by decide), e_st_k (by decide), ku_same, ku_f (by decide), ku_f (by decide), ku_f (by decide)]; exact ⟨y0, y1, rfl, y3⟩
theorem FrM.sc {J I1 : It} {q : Nat} {v : Int32} (e : I1 = e_st J m q v) : FrM m J I1 := fun a ha => by rw [e, e_st_a (by omega)]
theorem C_isStill (hm : isM z m) (hX : hM I m π κ) (hT : TB π κ) (k : Q (some (.int (if er κ 8 = 2147483647 then 1 else 0))) z I) : E mX4_isStill mc ms 0 [some (.ref m)] [] z I Q := by
  refine B_X4_isStill_0 hm (C_earliest hm hX hT ?_)
  have := er_le hT 8 (by omega)
  refine B_X4_isStill_4 (pk_ne (er κ 8) 2147483647 (fun h => ?_) (fun h => ?_))
  · rw [if_neg h] at k; exact k
  · rw [if_pos h] at k; exact k
theorem L_advance (hm : isM z m) (hp : isP z p) (hpm : p + 7 < m) (hPl : hP I p π) (hW : WP π) : ∀ (n i s : Nat) (J : It) (κ : Kt), i + n = 1000 → s < 40 → FrM m I J → hM J m π κ → WK π κ → κ 2 0 0 = 0 → κ 0 0 0 + 20 < 2147483647 → (∀ I', FrM m I I' → hM I' m π (st π n s κ) → Q none z I') → E mX4_advance mc ms 19 [some (.ref m), some (.ref p), some (.int (nI s)), some (.int (nI i))] [] z J Q := by
  intro n
  induction n with
  | zero =>
    intro i s J κ hi hs hf h hK h2 hT k
    exact B_X4_advance_19 hm hp (pk_le 1000 i (fun _ => k J hf h) (fun h => absurd h (by omega)))
  | succ n ih =>
    intro i s J κ hi hs hf h hK h2 hT k
    have hPJ := hPl.to hf hpm
    obtain ⟨hL, hQ, hB, hH, hD, hN, hC, hE, hZ⟩ := hK
    have hTB := WK.tb ⟨hL, hQ, hB, hH, hD, hN, hC, hE, hZ⟩ hT
    have hle := er_le hTB 8 (by omega)
    refine B_X4_advance_19 hm hp (pk_le 1000 i (fun h => absurd h (by omega)) (fun _ => ?_))
    rw [h.1.2.2.1, h2]
    refine ⟨fun q => absurd rfl q, fun _ => C_earliest hm h hTB ?_⟩
    refine B_X4_advance_37 hm hp ?_
    rw [h.1.1]
    refine pk_lt (κ 0 0 0) (er κ 8) (fun hlt => ?_) (fun hge => ?_)
    · refine k J hf ?_
      unfold st
      rw [if_neg (by omega)]; exact h
    · unfold st at k
      rw [if_pos (by omega)] at k
      refine C_makeCycle hm hp hpm h hPJ hW hL hQ hB hH hD (by omega) hC (fun I' hf' h' => ?_)
      have hK' := cy_WK hW ⟨hL, hQ, hB, hH, hD, hN, hC, hE, hZ⟩ h2
      have hT' : cy π κ 0 0 0 + 20 < 2147483647 := by rw [cy_0]; exact hT
      have h2' : cy π κ 2 0 0 = 0 := by rw [cy_2]; exact h2
      have hn : nI i + 1 = nI (i + 1) := nI_1 i
      have hs1 : nI s + 1 = nI (s + 1) := nI_1 s
      refine B_X4_advance_49 hm hp ?_
      by_cases hm0 : mk (chd π κ) = 0
      · have e : sg π κ = 0 := by unfold sg; rw [if_pos hm0]
        rw [if_pos hm0]
        rw [e, if_neg (by omega)] at k
        refine ⟨fun _ => pk_lt s 40 (fun _ => ?_) (fun h => absurd h (by omega)), fun q => absurd rfl q⟩
        rw [hn]
        exact ih (i + 1) s I' _ (by omega) hs (hf.tr hf') h' hK' h2' hT' k
      · have e : sg π κ = 1 := by unfold sg; rw [if_neg hm0]
        rw [if_neg hm0]
        rw [e] at k
        refine ⟨fun q => absurd q (by decide), fun _ => ?_⟩
        rw [hs1]
        refine pk_lt (s + 1) 40 (fun hlt => ?_) (fun hge I1 e1 => ?_)
        · rw [if_neg (by omega)] at k
          refine B_X4_advance_70 hm hp ?_
          rw [hn]
          exact ih (i + 1) (s + 1) I' _ (by omega) hlt (hf.tr hf') h' hK' h2' hT' k
        · rw [if_pos (by omega)] at k
          have h1 : hM I1 m π (ku (cy π κ) 2 1) := h'.sc (Or.inr (Or.inr ⟨rfl, rfl⟩)) e1
          refine C_emptyQueues hm h1 (fun I2 hf2 hx => ?_)
          refine B_X4_advance_70 hm hp ?_
          rw [hn]
          have kk := k I2 (((hf.tr hf').tr (FrM.sc e1)).tr hf2) hx
          refine B_X4_advance_19 hm hp (pk_le 1000 (i + 1) (fun _ => kk) (fun _ => ?_))
          rw [hx.1.2.2.1]
          have e2 : emq (ku (cy π κ) 2 1) 2 0 0 = 1 := fin_2
          rw [e2]
          exact ⟨fun _ => kk, fun q => absurd q (by decide)⟩
theorem C_advance (hm : isM z m) (hp : isP z p) (hpm : p + 7 < m) (hX : hM I m π κ) (hPl : hP I p π) (hW : WP π) (hK : WK π κ) (h2 : κ 2 0 0 = 0) (hT : κ 0 0 0 + 40 < 2147483647) (hs : er κ 8 ≠ 2147483647) (k : ∀ I', FrM m I I' → hM I' m π (sp π κ) → Q none z I') : E mX4_advance mc ms 0 [some (.ref m), some (.ref p), none, none] [] z I Q := by
  have hTB := hK.tb (by omega)
  refine B_X4_advance_0 hm hp (C_earliest hm hX hTB ?_)
  refine B_X4_advance_9 hm hp (fun I1 e1 => ?_)
  have h1 := hK.er_ge (by omega)
  have h3 := hK.er_le
  rw [hX.1.1] at e1
  have e1' : I1 = e_st I m 0 (nI (er κ 8)) := by
    rw [e1]
    by_cases hq : κ 0 0 0 < er κ 8
    · rw [if_pos ((nI_ltI (by omega) (by omega)).mpr hq)]
    · rw [if_neg (fun q => hq ((nI_ltI (by omega) (by omega)).mp q)), show κ 0 0 0 = er κ 8 by omega]
  have hx := hX.sc (f := 0) (Or.inl ⟨rfl, rfl⟩) e1'
  exact L_advance hm hp hpm hPl hW 1000 0 0 I1 _ (by omega) (by omega) (FrM.sc e1) hx (hK.time hW h1 (Nat.le_refl _)) (by rw [ku_f (by decide)]; exact h2) (by rw [ku_same]; omega) k
end C7
