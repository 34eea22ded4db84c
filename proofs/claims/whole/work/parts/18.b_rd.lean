/-! ===== the reference reads a clause ===== -/
def hPN (I : It) (π : Pt) (lv : Nat → Nat) : Prop := I 308 18 = nI (π 0 0) ∧ I 308 19 = nI (π 1 0) ∧ (∀ w, w < π 0 0 → I 315 w = nI (lv w)) ∧ ∀ g, g < π 1 0 → ∀ j, j < 6 → I 316 (6 * g + j) = nI (π (2 + j) g)
def FrN (I I' : It) : Prop := (∀ a, a ≠ 308 → a ≠ 315 → a ≠ 316 → I' a = I a) ∧ ∀ j, (j < 14 ∨ 19 < j) → I' 308 j = I 308 j
theorem FrN.rf {I : It} : FrN I I := ⟨fun _ _ _ _ => rfl, fun _ _ => rfl⟩
theorem FrN.tr {I I' I'' : It} (h : FrN I I') (h' : FrN I' I'') : FrN I I'' := ⟨fun a x y w => (h'.1 a x y w).trans (h.1 a x y w), fun j a => (h'.2 j a).trans (h.2 j a)⟩
theorem FrN.f9 {I I' : It} (h : Fr9 I I') : FrN I I' := ⟨fun a x _ _ => h.1 a x, fun j a => h.2 j (by omega) (by omega) (by omega) (by omega)⟩
theorem FrN.st {I I' : It} {j : Nat} {v : Int32} (e : I' = e_st I 308 j v) (hj : 13 < j) (hj2 : j < 20) : FrN I I' := ⟨fun a ha _ _ => by rw [e, e_st_a ha], fun i a => by rw [e, e_st_k (by omega)]⟩
theorem FrN.sa {I I' : It} {a j : Nat} {v : Int32} (e : I' = e_st I a j v) (h : a = 315 ∨ a = 316) : FrN I I' := ⟨fun b _ h5 h6 => by rw [e, e_st_a (by omega)], fun i _ => by rw [e, e_st_a (by omega)]⟩
def wR (t : Nat → Nat) (n : Nat) (π : Pt) (p0 : Nat) : St := if π 0 0 = 8 then (3, p0, 0) else w2 t n p0
def gR (t : Nat → Nat) (n : Nat) (π : Pt) (p0 : Nat) : St := if π 1 0 = 8 then (3, p0, 0) else q8 t n (π 0 0) p0
theorem en_f {t : Nat → Nat} {n : Nat} {s : St} (h : s.1 ≠ 0) : en t n s = s := if_pos h
theorem wS_wR {t : Nat → Nat} {n : Nat} {π : Pt} {p0 : Nat} : wS t n π p0 = en t n (wR t n π p0) := by
  unfold wS wR
  by_cases h : π 0 0 = 8
  · rw [if_pos h, if_pos h, en_f (by show ¬ (3 : Nat) = 0; omega)]
  · rw [if_neg h, if_neg h]; rfl
theorem gS_gR {t : Nat → Nat} {n : Nat} {π : Pt} {p0 : Nat} : gS t n π p0 = en t n (gR t n π p0) := by
  unfold gS gR
  by_cases h : π 1 0 = 8
  · rw [if_pos h, if_pos h, en_f (by show ¬ (3 : Nat) = 0; omega)]
  · rw [if_neg h, if_neg h]; rfl
theorem gt_lit {L : Nat} (hL : 0 < L) (hL2 : L < 3000) : ∀ v, v < 3000 → (nI (L - 1) < nI v ↔ L ≤ v) := fun v hv => by
  have a := le_lit hL hL2 v hv
  have b : (nI (L - 1) < nI v) ↔ ¬ (nI v ≤ nI (L - 1)) := ⟨fun h q => absurd h (Int32.not_lt.mpr q), fun h => Int32.not_le.mp h⟩
  rw [b, a]; omega
theorem gt_pred {W : Nat} (hW : W ≤ 8) : ∀ v, v < 3000 → (nI W - 1 < nI v ↔ W ≤ v) := fun v hv => by
  have a := le_pred hW v hv
  have b : (nI W - 1 < nI v) ↔ ¬ (nI v ≤ nI W - 1) := ⟨fun h q => absurd h (Int32.not_lt.mpr q), fun h => Int32.not_le.mp h⟩
  rw [b, a]; omega
section S2
variable {mc ms : Nat} {z : Zt} {I I' J : It} {Q : Option Value → Zt → It → Prop} {t : Nat → Nat} {n b L p0 : Nat} {s : St} {π : Pt} {lv : Nat → Nat}
theorem hV9.to (h : hV9 I t n s b) (h1 : J 308 = I 308) (h2 : J 314 = I 314) : hV9 J t n s b := by
  obtain ⟨a, c, q, d, e, f⟩ := h
  exact ⟨a.to (by rw [h1]) h2, c.to (by rw [h1]) (by rw [h1]), q, d, by rw [h1]; exact e, f⟩
theorem hV9.tj (h : hV9 I t n s b) (h1 : ∀ j, j < 17 → J 308 j = I 308 j) (h2 : J 314 = I 314) : hV9 J t n s b := by
  obtain ⟨a, c, q, d, e, f⟩ := h
  exact ⟨a.to (h1 12 (by omega)) h2, c.to (h1 15 (by omega)) (h1 16 (by omega)), q, d, by rw [h1 14 (by omega)]; exact e, f⟩
theorem hV9.le {b' : Nat} (h : hV9 I t n s b) (hb : b ≤ b') : hV9 I t n s b' := by
  obtain ⟨a, c, q, d, e, f⟩ := h
  exact ⟨a, c, q, by omega, e, f⟩
theorem hV9.flt {c fp : Nat} {I1 I2 : It} {w : Int32} (h : hV9 I t n s b) (hc : 0 < c) (hc4 : c ≤ 4) (e1 : I1 = e_st I 308 15 (nI c)) (e2 : I2 = e_st I1 308 16 w) (hw : w = nI fp) : hV9 I2 t n (c, fp, 0) b := by
  obtain ⟨a, d, q, e, f, g⟩ := h
  exact ⟨a.to (by rw [e2, e_st_k (by decide), e1, e_st_k (by decide)]) (by rw [e2, e_st_a (by decide), e1, e_st_a (by decide)]), hF9.set hc hc4 e1 e2 hw, q, e, by rw [e2, e_st_k (by decide), e1, e_st_k (by decide)]; exact f, fun x => absurd x (by show ¬ c = 0; omega)⟩
theorem M_readWire (ho : isO z) (h : hV9 I t n (q1 p0) 201) (hB : hPN I π lv) (hW : WP π) (k : ∀ I', FrN I I' → hV9 I' t n (wR t n π p0) 201 → ((wR t n π p0).1 = 0 → hPN I' (aW π) (fun i => if i = π 0 0 then nv t n (q1 p0) else lv i)) → Q none z I') : E mX9_readWire mc ms 0 [some (.ref 308), some (.int (nI p0))] [] z I Q := by
  have hw0 := hW.1
  obtain ⟨b1, b2, b3, b4⟩ := hB
  refine B_X9_readWire_0 ho ?_
  rw [b1]
  refine pk_ne (π 0 0) 8 (fun h8 => ?_) (fun h8 => ?_)
  · have e0 : wR t n π p0 = w2 t n p0 := if_neg h8
    rw [e0] at k
    refine M_number (L := 4) ho h (by omega) (by omega) (gt_lit (L := 4) (by omega) (by omega)) (fun I2 y hf2 h2 hy => B_X9_readWire_30 ho ⟨π 0 0, rfl, by omega, fun I3 e3 I4 e4 => ?_⟩)
    have f3 : FrN I2 I3 := FrN.sa e3 (by omega)
    have f4 : FrN I3 I4 := FrN.st e4 (by omega) (by omega)
    have h18 : I3 308 18 = nI (π 0 0) := by rw [e3, e_st_a (by decide), hf2.2 18 (by decide) (by decide) (by decide) (by decide)]; exact b1
    rw [h18, nI_1] at e4
    refine k I4 (((FrN.f9 hf2).tr f3).tr f4) (h2.tj (fun j hj => by rw [e4, e_st_k (by omega), e3, e_st_a (by decide)]) (by rw [e4, e_st_a (by decide), e3, e_st_a (by decide)])) (fun h0 => ⟨?_, ?_, fun w hw => ?_, fun g hg j hj => ?_⟩)
    · rw [e4, e_st_same]; rfl
    · rw [e4, e_st_k (by decide), e3, e_st_a (by decide), hf2.2 19 (by decide) (by decide) (by decide) (by decide)]; exact b2
    · have hw' : w < π 0 0 + 1 := hw
      rw [e4, e_st_a (by decide), e3, e_st_row, hf2.1 315 (by decide)]
      show upd _ _ _ _ = nI (if w = π 0 0 then _ else _)
      by_cases ew : w = π 0 0
      · subst ew
        rw [xd_same, if_pos rfl]; exact (hy h0).1
      · rw [xd_ne ew, if_neg ew]; exact b3 w (by omega)
    · have e' : aW π (2 + j) g = π (2 + j) g := if_neg (by omega)
      rw [e4, e_st_a (by decide), e3, e_st_a (by decide), hf2.1 316 (by decide), e']
      exact b4 g hg j hj
  · have e0 : wR t n π p0 = (3, p0, 0) := if_pos h8
    rw [e0] at k
    rw [h.2.1.1]
    refine ⟨fun q => absurd rfl q, fun _ I1 e1 I2 e2 => ?_⟩
    exact k I2 ((FrN.st e1 (by omega) (by omega)).tr (FrN.st e2 (by omega) (by omega))) (h.flt (c := 3) (by omega) (by omega) e1 e2 rfl) (fun q => absurd q (by show ¬ (3 : Nat) = 0; omega))
theorem M_clauseEnd (ho : isO z) (h : hV9 I t n s 201) (k : ∀ I', Fr9 I I' → hV9 I' t n (en t n s) 300 → Q none z I') : E mX9_readClause mc ms 54 [some (.ref 308), none, none] [] z I Q := by
  obtain ⟨hT, hF, q, hqb, hq4, hq0⟩ := h
  have h4 := hF.2.1
  have hn := hT.2.1
  refine B_X9_readClause_54 ho ?_
  rw [hF.1]
  refine pk_ne s.1 0 (fun hs I1 e1 => ?_) (fun hs => ?_) rfl rfl (by omega)
  · rw [en_f hs] at k
    rw [hq4, nI_1] at e1
    exact k I1 (Fr9.st e1 (by omega)) ⟨hT.to (by rw [e1, e_st_k (by decide)]) (by rw [e1, e_st_a (by decide)]), hF.to (by rw [e1, e_st_k (by decide)]) (by rw [e1, e_st_k (by decide)]), q + 1, by omega, by rw [e1, e_st_same], fun x => absurd x hs⟩
  · have hqe := hq0 hs
    subst hqe
    have a := sk_le (t := t) (n := n) (p := s.2.2)
    refine M_here ho hT hq4 (by omega) (fun J2 hf hj h14 => B_X9_readClause_65 ho ?_)
    have fJ : Fr9 I J2 := ⟨hf, fun j h14 _ _ _ => hj j h14⟩
    have hTJ : hT9 J2 t n := hT.to (hj 12 (by decide)) (hf 314 (by decide))
    have hFJ : hF9 J2 s := hF.to (hj 15 (by decide)) (hj 16 (by decide))
    have bad : ¬ (sk t n s.2.2 < n ∧ t (sk t n s.2.2) = 59) → ((¬ (J2 308 15) = 0) → ∀ I1 : It, I1 = e_st J2 308 14 ((J2 308 14) + 1) → Q none z I1) ∧ (((J2 308 15) = 0) → ∀ I1 : It, I1 = e_st J2 308 15 1 → ∀ I2 : It, I2 = e_st I1 308 16 (J2 308 14) → ∀ I3 : It, I3 = e_st I2 308 14 ((I2 308 14) + 1) → Q none z I3) := by
      intro hc
      have e : en t n s = (1, sk t n s.2.2, 0) := by
        unfold en
        rw [if_neg (by omega), if_neg hc]
      rw [e] at k
      rw [hFJ.1, hs]
      refine ⟨fun x => absurd rfl x, fun _ I1 e1 I2 e2 I3 e3 => ?_⟩
      have h2 : I2 308 14 = nI (sk t n s.2.2) := by rw [e2, e_st_k (by decide), e1, e_st_k (by decide)]; exact h14
      rw [h2, nI_1] at e3
      refine k I3 (((fJ.tr (Fr9.st e1 (by omega))).tr (Fr9.st e2 (by omega))).tr (Fr9.st e3 (by omega))) ⟨hTJ.to (by rw [e3, e_st_k (by decide), e2, e_st_k (by decide), e1, e_st_k (by decide)]) (by rw [e3, e_st_a (by decide), e2, e_st_a (by decide), e1, e_st_a (by decide)]), (hF9.set (c := 1) (fp := sk t n s.2.2) (by omega) (by omega) e1 e2 h14).to (by rw [e3, e_st_k (by decide)]) (by rw [e3, e_st_k (by decide)]), sk t n s.2.2 + 1, by omega, by rw [e3, e_st_same], fun x => absurd x (by show ¬ (1 : Nat) = 0; omega)⟩
    unfold hch
    by_cases hlt : sk t n s.2.2 < n
    · rw [if_pos hlt]
      have c2 := (hT.2.2 _ hlt).2
      refine pk_eq (t (sk t n s.2.2)) 59 (fun he I1 e1 => ?_) (fun he => bad (fun q => he q.2))
      have e : en t n s = (0, 0, sk t n s.2.2 + 1) := by
        unfold en
        rw [if_neg (by omega), if_pos ⟨hlt, he⟩]
      rw [e] at k
      rw [h14, nI_1] at e1
      exact k I1 (fJ.tr (Fr9.st e1 (by omega))) ⟨hTJ.to (by rw [e1, e_st_k (by decide)]) (by rw [e1, e_st_a (by decide)]), ⟨by rw [e1, e_st_k (by decide), hFJ.1, hs], by show (0 : Nat) ≤ 4; omega, fun x => absurd rfl x⟩, sk t n s.2.2 + 1, by omega, by rw [e1, e_st_same], fun _ => rfl⟩
    · rw [if_neg hlt]
      exact ⟨fun q => absurd q (by decide), fun _ => bad (fun q => hlt q.1)⟩
end S2
