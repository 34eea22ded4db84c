/-! ===== the class reads clauses ===== -/
def hPB (I : It) (p : Nat) (π : Pt) (lv : Nat → Nat) : Prop := hP I p π ∧ ∀ w, w < π 0 0 → I (p + 1) w = nI (lv w)
def WPL (π : Pt) (lv : Nat → Nat) : Prop := WP π ∧ ∀ w, w < π 0 0 → lv w < 4
def FrW (p : Nat) (I I' : It) : Prop := ∀ a, a ≠ 2 → (a < p ∨ p + 7 < a) → I' a = I a
theorem FrW.rf {p : Nat} {I : It} : FrW p I I := fun _ _ _ => rfl
theorem FrW.tr {p : Nat} {I I' I'' : It} (h : FrW p I I') (h' : FrW p I' I'') : FrW p I I'' := fun a h1 h2 => (h' a h1 h2).trans (h a h1 h2)
theorem FrW.f2 {p : Nat} {I I' : It} (h : Fr2 I I') : FrW p I I' := fun a h1 _ => h a h1
theorem FrW.st {p j k : Nat} {I I' : It} {v : Int32} (e : I' = e_st I j k v) (hj : p ≤ j ∧ j ≤ p + 7) : FrW p I I' := fun a h1 h2 => by rw [e, e_st_a (by omega)]
theorem le_lit {L : Nat} (hL : 0 < L) (hL2 : L < 3000) : ∀ v, v < 3000 → (nI v ≤ nI (L - 1) ↔ v < L) := fun v hv => by
  constructor
  · intro h
    rcases Nat.lt_or_ge v L with q | q
    · exact q
    · exact absurd h (nI_ge (by omega) (by omega))
  · intro h
    exact nI_le (by omega) (by omega)
theorem le_pred {W : Nat} (hW : W ≤ 8) : ∀ v, v < 3000 → (nI v ≤ nI W - 1 ↔ v < W) := fun v hv => by
  rcases Nat.eq_zero_or_pos W with e | e
  · subst e
    have e1 : nI 0 - 1 = -1 := by decide
    rw [e1, Int32.le_iff_toInt_le, nI_toInt (by omega)]
    have : (-1 : Int32).toInt = -1 := by decide
    omega
  · rw [nI_dec e]; exact le_lit e (by omega) v hv
section R0
variable {t : Nat → Nat} {n p : Nat} {π : Pt}
theorem aG_0 : aG t n π p 0 0 = π 0 0 := by
  unfold aG
  rw [if_neg (by omega)]
  split
  · rw [if_neg (by omega), if_neg (by omega), if_neg (by omega), if_neg (by omega), if_neg (by omega), if_neg (by omega)]
  · rfl
theorem aG_1 : aG t n π p 1 0 = π 1 0 + 1 := by
  unfold aG
  rw [if_pos ⟨rfl, rfl⟩]
theorem aG_2 : aG t n π p 2 (π 1 0) = nv t n (q1 p) := by
  unfold aG
  rw [if_neg (by omega), if_pos rfl, if_pos rfl]
theorem aG_3 : aG t n π p 3 (π 1 0) = nv t n (q2 t n p) := by
  unfold aG
  rw [if_neg (by omega), if_pos rfl, if_neg (by omega), if_pos rfl]
theorem aG_4 : aG t n π p 4 (π 1 0) = nv t n (q3 t n (π 0 0) p) := by
  unfold aG
  rw [if_neg (by omega), if_pos rfl, if_neg (by omega), if_neg (by omega), if_pos rfl]
theorem aG_5 : aG t n π p 5 (π 1 0) = nv t n (q4 t n (π 0 0) p) := by
  unfold aG
  rw [if_neg (by omega), if_pos rfl, if_neg (by omega), if_neg (by omega), if_neg (by omega), if_pos rfl]
theorem aG_6 : aG t n π p 6 (π 1 0) = nv t n (q5 t n (π 0 0) p) := by
  unfold aG
  rw [if_neg (by omega), if_pos rfl, if_neg (by omega), if_neg (by omega), if_neg (by omega), if_neg (by omega), if_pos rfl]
theorem aG_7 : aG t n π p 7 (π 1 0) = nv t n (q7 t n (π 0 0) p) := by
  unfold aG
  rw [if_neg (by omega), if_pos rfl, if_neg (by omega), if_neg (by omega), if_neg (by omega), if_neg (by omega), if_neg (by omega), if_pos rfl]
theorem aG_g {f g : Nat} (hg : g ≠ π 1 0) (hf : 2 ≤ f) : aG t n π p f g = π f g := by
  unfold aG
  rw [if_neg (by omega), if_neg hg]
end R0
section R2
variable {mc ms : Nat} {z : Zt} {I I' J : It} {Q : Option Value → Zt → It → Prop} {t : Nat → Nat} {n b L p p0 : Nat} {s : St} {π : Pt} {lv : Nat → Nat}
theorem hV.to (h : hV I t n s b) (h2 : J 2 = I 2) (h3 : J 3 = I 3) : hV J t n s b := by
  unfold hV hT3 hF3 at *
  rw [h2, h3]; exact h
theorem hV.le (h : hV I t n s b) {b' : Nat} (hb : b ≤ b') : hV I t n s b' := by
  obtain ⟨h1, h2, q, h3, h4⟩ := h
  exact ⟨h1, h2, q, by omega, h4⟩
theorem hV.adv (h : hV I t n (0, 0, p0) b) (e : J = e_st I 2 4 (I 2 4 + 1)) : hV J t n (q1 p0) (b + 1) := by
  obtain ⟨h1, h2, q, h3, h4, h5⟩ := h
  have hq : q = p0 := h5 rfl
  subst hq
  rw [h4, nI_1] at e
  exact ⟨h1.to (by rw [e, e_st_k (by decide)]) (by rw [e, e_st_a (by decide)]), hF3.to (s := (0, 0, q)) h2 (by rw [e, e_st_k (by decide)]) (by rw [e, e_st_k (by decide)]), q + 1, by omega, by rw [e, e_st_same], fun _ => rfl⟩
theorem hV.flt {I1 I2 : It} {c fp : Nat} {w : Int32} (h : hV I t n s b) (hs : s.1 = 0) (hc : 0 < c) (hc4 : c ≤ 4) (e1 : I1 = e_st I 2 3 (nI c)) (e2 : I2 = e_st I1 2 2 w) (hw : w = nI fp) : hV I2 t n (c, fp, 0) b := by
  obtain ⟨h1, h2, q, h3, h4, h5⟩ := h
  exact ⟨h1.to (by rw [e2, e_st_k (by decide), e1, e_st_k (by decide)]) (by rw [e2, e_st_a (by decide), e1, e_st_a (by decide)]), h2.set hs hc hc4 e1 e2 hw, q, h3, by rw [e2, e_st_k (by decide), e1, e_st_k (by decide)]; exact h4, fun q => absurd q (by show ¬ c = 0; omega)⟩
theorem hV.pl (h : hV I t n (0, 0, p0) b) : I 2 4 = nI p0 ∧ p0 ≤ b := by
  obtain ⟨h1, h2, q, h3, h4, h5⟩ := h
  have hq : q = p0 := h5 rfl
  subst hq
  exact ⟨h4, h3⟩
def wS (t : Nat → Nat) (n : Nat) (π : Pt) (p0 : Nat) : St := if π 0 0 = 8 then (3, p0, 0) else w3 t n p0
def gS (t : Nat → Nat) (n : Nat) (π : Pt) (p0 : Nat) : St := if π 1 0 = 8 then (3, p0, 0) else q9 t n (π 0 0) p0
theorem C_readWire (hr : isRd z) (hp : isP z p) (hp2 : 3 < p) (h : hV I t n (0, 0, p0) 200) (hB : hPB I p π lv) (hW : WP π) (k : ∀ I', FrW p I I' → hV I' t n (wS t n π p0) 300 → ((wS t n π p0).1 = 0 → hPB I' p (aW π) (fun i => if i = π 0 0 then nv t n (q1 p0) else lv i)) → Q none z I') : E mX7_readWire mc ms 0 [some (.ref 2), some (.ref p), none] [] z I Q := by
  have hw0 := hW.1
  obtain ⟨hP1, hl⟩ := hB
  have hz : ∀ {α : Prop}, (0 : Nat) ≠ 0 → α := fun h => absurd rfl h
  refine B_X7_readWire_0 hr hp ?_
  rw [hP1.1]
  refine pk_lt (π 0 0) 8 (fun h8 I1 e1 => ?_) (fun h8 => ?_)
  · have e0 : wS t n π p0 = w3 t n p0 := if_neg (by omega)
    rw [e0] at k
    have h1 := h.adv e1
    refine C_readNumber (L := 4) hr h1 (by omega) (by omega) (le_lit (L := 4) (by omega) (by omega)) (fun I2 y hf2 h2 hy => B_X7_readWire_34 hr hp ?_)
    refine C_readEnd hr h2 (by omega) (by omega) (fun I3 hf3 h3 => B_X7_readWire_39 hr hp ?_)
    have hfr : Fr2 I I3 := ((Fr2.st e1).tr hf2).tr hf3
    rw [h3.2.1.1]
    have h4 := h3.2.1.2.1
    refine pk_ne (w3 t n p0).1 0 (fun hne => ?_) (fun he => ?_) rfl rfl (by show (w3 t n p0).1 < 2 ^ 31; exact Nat.lt_of_le_of_lt h4 (by omega))
    · exact k I3 (FrW.f2 hfr) (h3.le (by omega)) (fun q => absurd q hne)
    · have hI0 : I3 p 0 = nI (π 0 0) := by rw [hfr p (by omega)]; exact hP1.1
      rw [hI0]
      refine pk_le 8 (π 0 0) (fun h => absurd h (by omega)) (fun _ => ⟨π 0 0, rfl, h8, fun I4 e4 I5 e5 => ?_⟩)
      have h40 : I4 p 0 = nI (π 0 0) := by rw [e4, e_st_a (by omega)]; exact hI0
      rw [h40, nI_1] at e5
      obtain ⟨c1, -⟩ := en_0 he
      obtain ⟨yv, -⟩ := hy c1
      have ro : ∀ a, a ≠ 2 → a ≠ p → a ≠ p + 1 → I5 a = I a := fun a a1 a2 a3 => by rw [e5, e_st_a a2, e4, e_st_a a3, hfr a a1]
      refine k I5 (((FrW.f2 hfr).tr (FrW.st e4 (by omega))).tr (FrW.st e5 (by omega))) (hV.le (hV.to h3 (by rw [e5, e_st_a (by omega), e4, e_st_a (by omega)]) (by rw [e5, e_st_a (by omega), e4, e_st_a (by omega)])) (by omega)) (fun _ => ⟨⟨?_, ?_, fun g hg => ?_⟩, fun w hw => ?_⟩)
      · rw [e5, e_st_same]; rfl
      · rw [e5, e_st_k (by decide), e4, e_st_a (by omega), hfr p (by omega)]; exact hP1.2.1
      · have := hP1.2.2 g hg
        rw [ro (p + 2) (by omega) (by omega) (by omega), ro (p + 3) (by omega) (by omega) (by omega), ro (p + 4) (by omega) (by omega) (by omega), ro (p + 5) (by omega) (by omega) (by omega), ro (p + 6) (by omega) (by omega) (by omega), ro (p + 7) (by omega) (by omega) (by omega)]
        exact this
      · have hw' : w < π 0 0 + 1 := hw
        rw [e5, e_st_a (by omega), e4, e_st_row]
        by_cases ew : w = π 0 0
        · subst ew
          rw [xd_same]
          show y = nI (if π 0 0 = π 0 0 then nv t n (q1 p0) else lv (π 0 0))
          rw [if_pos rfl]; exact yv
        · rw [xd_ne ew]
          show I3 (p + 1) w = nI (if w = π 0 0 then nv t n (q1 p0) else lv w)
          rw [if_neg ew, hfr (p + 1) (by omega)]; exact hl w (by omega)
  · have e0 : wS t n π p0 = (3, p0, 0) := if_pos (by omega)
    rw [e0] at k
    rw [h.2.1.1]
    refine ⟨fun q => absurd rfl q, fun _ I1 e1 I2 e2 => ?_⟩
    exact k I2 (FrW.f2 ((Fr2.st e1).tr (Fr2.st e2))) ((h.flt (c := 3) rfl (by omega) (by omega) e1 e2 h.pl.1).le (by omega)) (fun q => absurd q (by show ¬ (3 : Nat) = 0; omega))
theorem C_readGate (hr : isRd z) (hp : isP z p) (hp2 : 3 < p) (h : hV I t n (0, 0, p0) 200) (hB : hPB I p π lv) (hW : WP π) (k : ∀ I', FrW p I I' → hV I' t n (gS t n π p0) 300 → ((gS t n π p0).1 = 0 → hPB I' p (aG t n π p0) lv) → Q none z I') : E mX7_readGate mc ms 0 [some (.ref 2), some (.ref p), none, none] [] z I Q := by
  have hw0 := hW.1
  have hw1 := hW.2.1
  obtain ⟨hP1, hl⟩ := hB
  refine B_X7_readGate_0 hr hp (fun v1 e1 => ?_)
  rw [hP1.2.1] at e1
  subst e1
  refine pk_lt (π 1 0) 8 (fun h8 I1 e1 v3 ev3 => ?_) (fun h8 => ?_)
  · have e0 : gS t n π p0 = q9 t n (π 0 0) p0 := if_neg (by omega)
    rw [e0] at k
    have h1 := h.adv e1
    have f1 := Fr2.st e1
    have ev3' : v3 = nI (π 0 0) - 1 := by rw [ev3, f1 p (by omega), hP1.1]
    subst ev3'
    refine C_readNumber (L := 6) hr h1 (by omega) (by omega) (le_lit (L := 6) (by omega) (by omega)) (fun I2 y2 hf2 h2 hy2 => B_X7_readGate_48 hr hp ⟨π 1 0, rfl, h8, fun I3 e3 => ?_⟩)
    have h3 : hV I3 t n (q2 t n p0) 201 := hV.to h2 (by rw [e3, e_st_a (by omega)]) (by rw [e3, e_st_a (by omega)])
    refine C_readNumber (L := π 0 0) hr h3 (by omega) (by omega) (le_pred hw0) (fun I4 y4 hf4 h4 hy4 => B_X7_readGate_59 hr hp ⟨π 1 0, rfl, h8, fun I5 e5 => ?_⟩)
    have h5 : hV I5 t n (q3 t n (π 0 0) p0) 201 := hV.to h4 (by rw [e5, e_st_a (by omega)]) (by rw [e5, e_st_a (by omega)])
    refine C_readNumber (L := π 0 0) hr h5 (by omega) (by omega) (le_pred hw0) (fun I6 y6 hf6 h6 hy6 => B_X7_readGate_70 hr hp ⟨π 1 0, rfl, h8, fun I7 e7 => ?_⟩)
    have h7 : hV I7 t n (q4 t n (π 0 0) p0) 201 := hV.to h6 (by rw [e7, e_st_a (by omega)]) (by rw [e7, e_st_a (by omega)])
    refine C_readNumber (L := π 0 0) hr h7 (by omega) (by omega) (le_pred hw0) (fun I8 y8 hf8 h8' hy8 => B_X7_readGate_81 hr hp ⟨π 1 0, rfl, h8, fun I9 e9 => ?_⟩)
    have h9 : hV I9 t n (q5 t n (π 0 0) p0) 201 := hV.to h8' (by rw [e9, e_st_a (by omega)]) (by rw [e9, e_st_a (by omega)])
    refine C_readNumber (L := 21) hr h9 (by omega) (by omega) (le_lit (L := 21) (by omega) (by omega)) (fun Ia ya hfa ha hya => B_X7_readGate_93 hr hp ⟨π 1 0, rfl, h8, fun Ib eb => ⟨π 1 0, rfl, h8, ?_⟩⟩)
    have hb : hV Ib t n (q6 t n (π 0 0) p0) 201 := hV.to ha (by rw [eb, e_st_a (by omega)]) (by rw [eb, e_st_a (by omega)])
    -- what lies where
    have r2 : Ib (p + 2) = upd (I (p + 2)) (π 1 0) y2 := by rw [eb, e_st_a (by omega), hfa _ (by omega), e9, e_st_a (by omega), hf8 _ (by omega), e7, e_st_a (by omega), hf6 _ (by omega), e5, e_st_a (by omega), hf4 _ (by omega), e3, e_st_row, hf2 _ (by omega), f1 _ (by omega)]
    have r3 : Ib (p + 3) = upd (I (p + 3)) (π 1 0) y4 := by rw [eb, e_st_a (by omega), hfa _ (by omega), e9, e_st_a (by omega), hf8 _ (by omega), e7, e_st_a (by omega), hf6 _ (by omega), e5, e_st_row, hf4 _ (by omega), e3, e_st_a (by omega), hf2 _ (by omega), f1 _ (by omega)]
    have r4 : Ib (p + 4) = upd (I (p + 4)) (π 1 0) y6 := by rw [eb, e_st_a (by omega), hfa _ (by omega), e9, e_st_a (by omega), hf8 _ (by omega), e7, e_st_row, hf6 _ (by omega), e5, e_st_a (by omega), hf4 _ (by omega), e3, e_st_a (by omega), hf2 _ (by omega), f1 _ (by omega)]
    have r5 : Ib (p + 5) = upd (I (p + 5)) (π 1 0) y8 := by rw [eb, e_st_a (by omega), hfa _ (by omega), e9, e_st_row, hf8 _ (by omega), e7, e_st_a (by omega), hf6 _ (by omega), e5, e_st_a (by omega), hf4 _ (by omega), e3, e_st_a (by omega), hf2 _ (by omega), f1 _ (by omega)]
    have r6 : Ib (p + 6) = upd (I (p + 6)) (π 1 0) ya := by rw [eb, e_st_row, hfa _ (by omega), e9, e_st_a (by omega), hf8 _ (by omega), e7, e_st_a (by omega), hf6 _ (by omega), e5, e_st_a (by omega), hf4 _ (by omega), e3, e_st_a (by omega), hf2 _ (by omega), f1 _ (by omega)]
    have ro : ∀ a, a ≠ 2 → a ≠ p + 2 → a ≠ p + 3 → a ≠ p + 4 → a ≠ p + 5 → a ≠ p + 6 → Ib a = I a := fun a c1 c2 c3 c4 c5 c6 => by rw [eb, e_st_a c6, hfa _ c1, e9, e_st_a c5, hf8 _ c1, e7, e_st_a c4, hf6 _ c1, e5, e_st_a c3, hf4 _ c1, e3, e_st_a c2, hf2 _ c1, f1 _ c1]
    have h25 : (q6 t n (π 0 0) p0).1 = 0 → Ib 2 5 = nI (sk t n (q5 t n (π 0 0) p0).2.2) := fun q => by rw [eb, e_st_a (by omega)]; exact (hya q).2
    -- the rest, once the loop has been looked at
    have rest : ∀ Jc, Fr2 Ib Jc → hV Jc t n (q7 t n (π 0 0) p0) 201 → E mX7_readNumber 0 0 0 [some (.ref 2), some (.int 1), none, none] [] z Jc (fun r z' I' => E mX7_readGate mc ms 140 [some (.ref 2), some (.ref p), none, none] (r.toList ++ [.int (nI (π 1 0)), .ref (p + 7)]) z' I' Q) := by
      intro Jc hfc hc
      refine C_readNumber (L := 2) hr hc (by omega) (by omega) (le_lit (L := 2) (by omega) (by omega)) (fun Id yd hfd hd hyd => B_X7_readGate_140 hr hp ⟨π 1 0, rfl, h8, fun Ie ee => ?_⟩)
      have he : hV Ie t n (q8 t n (π 0 0) p0) 201 := hV.to hd (by rw [ee, e_st_a (by omega)]) (by rw [ee, e_st_a (by omega)])
      refine C_readEnd hr he (by omega) (by omega) (fun Ig hfg hg => B_X7_readGate_145 hr hp ?_)
      have s7 : Ig (p + 7) = upd (I (p + 7)) (π 1 0) yd := by rw [hfg _ (by omega), ee, e_st_row, hfd _ (by omega), hfc _ (by omega), ro (p + 7) (by omega) (by omega) (by omega) (by omega) (by omega) (by omega)]
      have so : ∀ a, a ≠ 2 → a ≠ p + 7 → Ig a = Ib a := fun a c1 c2 => by rw [hfg _ c1, ee, e_st_a c2, hfd _ c1, hfc _ c1]
      have hfr : FrW p I Ig := fun a c1 c2 => by rw [so a c1 (by omega), ro a c1 (by omega) (by omega) (by omega) (by omega) (by omega)]
      rw [hg.2.1.1]
      have h4' := hg.2.1.2.1
      refine pk_ne (q9 t n (π 0 0) p0).1 0 (fun hne => ?_) (fun h0 Ih eh => ?_) rfl rfl (Nat.lt_of_le_of_lt h4' (by omega))
      · exact k Ig hfr (hg.le (by omega)) (fun q => absurd q hne)
      · have h1p : Ig p 1 = nI (π 1 0) := by rw [so p (by omega) (by omega), ro p (by omega) (by omega) (by omega) (by omega) (by omega) (by omega)]; exact hP1.2.1
        rw [h1p, nI_1] at eh
        have z8 : (q8 t n (π 0 0) p0).1 = 0 := (en_0 h0).1
        have z7 : (q7 t n (π 0 0) p0).1 = 0 := (nm_0 z8).1
        have hnl : ¬ lp t n (π 0 0) p0 := fun q => by
          have : q7 t n (π 0 0) p0 = (4, sk t n (q5 t n (π 0 0) p0).2.2, 0) := if_pos q
          rw [this] at z7
          exact absurd z7 (by show ¬ (4 : Nat) = 0; omega)
        have e76 : q7 t n (π 0 0) p0 = q6 t n (π 0 0) p0 := if_neg hnl
        have z6 : (q6 t n (π 0 0) p0).1 = 0 := by rw [← e76]; exact z7
        have z5 : (q5 t n (π 0 0) p0).1 = 0 := (nm_0 z6).1
        have z4 : (q4 t n (π 0 0) p0).1 = 0 := (nm_0 z5).1
        have z3 : (q3 t n (π 0 0) p0).1 = 0 := (nm_0 z4).1
        have z2 : (q2 t n p0).1 = 0 := (nm_0 z3).1
        refine k Ih (hfr.tr (FrW.st eh (by omega))) ((hV.to hg (by rw [eh, e_st_a (by omega)]) (by rw [eh, e_st_a (by omega)])).le (by omega)) (fun _ => ⟨⟨?_, ?_, fun g hgg => ?_⟩, fun w hw => ?_⟩)
        · rw [eh, e_st_k (by decide), so p (by omega) (by omega), ro p (by omega) (by omega) (by omega) (by omega) (by omega) (by omega), aG_0]; exact hP1.1
        · rw [eh, e_st_same, aG_1]
        · have hgg' : g < π 1 0 + 1 := by rw [aG_1] at hgg; exact hgg
          rw [eh, e_st_a (by omega), e_st_a (by omega), e_st_a (by omega), e_st_a (by omega), e_st_a (by omega), e_st_a (by omega), s7, so (p + 2) (by omega) (by omega), so (p + 3) (by omega) (by omega), so (p + 4) (by omega) (by omega), so (p + 5) (by omega) (by omega), so (p + 6) (by omega) (by omega), r2, r3, r4, r5, r6]
          by_cases eg : g = π 1 0
          · subst eg
            rw [xd_same, xd_same, xd_same, xd_same, xd_same, xd_same]
            rw [aG_2, aG_3, aG_4, aG_5, aG_6, aG_7]
            exact ⟨(hy2 z2).1, (hy4 z3).1, (hy6 z4).1, (hy8 z5).1, (hya z6).1, (hyd z8).1⟩
          · rw [xd_ne eg, xd_ne eg, xd_ne eg, xd_ne eg, xd_ne eg, xd_ne eg]
            rw [aG_g eg (by omega), aG_g eg (by omega), aG_g eg (by omega), aG_g eg (by omega), aG_g eg (by omega), aG_g eg (by omega)]
            exact hP1.2.2 g (by omega)
        · have hw' : w < π 0 0 := by rw [aG_0] at hw; exact hw
          rw [eh, e_st_a (by omega), so (p + 1) (by omega) (by omega), ro (p + 1) (by omega) (by omega) (by omega) (by omega) (by omega) (by omega)]
          exact hl w hw'
    -- the loop
    have h4b := hb.2.1.2.1
    have noL : ¬ lp t n (π 0 0) p0 → hV Ib t n (q7 t n (π 0 0) p0) 201 := fun q => by
      have e76 : q7 t n (π 0 0) p0 = q6 t n (π 0 0) p0 := if_neg q
      rw [e76]; exact hb
    have rb6 : Ib (p + 6) (π 1 0) = ya := by rw [r6, xd_same]
    rw [rb6]
    refine ⟨fun hne => rest Ib Fr2.rf (noL (fun q => ?_)), fun h0 => ?_⟩
    · have := (hya q.1).1
      rw [q.2.1] at this
      exact hne this
    · have bits : ∀ y0 : Int32, ((q6 t n (π 0 0) p0).1 = 0 → ((((y0 >>> (y8 &&& 31)) &&& 1) = 1) ↔ lp t n (π 0 0) p0)) → E mX7_readGate mc ms 108 [some (.ref 2), some (.ref p), some (.int (nI (π 1 0))), none] [.int y0] z Ib Q := by
        intro y0 hy0
        refine B_X7_readGate_108 hr hp ⟨π 1 0, rfl, h8, ?_⟩
        have rb5 : Ib (p + 5) (π 1 0) = y8 := by rw [r5, xd_same]
        rw [rb5]
        refine ⟨fun hnb => rest Ib Fr2.rf (noL (fun q => hnb ((hy0 q.1).mpr q))), fun hbt => ?_⟩
        rw [hb.2.1.1]
        refine pk_ne (q6 t n (π 0 0) p0).1 0 (fun hne => rest Ib Fr2.rf (noL (fun q => hne q.1))) (fun he Ic ec Ie ee => ?_) rfl rfl (Nat.lt_of_le_of_lt h4b (by omega))
        have hlp := (hy0 he).mp hbt
        have e7 : q7 t n (π 0 0) p0 = (4, sk t n (q5 t n (π 0 0) p0).2.2, 0) := if_pos hlp
        refine rest Ie ((Fr2.st ec).tr (Fr2.st ee)) ?_
        rw [e7]
        exact hb.flt (c := 4) he (by omega) (by omega) ec ee (h25 he)
      refine B_X6_looks_0 hp ⟨π 1 0, rfl, h8, fun v2 ev2 => ?_⟩
      have rb2 : Ib (p + 2) (π 1 0) = y2 := by rw [r2, xd_same]
      have rb3 : Ib (p + 3) (π 1 0) = y4 := by rw [r3, xd_same]
      have rb4 : Ib (p + 4) (π 1 0) = y6 := by rw [r4, xd_same]
      rw [rb3] at ev2
      rw [rb2, rb4]
      have vals : (q6 t n (π 0 0) p0).1 = 0 → (y2 = nI (nv t n (q1 p0)) ∧ nv t n (q1 p0) < 6) ∧ (y4 = nI (nv t n (q2 t n p0)) ∧ nv t n (q2 t n p0) < π 0 0) ∧ (y6 = nI (nv t n (q3 t n (π 0 0) p0)) ∧ nv t n (q3 t n (π 0 0) p0) < π 0 0) ∧ (y8 = nI (nv t n (q4 t n (π 0 0) p0)) ∧ nv t n (q4 t n (π 0 0) p0) < π 0 0) ∧ nv t n (q5 t n (π 0 0) p0) = 0 := fun z6 => by
        have z5 : (q5 t n (π 0 0) p0).1 = 0 := (nm_0 z6).1
        have z4 : (q4 t n (π 0 0) p0).1 = 0 := (nm_0 z5).1
        have z3 : (q3 t n (π 0 0) p0).1 = 0 := (nm_0 z4).1
        have z2 : (q2 t n p0).1 = 0 := (nm_0 z3).1
        refine ⟨⟨(hy2 z2).1, (nm_0 z2).2.2⟩, ⟨(hy4 z3).1, (nm_0 z3).2.2⟩, ⟨(hy6 z4).1, (nm_0 z4).2.2⟩, ⟨(hy8 z5).1, (nm_0 z5).2.2⟩, ?_⟩
        have hl21 := (nm_0 z6).2.2
        have := (hya z6).1
        rw [h0] at this
        have e0 : nI 0 = nI (nv t n (q5 t n (π 0 0) p0)) := this
        exact ((nI_eq (by omega) (by omega)).mp e0).symm
      refine ⟨fun hk => bits _ (fun z6 => ?_), fun hk => bits _ (fun z6 => ?_)⟩
      · obtain ⟨⟨a1, b1⟩, ⟨a2, b2⟩, ⟨a3, b3⟩, ⟨a4, b4⟩, a5⟩ := vals z6
        rw [ev2, a2, a3, a4, sh1 _ (by omega), sh1 _ (by omega), bt2 _ (by omega) _ (by omega) _ (by omega)]
        have hk' : nv t n (q1 p0) ≠ 0 := fun q => hk (by rw [a1, q]; rfl)
        exact ⟨fun q => ⟨z6, a5, by rcases q with q | q; exact Or.inl q; exact Or.inr ⟨hk', q⟩⟩, fun q => by rcases q.2.2 with q | q; exact Or.inl q; exact Or.inr q.2⟩
      · obtain ⟨⟨a1, b1⟩, ⟨a2, b2⟩, ⟨a3, b3⟩, ⟨a4, b4⟩, a5⟩ := vals z6
        rw [ev2, a2, a4, sh1 _ (by omega), bt3 _ (by omega) _ (by omega)]
        have hk' : nv t n (q1 p0) = 0 := by
          rw [a1] at hk
          have e0 : nI (nv t n (q1 p0)) = nI 0 := hk
          exact (nI_eq (by omega) (by omega)).mp e0
        exact ⟨fun q => ⟨z6, a5, Or.inl q⟩, fun q => by rcases q.2.2 with q | q; exact q; exact absurd hk' q.1⟩
  · have e0 : gS t n π p0 = (3, p0, 0) := if_pos (by omega)
    rw [e0] at k
    rw [h.2.1.1]
    refine ⟨fun q => absurd rfl q, fun _ I1 e1 I2 e2 => ?_⟩
    exact k I2 (FrW.f2 ((Fr2.st e1).tr (Fr2.st e2))) ((h.flt (c := 3) rfl (by omega) (by omega) e1 e2 h.pl.1).le (by omega)) (fun q => absurd q (by show ¬ (3 : Nat) = 0; omega))
end R2
