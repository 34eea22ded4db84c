/-! ===== the class reads a text ===== -/
def hT3 (I : It) (t : Nat → Nat) (n : Nat) : Prop := I 2 1 = nI n ∧ n ≤ 200 ∧ ∀ k, k < n → I 3 k = nI (t k) ∧ t k < 256
def hF3 (I : It) (s : St) : Prop := I 2 3 = nI s.1 ∧ s.1 ≤ 4 ∧ (s.1 = 0 → I 2 2 = -1) ∧ (s.1 ≠ 0 → I 2 2 = nI s.2.1)
def hV (I : It) (t : Nat → Nat) (n : Nat) (s : St) (b : Nat) : Prop := hT3 I t n ∧ hF3 I s ∧ ∃ q, q ≤ b ∧ I 2 4 = nI q ∧ (s.1 = 0 → q = s.2.2)
def Fr2 (I I' : It) : Prop := ∀ a, a ≠ 2 → I' a = I a
theorem Fr2.rf {I : It} : Fr2 I I := fun _ _ => rfl
theorem Fr2.tr {I I' I'' : It} (h : Fr2 I I') (h' : Fr2 I' I'') : Fr2 I I'' := fun a ha => (h' a ha).trans (h a ha)
theorem Fr2.st {I I' : It} {j : Nat} {v : Int32} (e : I' = e_st I 2 j v) : Fr2 I I' := fun a ha => by rw [e, e_st_a ha]
section R1
variable {mc ms : Nat} {z : Zt} {I I' : It} {Q : Option Value → Zt → It → Prop} {t : Nat → Nat} {n b L : Nat} {s : St}
theorem hT3.to {J : It} (h : hT3 I t n) (h1 : J 2 1 = I 2 1) (h3 : J 3 = I 3) : hT3 J t n := by
  unfold hT3 at *
  rw [h1, h3]; exact h
theorem hF3.to {J : It} (h : hF3 I s) (h2 : J 2 2 = I 2 2) (h3 : J 2 3 = I 2 3) : hF3 J s := by
  unfold hF3 at *
  rw [h2, h3]; exact h
theorem L_skip (hr : isRd z) (hT : hT3 I t n) : ∀ (r q : Nat) (J : It), n - q = r → q ≤ 1000 → Fr2 I J → (∀ j, j ≠ 4 → J 2 j = I 2 j) → J 2 4 = nI q → (∀ I', Fr2 I I' → (∀ j, j ≠ 4 → I' 2 j = I 2 j) → I' 2 4 = nI (sk t n q) → Q none z I') → E mX7_skipBlanks mc ms 0 [some (.ref 2)] [] z J Q := by
  intro r
  obtain ⟨h1, h2, h3⟩ := hT
  induction r with
  | zero =>
    intro q J hq hqb hf hj h4 k
    refine B_X7_skipBlanks_0 hr ?_
    rw [hj 1 (by decide), h1, h4]
    refine pk_le n q (fun _ => ?_) (fun h => absurd h (by omega))
    rw [sk_ge (by omega)] at k
    exact k J hf hj h4
  | succ r ih =>
    intro q J hq hqb hf hj h4 k
    refine B_X7_skipBlanks_0 hr ?_
    rw [hj 1 (by decide), h1, h4]
    refine pk_le n q (fun h => absurd h (by omega)) (fun hlt => ⟨fun h => absurd h (nI_pos (by omega)), fun _ => pk_le n q (fun h => absurd h (by omega)) (fun _ => ⟨q, rfl, by omega, ?_⟩)⟩)
    obtain ⟨a1, a2⟩ := h3 q hlt
    rw [hf 3 (by decide), a1]
    refine pk_ne (t q) 32 (fun hne => ?_) (fun he I2 e2 => ?_)
    · rw [sk_no hlt hne] at k
      exact k J hf hj h4
    · rw [nI_1] at e2
      rw [sk_sp hlt he] at k
      exact ih (q + 1) I2 (by omega) (by omega) (hf.tr (Fr2.st e2)) (fun j hj' => by rw [e2, e_st_k hj']; exact hj j hj') (by rw [e2, e_st_same]) k
theorem C_skip (hr : isRd z) (hT : hT3 I t n) {q : Nat} (hq : I 2 4 = nI q) (hqb : q ≤ 1000) (k : ∀ I', Fr2 I I' → (∀ j, j ≠ 4 → I' 2 j = I 2 j) → I' 2 4 = nI (sk t n q) → Q none z I') : E mX7_skipBlanks mc ms 0 [some (.ref 2)] [] z I Q :=
  L_skip hr hT (n - q) q I rfl hqb Fr2.rf (fun _ _ => rfl) hq k
theorem L_digits (hr : isRd z) (hT : hT3 I t n) {p0 : Nat} {x1 : Int32} (hp : p0 ≤ n) (k : ∀ J, Fr2 I J → (∀ j, j ≠ 4 → J 2 j = I 2 j) → J 2 4 = nI (dg t n p0) → E mX7_readNumber mc ms 96 [some (.ref 2), some (.int x1), some (.int (nI (vf t p0 (dg t n p0 - p0)))), some (.int (nI (dg t n p0 - p0)))] [] z J Q) : ∀ (r i : Nat) (J : It), n - (p0 + i) = r → p0 + i ≤ n → dg t n p0 = dg t n (p0 + i) → (∀ m, m < i → isD (t (p0 + m))) → Fr2 I J → (∀ j, j ≠ 4 → J 2 j = I 2 j) → J 2 4 = nI (p0 + i) → E mX7_readNumber mc ms 37 [some (.ref 2), some (.int x1), some (.int (nI (vf t p0 i))), some (.int (nI i))] [] z J Q := by
  intro r
  obtain ⟨h1, h2, h3⟩ := hT
  induction r with
  | zero =>
    intro i J hr' hi he hd hf hj h4
    rw [dg_ge (p := p0 + i) (by omega)] at he
    have e2 : dg t n p0 - p0 = i := by omega
    rw [e2, he] at k
    refine B_X7_readNumber_37 hr ?_
    rw [hj 1 (by decide), h1, h4]
    exact pk_le n (p0 + i) (fun _ => k J hf hj h4) (fun h => absurd h (by omega))
  | succ r ih =>
    intro i J hr' hi he hd hf hj h4
    have hlt : p0 + i < n := by omega
    obtain ⟨a1, a2⟩ := h3 (p0 + i) hlt
    have stop : ¬ isD (t (p0 + i)) → E mX7_readNumber mc ms 96 [some (.ref 2), some (.int x1), some (.int (nI (vf t p0 i))), some (.int (nI i))] [] z J Q := fun hn => by
      rw [dg_no hlt hn] at he
      have e2 : dg t n p0 - p0 = i := by omega
      rw [e2, he] at k
      exact k J hf hj h4
    refine B_X7_readNumber_37 hr ?_
    rw [hj 1 (by decide), h1, h4]
    refine pk_le n (p0 + i) (fun h => absurd h (by omega)) (fun _ => ⟨fun h => absurd h (nI_pos (by omega)), fun _ => pk_le n (p0 + i) (fun h => absurd h (by omega)) (fun _ => ⟨p0 + i, rfl, by omega, ?_⟩)⟩)
    rw [hf 3 (by decide), a1]
    refine pk_lt (t (p0 + i)) 48 (fun h => stop (fun q => by have := q.1; omega)) (fun h48 => pk_lt 57 (t (p0 + i)) (fun h => stop (fun q => by have := q.2; omega)) (fun h57 => ?_))
    have hD : isD (t (p0 + i)) := ⟨by omega, by omega⟩
    have he' : dg t n p0 = dg t n (p0 + (i + 1)) := by rw [he, dg_sp hlt hD]; rfl
    have hd' : ∀ m, m < i + 1 → isD (t (p0 + m)) := fun m hm => by
      by_cases e : m = i
      · subst e; exact hD
      · exact hd m (by omega)
    have go : ∀ I2, I2 = e_st J 2 4 (nI (p0 + i) + 1) → E mX7_readNumber mc ms 37 [some (.ref 2), some (.int x1), some (.int (nI (vf t p0 (i + 1)))), some (.int (nI i + 1))] [] z I2 Q := fun I2 e2 => by
      rw [nI_1] at e2 ⊢
      exact ih (i + 1) I2 (by omega) (by omega) he' hd' (hf.tr (Fr2.st e2)) (fun j hj' => by rw [e2, e_st_k hj']; exact hj j hj') (by rw [e2, e_st_same]; rfl)
    refine pk_le 2 i (fun h2i I2 e2 => ?_) (fun h2i => ⟨fun h => absurd h (nI_pos (by omega)), fun _ => pk_le n (p0 + i) (fun h => absurd h (by omega)) (fun _ v2 ev I3 e3 => ?_)⟩)
    · have e : vf t p0 (i + 1) = vf t p0 i := by
        unfold vf
        rw [if_neg (by omega), if_neg (by omega), if_neg (by omega), if_neg (by omega)]
      have := go I2 e2
      rw [e] at this; exact this
    · have hv : v2 = nI (vf t p0 (i + 1)) := by
        rw [ev]
        have hi01 : i = 0 ∨ i = 1 := by omega
        rcases hi01 with q | q
        · subst q
          show nI 0 * nI 10 + nI (t p0) - nI 48 = nI (t p0 - 48)
          rw [ixm, ix2, pk_sub (by show 48 ≤ 0 * 10 + t p0; have : t (p0 + 0) = t p0 := rfl; omega)]
          exact congrArg nI (by omega)
        · subst q
          show nI (t p0 - 48) * nI 10 + nI (t (p0 + 1)) - nI 48 = nI ((t p0 - 48) * 10 + (t (p0 + 1) - 48))
          rw [ixm, ix2, pk_sub (by omega)]
          exact congrArg nI (by omega)
      rw [hv]
      exact go I3 e3
/-- a fault is told, if it is the first -/
theorem hF3.set {J I1 I2 : It} {c fp : Nat} {w : Int32} (h : hF3 J s) (h0 : s.1 = 0) (hc : 0 < c) (hc4 : c ≤ 4) (e1 : I1 = e_st J 2 3 (nI c)) (e2 : I2 = e_st I1 2 2 w) (hw : w = nI fp) : hF3 I2 (c, fp, 0) := by
  refine ⟨by rw [e2, e_st_k (by decide), e1, e_st_same], hc4, fun q => absurd q (by show ¬ c = 0; omega), fun _ => by rw [e2, e_st_same, hw]⟩
theorem C_readNumber (hr : isRd z) (h : hV I t n s b) (hb : 200 ≤ b) (hb2 : b ≤ 1000) {x1 : Int32} (hx : ∀ v, v < 3000 → (nI v ≤ x1 ↔ v < L)) (k : ∀ I' y, Fr2 I I' → hV I' t n (nm t n L s) b → ((nm t n L s).1 = 0 → y = nI (nv t n s) ∧ I' 2 5 = nI (sk t n s.2.2)) → Q (some (.int y)) z I') : E mX7_readNumber mc ms 0 [some (.ref 2), some (.int x1), none, none] [] z I Q := by
  obtain ⟨hT, hF, q, hqb, hq4, hq0⟩ := h
  have hn := hT.2.1
  refine B_X7_readNumber_0 hr (C_skip hr hT hq4 (by omega) (fun J hfJ hjJ h4J => B_X7_readNumber_4 hr (fun I1 e1 => ?_)))
  have a := sk_le (t := t) (n := n) (p := q)
  have f1 : Fr2 I I1 := hfJ.tr (Fr2.st e1)
  have j1 : ∀ j, j ≠ 4 → j ≠ 5 → I1 2 j = I 2 j := fun j h4 h5 => by rw [e1, e_st_k h5]; exact hjJ j h4
  have h14 : I1 2 4 = nI (sk t n q) := by rw [e1, e_st_k (by decide)]; exact h4J
  have h15 : I1 2 5 = nI (sk t n q) := by rw [e1, e_st_same]; exact h4J
  have hT1 : hT3 I1 t n := hT.to (j1 1 (by decide) (by decide)) (f1 3 (by decide))
  have hF1 : hF3 I1 s := hF.to (j1 2 (by decide) (by decide)) (j1 3 (by decide) (by decide))
  -- not a figure
  have bad : ∀ (J1 : It) (c q' : Nat), Fr2 I J1 → hT3 J1 t n → hF3 J1 s → J1 2 4 = nI q' → q' ≤ b → 0 < c → c ≤ 2 → (s.1 = 0 → cd t n (sk t n s.2.2) L = c ∧ sk t n s.2.2 = sk t n q) → ∀ w, w = nI (sk t n q) → ((¬ J1 2 3 = 0) → Q (some (.int 0)) z J1) ∧ ((J1 2 3 = 0) → ∀ I2, I2 = e_st J1 2 3 (nI c) → ∀ I3, I3 = e_st I2 2 2 w → Q (some (.int 0)) z I3) := by
    intro J1 c q' g1 g2 g3 g4 g5 g6 g7 g8 w ew
    rw [g3.1]
    have := g3.2.1
    refine pk_ne s.1 0 (fun hs => ?_) (fun hs I2 e2 I3 e3 => ?_)
    · rw [nm_f hs] at k
      exact k J1 0 g1 ⟨g2, g3, q', g5, g4, fun q => absurd q hs⟩ (fun q => absurd q hs)
    · obtain ⟨c1, c2⟩ := g8 hs
      rw [nm_b hs (by omega), c1, c2] at k
      refine k I3 0 ((g1.tr (Fr2.st e2)).tr (Fr2.st e3)) ⟨g2.to (by rw [e3, e_st_k (by decide), e2, e_st_k (by decide)]) (by rw [e3, e_st_a (by decide), e2, e_st_a (by decide)]), g3.set hs g6 (by omega) e2 e3 ew, q', g5, by rw [e3, e_st_k (by decide), e2, e_st_k (by decide)]; exact g4, fun q => absurd q (by show ¬ c = 0; omega)⟩ (fun q => absurd q (by show ¬ c = 0; omega))
  have cd1 : ¬ (sk t n q < n ∧ isD (t (sk t n q))) → (s.1 = 0 → cd t n (sk t n s.2.2) L = 1 ∧ sk t n s.2.2 = sk t n q) := fun hc hs => by
    rw [← hq0 hs]
    refine ⟨?_, rfl⟩
    unfold cd
    rw [if_neg hc]
  rw [h14]
  refine ⟨fun h => absurd h (nI_pos (by omega)), fun _ => ?_⟩
  rw [hT1.1]
  refine pk_le n (sk t n q) (fun hge => bad I1 1 (sk t n q) f1 hT1 hF1 h14 (by omega) (by omega) (by omega) (cd1 (by omega)) _ rfl) (fun hlt => ⟨sk t n q, rfl, by omega, ?_⟩)
  obtain ⟨c1, c2⟩ := hT1.2.2 _ hlt
  rw [c1]
  refine pk_lt (t (sk t n q)) 48 (fun h => bad I1 1 (sk t n q) f1 hT1 hF1 h14 (by omega) (by omega) (by omega) (cd1 (fun q' => by have := q'.2.1; omega)) _ rfl) (fun h48 => pk_lt 57 (t (sk t n q)) (fun h => bad I1 1 (sk t n q) f1 hT1 hF1 h14 (by omega) (by omega) (by omega) (cd1 (fun q' => by have := q'.2.2; omega)) _ rfl) (fun h57 => ?_))
  have hD : isD (t (sk t n q)) := ⟨by omega, by omega⟩
  refine L_digits (I := I1) (p0 := sk t n q) hr hT1 (by omega) (fun J2 g1 g2 g3 => ?_) (n - sk t n q) 0 I1 (by omega) (by omega) rfl (fun m hm => absurd hm (by omega)) Fr2.rf (fun _ _ => rfl) h14
  have d := dg_le (t := t) (n := n) (p := sk t n q)
  have hT2 : hT3 J2 t n := hT1.to (g2 1 (by decide)) (g1 3 (by decide))
  have hF2 : hF3 J2 s := hF1.to (g2 2 (by decide)) (g2 3 (by decide))
  have h25 : J2 2 5 = nI (sk t n q) := by rw [g2 5 (by decide)]; exact h15
  have cd2 : (2 < dg t n (sk t n q) - sk t n q ∨ L ≤ vf t (sk t n q) (dg t n (sk t n q) - sk t n q)) → (s.1 = 0 → cd t n (sk t n s.2.2) L = 2 ∧ sk t n s.2.2 = sk t n q) := fun hc hs => by
    rw [← hq0 hs]
    refine ⟨?_, rfl⟩
    unfold cd
    rw [if_pos ⟨hlt, hD⟩, if_pos hc]
  refine B_X7_readNumber_96 hr (pk_lt 2 (dg t n (sk t n q) - sk t n q) (fun h3 => bad J2 2 (dg t n (sk t n q)) (f1.tr g1) hT2 hF2 g3 (by omega) (by omega) (by omega) (cd2 (Or.inl h3)) _ h25) (fun h3 => ?_))
  have hvl := vf_lt (t := t) (n := n) (p := sk t n q) (fun k hk => (hT.2.2 k hk).2) (k := dg t n (sk t n q) - sk t n q) (by omega) h3
  refine ⟨fun hle => ?_, fun hnle => ?_⟩
  · have hL := (hx _ hvl).mp hle
    refine k J2 _ (f1.tr g1) ⟨hT2, ?_, dg t n (sk t n q), by omega, g3, fun hz => ?_⟩ (fun hz => ?_)
    · by_cases hs : s.1 = 0
      · have hcd : cd t n (sk t n s.2.2) L = 0 := by
          rw [← hq0 hs]; unfold cd; rw [if_pos ⟨hlt, hD⟩, if_neg (by omega)]
        rw [nm_g hs hcd]
        exact ⟨by rw [hF2.1, hs], by show (0 : Nat) ≤ 4; omega, fun _ => hF2.2.2.1 hs, fun q => absurd rfl q⟩
      · rw [nm_f hs]; exact hF2
    · obtain ⟨hs, hcd, -⟩ := nm_0 hz
      rw [nm_g hs hcd, ← hq0 hs]
    · obtain ⟨hs, hcd, -⟩ := nm_0 hz
      unfold nv
      rw [← hq0 hs]
      exact ⟨rfl, h25⟩
  · have hL : L ≤ vf t (sk t n q) (dg t n (sk t n q) - sk t n q) := by
      rcases Nat.lt_or_ge (vf t (sk t n q) (dg t n (sk t n q) - sk t n q)) L with q' | q'
      · exact absurd ((hx _ hvl).mpr q') hnle
      · exact q'
    exact bad J2 2 (dg t n (sk t n q)) (f1.tr g1) hT2 hF2 g3 (by omega) (by omega) (by omega) (cd2 (Or.inr hL)) _ h25
theorem C_readEnd (hr : isRd z) (h : hV I t n s b) (hb : 200 ≤ b) (hb2 : b ≤ 999) (k : ∀ I', Fr2 I I' → hV I' t n (en t n s) (b + 1) → Q none z I') : E mX7_readEnd mc ms 0 [some (.ref 2)] [] z I Q := by
  obtain ⟨hT, hF, q, hqb, hq4, hq0⟩ := h
  have hn := hT.2.1
  refine B_X7_readEnd_0 hr (C_skip hr hT hq4 (by omega) (fun J hfJ hjJ h4J => B_X7_readEnd_4 hr ?_))
  have a := sk_le (t := t) (n := n) (p := q)
  have hTJ : hT3 J t n := hT.to (hjJ 1 (by decide)) (hfJ 3 (by decide))
  have hFJ : hF3 J s := hF.to (hjJ 2 (by decide)) (hjJ 3 (by decide))
  have bad : ¬ (sk t n q < n ∧ t (sk t n q) = 59) → ((¬ J 2 3 = 0) → ∀ I1, I1 = e_st J 2 4 (nI (sk t n q) + 1) → Q none z I1) ∧ ((J 2 3 = 0) → ∀ I1, I1 = e_st J 2 3 1 → ∀ I2, I2 = e_st I1 2 2 (nI (sk t n q)) → ∀ I3, I3 = e_st I2 2 4 ((I2 2 4) + 1) → Q none z I3) := by
    intro hno
    rw [hFJ.1]
    have := hFJ.2.1
    refine pk_ne s.1 0 (fun hs I1 e1 => ?_) (fun hs I1 e1 I2 e2 I3 e3 => ?_)
    · have e : en t n s = s := if_pos hs
      rw [e] at k
      rw [nI_1] at e1
      exact k I1 (hfJ.tr (Fr2.st e1)) ⟨hTJ.to (by rw [e1, e_st_k (by decide)]) (by rw [e1, e_st_a (by decide)]), hFJ.to (by rw [e1, e_st_k (by decide)]) (by rw [e1, e_st_k (by decide)]), sk t n q + 1, by omega, by rw [e1, e_st_same], fun q => absurd q hs⟩
    · have e : en t n s = (1, sk t n q, 0) := by
        unfold en
        rw [if_neg (by omega), ← hq0 hs, if_neg hno]
      rw [e] at k
      have h24 : I2 2 4 = nI (sk t n q) := by rw [e2, e_st_k (by decide), e1, e_st_k (by decide)]; exact h4J
      rw [h24, nI_1] at e3
      have hF2 := hFJ.set (c := 1) hs (by omega) (by omega) e1 e2 rfl
      refine k I3 (((hfJ.tr (Fr2.st e1)).tr (Fr2.st e2)).tr (Fr2.st e3)) ⟨hTJ.to (by rw [e3, e_st_k (by decide), e2, e_st_k (by decide), e1, e_st_k (by decide)]) (by rw [e3, e_st_a (by decide), e2, e_st_a (by decide), e1, e_st_a (by decide)]), hF2.to (by rw [e3, e_st_k (by decide)]) (by rw [e3, e_st_k (by decide)]), sk t n q + 1, by omega, by rw [e3, e_st_same], fun q => absurd q (by show ¬ (1 : Nat) = 0; omega)⟩
  rw [h4J]
  refine ⟨fun h => absurd h (nI_pos (by omega)), fun _ => ?_⟩
  rw [hTJ.1]
  refine pk_le n (sk t n q) (fun hge => bad (by omega)) (fun hlt => ⟨sk t n q, rfl, by omega, ?_⟩)
  obtain ⟨c1, c2⟩ := hTJ.2.2 _ hlt
  rw [c1]
  refine pk_eq (t (sk t n q)) 59 (fun he I2 e2 => ?_) (fun hne => bad (by omega))
  rw [nI_1] at e2
  refine k I2 (hfJ.tr (Fr2.st e2)) ⟨hTJ.to (by rw [e2, e_st_k (by decide)]) (by rw [e2, e_st_a (by decide)]), ?_, sk t n q + 1, by omega, by rw [e2, e_st_same], fun hz => ?_⟩
  · have hF2 : hF3 I2 s := hFJ.to (by rw [e2, e_st_k (by decide)]) (by rw [e2, e_st_k (by decide)])
    by_cases hs : s.1 = 0
    · have e : en t n s = (0, 0, sk t n q + 1) := by
        unfold en
        rw [if_neg (by omega), ← hq0 hs, if_pos ⟨hlt, he⟩]
      rw [e]
      exact ⟨by rw [hF2.1, hs], by show (0 : Nat) ≤ 4; omega, fun _ => hF2.2.2.1 hs, fun q => absurd rfl q⟩
    · have e : en t n s = s := if_pos hs
      rw [e]; exact hF2
  · obtain ⟨hs, -, -, e⟩ := en_0 hz
    rw [e, ← hq0 hs]
end R1
