/-! ===== the reference reads a text ===== -/
def hT9 (I : It) (t : Nat → Nat) (n : Nat) : Prop := I 308 12 = nI n ∧ n ≤ 200 ∧ ∀ k, k < n → I 314 k = nI (t k) ∧ t k < 256
def hF9 (I : It) (s : St) : Prop := I 308 15 = nI s.1 ∧ s.1 ≤ 4 ∧ (s.1 ≠ 0 → I 308 16 = nI s.2.1)
def hV9 (I : It) (t : Nat → Nat) (n : Nat) (s : St) (b : Nat) : Prop := hT9 I t n ∧ hF9 I s ∧ ∃ q, q ≤ b ∧ I 308 14 = nI q ∧ (s.1 = 0 → q = s.2.2)
def Fr9 (I I' : It) : Prop := (∀ a, a ≠ 308 → I' a = I a) ∧ ∀ j, j ≠ 14 → j ≠ 15 → j ≠ 16 → j ≠ 17 → I' 308 j = I 308 j
theorem Fr9.rf {I : It} : Fr9 I I := ⟨fun _ _ => rfl, fun _ _ _ _ _ => rfl⟩
theorem Fr9.tr {I I' I'' : It} (h : Fr9 I I') (h' : Fr9 I' I'') : Fr9 I I'' := ⟨fun a ha => (h'.1 a ha).trans (h.1 a ha), fun j a b c d => (h'.2 j a b c d).trans (h.2 j a b c d)⟩
theorem Fr9.st {I I' : It} {j : Nat} {v : Int32} (e : I' = e_st I 308 j v) (hj : j = 14 ∨ j = 15 ∨ j = 16 ∨ j = 17) : Fr9 I I' := ⟨fun a ha => by rw [e, e_st_a ha], fun i a b c d => by rw [e, e_st_k (by omega)]⟩
def hch (t : Nat → Nat) (n p : Nat) : Int32 := if p < n then nI (t p) else -1
theorem sk_nb {t : Nat → Nat} {n : Nat} : ∀ r p, n - p = r → sk t n p < n → t (sk t n p) ≠ 32
  | 0, p, h, h2 => by rw [sk_ge (by omega)] at h2; omega
  | r + 1, p, h, h2 => by
    by_cases e : t p = 32
    · rw [sk_sp (by omega) e] at h2 ⊢
      exact sk_nb r (p + 1) (by omega) h2
    · rw [sk_no (by omega) e]; exact e
theorem sk_id {t : Nat → Nat} {n p : Nat} : sk t n (sk t n p) = sk t n p := by
  rcases Nat.lt_or_ge (sk t n p) n with h | h
  · exact sk_no h (sk_nb (n - p) p rfl h)
  · exact sk_ge h
section S1
variable {mc ms : Nat} {z : Zt} {I I' : It} {Q : Option Value → Zt → It → Prop} {t : Nat → Nat} {n b L : Nat} {s : St}
theorem hT9.to {J : It} (h : hT9 I t n) (h1 : J 308 12 = I 308 12) (h3 : J 314 = I 314) : hT9 J t n := by
  unfold hT9 at *
  rw [h1, h3]; exact h
theorem hF9.to {J : It} (h : hF9 I s) (h2 : J 308 15 = I 308 15) (h3 : J 308 16 = I 308 16) : hF9 J s := by
  unfold hF9 at *
  rw [h2, h3]; exact h
theorem LM_here (ho : isO z) (hT : hT9 I t n) : ∀ (r q : Nat) (J : It), n - q = r → q ≤ 1000 → (∀ a, a ≠ 308 → J a = I a) → (∀ j, j ≠ 14 → J 308 j = I 308 j) → J 308 14 = nI q → (∀ I', (∀ a, a ≠ 308 → I' a = I a) → (∀ j, j ≠ 14 → I' 308 j = I 308 j) → I' 308 14 = nI (sk t n q) → Q (some (.int (hch t n (sk t n q)))) z I') → E mX9_here mc ms 0 [some (.ref 308)] [] z J Q := by
  intro r
  obtain ⟨h1, h2, h3⟩ := hT
  induction r with
  | zero =>
    intro q J hq hqb hf hj h4 k
    have e : hch t n q = -1 := if_neg (by omega)
    rw [sk_ge (by omega), e] at k
    refine B_X9_here_0 ho ?_
    rw [hj 12 (by decide), h1, h4]
    refine pk_le n q (fun _ => pk_le n q (fun _ => k J hf hj h4) (fun h => absurd h (by omega))) (fun h => absurd h (by omega))
  | succ r ih =>
    intro q J hq hqb hf hj h4 k
    refine B_X9_here_0 ho ?_
    rw [hj 12 (by decide), h1, h4]
    refine pk_le n q (fun h => absurd h (by omega)) (fun hlt => ⟨q, rfl, by omega, ?_⟩)
    obtain ⟨a1, a2⟩ := h3 q hlt
    rw [hf 314 (by decide), a1]
    refine pk_ne (t q) 32 (fun hne => pk_le n q (fun h => absurd h (by omega)) (fun _ => ?_)) (fun he I2 e2 => ?_)
    · have e : hch t n q = nI (t q) := if_pos hlt
      rw [sk_no hlt hne, e] at k
      exact k J hf hj h4
    · rw [nI_1] at e2
      rw [sk_sp hlt he] at k
      exact ih (q + 1) I2 (by omega) (by omega) (fun a ha => by rw [e2, e_st_a ha]; exact hf a ha) (fun j hj' => by rw [e2, e_st_k hj']; exact hj j hj') (by rw [e2, e_st_same]) k
theorem M_here (ho : isO z) (hT : hT9 I t n) {q : Nat} (hq : I 308 14 = nI q) (hqb : q ≤ 1000) (k : ∀ I', (∀ a, a ≠ 308 → I' a = I a) → (∀ j, j ≠ 14 → I' 308 j = I 308 j) → I' 308 14 = nI (sk t n q) → Q (some (.int (hch t n (sk t n q)))) z I') : E mX9_here mc ms 0 [some (.ref 308)] [] z I Q :=
  LM_here ho hT (n - q) q I rfl hqb (fun _ _ => rfl) (fun _ _ => rfl) hq k
theorem hF9.set {J I1 I2 : It} {c fp : Nat} {w : Int32} (hc : 0 < c) (hc4 : c ≤ 4) (e1 : I1 = e_st J 308 15 (nI c)) (e2 : I2 = e_st I1 308 16 w) (hw : w = nI fp) : hF9 I2 (c, fp, 0) :=
  ⟨by rw [e2, e_st_k (by decide), e1, e_st_same], hc4, fun _ => by rw [e2, e_st_same, hw]⟩
theorem LM_digits (ho : isO z) (hT : hT9 I t n) {p0 : Nat} {x2 : Int32} (hp : p0 ≤ n) (hfrom : I 308 17 = nI p0) (k : ∀ J, (∀ a, a ≠ 308 → J a = I a) → (∀ j, j ≠ 14 → J 308 j = I 308 j) → J 308 14 = nI (dg t n p0) → E mX9_number mc ms 126 [some (.ref 308), some (.int 0), some (.int x2), none, some (.int (nI (vf t p0 (dg t n p0 - p0))))] [] z J Q) : ∀ (r i : Nat) (J : It), n - (p0 + i) = r → p0 + i ≤ n → dg t n p0 = dg t n (p0 + i) → (∀ a, a ≠ 308 → J a = I a) → (∀ j, j ≠ 14 → J 308 j = I 308 j) → J 308 14 = nI (p0 + i) → E mX9_number mc ms 45 [some (.ref 308), some (.int 0), some (.int x2), none, some (.int (nI (vf t p0 i)))] [] z J Q := by
  intro r
  obtain ⟨h1, h2, h3⟩ := hT
  induction r with
  | zero =>
    intro i J hr' hi he hf hj h4
    rw [dg_ge (p := p0 + i) (by omega)] at he
    have e2 : dg t n p0 - p0 = i := by omega
    rw [e2, he] at k
    refine B_X9_number_45 ho ?_
    rw [hj 12 (by decide), h1, h4]
    exact pk_le n (p0 + i) (fun _ => k J hf hj h4) (fun h => absurd h (by omega))
  | succ r ih =>
    intro i J hr' hi he hf hj h4
    have hlt : p0 + i < n := by omega
    obtain ⟨a1, a2⟩ := h3 (p0 + i) hlt
    have stop : ¬ isD (t (p0 + i)) → E mX9_number mc ms 126 [some (.ref 308), some (.int 0), some (.int x2), none, some (.int (nI (vf t p0 i)))] [] z J Q := fun hn => by
      rw [dg_no hlt hn] at he
      have e2 : dg t n p0 - p0 = i := by omega
      rw [e2, he] at k
      exact k J hf hj h4
    refine B_X9_number_45 ho ?_
    rw [hj 12 (by decide), h1, h4]
    refine pk_le n (p0 + i) (fun h => absurd h (by omega)) (fun _ => ⟨p0 + i, rfl, by omega, ?_⟩)
    rw [hf 314 (by decide), a1, hj 17 (by decide), hfrom, pk_sub (by omega : p0 ≤ p0 + i), show p0 + i - p0 = i by omega]
    refine pk_lt (t (p0 + i)) 48 (fun h => stop (fun q => by have := q.1; omega)) (fun h48 => pk_lt 57 (t (p0 + i)) (fun h => stop (fun q => by have := q.2; omega)) (fun h57 => ?_))
    have hD : isD (t (p0 + i)) := ⟨by omega, by omega⟩
    have he' : dg t n p0 = dg t n (p0 + (i + 1)) := by rw [he, dg_sp hlt hD]; rfl
    have go : ∀ I2, I2 = e_st J 308 14 (nI (p0 + i) + 1) → E mX9_number mc ms 45 [some (.ref 308), some (.int 0), some (.int x2), none, some (.int (nI (vf t p0 (i + 1))))] [] z I2 Q := fun I2 e2 => by
      rw [nI_1] at e2
      exact ih (i + 1) I2 (by omega) (by omega) he' (fun a ha => by rw [e2, e_st_a ha]; exact hf a ha) (fun j hj' => by rw [e2, e_st_k hj']; exact hj j hj') (by rw [e2, e_st_same]; rfl)
    refine pk_le 2 i (fun h2i I2 e2 => ?_) (fun h2i v2 ev I3 e3 => ?_)
    · have e : vf t p0 (i + 1) = vf t p0 i := by
        unfold vf
        rw [if_neg (by omega), if_neg (by omega), if_neg (by omega), if_neg (by omega)]
      have := go I2 e2
      rw [e] at this; exact this
    · have hv : v2 = nI (vf t p0 (i + 1)) := by
        rw [ev]
        have hi01 : i = 0 ∨ i = 1 := by omega
        rcases hi01 with q | q
        · subst q
          show nI 10 * nI 0 + nI (t p0) - nI 48 = nI (t p0 - 48)
          rw [ixm, ix2, pk_sub (by show 48 ≤ 10 * 0 + t p0; have : t (p0 + 0) = t p0 := rfl; omega)]
          exact congrArg nI (by omega)
        · subst q
          show nI 10 * nI (t p0 - 48) + nI (t (p0 + 1)) - nI 48 = nI ((t p0 - 48) * 10 + (t (p0 + 1) - 48))
          rw [ixm, ix2, pk_sub (by omega)]
          exact congrArg nI (by omega)
      rw [hv]
      exact go I3 e3
theorem M_number (ho : isO z) (h : hV9 I t n s b) (hb : 200 ≤ b) (hb2 : b ≤ 1000) {x2 : Int32} (hx : ∀ v, v < 3000 → (x2 < nI v ↔ L ≤ v)) (k : ∀ I' y, Fr9 I I' → hV9 I' t n (nm t n L s) b → ((nm t n L s).1 = 0 → y = nI (nv t n s) ∧ I' 308 17 = nI (sk t n s.2.2)) → Q (some (.int y)) z I') : E mX9_number mc ms 0 [some (.ref 308), some (.int 0), some (.int x2), none, none] [] z I Q := by
  obtain ⟨hT, hF, q, hqb, hq4, hq0⟩ := h
  have hn := hT.2.1
  refine B_X9_number_0 ho (M_here ho hT hq4 (by omega) (fun J hfJ hjJ h4J => B_X9_number_4 ho ?_))
  have a := sk_le (t := t) (n := n) (p := q)
  have fJ : Fr9 I J := ⟨hfJ, fun j h14 _ _ _ => hjJ j h14⟩
  have hTJ : hT9 J t n := hT.to (hjJ 12 (by decide)) (hfJ 314 (by decide))
  have hFJ : hF9 J s := hF.to (hjJ 15 (by decide)) (hjJ 16 (by decide))
  have h4' := hF.2.1
  rw [hFJ.1, h4J]
  refine pk_ne s.1 0 (fun hs => ?_) (fun hs => ?_) rfl rfl (by omega)
  · rw [nm_f hs] at k
    have kk := k J 0 fJ ⟨hTJ, hFJ, sk t n q, by omega, h4J, fun q => absurd q hs⟩ (fun q => absurd q hs)
    exact pk_ne s.1 0 (fun _ => kk) (fun q => absurd q hs) rfl rfl (by omega)
  · have hqe := hq0 hs
    subst hqe
    have bad1 : ¬ (sk t n s.2.2 < n ∧ isD (t (sk t n s.2.2))) → ((¬ nI s.1 = 0) → Q (some (.int 0)) z J) ∧ ((nI s.1 = 0) → ∀ I1, I1 = e_st J 308 15 1 → ∀ I2, I2 = e_st I1 308 16 (nI (sk t n s.2.2)) → Q (some (.int 0)) z I2) := by
      intro hc
      have hcd : cd t n (sk t n s.2.2) L = 1 := by unfold cd; rw [if_neg hc]
      rw [nm_b hs (by omega), hcd] at k
      refine ⟨fun q => absurd (by rw [hs]; rfl) q, fun _ I1 e1 I2 e2 => ?_⟩
      exact k I2 0 ((fJ.tr (Fr9.st e1 (by omega))).tr (Fr9.st e2 (by omega))) ⟨hTJ.to (by rw [e2, e_st_k (by decide), e1, e_st_k (by decide)]) (by rw [e2, e_st_a (by decide), e1, e_st_a (by decide)]), hF9.set (c := 1) (by omega) (by omega) e1 e2 rfl, sk t n s.2.2, by omega, by rw [e2, e_st_k (by decide), e1, e_st_k (by decide)]; exact h4J, fun q => absurd q (by show ¬ (1 : Nat) = 0; omega)⟩ (fun q => absurd q (by show ¬ (1 : Nat) = 0; omega))
    unfold hch
    by_cases hlt : sk t n s.2.2 < n
    · rw [if_pos hlt]
      obtain ⟨c1, c2⟩ := hTJ.2.2 _ hlt
      refine pk_lt (t (sk t n s.2.2)) 48 (fun h => bad1 (fun q' => by have := q'.2.1; omega)) (fun h48 => pk_lt 57 (t (sk t n s.2.2)) (fun h => bad1 (fun q' => by have := q'.2.2; omega)) (fun h57 I1 e1 => ?_))
      have hD : isD (t (sk t n s.2.2)) := ⟨by omega, by omega⟩
      have f1 : Fr9 I I1 := fJ.tr (Fr9.st e1 (by omega))
      have hT1 : hT9 I1 t n := hTJ.to (by rw [e1, e_st_k (by decide)]) (by rw [e1, e_st_a (by decide)])
      have hF1 : hF9 I1 s := hFJ.to (by rw [e1, e_st_k (by decide)]) (by rw [e1, e_st_k (by decide)])
      have h17 : I1 308 17 = nI (sk t n s.2.2) := by rw [e1, e_st_same]
      have h14 : I1 308 14 = nI (sk t n s.2.2) := by rw [e1, e_st_k (by decide)]; exact h4J
      refine LM_digits (I := I1) (p0 := sk t n s.2.2) ho hT1 (by omega) h17 (fun J2 g1 g2 g3 => ?_) (n - sk t n s.2.2) 0 I1 (by omega) (by omega) rfl (fun _ _ => rfl) (fun _ _ => rfl) h14
      have d := dg_le (t := t) (n := n) (p := sk t n s.2.2)
      have f2 : Fr9 I J2 := f1.tr ⟨g1, fun j a _ _ _ => g2 j a⟩
      have hT2 : hT9 J2 t n := hT1.to (g2 12 (by decide)) (g1 314 (by decide))
      have hF2 : hF9 J2 s := hF1.to (g2 15 (by decide)) (g2 16 (by decide))
      have h27 : J2 308 17 = nI (sk t n s.2.2) := by rw [g2 17 (by decide)]; exact h17
      have bad2 : (2 < dg t n (sk t n s.2.2) - sk t n s.2.2 ∨ L ≤ vf t (sk t n s.2.2) (dg t n (sk t n s.2.2) - sk t n s.2.2)) → ((¬ J2 308 15 = 0) → Q (some (.int 0)) z J2) ∧ ((J2 308 15 = 0) → ∀ I1, I1 = e_st J2 308 15 2 → ∀ I2, I2 = e_st I1 308 16 (J2 308 17) → Q (some (.int 0)) z I2) := by
        intro hc
        have hcd : cd t n (sk t n s.2.2) L = 2 := by unfold cd; rw [if_pos ⟨hlt, hD⟩, if_pos hc]
        rw [nm_b hs (by omega), hcd] at k
        rw [hF2.1, h27]
        refine ⟨fun q => absurd (by rw [hs]; rfl) q, fun _ I1 e1 I2 e2 => ?_⟩
        exact k I2 0 ((f2.tr (Fr9.st e1 (by omega))).tr (Fr9.st e2 (by omega))) ⟨hT2.to (by rw [e2, e_st_k (by decide), e1, e_st_k (by decide)]) (by rw [e2, e_st_a (by decide), e1, e_st_a (by decide)]), hF9.set (c := 2) (by omega) (by omega) e1 e2 rfl, dg t n (sk t n s.2.2), by omega, by rw [e2, e_st_k (by decide), e1, e_st_k (by decide)]; exact g3, fun q => absurd q (by show ¬ (2 : Nat) = 0; omega)⟩ (fun q => absurd q (by show ¬ (2 : Nat) = 0; omega))
      have hdd : J2 308 14 - J2 308 17 = nI (dg t n (sk t n s.2.2) - sk t n s.2.2) := by rw [g3, h27]; exact pk_sub d.1
      refine B_X9_number_126 ho ?_
      rw [hdd]
      refine pk_lt 2 (dg t n (sk t n s.2.2) - sk t n s.2.2) (fun h3 => bad2 (Or.inl h3)) (fun h3 => ?_)
      have hvl := vf_lt (t := t) (n := n) (p := sk t n s.2.2) (fun k hk => (hT.2.2 k hk).2) (k := dg t n (sk t n s.2.2) - sk t n s.2.2) (by omega) h3
      refine ⟨fun hneg => absurd hneg (nI_pos (by omega)), fun _ => ⟨fun hgt => bad2 (Or.inr ((hx _ hvl).mp hgt)), fun hngt => ?_⟩⟩
      have hL : ¬ L ≤ vf t (sk t n s.2.2) (dg t n (sk t n s.2.2) - sk t n s.2.2) := fun q => hngt ((hx _ hvl).mpr q)
      have hcd : cd t n (sk t n s.2.2) L = 0 := by unfold cd; rw [if_pos ⟨hlt, hD⟩, if_neg (by omega)]
      rw [nm_g hs hcd] at k
      exact k J2 _ f2 ⟨hT2, ⟨by rw [hF2.1, hs], by show (0 : Nat) ≤ 4; omega, fun q => absurd rfl q⟩, dg t n (sk t n s.2.2), by omega, g3, fun _ => rfl⟩ (fun _ => ⟨rfl, h27⟩)
    · rw [if_neg hlt]
      exact ⟨fun _ => bad1 (fun q => hlt q.1), fun q => absurd (by decide) q⟩
end S1
