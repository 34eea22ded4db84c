/-! ===== a moment is copied; the past; images; draws; the book ===== -/
theorem hM.fr {I I' : It} {m : Nat} {π : Pt} {κ : Kt} (h : hM I m π κ) (he : ∀ a, m ≤ a → a ≤ m + 13 → I' a = I a) : hM I' m π κ := by
  unfold hM hMs hMw hMg hMh at *
  rw [he m (by omega) (by omega), he (m + 1) (by omega) (by omega), he (m + 2) (by omega) (by omega), he (m + 3) (by omega) (by omega), he (m + 4) (by omega) (by omega), he (m + 5) (by omega) (by omega), he (m + 6) (by omega) (by omega), he (m + 7) (by omega) (by omega), he (m + 8) (by omega) (by omega), he (m + 9) (by omega) (by omega), he (m + 10) (by omega) (by omega), he (m + 11) (by omega) (by omega), he (m + 12) (by omega) (by omega), he (m + 13) (by omega) (by omega)]
  exact h
def zs (j : Nat) : Nat := if j = 5 ∨ j = 6 ∨ j = 9 ∨ j = 10 then 64 else 8
def cR (I : It) (m m' s : Nat) (J : It) : Prop := FrM m I J ∧ (J m 0 = I m' 0 ∧ J m 1 = I m' 1 ∧ J m 2 = I m' 2 ∧ J m 3 = I m' 3 ∧ J m 14 = I m' 14) ∧ ∀ j, 1 ≤ j → j ≤ s → ∀ k, k < zs j → J (m + j) k = I (m' + j) k
theorem cR.step {I J J' : It} {m m' s s' n : Nat} (h : cR I m m' s J) (hd : m + 13 < m' ∨ m' + 13 < m) (hs : s + 1 = s') (hs' : s' ≤ 13) (hn : zs s' = n) (e : J' = e_cp J (m' + s') (m + s') n) : cR I m m' s' J' := by
  obtain ⟨h1, h2, h3⟩ := h
  have ro : ∀ b, b ≠ m + s' → J' b = J b := fun b hb => by funext k; rw [e]; unfold e_cp; rw [if_neg (fun q => hb q.1)]
  refine ⟨fun a ha => by rw [ro a (by omega)]; exact h1 a ha, by rw [ro m (by omega)]; exact h2, fun j hj1 hj2 k hk => ?_⟩
  by_cases ej : j = s'
  · subst ej
    rw [e]
    unfold e_cp
    rw [if_pos ⟨rfl, by omega⟩, h1 (m' + j) (by omega)]
  · rw [ro _ (by omega)]; exact h3 j hj1 (by omega) k hk
theorem hM.cpy {I J : It} {m m' : Nat} {π : Pt} {κ : Kt} (hX : hM I m' π κ) (hW : WP π) (hK : WK π κ) (h : cR I m m' 13 J) : hM J m π κ := by
  obtain ⟨h1, ⟨s0, s1, s2, s3, s14⟩, h3⟩ := h
  obtain ⟨⟨x0, x1, x2, x14⟩, ⟨xf, xw⟩, ⟨g1, g2, g3⟩, xh⟩ := hX
  have hw0 := hW.1
  have hw1 := hW.2.1
  have r : ∀ j, 1 ≤ j → j ≤ 13 → ∀ k, k < 8 → J (m + j) k = I (m' + j) k := fun j a b k hk => h3 j a b k (by unfold zs; split <;> omega)
  refine ⟨⟨by rw [s0]; exact x0, by rw [s1]; exact x1, by rw [s2]; exact x2, by rw [s14]; exact x14⟩, ⟨by rw [s3]; exact xf, fun w hw => ?_⟩, ⟨fun g hg => ?_, fun g hg => ?_, fun g hg k hk => ?_⟩, fun k hk => ?_⟩
  · obtain ⟨a, b, c, e, e1, e2, e3⟩ := xw w hw
    rw [r 1 (by omega) (by omega) w (by omega), r 2 (by omega) (by omega) w (by omega), r 3 (by omega) (by omega) w (by omega)]
    refine ⟨a, b, c, e, e1, by rw [r 4 (by omega) (by omega) w (by omega)]; exact e2, fun k hk1 hk2 => ?_⟩
    have := e3 k hk1 hk2
    have hlt : 8 * w + (e + 7 - k) % 8 < 64 := by have := Nat.mod_lt (e + 7 - k) (by omega : 8 > 0); omega
    rw [h3 5 (by omega) (by omega) _ hlt, h3 6 (by omega) (by omega) _ hlt]
    exact this
  · rw [r 7 (by omega) (by omega) g (by omega)]; exact g1 g hg
  · rw [r 8 (by omega) (by omega) g (by omega)]; exact g2 g hg
  · have h8 := (hK.2.1 g hg).1
    have hlt : 8 * g + k < 64 := by omega
    rw [h3 9 (by omega) (by omega) _ hlt, h3 10 (by omega) (by omega) _ hlt]
    exact g3 g hg k hk
  · have h8 := hK.2.2.2.1.1
    rw [r 11 (by omega) (by omega) k (by omega), r 12 (by omega) (by omega) k (by omega), r 13 (by omega) (by omega) k (by omega)]
    exact xh k hk
section C10
variable {mc ms : Nat} {z : Zt} {I : It} {Q : Option Value → Zt → It → Prop} {m m' p : Nat} {π : Pt} {κ : Kt}
theorem C_copyFrom (hm : isM z m) (hm' : isM z m') (hd : m + 13 < m' ∨ m' + 13 < m) (hX : hM I m' π κ) (hW : WP π) (hK : WK π κ) (k : ∀ I', FrM m I I' → hM I' m π κ → Q none z I') : E mX4_copyFrom mc ms 0 [some (.ref m), some (.ref m')] [] z I Q := by
  refine B_X4_copyFrom_0 hm hm' (fun I1 e1 I2 e2 => ⟨?_, fun I3 e3 I4 e4 I5 e5 I6 e6 I7 e7 I8 e8 I9 e9 I10 e10 I11 e11 I12 e12 I13 e13 I14 e14 I15 e15 I16 e16 I17 e17 I18 e18 => ?_⟩)
  · rw [e2, e_st_a (by omega), e1, e_st_a (by omega), hX.1.2.2.1]
    have := hK.2.2.2.2.2.2.2.1
    have : κ 2 0 0 = 0 ∨ κ 2 0 0 = 1 := by omega
    rcases this with q | q <;> rw [q] <;> decide
  · have f5 : ∀ b, b ≠ m → I5 b = I b := fun b hb => by rw [e5, e_st_a hb, e4, e_st_a hb, e3, e_st_a hb, e2, e_st_a hb, e1, e_st_a hb]
    have hmm : m' ≠ m := by omega
    have q1 : I1 m' = I m' := by rw [e1, e_st_a hmm]
    have q2 : I2 m' = I m' := by rw [e2, e_st_a hmm, q1]
    have q3 : I3 m' = I m' := by rw [e3, e_st_a hmm, q2]
    have q4 : I4 m' = I m' := by rw [e4, e_st_a hmm, q3]
    have c0 : cR I m m' 0 I5 := by
      refine ⟨fun b hb => f5 b (by omega), ⟨?_, ?_, ?_, ?_, ?_⟩, fun j h1 h2 => by omega⟩
      · rw [e5, e_st_k (by decide), e4, e_st_k (by decide), e3, e_st_k (by decide), e2, e_st_k (by decide), e1, e_st_same]
      · rw [e5, e_st_k (by decide), e4, e_st_k (by decide), e3, e_st_k (by decide), e2, e_st_same, q1]
      · rw [e5, e_st_k (by decide), e4, e_st_k (by decide), e3, e_st_same, q2]
      · rw [e5, e_st_k (by decide), e4, e_st_same, q3]
      · rw [e5, e_st_same, q4]
    have c := ((((((((((((c0.step hd rfl (by omega) rfl e6).step hd rfl (by omega) rfl e7).step hd rfl (by omega) rfl e8).step hd rfl (by omega) rfl e9).step hd rfl (by omega) rfl e10).step hd rfl (by omega) rfl e11).step hd rfl (by omega) rfl e12).step hd rfl (by omega) rfl e13).step hd rfl (by omega) rfl e14).step hd rfl (by omega) rfl e15).step hd rfl (by omega) rfl e16).step hd rfl (by omega) rfl e17).step hd rfl (by omega) rfl e18
    exact k I18 c.1 (hX.cpy hW hK c)
end C10
-- the past goes round
def hQ (I : It) (π : Pt) (ρ : Nat → Kt) (c : Nat) : Prop := c ≤ 16 ∧ I 48 2 = nI c ∧ ∃ e, e < 16 ∧ I 48 1 = nI e ∧ ∀ k, k < c → hM I (50 + 14 * ((e + 15 - k) % 16)) π (ρ k)
def psh (κ : Kt) (ρ : Nat → Kt) : Nat → Kt := fun k => if k = 0 then κ else ρ (k - 1)
theorem fmod16 : ∀ e, e < 16 → ∀ n, n < 17 → f_J9_floorMod_7cf53 (nI e - nI n) 16 = nI ((e + 16 - n) % 16) := by decide +kernel
theorem mod16 : ∀ e, e < 16 → (nI e + 1) - (nI e + 1) / 16 * 16 = nI ((e + 1) % 16) := by decide +kernel
def FrC (I I' : It) : Prop := ∀ a, (a < 48 ∨ 273 < a) → I' a = I a
section C11
variable {mc ms : Nat} {z : Zt} {I : It} {Q : Option Value → Zt → It → Prop} {m p : Nat} {π : Pt} {κ : Kt} {ρ : Nat → Kt} {c : Nat}
theorem C_remember (hq : isPa z) (hm : isM z m) (hmm : ∀ j, j < 16 → isM z (50 + 14 * j)) (hm48 : m + 13 < 48) (hX : hM I m π κ) (hP : hQ I π ρ c) (hW : WP π) (hK : WK π κ) (k : ∀ I', FrC I I' → hQ I' π (psh κ ρ) (min (c + 1) 16) → Q none z I') : E mX5_remember mc ms 0 [some (.ref 48), some (.ref m), none] [] z I Q := by
  obtain ⟨hc, h2, e, he, h1, hr⟩ := hP
  refine B_X5_remember_0 hq hm hq ⟨e, h1, he, C_copyFrom (hmm e he) hm (by omega) hX hW hK (fun I' hf hX' => ?_)⟩
  refine B_X5_remember_19 hq (fun I1 e1 I2 e2 => ?_)
  have f48 : I' 48 = I 48 := hf 48 (by omega)
  rw [f48, h1, mod16 e he] at e1
  have e12 : I1 48 2 = nI c := by rw [e1, e_st_k (by decide), f48, h2]
  rw [e12, nI_1] at e2
  have e2' : I2 = e_st I1 48 2 (nI (min (c + 1) 16)) := by rw [e2]; exact congrArg (e_st I1 48 2) (nmin 16 (by omega) (by omega))
  have ro : ∀ a, a ≠ 48 → I2 a = I' a := fun a ha => by rw [e2', e_st_a ha, e1, e_st_a ha]
  have hlt := Nat.mod_lt (e + 1) (by omega : 16 > 0)
  refine k I2 (fun a ha => by rw [ro a (by omega), hf a (by omega)]) ⟨Nat.min_le_right _ _, by rw [e2', e_st_same], (e + 1) % 16, hlt, by rw [e2', e_st_k (by decide), e1, e_st_same], fun j hj => ?_⟩
  have hmod : ∀ j, j < 16 → 50 + 14 * (((e + 1) % 16 + 15 - j) % 16) = 50 + 14 * ((e + 16 - j) % 16) := fun j hj => by omega
  rw [hmod j (by omega)]
  unfold psh
  by_cases hj0 : j = 0
  · subst hj0
    rw [if_pos rfl]
    refine hM.fr (I := I') ?_ (fun a ha1 ha2 => ro a (by omega))
    rw [show (e + 16 - 0) % 16 = e by omega]; exact hX'
  · rw [if_neg hj0]
    have := hr (j - 1) (by omega)
    rw [show e + 15 - (j - 1) = e + 16 - j by omega] at this
    refine this.fr (fun a ha1 ha2 => ?_)
    rw [ro a (by omega)]
    have hne : (e + 16 - j) % 16 ≠ e := by omega
    have hl2 := Nat.mod_lt (e + 16 - j) (by omega : 16 > 0)
    exact hf a (by omega)
theorem C_bringBack (hq : isPa z) (hm : isM z m) (hmm : ∀ j, j < 16 → isM z (50 + 14 * j)) (hm48 : m + 13 < 48) (hP : hQ I π ρ c) (hW : WP π) {n : Nat} (hn : 0 < n) (hn2 : n ≤ c) (hK : WK π (ρ (n - 1))) (k : ∀ I', (∀ a, (a < m ∨ m + 13 < a) → a ≠ 48 → I' a = I a) → hM I' m π (ρ (n - 1)) → hQ I' π (fun k => ρ (k + n)) (c - n) → Q none z I') : E mX5_bringBack mc ms 0 [some (.ref 48), some (.int (nI n)), some (.ref m), none] [] z I Q := by
  obtain ⟨hc, h2, e, he, h1, hr⟩ := hP
  refine B_X5_bringBack_0 hq hm hq (fun I1 e1 I2 e2 => ?_)
  rw [h1, fmod16 e he n (by omega)] at e1
  have e12 : I1 48 2 = nI c := by rw [e1, e_st_k (by decide), h2]
  rw [e12, pk_sub hn2] at e2
  have hlt := Nat.mod_lt (e + 16 - n) (by omega : 16 > 0)
  have e21 : I2 48 1 = nI ((e + 16 - n) % 16) := by rw [e2, e_st_k (by decide), e1, e_st_same]
  have ro : ∀ a, a ≠ 48 → I2 a = I a := fun a ha => by rw [e2, e_st_a ha, e1, e_st_a ha]
  have hX2 : hM I2 (50 + 14 * ((e + 16 - n) % 16)) π (ρ (n - 1)) := by
    have := hr (n - 1) (by omega)
    rw [show e + 15 - (n - 1) = e + 16 - n by omega] at this
    exact this.fr (fun a _ _ => ro a (by omega))
  refine ⟨(e + 16 - n) % 16, e21, hlt, C_copyFrom hm (hmm _ hlt) (by omega) hX2 hW hK (fun I' hf hX' => ?_)⟩
  refine B_X5_bringBack_44 (k I' (fun a ha h48 => by rw [hf a ha, ro a h48]) hX' ⟨by omega, ?_, (e + 16 - n) % 16, hlt, ?_, fun j hj => ?_⟩)
  · rw [hf 48 (by omega), e2, e_st_same]
  · rw [hf 48 (by omega), e21]
  · have := hr (j + n) (by omega)
    rw [show ((e + 16 - n) % 16 + 15 - j) % 16 = (e + 15 - (j + n)) % 16 by omega]
    exact this.fr (fun a ha1 ha2 => by rw [hf a (by omega), ro a (by omega)])
end C11
-- images
def hI (I : It) (π : Pt) (i : Nat) (κ : Kt) (kp sd : Nat) : Prop := kp ≤ 1 ∧ I i 2 = nI kp ∧ (kp = 1 → I i 1 = nI sd ∧ hM I (i + 1) π κ)
section C12
variable {mc ms : Nat} {z : Zt} {I : It} {Q : Option Value → Zt → It → Prop} {m p i : Nat} {π : Pt} {κ : Kt}
theorem C_take (hi : isIm z i) (hi' : isM z (i + 1)) (hm : isM z m) (hd : isDr z) (hmi : m + 13 < i) (hi7 : i + 14 < 307) (hX : hM I m π κ) (hW : WP π) (hK : WK π κ) {sd : Nat} (hs : I 307 0 = nI sd) (k : ∀ I', (∀ a, (a < i ∨ i + 14 < a) → I' a = I a) → hI I' π i κ 1 sd → Q none z I') : E mX2_take mc ms 0 [some (.ref i), some (.ref m), some (.ref 307)] [] z I Q := by
  refine B_X2_take_0 hi hm hd (C_copyFrom hi' hm (by omega) hX hW hK (fun I' hf hX' => ?_))
  refine B_X2_take_8 hi hd (fun I1 e1 I2 e2 => ?_)
  have ro : ∀ a, a ≠ i → I2 a = I' a := fun a ha => by rw [e2, e_st_a ha, e1, e_st_a ha]
  refine k I2 (fun a ha => by rw [ro a (by omega), hf a (by omega)]) ⟨by omega, by rw [e2, e_st_same]; rfl, fun _ => ⟨?_, hX'.fr (fun a h1 h2 => ro a (by omega))⟩⟩
  rw [e2, e_st_k (by decide), e1, e_st_same, hf 307 (by omega), hs]
theorem C_give (hi : isIm z i) (hi' : isM z (i + 1)) (hm : isM z m) (hd : isDr z) (hmi : m + 13 < i) (hi7 : i + 14 < 307) {sd : Nat} (hX : hI I π i κ 1 sd) (hW : WP π) (hK : WK π κ) (k : ∀ I', (∀ a, (a < m ∨ m + 13 < a) → a ≠ 307 → I' a = I a) → hM I' m π κ → I' 307 0 = nI sd → Q none z I') : E mX2_give mc ms 0 [some (.ref i), some (.ref m), some (.ref 307)] [] z I Q := by
  obtain ⟨-, -, h⟩ := hX
  obtain ⟨h1, h2⟩ := h rfl
  refine B_X2_give_0 hi hm hd (C_copyFrom hm hi' (by omega) h2 hW hK (fun I' hf hX' => ?_))
  refine B_X2_give_8 hi hd (fun I1 e1 => k I1 (fun a ha h7 => by rw [e1, e_st_a h7, hf a ha]) (hX'.fr (fun a ha1 ha2 => by rw [e1, e_st_a (by omega)])) ?_)
  rw [e1, e_st_same, hf i (by omega), h1]
end C12
