/-! ===== the class's moments: queues ===== -/
section C1
variable {mc ms : Nat} {z : Zt} {I : It} {Q : Option Value → Zt → It → Prop} {m p : Nat}
/-- the shape of a drop: what it leaves -/
def dF (m g c n : Nat) (I I' : It) : Prop := (∀ a, a ≠ m + 8 → a ≠ m + 9 → a ≠ m + 10 → I' a = I a) ∧ I' (m + 8) = upd (I (m + 8)) g (nI (n - c)) ∧ (∀ k, (k < 8 * g ∨ 8 * g + 8 ≤ k) → I' (m + 9) k = I (m + 9) k ∧ I' (m + 10) k = I (m + 10) k) ∧ ∀ k, k < n - c → I' (m + 9) (8 * g + k) = I (m + 9) (8 * g + k + c) ∧ I' (m + 10) (8 * g + k) = I (m + 10) (8 * g + k + c)
theorem L_dropFirst (hm : isM z m) {g c n : Nat} (hg : g < 8) (hn : n ≤ 8) (hc : c ≤ n) (k : ∀ I', dF m g c n I I' → Q none z I') : ∀ (r i : Nat) (J : It), i + r = n - c → (∀ a, a ≠ m + 9 → a ≠ m + 10 → J a = I a) → (∀ k, (k < 8 * g ∨ 8 * g + i ≤ k) → J (m + 9) k = I (m + 9) k ∧ J (m + 10) k = I (m + 10) k) → (∀ k, k < i → J (m + 9) (8 * g + k) = I (m + 9) (8 * g + k + c) ∧ J (m + 10) (8 * g + k) = I (m + 10) (8 * g + k + c)) →
    E mX4_dropFirst mc ms 18 [some (.ref m), some (.int (nI g)), some (.int (nI c)), some (.int (nI (8 * g))), some (.int (nI (n - c))), some (.int (nI i))] [] z J Q := by
  intro r
  induction r with
  | zero =>
    intro i J hi h1 h2 h3
    have hi : i = n - c := by omega
    subst hi
    refine B_X4_dropFirst_18 hm (pk_le (n - c) (n - c) (fun _ => ⟨g, rfl, hg, fun I2 e2 => k I2 ?_⟩) (fun h => absurd h (by omega)))
    subst e2
    refine ⟨fun a h8 h9 h10 => ?_, ?_, fun q hq => ?_, fun q hq => ?_⟩
    · rw [e_st_a h8]; exact h1 a h9 h10
    · rw [e_st_row, h1 (m + 8) (by omega) (by omega)]
    · rw [e_st_a (by omega), e_st_a (by omega)]; exact h2 q (by omega)
    · rw [e_st_a (by omega), e_st_a (by omega)]; exact h3 q hq
  | succ r ih =>
    intro i J hi h1 h2 h3
    refine B_X4_dropFirst_18 hm (pk_le (n - c) i (fun h => absurd h (by omega)) (fun h => ?_))
    refine ⟨8 * g + i + c, by simp only [nI_add], by omega, 8 * g + i, by simp only [nI_add], by omega, fun I3 e3 I4 e4 => ?_⟩
    have hs : nI i + 1 = nI (i + 1) := nI_1 i
    rw [hs]
    refine ih (i + 1) I4 (by omega) (fun a h9 h10 => ?_) (fun q hq => ?_) (fun q hq => ?_)
    · rw [e4, e_st_a h10, e3, e_st_a h9]; exact h1 a h9 h10
    · rw [e4, e3, e_st_a (a' := m + 9) (by omega), e_st_k (k' := q) (a' := m + 9) (by omega), e_st_k (k' := q) (a' := m + 10) (by omega), e_st_a (a' := m + 10) (by omega)]
      exact h2 q (by omega)
    · rw [e4, e3, e_st_a (a' := m + 9) (by omega)]
      by_cases hq' : q = i
      · subst hq'
        rw [e_st_same, e_st_same, e_st_a (a' := m + 10) (by omega)]
        exact h2 (8 * g + q + c) (by omega)
      · rw [e_st_k (a' := m + 9) (by omega), e_st_k (a' := m + 10) (by omega), e_st_a (a' := m + 10) (by omega)]
        exact h3 q (by omega)
theorem C_dropFirst (hm : isM z m) {g c n : Nat} (hg : g < 8) (hn : n ≤ 8) (hc : c ≤ n) (hw : I (m + 8) g = nI n) (k : ∀ I', dF m g c n I I' → Q none z I') : E mX4_dropFirst mc ms 0 [some (.ref m), some (.int (nI g)), some (.int (nI c)), none, none, none] [] z I Q := by
  refine B_X4_dropFirst_0 hm (fun v1 e1 => ⟨g, rfl, hg, fun v3 e3 => ?_⟩)
  have e1 : v1 = nI (8 * g) := by rw [e1, Nat.mul_comm]; exact pk_mul g 8
  have e3 : v3 = nI (n - c) := by rw [e3, hw]; exact pk_sub hc
  subst e1 e3
  exact L_dropFirst hm hg hn hc k (n - c) 0 I (by omega) (fun _ _ _ => rfl) (fun _ _ => ⟨rfl, rfl⟩) (fun q hq => absurd hq (by omega))
/-- how many at the end are alike -/
theorem L_alikeAtEnd (hm : isM z m) {g n v : Nat} {l : Nat → Nat} (hg : g < 8) (hn : n ≤ 8) (hw : I (m + 8) g = nI n) (hl : ∀ k, k < n → I (m + 10) (8 * g + k) = nI (l k)) (hb : ∀ k, k < n → l k < 4) (hv : v < 4) (k : Q (some (.int (nI (aL l v n)))) z I) : ∀ (r i : Nat), i + r = n → aL l v n = i + aL l v r →
    E mX4_alikeAtEnd mc ms 8 [some (.ref m), some (.int (nI g)), some (.int (nI v)), some (.int (nI (8 * g))), some (.int (nI i))] [] z I Q := by
  intro r
  induction r with
  | zero =>
    intro i hi ha
    have ha : aL l v n = i := ha
    refine B_X4_alikeAtEnd_8 hm ⟨g, rfl, hg, ?_⟩
    rw [hw]
    refine pk_le n i (fun _ => ?_) (fun h => absurd h (by omega))
    rw [ha] at k; exact k
  | succ r ih =>
    intro i hi ha
    refine B_X4_alikeAtEnd_8 hm ⟨g, rfl, hg, ?_⟩
    rw [hw]
    refine pk_le n i (fun h => absurd h (by omega)) (fun h => ⟨8 * g + r, ?_, by omega, ?_⟩)
    · rw [nI_add, nI_dec (by omega), pk_sub (by omega)]
      exact congrArg nI (by omega)
    · rw [hl r (by omega)]
      have hr := hb r (by omega)
      refine pk_ne (l r) v (fun h => ?_) (fun h => ?_)
      · have : aL l v (r + 1) = 0 := by simp [aL, h]
        rw [ha, this] at k; exact k
      · have : aL l v (r + 1) = aL l v r + 1 := by simp [aL, h]
        rw [show nI i + 1 = nI (i + 1) from nI_1 i]
        exact ih (i + 1) (by omega) (by omega)
theorem C_alikeAtEnd (hm : isM z m) {g n v : Nat} {l : Nat → Nat} (hg : g < 8) (hn : n ≤ 8) (hw : I (m + 8) g = nI n) (hl : ∀ k, k < n → I (m + 10) (8 * g + k) = nI (l k)) (hb : ∀ k, k < n → l k < 4) (hv : v < 4) (k : Q (some (.int (nI (aL l v n)))) z I) : E mX4_alikeAtEnd mc ms 0 [some (.ref m), some (.int (nI g)), some (.int (nI v)), none, none] [] z I Q := by
  refine B_X4_alikeAtEnd_0 hm (fun v1 e1 => ?_)
  have e1 : v1 = nI (8 * g) := by rw [e1, Nat.mul_comm]; exact pk_mul g 8
  subst e1
  exact L_alikeAtEnd hm hg hn hw hl hb hv k n 0 (by omega) (by omega)
end C1
