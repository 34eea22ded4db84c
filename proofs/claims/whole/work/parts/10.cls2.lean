/-! ===== the class's moments: a gate is told ===== -/
section C2
variable {mc ms : Nat} {z : Zt} {I : It} {Q : Option Value → Zt → It → Prop} {m p : Nat}
/-- J is I but for gate g's queue: n things, κ's from the s-th on -/
def qD (m g n s : Nat) (κ : Kt) (I J : It) : Prop := (∀ a, a ≠ m + 8 → a ≠ m + 9 → a ≠ m + 10 → J a = I a) ∧ J (m + 8) = upd (I (m + 8)) g (nI n) ∧ (∀ k, (k < 8 * g ∨ 8 * g + 8 ≤ k) → J (m + 9) k = I (m + 9) k ∧ J (m + 10) k = I (m + 10) k) ∧ ∀ k, k < n → J (m + 9) (8 * g + k) = nI (κ 13 g (k + s)) ∧ J (m + 10) (8 * g + k) = nI (κ 14 g (k + s))
theorem qD.cnt {g n s : Nat} {κ : Kt} {J : It} (h : qD m g n s κ I J) : J (m + 8) g = nI n := by rw [h.2.1]; exact pk_us
theorem qD.drop {g n s c : Nat} {κ : Kt} {J J' : It} (h : qD m g n s κ I J) (hc : c ≤ n) (hd : dF m g c n J J') : qD m g (n - c) (s + c) κ I J' := by
  refine ⟨fun a h8 h9 h10 => (hd.1 a h8 h9 h10).trans (h.1 a h8 h9 h10), ?_, fun k hk => ?_, fun k hk => ?_⟩
  · rw [hd.2.1, h.2.1]
    funext q
    unfold upd
    split <;> rfl
  · rw [(hd.2.2.1 k hk).1, (hd.2.2.1 k hk).2]; exact h.2.2.1 k hk
  · rw [(hd.2.2.2 k hk).1, (hd.2.2.2 k hk).2]
    have := h.2.2.2 (k + c) (by omega)
    rw [show 8 * g + k + c = 8 * g + (k + c) by omega, show k + (s + c) = k + c + s by omega]
    exact this
theorem X_push (hm : isM z m) {g n s w lv : Nat} {κ : Kt} {J : It} (hg : g < 8) (hn : n < 8) (h : qD m g n s κ I J) (k : ∀ I', (∀ a, a ≠ m + 8 → a ≠ m + 9 → a ≠ m + 10 → I' a = I a) → I' (m + 8) = upd (I (m + 8)) g (nI (n + 1)) → (∀ k, (k < 8 * g ∨ 8 * g + 8 ≤ k) → I' (m + 9) k = I (m + 9) k ∧ I' (m + 10) k = I (m + 10) k) → (∀ k, k < n → I' (m + 9) (8 * g + k) = nI (κ 13 g (k + s)) ∧ I' (m + 10) (8 * g + k) = nI (κ 14 g (k + s))) → I' (m + 9) (8 * g + n) = nI w → I' (m + 10) (8 * g + n) = nI lv → Q none z I') :
    E mX4_tellGate mc ms 107 [some (.ref m), none, some (.int (nI g)), some (.int (nI lv)), some (.int (nI w)), some (.int (nI (8 * g)))] [] z J Q := by
  have hc := h.cnt
  refine B_X4_tellGate_107 hm ⟨g, rfl, hg, 8 * g + n, by rw [hc, nI_add], by omega, fun I3 e3 => ⟨8 * g + n, by rw [e3, e_st_a (by omega), hc, nI_add], by omega, fun I5 e5 I6 e6 => ?_⟩⟩
  have hc5 : I5 (m + 8) g = nI n := by rw [e5, e_st_a (by omega), e3, e_st_a (by omega), hc]
  rw [hc5, nI_1] at e6
  refine k I6 (fun a h8 h9 h10 => ?_) ?_ (fun q hq => ?_) (fun q hq => ?_) ?_ ?_
  · rw [e6, e_st_a h8, e5, e_st_a h10, e3, e_st_a h9]; exact h.1 a h8 h9 h10
  · rw [e6, e_st_row, e5, e_st_a (by omega), e3, e_st_a (by omega), h.2.1]
    funext q
    unfold upd
    split <;> rfl
  · rw [e6, e_st_a (by omega), e_st_a (by omega), e5, e_st_a (a' := m + 9) (by omega), e_st_k (a' := m + 10) (by omega), e3, e_st_k (a' := m + 9) (by omega), e_st_a (a' := m + 10) (by omega)]
    exact h.2.2.1 q hq
  · rw [e6, e_st_a (by omega), e_st_a (by omega), e5, e_st_a (a' := m + 9) (by omega), e_st_k (a' := m + 10) (by omega), e3, e_st_k (a' := m + 9) (by omega), e_st_a (a' := m + 10) (by omega)]
    exact h.2.2.2 q hq
  · rw [e6, e_st_a (by omega), e5, e_st_a (by omega), e3, e_st_same]
  · rw [e6, e_st_a (by omega), e5, e_st_same]
/-- what is told, as te has it -/
theorem te_of {g n1 s2 d md lv : Nat} {κ : Kt} {I' : It} (h1 : n1 = tN κ g d) (h2 : s2 = tU κ g d md lv) (a1 : ∀ a, a ≠ m + 8 → a ≠ m + 9 → a ≠ m + 10 → I' a = I a) (a2 : I' (m + 8) = upd (I (m + 8)) g (nI (n1 - s2 + 1))) (a3 : ∀ k, (k < 8 * g ∨ 8 * g + 8 ≤ k) → I' (m + 9) k = I (m + 9) k ∧ I' (m + 10) k = I (m + 10) k) (a4 : ∀ k, k < n1 - s2 → I' (m + 9) (8 * g + k) = nI (κ 13 g (k + s2)) ∧ I' (m + 10) (8 * g + k) = nI (κ 14 g (k + s2))) (a5 : I' (m + 9) (8 * g + (n1 - s2)) = nI (κ 0 0 0 + d)) (a6 : I' (m + 10) (8 * g + (n1 - s2)) = nI lv) : qD m g (te κ g d md lv 12 g 0) 0 (te κ g d md lv) I I' := by
  subst h1 h2
  refine ⟨a1, ?_, a3, fun k hk => ?_⟩
  · rw [a2]; simp [te]
  · have hk : k < tN κ g d - tU κ g d md lv + 1 := by simpa [te] using hk
    by_cases e : k = tN κ g d - tU κ g d md lv
    · subst e
      rw [a5, a6]; simp [te]
    · have := a4 k (by omega)
      rw [this.1, this.2]; simp [te, e]
theorem X_cap (hm : isM z m) {g n1 s1 d md lv : Nat} {κ : Kt} {J : It} (hg : g < 8) (hn1 : n1 = tN κ g d) (hs1 : s1 = tS κ g d md lv) (hn : n1 ≤ 8) (hs : s1 ≤ n1) (h : qD m g (n1 - s1) s1 κ I J) (k : ∀ I', qD m g (te κ g d md lv 12 g 0) 0 (te κ g d md lv) I I' → Q none z I') :
    ((J (m + 8) g < 8 → E mX4_tellGate mc ms 107 [some (.ref m), none, some (.int (nI g)), some (.int (nI lv)), some (.int (nI (κ 0 0 0 + d))), some (.int (nI (8 * g)))] [] z J Q) ∧
    (¬ J (m + 8) g < 8 → E mX4_dropFirst 0 0 0 [some (.ref m), some (.int (nI g)), some (.int 1), none, none, none] [] z J (fun r z' I' => E mX4_tellGate mc ms 107 [some (.ref m), none, some (.int (nI g)), some (.int (nI lv)), some (.int (nI (κ 0 0 0 + d))), some (.int (nI (8 * g)))] (r.toList ++ []) z' I' Q))) := by
  rw [h.cnt]
  refine pk_lt (n1 - s1) 8 (fun hl => ?_) (fun hl => ?_)
  · refine X_push hm hg hl h (fun I' a1 a2 a3 a4 a5 a6 => k I' (te_of (n1 := n1) (s2 := s1) hn1 ?_ a1 a2 a3 a4 a5 a6))
    unfold tU
    rw [← hn1, ← hs1, if_neg (by omega)]
  · refine C_dropFirst (c := 1) hm hg (by omega) (by omega) h.cnt (fun J' hd => ?_)
    have h' := h.drop (by omega) hd
    refine X_push hm hg (by omega) h' (fun I' a1 a2 a3 a4 a5 a6 => k I' (te_of (n1 := n1) (s2 := s1 + 1) hn1 ?_ a1 ?_ a3 ?_ ?_ ?_))
    · unfold tU
      rw [← hn1, ← hs1, if_pos (by omega)]
    · rw [a2]; rfl
    · exact a4
    · exact a5
    · exact a6
theorem X_tellGate62 (hm : isM z m) (hp : isP z p) {g n1 d md lv : Nat} {κ : Kt} {J : It} (hg : g < 8) (hn1 : n1 = tN κ g d) (hn : n1 ≤ 8) (hlv : lv < 4) (hql : ∀ k, k < n1 → κ 14 g k < 4) (hpm : p + 7 < m) (hmd : I (p + 7) g = nI md) (hmd2 : md ≤ 1) (h : qD m g n1 0 κ I J) (k : ∀ I', qD m g (te κ g d md lv 12 g 0) 0 (te κ g d md lv) I I' → Q none z I') :
    E mX4_tellGate mc ms 62 [some (.ref m), some (.ref p), some (.int (nI g)), some (.int (nI lv)), some (.int (nI (κ 0 0 0 + d))), some (.int (nI (8 * g)))] [] z J Q := by
  refine B_X4_tellGate_62 hm hp ⟨g, rfl, hg, ?_⟩
  rw [h.1 (p + 7) (by omega) (by omega) (by omega), hmd]
  refine pk_ne md 1 (fun hne => ?_) (fun he => ?_)
  · exact X_cap (s1 := 0) hm hg hn1 (by unfold tS; rw [if_neg hne]) hn (by omega) h k
  · subst he
    refine C_alikeAtEnd (l := κ 14 g) hm hg hn h.cnt (fun q hq => by simpa using (h.2.2.2 q hq).2) hql hlv ?_
    have hal := aL_le (κ 14 g) lv n1
    refine B_X4_tellGate_86 hm ?_
    rw [h.cnt, pk_sub hal]
    refine C_dropFirst hm hg hn (by omega) h.cnt (fun J' hd => ?_)
    have h' := h.drop (by omega) hd
    rw [Nat.zero_add] at h'
    refine B_X4_tellGate_90 hm ⟨g, rfl, hg, ?_⟩
    exact X_cap (md := 1) (s1 := n1 - aL (κ 14 g) lv n1) hm hg hn1 (by unfold tS; rw [if_pos rfl, ← hn1]) hn (by omega) h' k
theorem L_tellGate (hm : isM z m) (hp : isP z p) {g d md lv n0 : Nat} {κ : Kt} (hg : g < 8) (hn0 : n0 = κ 12 g 0) (hn : n0 ≤ 8) (hlv : lv < 4) (hw : κ 0 0 0 + d < 2 ^ 31) (hqt : ∀ k, k < n0 → κ 13 g k < 2 ^ 31) (hql : ∀ k, k < n0 → κ 14 g k < 4) (hpm : p + 7 < m) (hmd : I (p + 7) g = nI md) (hmd2 : md ≤ 1) (k : ∀ I', qD m g (te κ g d md lv 12 g 0) 0 (te κ g d md lv) I I' → Q none z I') : ∀ (r : Nat) (J : It), r ≤ n0 → tR (κ 13 g) (κ 0 0 0 + d) r = tN κ g d → qD m g r 0 κ I J →
    E mX4_tellGate mc ms 19 [some (.ref m), some (.ref p), some (.int (nI g)), some (.int (nI lv)), some (.int (nI (κ 0 0 0 + d))), some (.int (nI (8 * g)))] [] z J Q := by
  intro r
  induction r with
  | zero =>
    intro J hr ht h
    refine B_X4_tellGate_19 hm hp ⟨g, rfl, hg, ?_⟩
    rw [h.cnt]
    refine pk_le 0 0 (fun _ => ?_) (fun h => absurd h (by omega))
    exact X_tellGate62 (I := I) (n1 := 0) hm hp hg ht (by omega) hlv (fun q hq => absurd hq (by omega)) hpm hmd hmd2 h k
  | succ r ih =>
    intro J hr ht h
    refine B_X4_tellGate_19 hm hp ⟨g, rfl, hg, ?_⟩
    rw [h.cnt]
    refine pk_le (r + 1) 0 (fun h => absurd h (by omega)) (fun _ => ⟨8 * g + r, by rw [nI_add, nI_dec (by omega)]; exact congrArg nI (by omega), by omega, ?_⟩)
    have hj := (h.2.2.2 r (by omega)).1
    rw [Nat.add_zero] at hj
    rw [hj]
    have h3 := hqt r (by omega)
    refine pk_lt (κ 13 g r) (κ 0 0 0 + d) (fun hl => ?_) (fun hl => fun I3 e3 => ?_)
    · have ht' : r + 1 = tN κ g d := by rw [← ht]; simp [tR, hl]
      exact X_tellGate62 (I := I) (n1 := r + 1) hm hp hg ht' (by omega) hlv (fun q hq => hql q (by omega)) hpm hmd hmd2 h k
    · refine ih I3 (by omega) (by rw [← ht]; simp [tR, Nat.not_lt.mpr hl]) ?_
      rw [nI_dec (by omega)] at e3
      subst e3
      refine ⟨fun a h8 h9 h10 => ?_, ?_, fun q hq => ?_, fun q hq => ?_⟩
      · rw [e_st_a h8]; exact h.1 a h8 h9 h10
      · rw [e_st_row, h.2.1]
        funext q
        unfold upd
        split <;> rfl
      · rw [e_st_a (by omega), e_st_a (by omega)]; exact h.2.2.1 q hq
      · rw [e_st_a (by omega), e_st_a (by omega)]; exact h.2.2.2 q (by omega)
theorem C_tellGate (hm : isM z m) (hp : isP z p) {g d md lv : Nat} {κ : Kt} (hg : g < 8) (hn : κ 12 g 0 ≤ 8) (hlv : lv < 4) (hw : κ 0 0 0 + d < 2 ^ 31) (hqt : ∀ k, k < κ 12 g 0 → κ 13 g k < 2 ^ 31) (hql : ∀ k, k < κ 12 g 0 → κ 14 g k < 4) (hpm : p + 7 < m) (hmd : I (p + 7) g = nI md) (hmd2 : md ≤ 1) (hde : I (p + 6) g = nI d) (ht : I m 0 = nI (κ 0 0 0)) (hc : I (m + 8) g = nI (κ 12 g 0)) (hq : ∀ k, k < κ 12 g 0 → I (m + 9) (8 * g + k) = nI (κ 13 g k) ∧ I (m + 10) (8 * g + k) = nI (κ 14 g k)) (k : ∀ I', qD m g (te κ g d md lv 12 g 0) 0 (te κ g d md lv) I I' → Q none z I') :
    E mX4_tellGate mc ms 0 [some (.ref m), some (.ref p), some (.int (nI g)), some (.int (nI lv)), none, none] [] z I Q := by
  refine B_X4_tellGate_0 hm hp ⟨g, rfl, hg, fun v2 e2 v3 e3 => ?_⟩
  have e2 : v2 = nI (κ 0 0 0 + d) := by rw [e2, ht, hde, nI_add]
  have e3 : v3 = nI (8 * g) := by rw [e3, Nat.mul_comm]; exact pk_mul g 8
  subst e2 e3
  refine L_tellGate (I := I) hm hp hg rfl hn hlv hw hqt hql hpm hmd hmd2 k (κ 12 g 0) I (Nat.le_refl _) rfl ⟨fun _ _ _ _ => rfl, ?_, fun _ _ => ⟨rfl, rfl⟩, fun q h => by simpa using hq q h⟩
  funext q
  unfold upd
  split
  next h => rw [h, hc]
  next => rfl
end C2
