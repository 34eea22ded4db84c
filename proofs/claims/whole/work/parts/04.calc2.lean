/-! ===== locals are stored, fields, arrays ===== -/
def e_c1 (o : Option Value) : Bool := match o with
  | some v => v.category == 1
  | none => true
def e_as (b b0 : Nat) (ls : List (Option Value)) : List (Nat × Value) := (List.range ls.length).filterMap fun i => match ls[i]? with
  | some (some v) => some (i, e_tv b b0 v)
  | _ => none
theorem e_as_mem {b b0 : Nat} {ls : List (Option Value)} {q : Nat × Value} : q ∈ e_as b b0 ls ↔ ∃ v, ls[q.1]? = some (some v) ∧ q.2 = e_tv b b0 v := by
  unfold e_as
  rw [List.mem_filterMap]
  constructor
  · rintro ⟨i, hi, h⟩
    split at h
    next v hv =>
      cases h
      exact ⟨v, hv, rfl⟩
    next => cases h
  · rintro ⟨v, hv, h⟩
    refine ⟨q.1, List.mem_range.mpr (List.getElem?_eq_some_iff.mp hv).1, ?_⟩
    rw [hv]
    obtain ⟨i, w⟩ := q
    simp only at h ⊢
    rw [h]
theorem e_L.has {b b0 nL : Nat} {ls : List (Option Value)} {lsA : Array Slot} (h : e_L b b0 nL ls lsA) : lv_has lsA nL (e_as b b0 ls) := ⟨h.1, h.2.1, fun q hq => by
  obtain ⟨v, h1, h2⟩ := e_as_mem.mp hq
  rw [h2]
  exact h.2.2 q.1 v h1⟩
theorem e_L.of1 {b b0 nL : Nat} {ls : List (Option Value)} {lsA : Array Slot} {i : Nat} {v : Value} (hc : ls.all e_c1 = true) (h : lv_has lsA nL ((i, e_tv b b0 v) :: (e_as b b0 ls).filter (fun q => !(q.1 == i) && !(q.1 + 1 == i && q.2.category == 2)))) : e_L b b0 nL (ls.set i (some v)) lsA := by
  refine ⟨h.1, h.2.1, fun j w hj => ?_⟩
  by_cases e : j = i
  · subst e
    have hl : j < (ls.set j (some v)).length := (List.getElem?_eq_some_iff.mp hj).1
    rw [List.length_set] at hl
    rw [List.getElem?_set_self hl] at hj
    cases hj
    exact h.2.2 (j, e_tv b b0 v) List.mem_cons_self
  · rw [List.getElem?_set_ne (fun q => e q.symm)] at hj
    have hw : e_c1 (some w) = true := List.all_eq_true.mp hc (some w) (List.mem_of_getElem? hj)
    have hw1 : w.category = 1 := by simpa [e_c1] using hw
    refine h.2.2 (j, e_tv b b0 w) (List.mem_cons_of_mem _ (List.mem_filter.mpr ⟨e_as_mem.mpr ⟨w, hj, rfl⟩, ?_⟩))
    simp [e, e_tv_cat, hw1]
theorem e_L.of2 {b b0 nL : Nat} {ls : List (Option Value)} {lsA : Array Slot} {i : Nat} {v : Value} (hc : ls.all e_c1 = true) (h : lv_has lsA nL ((i, e_tv b b0 v) :: (e_as b b0 ls).filter (fun q => !(q.1 == i) && (!(q.1 == i + 1) && !(q.1 + 1 == i && q.2.category == 2))))) : e_L b b0 nL ((ls.set i (some v)).set (i + 1) none) lsA := by
  refine ⟨h.1, h.2.1, fun j w hj => ?_⟩
  by_cases e1 : j = i + 1
  · subst e1
    have hl := (List.getElem?_eq_some_iff.mp hj).1
    rw [List.length_set] at hl
    rw [List.getElem?_set_self hl] at hj
    cases hj
  · rw [List.getElem?_set_ne (fun q => e1 q.symm)] at hj
    by_cases e : j = i
    · subst e
      have hl : j < (ls.set j (some v)).length := (List.getElem?_eq_some_iff.mp hj).1
      rw [List.length_set] at hl
      rw [List.getElem?_set_self hl] at hj
      cases hj
      exact h.2.2 (j, e_tv b b0 v) List.mem_cons_self
    · rw [List.getElem?_set_ne (fun q => e q.symm)] at hj
      have hw : e_c1 (some w) = true := List.all_eq_true.mp hc (some w) (List.mem_of_getElem? hj)
      have hw1 : w.category = 1 := by simpa [e_c1] using hw
      refine h.2.2 (j, e_tv b b0 w) (List.mem_cons_of_mem _ (List.mem_filter.mpr ⟨e_as_mem.mpr ⟨w, hj, rfl⟩, ?_⟩))
      simp [e, e1, e_tv_cat, hw1]
section STORES
variable {M : MI} {mc ms pc : Nat} {ls ls' : List (Option Value)} {st : List Value} {z : Zt} {I : It} {Q : Option Value → Zt → It → Prop}
theorem E_istore_n {j : Fin 4} {i : Nat} {x : Int32} (hd : decode M.2.1 pc = .ok (.istore_n j, 1)) (hi : (j : Nat) = i) (hn : i < M.2.2.1) (hc : ls.all e_c1 = true) (hl : ls.set i (some (.int x)) = ls') (k : E M mc ms (pc + 1) ls' st z I Q) : E M mc ms pc ls (.int x :: st) z I Q := fun b b0 D cI cM p l e R s m args below meth c C H locs cells slots lsA hH hS hc1 hs hL =>
  lv_istore_n C.1 C.2.1 hd hi hL.has hn rfl (fun lsB hB => k b b0 D cI cM p l e R s m args below meth c C H locs cells slots lsB hH hS hc1 hs (hl ▸ e_L.of1 (v := .int x) hc hB))
theorem E_istore {i : Nat} {x : Int32} (hd : decode M.2.1 pc = .ok (.istore i, 2)) (hn : i < M.2.2.1) (hc : ls.all e_c1 = true) (hl : ls.set i (some (.int x)) = ls') (k : E M mc ms (pc + 2) ls' st z I Q) : E M mc ms pc ls (.int x :: st) z I Q := fun b b0 D cI cM p l e R s m args below meth c C H locs cells slots lsA hH hS hc1 hs hL =>
  lv_istore C.1 C.2.1 hd hL.has hn rfl (fun lsB hB => k b b0 D cI cM p l e R s m args below meth c C H locs cells slots lsB hH hS hc1 hs (hl ▸ e_L.of1 (v := .int x) hc hB))
theorem E_astore_n {j : Fin 4} {i : Nat} {x : Nat} (hd : decode M.2.1 pc = .ok (.astore_n j, 1)) (hi : (j : Nat) = i) (hn : i < M.2.2.1) (hc : ls.all e_c1 = true) (hl : ls.set i (some (.ref x)) = ls') (k : E M mc ms (pc + 1) ls' st z I Q) : E M mc ms pc ls (.ref x :: st) z I Q := fun b b0 D cI cM p l e R s m args below meth c C H locs cells slots lsA hH hS hc1 hs hL =>
  lv_astore_n C.1 C.2.1 hd hi hL.has hn rfl (fun lsB hB => k b b0 D cI cM p l e R s m args below meth c C H locs cells slots lsB hH hS hc1 hs (hl ▸ e_L.of1 (v := .ref x) hc hB))
theorem E_astore_nN {j : Fin 4} {i : Nat} (hd : decode M.2.1 pc = .ok (.astore_n j, 1)) (hi : (j : Nat) = i) (hn : i < M.2.2.1) (hc : ls.all e_c1 = true) (hl : ls.set i (some .null) = ls') (k : E M mc ms (pc + 1) ls' st z I Q) : E M mc ms pc ls (.null :: st) z I Q := fun b b0 D cI cM p l e R s m args below meth c C H locs cells slots lsA hH hS hc1 hs hL =>
  lv_astore_nN C.1 C.2.1 hd hi hL.has hn rfl (fun lsB hB => k b b0 D cI cM p l e R s m args below meth c C H locs cells slots lsB hH hS hc1 hs (hl ▸ e_L.of1 (v := .null) hc hB))
theorem E_lstore_n {j : Fin 4} {i : Nat} {x : Int64} (hd : decode M.2.1 pc = .ok (.lstore_n j, 1)) (hi : (j : Nat) = i) (hn : i + 1 < M.2.2.1) (hc : ls.all e_c1 = true) (hl : (ls.set i (some (.long x))).set (i + 1) none = ls') (k : E M mc ms (pc + 1) ls' st z I Q) : E M mc ms pc ls (.long x :: st) z I Q := fun b b0 D cI cM p l e R s m args below meth c C H locs cells slots lsA hH hS hc1 hs hL =>
  lv_lstore_n C.1 C.2.1 hd hi hL.has hn rfl (fun lsB hB => k b b0 D cI cM p l e R s m args below meth c C H locs cells slots lsB hH hS hc1 hs (hl ▸ e_L.of2 (v := .long x) hc hB))
theorem E_iinc {i : Nat} {n : Int} {x v : Int32} (hd : decode M.2.1 pc = .ok (.iinc i n, 3)) (hx : ls[i]? = some (some (.int x))) (hv : x + Int32.ofInt n = v) (hn : i < M.2.2.1) (hc : ls.all e_c1 = true) (hl : ls.set i (some (.int v)) = ls') (k : E M mc ms (pc + 3) ls' st z I Q) : E M mc ms pc ls st z I Q := fun b b0 D cI cM p l e R s m args below meth c C H locs cells slots lsA hH hS hc1 hs hL => by
  obtain ⟨j, hj⟩ := List.getElem?_of_mem (e_as_mem (b := b) (b0 := b0) (q := (i, .int x)).mpr ⟨_, hx, rfl⟩)
  exact lv_iinc C.1 C.2.1 hd hL.has hj hv hn rfl (fun lsB hB => k b b0 D cI cM p l e R s m args below meth c C H locs cells slots lsB hH hS hc1 hs (hl ▸ e_L.of1 (v := .int v) hc hB))
end STORES
section FIELDS
variable {M : MI} {mc ms pc : Nat} {ls ls' : List (Option Value)} {st : List Value} {z : Zt} {I : It} {Q : Option Value → Zt → It → Prop} {ci : Nat} {C0 : String} {T0 : u_T} {N0 : Nat} {ty0 : Nat → FieldType} {a idx : Nat}
theorem E_get {v : Value} (hd : decode M.2.1 pc = .ok (.getfield idx, 3)) (hE : e_cl ci C0 T0 N0 ty0) (k : Nat) (hk : k < N0) (hl : Cond.fieldLink M.1.cls idx C0 (T0 k).2.1 (T0 k).2.2.1 ∈ WL) (hS0 : z.2.1 a = (1, ci)) (hv : ∀ b b0, e_fv b b0 z I a ci k = e_tv b b0 v) (kk : E M mc ms (pc + 3) ls (v :: st) z I Q) : E M mc ms pc ls (.ref a :: st) z I Q := by
  intro b b0 D cI cM p l e R s m args below meth c C H locs cells slots lsA hH hS hc1 hs hL
  have ha := hH.pos hS0 (by decide)
  have hat := (hH.2.2.1 a ha).1 (by rw [hS0])
  rw [hS0] at hat
  obtain ⟨r, h1, cell, q1, q2, q3, q4⟩ := hat
  obtain ⟨hcl, hin, hty, hnm, hown, -⟩ := hE
  have hr : r = (C0, T0, N0) := Option.some.inj (h1.symm.trans hcl)
  subst hr
  obtain ⟨hSl, hfc, kC, hkC, hkind⟩ := C.2.2.2.2.2.2.2.2.1.1.1 ci _ hcl
  obtain ⟨cf, kf, fi, f, hi, hsl⟩ := hSl k hk
  have hi' : s.fieldFound? C0 (T0 k).2.1 (T0 k).2.2.1 = some (cf, kf, fi, f) := by rw [← hown k hk]; exact hi
  have hpos : e_ad b b0 a = b0 + a := e_ad_pos ha
  show W p l e R s m args below meth c H locs cells slots _ (F0 m pc lsA (.ref (e_ad b b0 a) :: st.map (e_tv b b0)))
  rw [hpos]
  refine W.getf C.1 C.2.1 C.2.2.2.2.1 (C.2.2.2.2.2.1 _ hl) hi' (u_facts hfc hkC (u_lays C.2.2.2.2.2.1 hin hk) hi).1 q1 (by rw [q3]; exact fun h => by cases h) (v := e_tv b b0 v) ?_ rfl rfl hd (kk b b0 D cI cM p l e R s m args below meth c C H locs cells slots lsA hH hS hc1 hs hL)
  rw [hsl, q4 k hk, ← hv]
theorem E_getI (hd : decode M.2.1 pc = .ok (.getfield idx, 3)) (hE : e_cl ci C0 T0 N0 ty0) (k : Nat) (hk : k < N0) (hr : e_isR ci k = false) (hl : Cond.fieldLink M.1.cls idx C0 (T0 k).2.1 (T0 k).2.2.1 ∈ WL) (hS0 : z.2.1 a = (1, ci)) (kk : E M mc ms (pc + 3) ls (.int (I a k) :: st) z I Q) : E M mc ms pc ls (.ref a :: st) z I Q :=
  E_get hd hE k hk hl hS0 (fun b b0 => by unfold e_fv; rw [if_neg (by rw [hr]; decide)]; rfl) kk
theorem E_getR {x : Nat} (hd : decode M.2.1 pc = .ok (.getfield idx, 3)) (hE : e_cl ci C0 T0 N0 ty0) (k : Nat) (hk : k < N0) (hr : e_isR ci k = true) (hl : Cond.fieldLink M.1.cls idx C0 (T0 k).2.1 (T0 k).2.2.1 ∈ WL) (hS0 : z.2.1 a = (1, ci)) (hx : z.2.2 a k = x) (hx0 : x ≠ 0) (kk : E M mc ms (pc + 3) ls (.ref x :: st) z I Q) : E M mc ms pc ls (.ref a :: st) z I Q :=
  E_get hd hE k hk hl hS0 (fun b b0 => by unfold e_fv; rw [if_pos hr, hx, e_rv_pos hx0]) kk
theorem e_put_H {b b0 : Nat} {D : va_G} {cI cM : ClassId} {z z' : Zt} {I I' : It} {U : State} {H H' : Heap} (hH : e_H b b0 D cI cM z I U H) (hb : b ≤ b0) {a : Nat} (ha : 0 < a) (hz : z'.1 = z.1) (hz1 : z'.2.1 = z.2.1) (hz2 : ∀ a', a' ≠ a → z'.2.2 a' = z.2.2 a') (hI : ∀ a', a' ≠ a → I' a' = I a') (hsz : H'.size = H.size) (hq : ∀ q, q ≠ b0 + a → H'[q]? = H[q]?) (hat : e_at b b0 D cI cM z' I' a H') : e_H b b0 D cI cM z' I' U H' := by
  refine ⟨by rw [hsz, hz]; exact hH.1, by rw [hz]; exact hH.2.1, fun a' ha' => ?_, by rw [hz1]; exact hH.2.2.2.1, ?_⟩
  · by_cases e : a' = a
    · subst e; exact hat
    · exact ((hH.2.2.1 a' ha').kept (hq _ (by omega))).to (by rw [hz1]) (hz2 a' e) (hI a' e)
  · rw [hz1, hI 0 (by omega)]
    exact hH.2.2.2.2.kept (hq _ (by omega))
theorem E_put {z' : Zt} {I' : It} {v : Value} (hd : decode M.2.1 pc = .ok (.putfield idx, 3)) (hE : e_cl ci C0 T0 N0 ty0) (k : Nat) (hk : k < N0) (hl : Cond.fieldLink M.1.cls idx C0 (T0 k).2.1 (T0 k).2.2.1 ∈ WL) (hS0 : z.2.1 a = (1, ci)) (hfin : (T0 k).2.2.2 = false) (hn : ∀ b b0, narrow (ty0 k) (e_tv b b0 v) = e_tv b b0 v) (hfit : ∀ b b0, fits (ty0 k) (e_tv b b0 v) = true)
    (hz : z'.1 = z.1) (hz1 : z'.2.1 = z.2.1) (hz2 : ∀ a', a' ≠ a → z'.2.2 a' = z.2.2 a') (hI : ∀ a', a' ≠ a → I' a' = I a') (hv : ∀ b b0 j, e_fv b b0 z' I' a ci j = updV (e_fv b b0 z I a ci) k (e_tv b b0 v) j) (kk : E M mc ms (pc + 3) ls st z' I' Q) : E M mc ms pc ls (v :: .ref a :: st) z I Q := by
  intro b b0 D cI cM p l e R s m args below meth c C H locs cells slots lsA hH hS hc1 hs hL
  have ha := hH.pos hS0 (by decide)
  have hat := (hH.2.2.1 a ha).1 (by rw [hS0])
  rw [hS0] at hat
  obtain ⟨r, h1, cell, q1, q2, q3, q4⟩ := hat
  obtain ⟨hcl, hin, hty, hnm, hown, -⟩ := hE
  have hr : r = (C0, T0, N0) := Option.some.inj (h1.symm.trans hcl)
  subst hr
  have hap := va_apart (own := C0) C.2.2.2.2.2.1 hin ty0 hty hnm C.2.2.2.2.2.2.2.2.1.1 hcl
  obtain ⟨hSl, hfc, kC, hkC, hkind⟩ := C.2.2.2.2.2.2.2.2.1.1.1 ci _ hcl
  obtain ⟨cf, kf, fi, f, hi, hsl⟩ := hSl k hk
  have hi' : s.fieldFound? C0 (T0 k).2.1 (T0 k).2.2.1 = some (cf, kf, fi, f) := by rw [← hown k hk]; exact hi
  have hlay := C.2.2.2.2.2.1 _ (hin _ (u_in_lay hk))
  unfold u_lay at hlay
  rw [if_neg (by rw [hfin]; decide)] at hlay
  have hst := (u_facts hfc hkC (u_lays C.2.2.2.2.2.1 hin hk) hi).1
  have h6 := u_store hfc hkC hkind hlay hi (hty k hk) (hn b b0) (hfit b b0)
  have hpos : e_ad b b0 a = b0 + a := e_ad_pos ha
  show W p l e R s m args below meth c H locs cells slots _ (F0 m pc lsA (e_tv b b0 v :: .ref (e_ad b b0 a) :: st.map (e_tv b b0)))
  rw [hpos]
  refine W.putK C.1 C.2.1 (f := f) ⟨C.2.2.2.2.1, C.2.2.2.2.2.1 _ hl, ⟨_, _, _, hi'⟩, hst⟩ (by rw [q2]; exact h6) q1 q3 (by rw [hsl]; exact k2_hasslot (q4 k hk)) rfl rfl hd fun H' e1 e2 e3 => ?_
  rw [hsl] at e1 ⊢
  refine kk b b0 D cI cM p l e R s m args below meth c C H' _ cells slots lsA (e_put_H hH C.2.2.2.2.2.2.2.2.2.1.1 ha hz hz1 hz2 hI e2 e3 ?_) (hS.put e2 e3 (by show b0 < b0 + a; omega)) hc1 hs hL
  refine ⟨fun _ => ?_, fun h => ?_, fun h => ?_⟩
  · rw [hz1, hS0]
    exact ⟨_, hcl, t_OB.to (V := updV (e_fv b b0 z I a ci) k (e_tv b b0 v)) ⟨_, e1, q2, q3, t_set q4 hap hk (e_tv b b0 v)⟩ (fun j _ => (hv b b0 j).symm)⟩
  · rw [hz1, hS0] at h; cases h
  · rw [hz1, hS0] at h; cases h
theorem E_putF {z' : Zt} {I' : It} {v : Value} (hd : decode M.2.1 pc = .ok (.putfield idx, 3)) (hE : e_cl ci C0 T0 N0 ty0) (k : Nat) (hk : k < N0) (hl : Cond.fieldLink M.1.cls idx C0 (T0 k).2.1 (T0 k).2.2.1 ∈ WL) (hS0 : z.2.1 a = (1, ci)) (hfin : (T0 k).2.2.2 = true) (hin2 : M.1.name = "<init>") (hcls : C0 = M.1.cls) (hn : ∀ b b0, narrow (ty0 k) (e_tv b b0 v) = e_tv b b0 v) (hfit : ∀ b b0, fits (ty0 k) (e_tv b b0 v) = true)
    (hz : z'.1 = z.1) (hz1 : z'.2.1 = z.2.1) (hz2 : ∀ a', a' ≠ a → z'.2.2 a' = z.2.2 a') (hI : ∀ a', a' ≠ a → I' a' = I a') (hv : ∀ b b0 j, e_fv b b0 z' I' a ci j = updV (e_fv b b0 z I a ci) k (e_tv b b0 v) j) (kk : E M mc ms (pc + 3) ls st z' I' Q) : E M mc ms pc ls (v :: .ref a :: st) z I Q := by
  intro b b0 D cI cM p l e R s m args below meth c C H locs cells slots lsA hH hS hc1 hs hL
  have ha := hH.pos hS0 (by decide)
  have hat := (hH.2.2.1 a ha).1 (by rw [hS0])
  rw [hS0] at hat
  obtain ⟨r, h1, cell, q1, q2, q3, q4⟩ := hat
  obtain ⟨hcl, hin, hty, hnm, hown, -⟩ := hE
  have hr : r = (C0, T0, N0) := Option.some.inj (h1.symm.trans hcl)
  subst hr
  have hap := va_apart (own := C0) C.2.2.2.2.2.1 hin ty0 hty hnm C.2.2.2.2.2.2.2.2.1.1 hcl
  obtain ⟨hSl, hfc, kC, hkC, hkind⟩ := C.2.2.2.2.2.2.2.2.1.1.1 ci _ hcl
  obtain ⟨cf, kf, fi, f, hi, hsl⟩ := hSl k hk
  have hi' : s.fieldFound? C0 (T0 k).2.1 (T0 k).2.2.1 = some (cf, kf, fi, f) := by rw [← hown k hk]; exact hi
  have hlay := C.2.2.2.2.2.1 _ (hin _ (u_in_lay hk))
  unfold u_lay at hlay
  rw [if_pos hfin] at hlay
  have hst := (u_facts hfc hkC (u_lays C.2.2.2.2.2.1 hin hk) hi).1
  have hcf : m.cls = cf := by
    obtain ⟨_, _, c', _, _, _, -, -, hf', -, -, -, hown2, -⟩ := Cond.laysFinal_spec hlay
    have e1 : c' = cf := by have := hi.symm.trans hf'; simp at this; exact this.1.symm
    rw [hown k hk, hcls] at hown2
    rw [← e1]; exact Option.some.inj (C.2.2.2.2.1.symm.trans hown2)
  have h6 := u_fits hfc hkC hkind (Or.inr hlay) hi (hty k hk) (hn b b0) (hfit b b0)
  have hpos : e_ad b b0 a = b0 + a := e_ad_pos ha
  show W p l e R s m args below meth c H locs cells slots _ (F0 m pc lsA (e_tv b b0 v :: .ref (e_ad b b0 a) :: st.map (e_tv b b0)))
  rw [hpos]
  refine W.putFinK C.1 C.2.1 C.2.2.2.2.1 (C.2.2.2.2.2.1 _ hl) hi' hst hcf (C.2.2.2.2.2.2.2.1.trans hin2) (by rw [q2]; exact h6) q1 q3 (by rw [hsl]; exact k2_hasslot (q4 k hk)) rfl rfl hd fun H' e1 e2 e3 => ?_
  rw [hsl] at e1 ⊢
  refine kk b b0 D cI cM p l e R s m args below meth c C H' _ cells slots lsA (e_put_H hH C.2.2.2.2.2.2.2.2.2.1.1 ha hz hz1 hz2 hI e2 e3 ?_) (hS.put e2 e3 (by show b0 < b0 + a; omega)) hc1 hs hL
  refine ⟨fun _ => ?_, fun h => ?_, fun h => ?_⟩
  · rw [hz1, hS0]
    exact ⟨_, hcl, t_OB.to (V := updV (e_fv b b0 z I a ci) k (e_tv b b0 v)) ⟨_, e1, q2, q3, t_set q4 hap hk (e_tv b b0 v)⟩ (fun j _ => (hv b b0 j).symm)⟩
  · rw [hz1, hS0] at h; cases h
  · rw [hz1, hS0] at h; cases h
theorem e_fv_I {z : Zt} {I : It} {k : Nat} {x : Int32} (hr : e_isR ci k = false) (b b0 j : Nat) : e_fv b b0 z (e_st I a k x) a ci j = updV (e_fv b b0 z I a ci) k (e_tv b b0 (.int x)) j := by
  unfold e_fv updV
  by_cases e : j = k
  · subst e; simp [hr, e_st, e_tv]
  · simp [e_st, e]
theorem e_fv_R {z : Zt} {I : It} {k x : Nat} (hr : e_isR ci k = true) (hx : x ≠ 0) (b b0 j : Nat) : e_fv b b0 (z_rf z a k x) I a ci j = updV (e_fv b b0 z I a ci) k (e_tv b b0 (.ref x)) j := by
  unfold e_fv updV
  by_cases e : j = k
  · subst e; simp [hr, z_rf, e_rv_pos hx]
  · simp [z_rf, e]
theorem E_putI {x : Int32} (hd : decode M.2.1 pc = .ok (.putfield idx, 3)) (hE : e_cl ci C0 T0 N0 ty0) (k : Nat) (hk : k < N0) (hr : e_isR ci k = false) (hl : Cond.fieldLink M.1.cls idx C0 (T0 k).2.1 (T0 k).2.2.1 ∈ WL) (hS0 : z.2.1 a = (1, ci)) (hfin : (T0 k).2.2.2 = false) (hty : ty0 k = .int) (kk : E M mc ms (pc + 3) ls st z (e_st I a k x) Q) : E M mc ms pc ls (.int x :: .ref a :: st) z I Q :=
  E_put (z' := z) (I' := e_st I a k x) hd hE k hk hl hS0 hfin (fun b b0 => by rw [hty]; rfl) (fun b b0 => by rw [hty]; rfl) rfl rfl (fun _ _ => rfl) (fun a' h => e_st_a h) (fun b b0 j => e_fv_I hr b b0 j) kk
theorem E_putZ {x : Int32} (hd : decode M.2.1 pc = .ok (.putfield idx, 3)) (hE : e_cl ci C0 T0 N0 ty0) (k : Nat) (hk : k < N0) (hr : e_isR ci k = false) (hl : Cond.fieldLink M.1.cls idx C0 (T0 k).2.1 (T0 k).2.2.1 ∈ WL) (hS0 : z.2.1 a = (1, ci)) (hfin : (T0 k).2.2.2 = false) (hty : ty0 k = .boolean) (hx : x = 0 ∨ x = 1) (kk : E M mc ms (pc + 3) ls st z (e_st I a k x) Q) : E M mc ms pc ls (.int x :: .ref a :: st) z I Q :=
  E_put (z' := z) (I' := e_st I a k x) hd hE k hk hl hS0 hfin (fun b b0 => by rw [hty]; rcases hx with rfl | rfl <;> rfl) (fun b b0 => by rw [hty]; rcases hx with rfl | rfl <;> rfl) rfl rfl (fun _ _ => rfl) (fun a' h => e_st_a h) (fun b b0 j => e_fv_I hr b b0 j) kk
theorem E_putR {x : Nat} (hd : decode M.2.1 pc = .ok (.putfield idx, 3)) (hE : e_cl ci C0 T0 N0 ty0) (k : Nat) (hk : k < N0) (hr : e_isR ci k = true) (hl : Cond.fieldLink M.1.cls idx C0 (T0 k).2.1 (T0 k).2.2.1 ∈ WL) (hS0 : z.2.1 a = (1, ci)) (hfin : (T0 k).2.2.2 = false) (hn : ∀ y, narrow (ty0 k) (.ref y) = .ref y) (hfit : ∀ y, fits (ty0 k) (.ref y) = true) (hx : x ≠ 0) (kk : E M mc ms (pc + 3) ls st (z_rf z a k x) I Q) : E M mc ms pc ls (.ref x :: .ref a :: st) z I Q :=
  E_put (z' := z_rf z a k x) (I' := I) hd hE k hk hl hS0 hfin (fun b b0 => hn _) (fun b b0 => hfit _) rfl rfl (fun a' h => funext fun k' => if_neg fun q => h q.1) (fun _ _ => rfl) (fun b b0 j => e_fv_R hr hx b b0 j) kk
theorem E_putFR {x : Nat} (hd : decode M.2.1 pc = .ok (.putfield idx, 3)) (hE : e_cl ci C0 T0 N0 ty0) (k : Nat) (hk : k < N0) (hr : e_isR ci k = true) (hl : Cond.fieldLink M.1.cls idx C0 (T0 k).2.1 (T0 k).2.2.1 ∈ WL) (hS0 : z.2.1 a = (1, ci)) (hfin : (T0 k).2.2.2 = true) (hin2 : M.1.name = "<init>") (hcls : C0 = M.1.cls) (hn : ∀ y, narrow (ty0 k) (.ref y) = .ref y) (hfit : ∀ y, fits (ty0 k) (.ref y) = true) (hx : x ≠ 0) (kk : E M mc ms (pc + 3) ls st (z_rf z a k x) I Q) : E M mc ms pc ls (.ref x :: .ref a :: st) z I Q :=
  E_putF (z' := z_rf z a k x) (I' := I) hd hE k hk hl hS0 hfin hin2 hcls (fun b b0 => hn _) (fun b b0 => hfit _) rfl rfl (fun a' h => funext fun k' => if_neg fun q => h q.1) (fun _ _ => rfl) (fun b b0 j => e_fv_R hr hx b b0 j) kk
end FIELDS
section ARRAYS
variable {M : MI} {mc ms pc : Nat} {ls ls' : List (Option Value)} {st : List Value} {z : Zt} {I : It} {Q : Option Value → Zt → It → Prop} {a n idx : Nat}
theorem E_iald {i : Int32} (hd : decode M.2.1 pc = .ok (.iaload, 1)) (hS0 : z.2.1 a = (2, n)) (hin : vp_in i n) (kk : E M mc ms (pc + 1) ls (.int (I a i.toNatClampNeg) :: st) z I Q) : E M mc ms pc ls (.int i :: .ref a :: st) z I Q := by
  intro b b0 D cI cM p l e R s m args below meth c C H locs cells slots lsA hH hS hc1 hs hL
  have hlt : i.toNatClampNeg < n := Nat.not_le.mp fun q => hin (Or.inr q)
  have kk' := kk b b0 D cI cM p l e R s m args below meth c C H locs cells slots lsA hH hS hc1 hs hL
  show W p l e R s m args below meth c H locs cells slots _ (F0 m pc lsA (.int i :: .ref (e_ad b b0 a) :: st.map (e_tv b b0)))
  rcases Nat.eq_zero_or_pos a with e0 | ha
  · subst e0
    obtain ⟨scr, h1, h2, h3, h4, h5⟩ := hH.2.2.2.2
    rw [hS0] at h4 h5
    exact W.iald (v := .int (I 0 i.toNatClampNeg)) C.1 C.2.1 h1 h2 h3 (by rw [h4]; exact hin) (h5 _ hlt) rfl rfl hd kk'
  · rw [e_ad_pos ha]
    have hat := (hH.2.2.1 a ha).2.1 (by rw [hS0])
    rw [hS0] at hat
    exact W.iald (v := .int (I a i.toNatClampNeg)) C.1 C.2.1 hat ((C.2.2.2.2.2.2.2.2.1.1.2 0 _ rfl).1 n (fun j => .int (I a j))) (fun q => by cases q) (by show ¬ (i < 0 ∨ (arrV _ _ _).slots.size ≤ _); rw [arrV_size]; exact hin) (by show (arrV _ _ _).slots[_]? = _; rw [arrV_read _ _ hlt]) rfl rfl hd kk'
theorem E_alen (hd : decode M.2.1 pc = .ok (.arraylength, 1)) (hS0 : z.2.1 a = (2, n)) (kk : E M mc ms (pc + 1) ls (.int (Int32.ofNat n) :: st) z I Q) : E M mc ms pc ls (.ref a :: st) z I Q := by
  intro b b0 D cI cM p l e R s m args below meth c C H locs cells slots lsA hH hS hc1 hs hL
  have kk' := kk b b0 D cI cM p l e R s m args below meth c C H locs cells slots lsA hH hS hc1 hs hL
  show W p l e R s m args below meth c H locs cells slots _ (F0 m pc lsA (.ref (e_ad b b0 a) :: st.map (e_tv b b0)))
  rcases Nat.eq_zero_or_pos a with e0 | ha
  · subst e0
    obtain ⟨scr, h1, h2, h3, h4, h5⟩ := hH.2.2.2.2
    rw [hS0] at h4
    exact W.alen (n := Int32.ofNat n) C.1 C.2.1 h1 h2 (by rw [h4] <;> rfl) rfl rfl hd kk'
  · rw [e_ad_pos ha]
    have hat := (hH.2.2.1 a ha).2.1 (by rw [hS0])
    rw [hS0] at hat
    exact W.alen (n := Int32.ofNat n) C.1 C.2.1 hat ((C.2.2.2.2.2.2.2.2.1.1.2 0 _ rfl).1 n (fun j => .int (I a j))) (by rw [arrV_size] <;> rfl) rfl rfl hd kk'
theorem E_iast {i x : Int32} (hd : decode M.2.1 pc = .ok (.iastore, 1)) (hS0 : z.2.1 a = (2, n)) (ha : a ≠ 0) (hin : vp_in i n) (kk : E M mc ms (pc + 1) ls st z (e_st I a i.toNatClampNeg x) Q) : E M mc ms pc ls (.int x :: .int i :: .ref a :: st) z I Q := by
  intro b b0 D cI cM p l e R s m args below meth c C H locs cells slots lsA hH hS hc1 hs hL
  have ha : 0 < a := Nat.pos_of_ne_zero ha
  have hat := (hH.2.2.1 a ha).2.1 (by rw [hS0])
  rw [hS0] at hat
  show W p l e R s m args below meth c H locs cells slots _ (F0 m pc lsA (.int x :: .int i :: .ref (e_ad b b0 a) :: st.map (e_tv b b0)))
  rw [e_ad_pos ha]
  refine W.iast C.1 C.2.1 hat ((C.2.2.2.2.2.2.2.2.1.1.2 0 _ rfl).1 n (fun j => .int (I a j))) (fun q => by cases q) (by show ¬ (i < 0 ∨ (arrV _ _ _).slots.size ≤ _); rw [arrV_size]; exact hin) rfl rfl hd fun H1 e1 e2 e3 => ?_
  refine kk b b0 D cI cM p l e R s m args below meth c C H1 _ cells slots lsA (e_put_H hH C.2.2.2.2.2.2.2.2.2.1.1 ha rfl rfl (fun _ _ => rfl) (fun a' h => e_st_a h) e2 e3 ?_) (hS.put e2 e3 (by show b0 < b0 + a; omega)) hc1 hs hL
  refine ⟨fun h => ?_, fun h => ?_, fun h => ?_⟩
  · rw [hS0] at h; cases h
  · rw [hS0, e1, arrV_store]
    congr 2
    funext q
    by_cases hq : q = i.toNatClampNeg
    · subst hq; simp [updV, e_st]
    · simp [updV, e_st, hq]
  · rw [hS0] at h; cases h
theorem E_aald {i : Int32} {x : Nat} (hd : decode M.2.1 pc = .ok (.aaload, 1)) (hS0 : z.2.1 a = (3, n)) (hin : vp_in i n) (hx : z.2.2 a i.toNatClampNeg = x) (hx0 : x ≠ 0) (kk : E M mc ms (pc + 1) ls (.ref x :: st) z I Q) : E M mc ms pc ls (.int i :: .ref a :: st) z I Q := by
  intro b b0 D cI cM p l e R s m args below meth c C H locs cells slots lsA hH hS hc1 hs hL
  have hlt : i.toNatClampNeg < n := Nat.not_le.mp fun q => hin (Or.inr q)
  have kk' := kk b b0 D cI cM p l e R s m args below meth c C H locs cells slots lsA hH hS hc1 hs hL
  have ha := hH.pos hS0 (by decide)
  have hat := (hH.2.2.1 a ha).2.2 (by rw [hS0])
  rw [hS0] at hat
  show W p l e R s m args below meth c H locs cells slots _ (F0 m pc lsA (.int i :: .ref (e_ad b b0 a) :: st.map (e_tv b b0)))
  rw [e_ad_pos ha]
  exact W.aald (v := e_tv b b0 (.ref x)) (ty := .object RX4) C.1 C.2.1 hat ((C.2.2.2.2.2.2.2.2.1.1.2 1 _ rfl).1 n (fun j => e_tv b b0 (e_rv (z.2.2 a j)))) rfl (fun q => by cases q) (by show ¬ (i < 0 ∨ (arrV _ _ _).slots.size ≤ _); rw [arrV_size]; exact hin) (by show (arrV _ _ _).slots[_]? = _; rw [arrV_read _ _ hlt, hx, e_rv_pos hx0]) rfl rfl hd kk'
theorem E_aast {i : Int32} {x : Nat} (hd : decode M.2.1 pc = .ok (.aastore, 1)) (hS0 : z.2.1 a = (3, n)) (hin : vp_in i n) (hx : z.2.1 x = (1, 3)) (kk : E M mc ms (pc + 1) ls st (z_rf z a i.toNatClampNeg x) I Q) : E M mc ms pc ls (.ref x :: .int i :: .ref a :: st) z I Q := by
  intro b b0 D cI cM p l e R s m args below meth c C H locs cells slots lsA hH hS hc1 hs hL
  have hlt : i.toNatClampNeg < n := Nat.not_le.mp fun q => hin (Or.inr q)
  have h0 : ¬ i < 0 := fun q => hin (Or.inl q)
  have ha := hH.pos hS0 (by decide)
  have hxp := hH.pos hx (by decide)
  have hat := (hH.2.2.1 a ha).2.2 (by rw [hS0])
  rw [hS0] at hat
  have hatx := (hH.2.2.1 x hxp).1 (by rw [hx])
  rw [hx] at hatx
  obtain ⟨r', hr', cellV, g1, g2, g3, -⟩ := hatx
  have hcls := (C.2.2.2.2.2.2.2.2.1.1.1 3 _ rfl).2
  obtain ⟨kA, comp, k1, k2, k3, -⟩ := (C.2.2.2.2.2.2.2.2.1.1.2 1 _ rfl).2
  have hcomp : comp = D.1 3 := Option.some.inj (k3.symm.trans hcls.1)
  subst hcomp
  have hasg := va_assign (s := s) hcls
  obtain ⟨kC, hkC, -⟩ := hcls.2
  show W p l e R s m args below meth c H locs cells slots _ (F0 m pc lsA (.ref (e_ad b b0 x) :: .int i :: .ref (e_ad b b0 a) :: st.map (e_tv b b0)))
  rw [e_ad_pos ha, e_ad_pos hxp]
  refine W.aast C.1 C.2.1 hat (fun q h => by cases h) (fun h => by cases h) k1 k2 rfl hkC ⟨h0, by show _ < (arrV _ _ _).slots.size; rw [arrV_size]; exact hlt⟩ g1 (fun q h => by rw [g3] at h; cases h) (by rw [g2]; exact hkC) (by rw [g2]; exact hasg) rfl rfl hd fun H1 e1 e2 e3 => ?_
  refine kk b b0 D cI cM p l e R s m args below meth c C H1 _ cells slots lsA (e_put_H hH C.2.2.2.2.2.2.2.2.2.1.1 ha rfl rfl (fun a' h => funext fun k' => if_neg fun q => h q.1) (fun _ _ => rfl) e2 e3 ?_) (hS.put e2 e3 (by show b0 < b0 + a; omega)) hc1 hs hL
  refine ⟨fun h => ?_, fun h => ?_, fun h => ?_⟩
  · change (z.2.1 a).1 = 1 at h; rw [hS0] at h; cases h
  · change (z.2.1 a).1 = 2 at h; rw [hS0] at h; cases h
  · show H1[b0 + a]? = some (arrV cM (z.2.1 a).2 _)
    rw [hS0, e1, arrV_store]
    congr 2
    funext q
    by_cases hq : q = i.toNatClampNeg
    · subst hq; simp [updV, z_rf, e_rv_pos (Nat.pos_iff_ne_zero.mp hxp), e_tv, e_ad_pos hxp]
    · simp [updV, z_rf, hq]
/-- the frame behind a new cell -/
theorem e_new_H {b b0 : Nat} {D : va_G} {cI cM : ClassId} {z : Zt} {I : It} {U : State} {H H1 : Heap} (hH : e_H b b0 D cI cM z I U H) (hb : b ≤ b0) (sh : Nat × Nat) (hsz : H1.size = H.size + 1) (hq : ∀ q, q < H.size → H1[q]? = H[q]?) (hat : e_at b b0 D cI cM (z_nw z sh) (i_nw z I) z.1 H1) : e_H b b0 D cI cM (z_nw z sh) (i_nw z I) U H1 := by
  have hz0 : ¬ 0 = z.1 := by have := hH.2.1; omega
  refine ⟨by show H1.size = b0 + (z.1 + 1); rw [hsz, hH.1]; omega, Nat.succ_pos _, fun a ha => ?_, ?_, ?_⟩
  · by_cases e : a = z.1
    · subst e; exact hat
    · have hl : e_at b b0 D cI cM z I a H1 := by
        rcases Nat.lt_or_ge a z.1 with h | h
        · exact (hH.2.2.1 a ha).kept (hq _ (by rw [hH.1]; omega))
        · have hat0 := hH.2.2.1 a ha
          have hno : H[b0 + a]? = none := by
            apply Array.getElem?_eq_none
            rw [hH.1]; omega
          refine ⟨fun g => ?_, fun g => ?_, fun g => ?_⟩
          · obtain ⟨r, h1, cell, h2, -⟩ := hat0.1 g
            rw [hno] at h2; cases h2
          · have h2 := hat0.2.1 g
            rw [hno] at h2; cases h2
          · have h2 := hat0.2.2 g
            rw [hno] at h2; cases h2
      exact hl.to (by simp [z_nw, e]) (by funext k; simp [z_nw, e]) (by funext k; simp [i_nw, e])
  · simp [z_nw, hz0, hH.2.2.2.1]
  · have h1 : (z_nw z sh).2.1 0 = z.2.1 0 := by simp [z_nw, hz0]
    have h2 : i_nw z I 0 = I 0 := by funext k; simp [i_nw, hz0]
    rw [h1, h2]
    refine hH.2.2.2.2.kept (hq _ ?_)
    have := hH.1
    have := hH.2.1
    omega
theorem e_new_S {b0 : Nat} {H0 H H1 : Heap} {locs : List Loc} (hS : va_S (fun q => b0 < q) H0 H locs) (hsz : H1.size = H.size + 1) (hq : ∀ q, q < H.size → H1[q]? = H[q]?) : va_S (fun q => b0 < q) H0 H1 locs :=
  ⟨Nat.le_trans hS.1 (by omega), fun x h1 h2 => (hq x (Nat.lt_of_lt_of_le h1 hS.1)).trans (hS.2.1 x h1 h2), hS.2.2⟩
theorem E_new {ci : Nat} {C0 : String} {T0 : u_T} {N0 : Nat} {ty0 : Nat → FieldType} (hd : decode M.2.1 pc = .ok (.new idx, 3)) (hE : e_cl ci C0 T0 N0 ty0) (hl : Cond.classLink M.1.cls idx C0 ∈ WL) (hi : Cond.instantiable C0 N0 ∈ WL) (hni : Cond.initialized C0 ∈ WL) (kk : E M mc ms (pc + 3) ls (.ref z.1 :: st) (z_nw z (1, ci)) (i_nw z I) Q) : E M (mc + 1) (ms + N0) pc ls st z I Q := by
  intro b b0 D cI cM p l e R s m args below meth c C H locs cells slots lsA hH hS hc1 hs hL
  obtain ⟨hcl, hin, hty, hnm, hown, hdef⟩ := hE
  have hKn := C.2.2.2.2.2.2.2.2.1.1.1 ci _ hcl
  refine W.newcK C.1 C.2.1 C.2.2.2.2.1 (C.2.2.2.2.2.1 _ hl) (C.2.2.2.2.2.1 _ hi) (C.2.2.2.2.2.1 _ hni) rfl hd (by omega) (by omega) hKn.2.1 hH.1 fun H1 kC hkC e1 z1 o1 => ?_
  have e2 : H1.size = H.size + 1 := by rw [z1, hH.1]
  have o2 : ∀ q, q < H.size → H1[q]? = H[q]? := fun q h => o1 q (by rw [← hH.1]; exact h)
  have kk' := kk b b0 D cI cM p l e R s m args below meth c C H1 locs (cells + 1) (slots + N0) lsA (e_new_H hH C.2.2.2.2.2.2.2.2.2.1.1 (1, ci) e2 o2 ?_) (e_new_S hS e2 o2) (by omega) (by omega) hL
  · have hz : e_tv b b0 (.ref z.1) = .ref (b0 + z.1) := by show Value.ref (e_ad b b0 z.1) = _; rw [e_ad_pos hH.2.1]
    rw [List.map_cons, hz] at kk'
    exact kk'
  · refine ⟨fun _ => ?_, fun h => ?_, fun h => ?_⟩
    · have hs1 : (z_nw z (1, ci)).2.1 z.1 = (1, ci) := by simp [z_nw]
      rw [hs1]
      refine ⟨_, hcl, (u_born ty0 C.2.2.2.2.2.1 hin hKn hkC e1 hty).to fun k hk => ?_⟩
      have hk2 := hdef k hk
      unfold e_fv
      by_cases hr : e_isR ci k = true
      · rw [if_pos hr] at hk2 ⊢
        rw [hk2]
        simp [z_nw, e_rv, e_tv]
      · rw [if_neg hr] at hk2 ⊢
        rw [hk2]
        simp [i_nw]
    · simp [z_nw] at h
    · simp [z_nw] at h
theorem E_newa {n0 : Int32} {N : Nat} (hd : decode M.2.1 pc = .ok (.newarray .int, 2)) (hw : Cond.arrayClass .int ∈ WL) (hn : ¬ n0 < 0) (hN : n0.toNatClampNeg = N) (hb : N * 4 ≤ 536870912) (kk : E M mc ms (pc + 2) ls (.ref z.1 :: st) (z_nw z (2, N)) (i_nw z I) Q) : E M (mc + 1) (ms + N) pc ls (.int n0 :: st) z I Q := by
  intro b b0 D cI cM p l e R s m args below meth c C H locs cells slots lsA hH hS hc1 hs hL
  refine va_newaK (atype := .int) C.1 C.2.1 (C.2.2.2.2.2.1 _ hw) rfl hd rfl hn hN hb (by omega) (by omega) hH.1 fun H1 cA e1 z1 o1 hAr hNm => ?_
  have e2 : H1.size = H.size + 1 := by rw [z1, hH.1]
  have o2 : ∀ q, q < H.size → H1[q]? = H[q]? := fun q h => o1 q (by rw [← hH.1]; exact h)
  have hcA : cA = cI := by
    have h2 := (C.2.2.2.2.2.2.2.2.1.1.2 0 _ rfl).2
    exact Option.some.inj (hNm.symm.trans h2)
  subst hcA
  have kk' := kk b b0 D cA cM p l e R s m args below meth c C H1 locs (cells + 1) (slots + N) lsA (e_new_H hH C.2.2.2.2.2.2.2.2.2.1.1 (2, N) e2 o2 ?_) (e_new_S hS e2 o2) (by omega) (by omega) hL
  · have hz : e_tv b b0 (.ref z.1) = .ref (b0 + z.1) := by show Value.ref (e_ad b b0 z.1) = _; rw [e_ad_pos hH.2.1]
    rw [List.map_cons, hz] at kk'
    exact kk'
  · refine ⟨fun h => ?_, fun h => ?_, fun h => ?_⟩
    · simp [z_nw] at h
    · have hs1 : (z_nw z (2, N)).2.1 z.1 = (2, N) := by simp [z_nw]
      rw [hs1, e1]
      congr 2
      funext j
      simp [i_nw, newarray.typeOf, defaultValue]
    · simp [z_nw] at h
theorem E_anewa {n0 : Int32} {N : Nat} (hd : decode M.2.1 pc = .ok (.anewarray idx, 3)) (hl : Cond.classLink M.1.cls idx RX4 ∈ WL) (hn : ¬ n0 < 0) (hN : n0.toNatClampNeg = N) (hb : N * 4 ≤ 536870912) (kk : E M mc ms (pc + 3) ls (.ref z.1 :: st) (z_nw z (3, N)) (i_nw z I) Q) : E M (mc + 1) (ms + N) pc ls (.int n0 :: st) z I Q := by
  intro b b0 D cI cM p l e R s m args below meth c C H locs cells slots lsA hH hS hc1 hs hL
  subst hN
  refine W.anew C.1 C.2.1 C.2.2.2.2.1 (C.2.2.2.2.2.1 _ hl) (va_AO.use C.2.2.2.2.2.2.2.2.1.2.1) rfl hd rfl hn hb (by omega) (by omega) fun cA kA comp f1 f2 f3 f4 => ?_
  generalize hH1 : H.push ({ cls := cA, slots := Array.replicate n0.toNatClampNeg .null, vm := .none } : Cell) = H1
  have e2 : H1.size = H.size + 1 := by rw [← hH1, Array.size_push]
  have e1 : H1[H.size]? = some (arrV cA n0.toNatClampNeg (fun _ => .null)) := by rw [← hH1, Array.getElem?_push_size, ← arrV_new]
  have o2 : ∀ q : Nat, q < H.size → H1[q]? = H[q]? := fun q hq => by rw [← hH1, Array.getElem?_push, if_neg (Nat.ne_of_lt hq)]
  have hcA : cA = cM := by
    obtain ⟨_, _, -, -, -, h2⟩ := (C.2.2.2.2.2.2.2.2.1.1.2 1 _ rfl).2
    exact Option.some.inj (f1.symm.trans h2)
  subst hcA
  have kk' := kk b b0 D cI cA p l e R s m args below meth c C H1 locs (cells + 1) (slots + n0.toNatClampNeg) lsA (e_new_H hH C.2.2.2.2.2.2.2.2.2.1.1 (3, n0.toNatClampNeg) e2 o2 ?_) (e_new_S hS e2 o2) (by omega) (by omega) hL
  · have hz : e_tv b b0 (.ref z.1) = .ref H.size := by show Value.ref (e_ad b b0 z.1) = _; rw [e_ad_pos hH.2.1, hH.1]
    rw [List.map_cons, hz] at kk'
    exact kk'
  · refine ⟨fun h => ?_, fun h => ?_, fun h => ?_⟩
    · simp [z_nw] at h
    · simp [z_nw] at h
    · have hs1 : (z_nw z (3, n0.toNatClampNeg)).2.1 z.1 = (3, n0.toNatClampNeg) := by simp [z_nw]
      rw [hs1, ← hH.1, e1]
      congr 2
      funext j
      simp [z_nw, e_rv, e_tv]
end ARRAYS
