/-! ===== returns and calls ===== -/
section RETS
variable {M : MI} {mc ms pc : Nat} {ls ls' : List (Option Value)} {st : List Value} {z : Zt} {I : It} {Q : Option Value → Zt → It → Prop}
theorem E_iret {v : Int32} (hd : decode M.2.1 pc = .ok (.ireturn, 1)) (hr : M.2.2.2.1 = some .int) (q : Q (some (.int v)) z I) : E M mc ms pc ls [.int v] z I Q := by
  intro b b0 D cI cM p l e R s m args below meth c C H locs cells slots lsA hH hS hc1 hs hL
  refine W.widen (k := R.cells) (n := R.slots) (by omega) (by omega) ?_
  exact W.iret (v := v) C.1 C.2.1 (C.2.2.1.trans hr) (fun t ht hW => ⟨⟨some (.int v), z, I, rfl, by rw [ht]; exact hH.moved hW.alike, q⟩, hS.F ht⟩) hS.2.2 hd C.2.2.2.2.2.2.1
theorem E_zret {v : Int32} (hd : decode M.2.1 pc = .ok (.ireturn, 1)) (hr : M.2.2.2.1 = some .boolean) (hv : v = 0 ∨ v = 1) (q : Q (some (.int v)) z I) : E M mc ms pc ls [.int v] z I Q := by
  intro b b0 D cI cM p l e R s m args below meth c C H locs cells slots lsA hH hS hc1 hs hL
  refine W.widen (k := R.cells) (n := R.slots) (by omega) (by omega) ?_
  exact W.zret (v := v) (ty := .boolean) C.1 C.2.1 (C.2.2.1.trans hr) (by rcases hv with rfl | rfl <;> rfl) (fun t ht hW => ⟨⟨some (.int v), z, I, rfl, by rw [ht]; exact hH.moved hW.alike, q⟩, hS.F ht⟩) hS.2.2 hd C.2.2.2.2.2.2.1
theorem E_vret (hd : decode M.2.1 pc = .ok (.return_, 1)) (hr : M.2.2.2.1 = none) (q : Q none z I) : E M mc ms pc ls [] z I Q := by
  intro b b0 D cI cM p l e R s m args below meth c C H locs cells slots lsA hH hS hc1 hs hL
  refine W.widen (k := R.cells) (n := R.slots) (by omega) (by omega) ?_
  exact W.vret C.1 C.2.1 (C.2.2.1.trans hr) (fun t ht hW => ⟨⟨none, z, I, rfl, by rw [ht]; exact hH.moved hW.alike, q⟩, hS.F ht⟩) hS.2.2 hd C.2.2.2.2.2.2.1
theorem E_aret {x : Nat} {C0 : String} (hd : decode M.2.1 pc = .ok (.areturn, 1)) (hr : M.2.2.2.1 = some (.object C0)) (q : Q (some (.ref x)) z I) : E M mc ms pc ls [.ref x] z I Q := by
  intro b b0 D cI cM p l e R s m args below meth c C H locs cells slots lsA hH hS hc1 hs hL
  refine W.widen (k := R.cells) (n := R.slots) (by omega) (by omega) ?_
  exact W.aret (v := .ref (e_ad b b0 x)) C.1 C.2.1 (C.2.2.1.trans hr) (Or.inl ⟨_, rfl⟩) (Or.inr ⟨_, rfl⟩) (fun t ht hW => ⟨⟨some (.ref x), z, I, rfl, by rw [ht]; exact hH.moved hW.alike, q⟩, hS.F ht⟩) hS.2.2 hd C.2.2.2.2.2.2.1
theorem E_aretN {C0 : String} (hd : decode M.2.1 pc = .ok (.areturn, 1)) (hr : M.2.2.2.1 = some (.object C0)) (q : Q (some .null) z I) : E M mc ms pc ls [.null] z I Q := by
  intro b b0 D cI cM p l e R s m args below meth c C H locs cells slots lsA hH hS hc1 hs hL
  refine W.widen (k := R.cells) (n := R.slots) (by omega) (by omega) ?_
  exact W.aret (v := .null) C.1 C.2.1 (C.2.2.1.trans hr) (Or.inl ⟨_, rfl⟩) (Or.inl rfl) (fun t ht hW => ⟨⟨some .null, z, I, rfl, by rw [ht]; exact hH.moved hW.alike, q⟩, hS.F ht⟩) hS.2.2 hd C.2.2.2.2.2.2.1
end RETS
-- a method's words and start
def e_ws (M : MI) : List Cond := .code M.1 M.2.1 M.2.2.1 M.2.2.2.1 :: WL
def e_P (b b0 : Nat) (D : va_G) (cI cM : ClassId) (av : List Value) (z : Zt) (I : It) : Array Value → State → Prop := fun v U => v = (av.map (e_tv b b0)).toArray ∧ e_K D cI cM U ∧ e_H b b0 D cI cM z I U U.heap ∧ b ≤ b0
def e_en (M : MI) (av : List Value) : List (Option Value) := av.map some ++ List.replicate (M.2.2.1 - av.length) none
def e_rm (M : MI) (mc ms : Nat) : Room := { frames := M.2.2.2.2.1, cells := mc, slots := ms, locals := M.2.2.2.2.2 }
theorem e_sl {vs : List Value} (h : ∀ v ∈ vs, v.category = 1) : lg_sl vs = vs.map Slot.val := by
  unfold lg_sl
  induction vs with
  | nil => rfl
  | cons a vs ih =>
    rw [List.flatMap_cons, List.map_cons, ih (fun v hv => h v (List.mem_cons_of_mem _ hv)), if_neg (by rw [h a List.mem_cons_self]; decide)]
    rfl
theorem e_L.entry {M : MI} {b b0 : Nat} {av : List Value} (hc : ∀ v ∈ av, v.category = 1) (hn : av.length ≤ M.2.2.1) : e_L b b0 M.2.2.1 (e_en M av) ((lg_sl (av.map (e_tv b b0)) ++ List.replicate (M.2.2.1 - (lg_sl (av.map (e_tv b b0))).length) Slot.unset).toArray) := by
  have hc' : ∀ v ∈ av.map (e_tv b b0), v.category = 1 := by
    intro v hv
    obtain ⟨w, hw, rfl⟩ := List.mem_map.mp hv
    rw [e_tv_cat]; exact hc w hw
  have hl := lv_entry (av.map (e_tv b b0)) (n := M.2.2.1) (by rw [e_sl hc']; simpa using hn)
  refine ⟨hl.1, hl.2.1, fun i v hi => ?_⟩
  rw [e_sl hc']
  unfold e_en at hi
  have hlt : i < (av.map some).length := by
    rcases Nat.lt_or_ge i (av.map some).length with h | h
    · exact h
    · rw [List.getElem?_append_right h] at hi
      have := List.mem_of_getElem? hi
      rw [List.mem_replicate] at this
      cases this.2
  rw [List.getElem?_append_left hlt, List.getElem?_map] at hi
  rw [List.getElem?_toArray, List.getElem?_append_left (by simpa using hlt), List.getElem?_map, List.getElem?_map]
  cases hx : av[i]? with
  | none => rw [hx] at hi; cases hi
  | some w => rw [hx] at hi; cases hi; rfl
theorem E.met {M : MI} {mc ms : Nat} {av : List Value} {z : Zt} {I : It} {Q : Option Value → Zt → It → Prop} (h : E M mc ms 0 (e_en M av) [] z I Q) (hy : plainFor M.1 = true) (hc : ∀ v ∈ av, v.category = 1) (hn : av.length ≤ M.2.2.1) (l : Launch) (b b0 : Nat) (D : va_G) (cI cM : ClassId) : Met l M.1 (e_ws M) (e_rm M mc ms) (e_P b b0 D cI cM av z I) (e_Q b b0 D cI cM Q) mc ms (fun q => b0 < q) := by
  refine va_MetF (cc := M.2.1) (maxL := M.2.2.1) (ret := M.2.2.2.1) hy rfl ?_
  intro p e s m args below meth c s₁ B hml hv
  obtain ⟨rfl, hK, hH, hb⟩ := hv
  have hts := atoms_spec (ws := e_ws M) B.pre
  rw [lg_entry_eq]
  have hsz : b0 < s.heap.size := by have h1 := hH.1; have h2 := hH.2.1; omega
  exact h b b0 D cI cM p l e (headSpec (e_ws M) (e_rm M mc ms)).room s m _ below meth c ⟨B.exec, B.bytes, B.returns, hml, findClass_of_methodNamed B.named, fun w hw => hts w (List.mem_cons_of_mem _ hw), B.notSynchronized, (name_of_methodNamed B.named B.method).1, hK, ⟨hb, hsz⟩, Nat.le_refl _, Nat.le_refl _⟩ s.heap [] 0 0 _ hH va_S.rf (Nat.le_of_eq (Nat.zero_add _)) (Nat.le_of_eq (Nat.zero_add _)) (e_L.entry hc hn)
theorem e_P.blind {b b0 : Nat} {D : va_G} {cI cM : ClassId} {av : List Value} {z : Zt} {I : It} : FrameBlind (e_P b b0 D cI cM av z I) := by
  intro a U g mk h
  obtain ⟨h1, h2, h3, h4⟩ := h
  exact ⟨h1, e_K.same (u := U) (U := U.calling g mk a) rfl h2, e_H.moved (u := U) (U := U.calling g mk a) (Vm.Alike.refl U.vm) h3, h4⟩
/-- what a call needs of the callee -/
def e_mt (M : MI) (n : Nat) : Prop := Cond.code M.1 M.2.1 M.2.2.1 M.2.2.2.1 ∈ WL ∧ Cond.initialized M.1.cls ∈ WL ∧ (M.1.cls ≠ "java/lang/invoke/MethodHandle" ∧ M.1.cls ≠ "java/lang/invoke/VarHandle") ∧ (parseMethodDescriptor M.1.desc).map (fun d => d.parameters.length) = some n ∧ plainFor M.1 = true
def e_mV (M : MI) (n : Nat) : Prop := e_mt M n ∧ Cond.instanceMethod M.1 ∈ WL ∧ Cond.selects M.1.cls M.1 M.1 ∈ WL
def e_mS (M : MI) (n : Nat) : Prop := e_mt M n ∧ Cond.static M.1 ∈ WL
def e_mI (M : MI) (n : Nat) : Prop := e_mt M n ∧ Cond.instanceMethod M.1 ∈ WL ∧ M.1.name = "<init>" ∧ M.2.2.2.1 = none
def e_rf (M M' : MI) : Prop := M'.2.2.2.2.1 + 1 ≤ M.2.2.2.2.1 ∧ 8 + (M'.2.2.1 + 11) + M'.2.2.2.2.2 ≤ M.2.2.2.2.2
theorem e_cat {b b0 : Nat} {st : List Value} : ((st.map (e_tv b b0)).map fun v => v.category) = st.map fun v => v.category := by
  rw [List.map_map]
  apply List.map_congr_left
  intro v _
  exact e_tv_cat b b0 v
section CALLS
variable {M M' : MI} {mc ms mc1 ms1 pc idx n : Nat} {ls : List (Option Value)} {st : List Value} {z : Zt} {I : It} {Q : Option Value → Zt → It → Prop} {av : List Value}
theorem e_words {b b0 : Nat} {D : va_G} {cI cM : ClassId} {p : Program} {R : Room} {s : State} {m : MethodId} {args : Array Value} {meth : Method} {c : Code} (C : e_C M b b0 D cI cM p R s m args meth c) (hm : e_mt M' n) : ∀ w ∈ e_ws M', ∀ (a' : Array Value) (U : State), s.WarmedH U.vm → w.before a' U = true := by
  intro w hw a' U hW
  have hin : w ∈ WL := by
    rcases List.mem_cons.mp hw with rfl | h
    · exact hm.1
    · exact h
  exact word_at hW (WL_ok hin) (C.2.2.2.2.2.1 w hin)
theorem e_callB {b b0 : Nat} {D : va_G} {cI cM : ClassId} {p : Program} {R : Room} {s : State} {m : MethodId} {args : Array Value} {meth : Method} {c : Code} (C : e_C M b b0 D cI cM p R s m args meth c) (hm : e_mt M' n) (hr : e_rf M M') (hl : Cond.methodLink M.1.cls idx M'.1 ∈ WL) : CallB R s args M.1.cls idx M'.1 M'.2.1 M'.2.2.1 M'.2.2.2.1 (e_ws M') (e_rm M' mc1 ms1) mc1 ms1 n := by
  refine ⟨rfl, rfl, Nat.le_trans hr.1 C.2.2.2.2.2.2.2.2.2.2.1, Nat.le_trans hr.2 C.2.2.2.2.2.2.2.2.2.2.2, e_words C hm, List.mem_cons_self, C.2.2.2.2.2.1 _ hm.1, C.2.2.2.2.2.1 _ hm.2.1, hm.2.2.1, fun sig h => ?_, C.2.2.2.2.2.1 _ hl⟩
  have h2 := hm.2.2.2.1
  rw [h] at h2
  exact (Option.some.inj h2).symm
theorem e_pre {b b0 : Nat} {D : va_G} {cI cM : ClassId} {p : Program} {R : Room} {s : State} {m : MethodId} {args : Array Value} {meth : Method} {c : Code} (C : e_C M b b0 D cI cM p R s m args meth c) {H : Heap} (hH : e_H b b0 D cI cM z I s H) : ∀ U : State, U.heap = H → s.WarmedH U.vm → e_P b b0 D cI cM av z I (av.map (e_tv b b0)).toArray U :=
  fun U hU hW => ⟨rfl, C.2.2.2.2.2.2.2.2.1.moved hW, by rw [hU]; exact hH.moved hW.alike, C.2.2.2.2.2.2.2.2.2.1.1⟩
theorem e_go {b b0 : Nat} {D : va_G} {cI cM : ClassId} {p : Program} {l : Launch} {e : Env} {R : Room} {s : State} {m : MethodId} {args : Array Value} {below : List Frame} {meth : Method} {c : Code} (C : e_C M b b0 D cI cM p R s m args meth c) {H : Heap} {locs : List Loc} {cells slots : Nat} {lsA : Array Slot} {stk : List Value} {a' : Array Value} (hS : va_S (fun q => b0 < q) s.heap H locs) (hc1 : cells + (mc1 + mc) ≤ R.cells) (hs : slots + (ms1 + ms) ≤ R.slots) (hL : e_L b b0 M.2.2.1 ls lsA)
    (hr : va_Run p l e R s m args below meth c H locs cells slots mc1 ms1 (F0 m pc lsA stk) (st.map (e_tv b b0)) (e_Q b b0 D cI cM (fun r z' I' => E M mc ms (pc + 3) ls (r.toList ++ st) z' I' Q) a') (fun q => b0 < q)) : W p l e R s m args below meth c H locs cells slots (MQ below (e_Q b b0 D cI cM Q) args s R.cells R.slots (fun q => b0 < q)) (F0 m pc lsA stk) := by
  intro T hT X
  obtain ⟨v, st₀, t, T', L, h0, X', hLf, e1, e2, ⟨⟨r, z', I', hv, hH', hE⟩, hz, hk⟩, stp⟩ := hr T hT X
  cases hv
  rw [h0] at hz hk
  have hvm : t.vm.Alike s.vm := by rw [← e2]; exact X'.warmed.alike.symm
  have hH2 : e_H b b0 D cI cM z' I' s T'.heap := by rw [e1]; exact hH'.moved hvm
  have hS2 : va_S (fun q => b0 < q) s.heap T'.heap (locs ++ L) := ⟨Nat.le_trans hS.1 (by rw [e1]; exact hz), fun q h1 h2 => by rw [e1, hk q (Nat.lt_of_lt_of_le h1 hS.1) h2]; exact hS.2.1 q h1 h2, fun q hq => by
    rcases List.mem_append.mp hq with h | h
    · exact hS.2.2 q h
    · exact hLf q h⟩
  obtain ⟨t2, a1, b1⟩ := hE b b0 D cI cM p l e R s m args below meth c C T'.heap (locs ++ L) (cells + mc1) (slots + ms1) lsA hH2 hS2 (by omega) (by omega) hL T' rfl X'
  refine ⟨t2, stp t2 ?_, b1⟩
  have hst : (r.toList ++ st).map (e_tv b b0) = (Option.map (e_tv b b0) r).toList ++ st.map (e_tv b b0) := by cases r <;> simp
  rw [hst] at a1
  exact a1
theorem E_callV {a ci : Nat} {As : List Value} {C0 : String} {T0 : u_T} {N0 : Nat} (hd : decode M.2.1 pc = .ok (.invokevirtual idx, 3)) (hm : e_mV M' n) (hr : e_rf M M') (hl : Cond.methodLink M.1.cls idx M'.1 ∈ WL) (hcl : vwCl[ci]? = some (C0, T0, N0)) (hC : C0 = M'.1.cls) (hS0 : z.2.1 a = (1, ci)) {stk : List Value} (hst : stk = As.reverse ++ .ref a :: st) (hn : As.length = n) (hnl : n < M'.2.2.1 + 0) (hca : ∀ v ∈ As, v.category = 1) (hrm : (st.map fun v => v.category).sum ≤ 8)
    (k : E M' 0 0 0 (e_en M' (.ref a :: As)) [] z I (fun r z' I' => E M mc ms (pc + 3) ls (r.toList ++ st) z' I' Q)) : E M mc ms pc ls stk z I Q := by
  intro b b0 D cI cM p l e R s m args below meth c C H locs cells slots lsA hH hS hc1 hs hL
  have ha := hH.pos hS0 (by decide)
  subst hC
  have hat := (hH.2.2.1 a ha).1 (by rw [hS0])
  rw [hS0] at hat
  obtain ⟨r, h1, cell, q1, q2, q3, q4⟩ := hat
  have hKn := C.2.2.2.2.2.2.2.2.1.1.1 ci _ hcl
  have hM : Met l M'.1 (e_ws M') (e_rm M' 0 0) (e_P b b0 D cI cM (.ref a :: As) z I) (e_Q b b0 D cI cM (fun r z' I' => E M mc ms (pc + 3) ls (r.toList ++ st) z' I' Q)) 0 0 (fun q => b0 < q) := k.met hm.1.2.2.2.2 (fun v hv => (List.mem_cons.mp hv).elim (fun q => by rw [q]; rfl) (hca v)) (by simp only [List.length_cons]; omega) l b b0 D cI cM
  have hrun := va_runV (p := p) (e := e) (below := below) (meth := meth) (locs := locs) (cells := cells) (slots := slots) (b := b0 + a) (As := As.map (e_tv b b0)) (rest := st.map (e_tv b b0)) (g := F0 m pc lsA (stk.map (e_tv b b0))) (C := M'.1.cls) (index := idx) (H := H) (R := R) (cc := M.2.1) (nL := M.2.2.1) (Ts := WL) (own := M.1.cls) (n := n) (bytes := M'.2.1) (maxL := M'.2.2.1) (ret := M'.2.2.2.1) ⟨C.1, C.2.1, C.2.2.2.1, C.2.2.2.2.1, C.2.2.2.2.2.1⟩ hM ⟨e_callB C hm.1 hr hl, C.2.2.2.2.2.1 _ hm.2.1, C.2.2.2.2.2.1 _ hm.2.2⟩
    ⟨e_P.blind, ⟨cell, q1, by rw [q3]; rfl, by rw [q2]; exact hKn.2.1⟩, fun U hU hW => by
      have hp := e_pre (av := .ref a :: As) C hH U hU hW
      rw [List.map_cons, show e_tv b b0 (.ref a) = .ref (b0 + a) by show Value.ref (e_ad b b0 a) = _; rw [e_ad_pos ha]] at hp
      exact hp⟩ rfl (by simpa using hn) hL.1 (by
      show stk.map (e_tv b b0) = _
      rw [hst, List.map_append, List.map_reverse, List.map_cons, show e_tv b b0 (.ref a) = .ref (b0 + a) by show Value.ref (e_ad b b0 a) = _; rw [e_ad_pos ha]]) (lv_room (by rw [e_cat]; exact hrm)) hd ⟨by omega, by omega⟩
  exact e_go C hS (by omega) (by omega) hL hrun
theorem E_callS {As : List Value} (hd : decode M.2.1 pc = .ok (.invokestatic idx, 3)) (hm : e_mS M' n) (hr : e_rf M M') (hl : Cond.methodLink M.1.cls idx M'.1 ∈ WL) {stk : List Value} (hst : stk = As.reverse ++ st) (hn : As.length = n) (hnl : n ≤ M'.2.2.1) (hca : ∀ v ∈ As, v.category = 1) (hrm : (st.map fun v => v.category).sum ≤ 8)
    (k : E M' 0 0 0 (e_en M' As) [] z I (fun r z' I' => E M mc ms (pc + 3) ls (r.toList ++ st) z' I' Q)) : E M mc ms pc ls stk z I Q := by
  intro b b0 D cI cM p l e R s m args below meth c C H locs cells slots lsA hH hS hc1 hs hL
  have hM : Met l M'.1 (e_ws M') (e_rm M' 0 0) (e_P b b0 D cI cM As z I) (e_Q b b0 D cI cM (fun r z' I' => E M mc ms (pc + 3) ls (r.toList ++ st) z' I' Q)) 0 0 (fun q => b0 < q) := k.met hm.1.2.2.2.2 hca (by omega) l b b0 D cI cM
  have hrun := va_runS (p := p) (e := e) (below := below) (meth := meth) (locs := locs) (cells := cells) (slots := slots) (As := As.map (e_tv b b0)) (rest := st.map (e_tv b b0)) (g := F0 m pc lsA (stk.map (e_tv b b0))) (index := idx) (H := H) (R := R) (cc := M.2.1) (nL := M.2.2.1) (Ts := WL) (own := M.1.cls) (n := n) (bytes := M'.2.1) (maxL := M'.2.2.1) (ret := M'.2.2.2.1) ⟨C.1, C.2.1, C.2.2.2.1, C.2.2.2.2.1, C.2.2.2.2.2.1⟩ hM ⟨e_callB C hm.1 hr hl, C.2.2.2.2.2.1 _ hm.2⟩
    ⟨e_P.blind, e_pre C hH⟩ rfl (by simpa using hn) hL.1 (by
      show stk.map (e_tv b b0) = _
      rw [hst, List.map_append, List.map_reverse]) (lv_room (by rw [e_cat]; exact hrm)) hd ⟨by omega, by omega⟩
  exact e_go C hS (by omega) (by omega) hL hrun
/-- a constructor of the same class or a public one -/
theorem E_callI {a : Nat} {As : List Value} (hd : decode M.2.1 pc = .ok (.invokespecial idx, 3)) (hm : e_mI M' n) (hr : e_rf M M') (hl : Cond.methodLink M.1.cls idx M'.1 ∈ WL) (ha : a ≠ 0) {stk : List Value} (hst : stk = As.reverse ++ .ref a :: st) (hn : As.length = n) (hnl : n < M'.2.2.1) (hca : ∀ v ∈ As, v.category = 1) (hrm : (st.map fun v => v.category).sum ≤ 8)
    (k : E M' mc1 ms1 0 (e_en M' (.ref a :: As)) [] z I (fun r z' I' => E M mc ms (pc + 3) ls (r.toList ++ st) z' I' Q)) : E M (mc1 + mc) (ms1 + ms) pc ls stk z I Q := by
  intro b b0 D cI cM p l e R s m args below meth c C H locs cells slots lsA hH hS hc1 hs hL
  have ha := Nat.pos_of_ne_zero ha
  have hM : Met l M'.1 (e_ws M') (e_rm M' mc1 ms1) (e_P b b0 D cI cM (.ref a :: As) z I) (e_Q b b0 D cI cM (fun r z' I' => E M mc ms (pc + 3) ls (r.toList ++ st) z' I' Q)) mc1 ms1 (fun q => b0 < q) := k.met hm.1.2.2.2.2 (fun v hv => (List.mem_cons.mp hv).elim (fun q => by rw [q]; rfl) (hca v)) (by simp only [List.length_cons]; omega) l b b0 D cI cM
  have hcb := e_callB (mc1 := mc1) (ms1 := ms1) C hm.1 hr hl
  rw [hm.2.2.2] at hcb
  have hrun := va_runI (p := p) (e := e) (below := below) (meth := meth) (locs := locs) (cells := cells) (slots := slots) (b := b0 + a) (As := As.map (e_tv b b0)) (rest := st.map (e_tv b b0)) (g := F0 m pc lsA (stk.map (e_tv b b0))) (index := idx) (H := H) (R := R) (cc := M.2.1) (nL := M.2.2.1) (Ts := WL) (own := M.1.cls) (n := n) (bytes := M'.2.1) (maxL := M'.2.2.1) ⟨C.1, C.2.1, C.2.2.2.1, C.2.2.2.2.1, C.2.2.2.2.2.1⟩ hM ⟨hcb, hm.2.2.1, C.2.2.2.2.2.1 _ hm.2.1⟩
    ⟨e_P.blind, fun U hU hW => by
      have hp := e_pre (av := .ref a :: As) C hH U hU hW
      rw [List.map_cons, show e_tv b b0 (.ref a) = .ref (b0 + a) by show Value.ref (e_ad b b0 a) = _; rw [e_ad_pos ha]] at hp
      exact hp⟩ rfl (by simpa using hn) hL.1 (by
      show stk.map (e_tv b b0) = _
      rw [hst, List.map_append, List.map_reverse, List.map_cons, show e_tv b b0 (.ref a) = .ref (b0 + a) by show Value.ref (e_ad b b0 a) = _; rw [e_ad_pos ha]]) (lv_room (by rw [e_cat]; exact hrm)) hd ⟨by omega, by omega⟩
  exact e_go C hS (by omega) (by omega) hL hrun
/-- a private constructor of a nest mate -/
theorem E_callIN {a : Nat} {As : List Value} {host : String} (hd : decode M.2.1 pc = .ok (.invokespecial idx, 3)) (hm : e_mI M' n) (hr : e_rf M M') (hl : Cond.methodLinkNest M.1.cls idx M'.1 host ∈ nstW) (ha : a ≠ 0) {stk : List Value} (hst : stk = As.reverse ++ .ref a :: st) (hn : As.length = n) (hnl : n < M'.2.2.1) (hca : ∀ v ∈ As, v.category = 1) (hrm : (st.map fun v => v.category).sum ≤ 8)
    (k : E M' mc1 ms1 0 (e_en M' (.ref a :: As)) [] z I (fun r z' I' => E M mc ms (pc + 3) ls (r.toList ++ st) z' I' Q)) : E M (mc1 + mc) (ms1 + ms) pc ls stk z I Q := by
  intro b b0 D cI cM p l e R s m args below meth c C H locs cells slots lsA hH hS hc1 hs hL
  have ha := Nat.pos_of_ne_zero ha
  have hM : Met l M'.1 (e_ws M') (e_rm M' mc1 ms1) (e_P b b0 D cI cM (.ref a :: As) z I) (e_Q b b0 D cI cM (fun r z' I' => E M mc ms (pc + 3) ls (r.toList ++ st) z' I' Q)) mc1 ms1 (fun q => b0 < q) := k.met hm.1.2.2.2.2 (fun v hv => (List.mem_cons.mp hv).elim (fun q => by rw [q]; rfl) (hca v)) (by simp only [List.length_cons]; omega) l b b0 D cI cM
  have hcn : va_CN R s args M.1.cls idx M'.1 host M'.2.1 M'.2.2.1 M'.2.2.2.1 (e_ws M') (e_rm M' mc1 ms1) mc1 ms1 n := by
    refine ⟨⟨rfl, rfl, Nat.le_trans hr.1 C.2.2.2.2.2.2.2.2.2.2.1, Nat.le_trans hr.2 C.2.2.2.2.2.2.2.2.2.2.2, e_words C hm.1, List.mem_cons_self⟩, C.2.2.2.2.2.1 _ hm.1.1, C.2.2.2.2.2.1 _ hm.1.2.1, hm.1.2.2.1, fun sig h => ?_, va_Nw.use rfl (C.2.2.2.2.2.2.2.2.1.2.2 _ hl)⟩
    have h2 := hm.1.2.2.2.1
    rw [h] at h2
    exact (Option.some.inj h2).symm
  rw [hm.2.2.2] at hcn
  have hrun := va_runIN (p := p) (e := e) (below := below) (meth := meth) (locs := locs) (cells := cells) (slots := slots) (b := b0 + a) (As := As.map (e_tv b b0)) (rest := st.map (e_tv b b0)) (g := F0 m pc lsA (stk.map (e_tv b b0))) (index := idx) (H := H) (R := R) (cc := M.2.1) (nL := M.2.2.1) (Ts := WL) (own := M.1.cls) (n := n) (bytes := M'.2.1) (maxL := M'.2.2.1) ⟨C.1, C.2.1, C.2.2.2.1, C.2.2.2.2.1, C.2.2.2.2.2.1⟩ hM ⟨hcn, hm.2.2.1, C.2.2.2.2.2.1 _ hm.2.1⟩
    ⟨e_P.blind, fun U hU hW => by
      have hp := e_pre (av := .ref a :: As) C hH U hU hW
      rw [List.map_cons, show e_tv b b0 (.ref a) = .ref (b0 + a) by show Value.ref (e_ad b b0 a) = _; rw [e_ad_pos ha]] at hp
      exact hp⟩ rfl (by simpa using hn) hL.1 (by
      show stk.map (e_tv b b0) = _
      rw [hst, List.map_append, List.map_reverse, List.map_cons, show e_tv b b0 (.ref a) = .ref (b0 + a) by show Value.ref (e_ad b b0 a) = _; rw [e_ad_pos ha]]) (lv_room (by rw [e_cat]; exact hrm)) hd ⟨by omega, by omega⟩
  exact e_go C hS (by omega) (by omega) hL hrun
theorem E_obj {a : Nat} (hd : decode M.2.1 pc = .ok (.invokespecial idx, 3)) (hl : Cond.methodLink M.1.cls idx objectInit ∈ WL) (hi : Cond.instanceMethod objectInit ∈ WL) (hco : Cond.code objectInit ⟨#[0xb1]⟩ 1 none ∈ WL) (hf : 1 ≤ M.2.2.2.2.1) (hlo : (st.map fun v => v.category).sum + 12 ≤ M.2.2.2.2.2) (k : E M mc ms (pc + 3) ls st z I Q) : E M mc ms pc ls (.ref a :: st) z I Q := by
  intro b b0 D cI cM p l e R s m args below meth c C H locs cells slots lsA hH hS hc1 hs hL
  refine W.objInit C.1 C.2.1 C.2.2.2.2.1 (C.2.2.2.2.2.1 _ hl) (C.2.2.2.2.2.1 _ hi) (C.2.2.2.2.2.1 _ hco) rfl (by rw [C.2.2.2.1]; exact hL.1) rfl hd (Nat.le_trans hf C.2.2.2.2.2.2.2.2.2.2.1) ?_ (k b b0 D cI cM p l e R s m args below meth c C H locs cells slots lsA hH hS hc1 hs hL)
  show 2 * 0 + _ + 12 ≤ _
  rw [e_cat]
  have := C.2.2.2.2.2.2.2.2.2.2.2
  omega
theorem E_mmin {x y : Int32} (hd : decode M.2.1 pc = .ok (.invokestatic idx, 3)) (hl : Cond.methodLink M.1.cls idx Lib.Math.min.name ∈ WL) (hst : Cond.static Lib.Math.min.name ∈ WL) (hi : Cond.initialized "java/lang/Math" ∈ WL) (hco : Cond.code Lib.Math.min.name Lib.Math.min.code 2 (some .int) ∈ WL) (hf : 1 ≤ M.2.2.2.2.1) (hlo : (st.map fun v => v.category).sum + 13 ≤ M.2.2.2.2.2) (k : E M mc ms (pc + 3) ls (.int (if y < x then y else x) :: st) z I Q) : E M mc ms pc ls (.int y :: .int x :: st) z I Q := by
  intro b b0 D cI cM p l e R s m args below meth c C H locs cells slots lsA hH hS hc1 hs hL
  refine va_mmin C.1 C.2.1 (by rw [C.2.2.2.1]; exact hL.1.symm) C.2.2.2.2.1 (C.2.2.2.2.2.1 _ hl) (C.2.2.2.2.2.1 _ hst) (C.2.2.2.2.2.1 _ hi) (C.2.2.2.2.2.1 _ hco) (Nat.le_trans hf C.2.2.2.2.2.2.2.2.2.2.1) ?_ (by omega) (by omega) hd (k b b0 D cI cM p l e R s m args below meth c C H locs cells slots lsA hH hS hc1 hs hL)
  rw [e_cat]
  have := C.2.2.2.2.2.2.2.2.2.2.2
  omega
theorem E_mmax {x y : Int32} (hd : decode M.2.1 pc = .ok (.invokestatic idx, 3)) (hl : Cond.methodLink M.1.cls idx Lib.Math.max.name ∈ WL) (hst : Cond.static Lib.Math.max.name ∈ WL) (hi : Cond.initialized "java/lang/Math" ∈ WL) (hco : Cond.code Lib.Math.max.name Lib.Math.max.code 2 (some .int) ∈ WL) (hf : 1 ≤ M.2.2.2.2.1) (hlo : (st.map fun v => v.category).sum + 13 ≤ M.2.2.2.2.2) (k : E M mc ms (pc + 3) ls (.int (if x < y then y else x) :: st) z I Q) : E M mc ms pc ls (.int y :: .int x :: st) z I Q := by
  intro b b0 D cI cM p l e R s m args below meth c C H locs cells slots lsA hH hS hc1 hs hL
  refine va_mmax C.1 C.2.1 (by rw [C.2.2.2.1]; exact hL.1.symm) C.2.2.2.2.1 (C.2.2.2.2.2.1 _ hl) (C.2.2.2.2.2.1 _ hst) (C.2.2.2.2.2.1 _ hi) (C.2.2.2.2.2.1 _ hco) (Nat.le_trans hf C.2.2.2.2.2.2.2.2.2.2.1) ?_ (by omega) (by omega) hd (k b b0 D cI cM p l e R s m args below meth c C H locs cells slots lsA hH hS hc1 hs hL)
  rw [e_cat]
  have := C.2.2.2.2.2.2.2.2.2.2.2
  omega
def e_cp (I : It) (a a' : Nat) (n : Nat) : It := fun q k => if q = a' ∧ k < n then I a k else I q k
theorem E_copy {a a' n0 n1 : Nat} {n : Int32} (hd : decode M.2.1 pc = .ok (.invokestatic idx, 3)) (hl : Cond.methodLink M.1.cls idx arraycopyName ∈ WL) (hnat : Cond.native arraycopyName ∈ WL) (hst : Cond.static arraycopyName ∈ WL) (hi : Cond.initialized "java/lang/System" ∈ WL) (hf : 1 ≤ M.2.2.2.2.1) (hlo : (st.map fun v => v.category).sum + (nativeFrameWords "java/lang/System" "arraycopy" 5 + 11) ≤ M.2.2.2.2.2)
    (hS0 : z.2.1 a = (2, n0)) (hS1 : z.2.1 a' = (2, n1)) (ha : a ≠ 0) (ha' : a' ≠ 0) (h3 : ¬ n < 0) (h4 : n.toNatClampNeg ≤ n0) (h5 : n.toNatClampNeg ≤ n1) (k : E M mc ms (pc + 3) ls st z (e_cp I a a' n.toNatClampNeg) Q) : E M mc ms pc ls (.int n :: .int 0 :: .ref a' :: .int 0 :: .ref a :: st) z I Q := by
  intro b b0 D cI cM p l e R s m args below meth c C H locs cells slots lsA hH hS hc1 hs hL
  have ha := Nat.pos_of_ne_zero ha
  have ha' := Nat.pos_of_ne_zero ha'
  have hat := (hH.2.2.1 a ha).2.1 (by rw [hS0])
  have hat' := (hH.2.2.1 a' ha').2.1 (by rw [hS1])
  rw [hS0] at hat
  rw [hS1] at hat'
  have nn : ∀ z : Int32, ¬ z < 0 → z.toInt = (z.toNatClampNeg : Int) := by
    intro z hz
    have hz0 : (0 : Int) ≤ z.toInt := by
      have := Int32.not_lt.mp hz
      simpa using Int32.le_iff_toInt_le.mp this
    show z.toInt = ((z.toInt.toNat : Nat) : Int)
    omega
  have h1 : ¬ (0 : Int32) < 0 := by decide
  have z0 : (0 : Int32).toNatClampNeg = 0 := by decide
  intro T hT X
  obtain ⟨-, k0, hk0, cm0, hkk0⟩ := (C.2.2.2.2.2.2.2.2.1.1.2 0 _ rfl).1 n0 (fun j => .int (I a j))
  obtain ⟨-, k1, hk1, cm1, hkk1⟩ := (C.2.2.2.2.2.2.2.2.1.1.2 0 _ rfl).1 n1 (fun j => .int (I a' j))
  obtain ⟨vm', X', step⟩ := X.arraycopy C.1 C.2.2.2.2.1 (C.2.2.2.2.2.1 _ hl) (C.2.2.2.2.2.1 _ hnat) (C.2.2.2.2.2.1 _ hst) (C.2.2.2.2.2.1 _ hi) (src := b0 + a) (dst := b0 + a') (cs := arrV cI n0 (fun j => .int (I a j))) (cd := arrV cI n1 (fun j => .int (I a' j))) (srcPos := 0) (destPos := 0) (n := n) (by rw [hT]; exact hat) (by rw [hT]; exact hat')
    (fun _ h => by cases h) (fun _ h => by cases h) (fun h => by cases h) (fun h => by cases h) hk0 hk1 hkk0 hkk1 (by simp [refKind]) h1 h1 h3
    (by rw [nn 0 h1, nn n h3]; show ¬ _ > ((arrV cI n0 (fun j => .int (I a j))).slots.size : Int); rw [arrV_size, z0]; omega)
    (by rw [nn 0 h1, nn n h3]; show ¬ _ > ((arrV cI n1 (fun j => .int (I a' j))).slots.size : Int); rw [arrV_size, z0]; omega)
    (fun vm₁ _ i hi => by
      have e : (arrV cI n0 (fun j => .int (I a j))).slots.getD ((0 : Int32).toNatClampNeg + i) .null = .int (I a ((0 : Int32).toNatClampNeg + i)) := by
        rw [Array.getD_eq_getD_getElem?, arrV_read _ _ (by rw [z0]; omega)]
        rfl
      refine ⟨?_, ?_⟩
      · rw [e]
        rfl
      · rw [e]
        exact trivial)
    (g := F0 m pc lsA ((.int n :: .int 0 :: .ref a' :: .int 0 :: .ref a :: st).map (e_tv b b0))) rfl (by rw [C.2.2.2.1]; exact hL.1) (rest := st.map (e_tv b b0)) (by
      show [Value.int n, .int 0, .ref (e_ad b b0 a'), .int 0, .ref (e_ad b b0 a)] ++ st.map (e_tv b b0) = _
      rw [e_ad_pos ha, e_ad_pos ha']; rfl) (by rw [C.2.1]; exact hd) (Nat.le_trans hf C.2.2.2.2.2.2.2.2.2.2.1) (by
      show 2 * 0 + _ + _ ≤ _
      rw [e_cat]
      have := C.2.2.2.2.2.2.2.2.2.2.2
      omega)
  have e1 : copied (arrV cI n0 (fun j => .int (I a j))) (arrV cI n1 (fun j => .int (I a' j))) 0 0 n = arrV cI n1 (fun j => .int (va_cpy (I a) (I a') 0 0 n.toNatClampNeg j)) := va_copied (fun z => .int z) cI cI (I a) (I a') (by omega)
  rw [e1] at X' step
  have hl' : b0 + a' < H.size := (Array.getElem?_eq_some_iff.mp hat').1
  generalize hCell : arrV cI n1 (fun j => .int (va_cpy (I a) (I a') 0 0 n.toNatClampNeg j)) = cellN at X' step
  have hheap : ((T.setVm vm').setCell (b0 + a') cellN).heap = H.setIfInBounds (b0 + a') cellN := by rw [← hT]; rfl
  have e2 : (H.setIfInBounds (b0 + a') cellN).size = H.size := by simp
  have e3 : ∀ q : Nat, q ≠ b0 + a' → (H.setIfInBounds (b0 + a') cellN)[q]? = H[q]? := fun q hq => by simp [Array.getElem?_setIfInBounds, Ne.symm hq]
  have e4 : (H.setIfInBounds (b0 + a') cellN)[b0 + a']? = some cellN := by simp [Array.getElem?_setIfInBounds, hl']
  have hH' : e_H b b0 D cI cM z (e_cp I a a' n.toNatClampNeg) s (H.setIfInBounds (b0 + a') cellN) := by
    refine e_put_H hH C.2.2.2.2.2.2.2.2.2.1.1 ha' rfl rfl (fun _ _ => rfl) (fun q h => funext fun k' => if_neg fun g => h g.1) e2 e3 ⟨fun h => ?_, fun h => ?_, fun h => ?_⟩
    · rw [hS1] at h; cases h
    · rw [hS1, e4, ← hCell]
      congr 2
      funext j
      by_cases hj : j < n.toNatClampNeg
      · simp [va_cpy, e_cp, hj]
      · simp [va_cpy, e_cp, hj]
    · rw [hS1] at h; cases h
  obtain ⟨t, a1, b1⟩ := k b b0 D cI cM p l e R s m args below meth c C (H.setIfInBounds (b0 + a') cellN) _ cells slots lsA hH' ⟨by rw [e2]; exact hS.1, fun q g1 g2 => by
      rw [e3 q (fun h => g2 (by rw [h]; show b0 < b0 + a'; omega))]
      exact hS.2.1 q g1 g2, fun q hq => by
      rcases List.mem_append.mp hq with h | h
      · exact hS.2.2 q h
      · obtain ⟨z, -, hz⟩ := List.mem_map.mp h
        rw [← hz]
        show b0 < b0 + a'
        omega⟩ hc1 hs hL _ hheap X'
  exact ⟨t, step t a1, b1⟩
end CALLS
