/-! soundness of the mini machine, 5: calls, the theorem -/
def mj_mok (m : Nat) : Prop := Cond.code (mj_nm m) (mj_by m) (mj_tab m).1 (mj_re m) ∈ lw_tbl ∧ Cond.initialized (mj_nm m).cls ∈ lw_tbl ∧ (parseMethodDescriptor (mj_nm m).desc).map (fun d => d.parameters.length) = some (mj_kd m).2.2.2.2.2 ∧ (mj_nm m).cls ≠ "java/lang/invoke/MethodHandle" ∧ (mj_nm m).cls ≠ "java/lang/invoke/VarHandle" ∧
  plainName (mj_nm m).cls = true ∧ (mj_tab m).1 ≤ 60 ∧ (mj_kd m).2.2.2.2.2 + (if (mj_kd m).1 = 0 then 0 else 1) ≤ (mj_tab m).1 ∧ mj_pc m 0 = 0 ∧
  (((mj_kd m).1 = 0 ∧ Cond.static (mj_nm m) ∈ lw_tbl) ∨ ((mj_kd m).1 = 1 ∧ Cond.instanceMethod (mj_nm m) ∈ lw_tbl ∧ Cond.selects (mj_nm m).cls (mj_nm m) (mj_nm m) ∈ lw_tbl) ∨ ((mj_kd m).1 = 2 ∧ Cond.instanceMethod (mj_nm m) ∈ lw_tbl ∧ (mj_nm m).name = "<init>"))
theorem mj_args_len : ∀ (n : Nat) (st acc : List mj_V) (q : List mj_V × List mj_V), mj_args n st acc = some q → q.1.length = n + acc.length ∧ acc.reverse ++ st = q.1.reverse ++ q.2
  | 0, st, acc, q, h => by cases h; exact ⟨(Nat.zero_add _).symm, rfl⟩
  | n + 1, [], acc, q, h => by cases h
  | n + 1, v :: st, acc, q, h => by
    obtain ⟨h1, h2⟩ := mj_args_len n st (v :: acc) q h
    exact ⟨by rw [h1, List.length_cons]; omega, by rw [← h2]; simp⟩
theorem mj_lgsl (E : mj_E) : ∀ as : List mj_V, lg_sl (as.map (mj_vv E)) = as.map (fun v => Slot.val (mj_vv E v))
  | [] => rfl
  | v :: as => by
    have ih := mj_lgsl E as
    unfold lg_sl at ih ⊢
    rw [List.map_cons, List.flatMap_cons, ih, if_neg (by rw [mj_vv_cat]; decide)]
    rfl
theorem mj_ent_ok (E : mj_E) {y : Nat} {as : List mj_V} (hlen : as.length ≤ (mj_tab y).1) (hr : mj_oks as) : mj_okl E (mj_ent y as) ((lg_sl (as.map (mj_vv E)) ++ List.replicate ((mj_tab y).1 - (lg_sl (as.map (mj_vv E))).length) Slot.unset).toArray) (mj_tab y).1 := by
  have hl : (lg_sl (as.map (mj_vv E))).length = as.length := by rw [mj_lgsl]; simp
  obtain ⟨h1, h2, -⟩ := lv_entry (as.map (mj_vv E)) (n := (mj_tab y).1) (by rw [hl]; exact hlen)
  have key : ∀ (k : Nat) (v : mj_V), (mj_ent y as)[k]? = some (some v) → as[k]? = some v := by
    intro k v hk
    unfold mj_ent at hk
    by_cases hlt : k < as.length
    · rw [List.getElem?_append_left (by simp; exact hlt), List.getElem?_map] at hk
      cases e : as[k]? with
      | none => rw [e] at hk; cases hk
      | some w => rw [e] at hk; cases hk; rfl
    · rw [List.getElem?_append_right (by simp; omega)] at hk
      have := List.mem_of_getElem? hk
      rw [List.mem_replicate] at this
      cases this.2
  refine ⟨h1, ?_, h2, fun k v hk => ?_, fun k x hk => ?_⟩
  · unfold mj_ent
    simp
    omega
  · have := key k v hk
    have hlt := (List.getElem?_eq_some_iff.mp this).1
    rw [List.getElem?_toArray, List.getElem?_append_left (by rw [hl]; exact hlt), mj_lgsl, List.getElem?_map, this]
    rfl
  · exact hr x (List.mem_of_getElem? (key k _ hk))
def mj_fin (m : Nat) (r : Option mj_V) (pc : Nat) : Prop := match r with
  | none => decode (mj_by m) pc = .ok (.return_, 1) ∧ mj_re m = none
  | some (.inl x) => decode (mj_by m) pc = .ok (.ireturn, 1) ∧ mj_R x ∧ ∃ ty, mj_re m = some ty ∧ narrow ty (.int (Int32.ofInt x)) = .int (Int32.ofInt x)
  | some (.inr _) => decode (mj_by m) pc = .ok (.areturn, 1) ∧ ∃ rt, mj_re m = some rt ∧ ((∃ n, rt = .object n) ∨ ∃ t, rt = .array t)
def mj_cx (E : mj_E) (m d : Nat) (p : Program) (R : Room) (s : State) (mm : MethodId) (args : Array Value) (meth : Method) (c : Code) : Prop :=
  p.tables.exec = Jvm.exec ∧ c.code = mj_by m ∧ c.maxLocals = (mj_tab m).1 ∧ s.vm.findClass (mj_nm m).cls = some mm.cls ∧ (∀ w ∈ mj_big, w.before args s = true) ∧ (meth.name = (mj_nm m).name ∨ m = 299) ∧ mj_env E s ∧ d + 1 ≤ R.frames ∧ (d + 1) * 160 ≤ R.locals
/-- what the soundness of runs of n instructions says -/
def mj_snd (l : Launch) (E : mj_E) (n : Nat) : Prop := ∀ (d m i : Nat) (ls : mj_L) (st : List mj_V) (I : mj_I) (S : mj_S) (r : Option mj_V) (I' : mj_I) (S' : mj_S), m < 300 → mj_wp n d m i ls st I S (fun a b c => a = r ∧ b = I' ∧ c = S') →
  ∀ (p : Program) (e : Env) (R : Room) (s : State) (mm : MethodId) (args : Array Value) (below : List Frame) (meth : Method) (c : Code) (H : Heap) (locs : List Loc) (cells slots : Nat) (lr : Array Slot) (Z : State → Prop),
    mj_cx E m d p R s mm args meth c → mj_okl E ls lr (mj_tab m).1 → mj_oks st → mj_rep E I S H → va_S (mj_eA E) s.heap H locs → H.size = s.heap.size + cells → cells + (mj_nx S' - mj_nx S) ≤ R.cells → slots + (mj_sl S' - mj_sl S) ≤ R.slots →
    (∀ (H' : Heap) (locs' : List Loc) (pc : Nat) (lr' : Array Slot), mj_rep E I' S' H' → va_S (mj_eA E) s.heap H' locs' → mj_fin m r pc → W p l e R s mm args below meth c H' locs' (cells + (mj_nx S' - mj_nx S)) (slots + (mj_sl S' - mj_sl S)) Z (F0 mm pc lr' (r.toList.map (mj_vv E)))) →
    W p l e R s mm args below meth c H locs cells slots Z (F0 mm (mj_pc m i) lr (st.map (mj_vv E)))
def mj_ws1 (y : Nat) : List Cond := .code (mj_nm y) (mj_by y) (mj_tab y).1 (mj_re y) :: mj_big
def mj_rm (d mc ms : Nat) : Room := { frames := d + 1, cells := mc, slots := ms, locals := (d + 1) * 160 }
def mj_Pc (E : mj_E) (as : List mj_V) (I : mj_I) (S : mj_S) : Array Value → State → Prop := va_Pc (as.map (mj_vv E)) (fun U => mj_env E U ∧ mj_rep E I S U.heap)
def mj_Qc (E : mj_E) (r : Option mj_V) (I' : mj_I) (S' : mj_S) : Array Value → State → Outcome → State → Prop := fun _ st o t => o = .returned (r.map (mj_vv E)) ∧ mj_rep E I' S' t.heap ∧ va_F (mj_eA E) st t
theorem mj_wp_gr {n d m i : Nat} {ls : mj_L} {st : List mj_V} {I : mj_I} {S : mj_S} {r : Option mj_V} {I' : mj_I} {S' : mj_S} (h : mj_wp n d m i ls st I S (fun a b c => a = r ∧ b = I' ∧ c = S')) : mj_le S S' := by
  obtain ⟨r2, I2, S2, ⟨q1, q2, q3, q4⟩, -⟩ := mj_wp_ex (mj_wp_grow h)
  rw [← q4]
  exact q1
/-- a method's contract out of its run -/
theorem mj_met {l : Launch} {E : mj_E} {n : Nat} (ih : mj_snd l E n) {d y : Nat} (hy : y < 300) (hm : mj_mok y) {as : List mj_V} {I : mj_I} {S : mj_S} {r : Option mj_V} {I' : mj_I} {S' : mj_S} (hlen : as.length ≤ (mj_tab y).1) (hr : mj_oks as)
    (h : mj_wp n d y 0 (mj_ent y as) [] I S (fun a b c => a = r ∧ b = I' ∧ c = S')) : Met l (mj_nm y) (mj_ws1 y) (mj_rm d (mj_nx S' - mj_nx S) (mj_sl S' - mj_sl S)) (mj_Pc E as I S) (mj_Qc E r I' S') (mj_nx S' - mj_nx S) (mj_sl S' - mj_sl S) (mj_eA E) := by
  refine Met.ofW (cc := mj_by y) (maxL := (mj_tab y).1) (ret := mj_re y) hm.2.2.2.2.2.1 rfl ?_
  intro p e s m args below meth c s₁ B hml hv
  obtain ⟨rfl, henv, hrep⟩ := hv
  have hts : ∀ w ∈ mj_big, w.before (as.map (mj_vv E)).toArray s = true := fun w hw => atoms_spec (ws := mj_ws1 y) B.pre w (List.mem_cons_of_mem _ hw)
  have hown : s.vm.findClass (mj_nm y).cls = some m.cls := findClass_of_methodNamed B.named
  have hn : meth.name = (mj_nm y).name := (name_of_methodNamed B.named B.method).1
  have hlocks := B.notSynchronized
  have hret := B.returns
  rw [lg_entry_eq]
  have hpc : mj_pc y 0 = 0 := hm.2.2.2.2.2.2.2.2.1
  have k := ih d y 0 (mj_ent y as) [] I S r I' S' hy h p e (headSpec (mj_ws1 y) (mj_rm d (mj_nx S' - mj_nx S) (mj_sl S' - mj_sl S))).room s m (as.map (mj_vv E)).toArray below meth c s.heap [] 0 0 _ (MQ below (mj_Qc E r I' S') (as.map (mj_vv E)).toArray s (mj_nx S' - mj_nx S) (mj_sl S' - mj_sl S) (mj_eA E))
    ⟨B.exec, B.bytes, hml, hown, hts, Or.inl hn, henv, Nat.le_refl _, Nat.le_refl _⟩ (mj_ent_ok E hlen hr) (fun x hx => by cases hx) hrep va_S.rf rfl (by show 0 + _ ≤ mj_nx S' - mj_nx S; omega) (by show 0 + _ ≤ mj_sl S' - mj_sl S; omega)
    (fun H' locs' pc lr' g1 g2 g3 => by
      rw [Nat.zero_add, Nat.zero_add]
      have hq : ∀ t : State, t.heap = H' → s.WarmedH t.vm → mj_Qc E r I' S' (as.map (mj_vv E)).toArray s (.returned (r.map (mj_vv E))) t := fun t ht _ => ⟨rfl, by rw [ht]; exact g1, g2.F ht⟩
      cases r with
      | none => exact W.vret B.exec B.bytes (hret.trans g3.2) hq (fun q hq => g2.2.2 q hq) g3.1
      | some v =>
        cases v with
        | inl x =>
          obtain ⟨z1, z2, ty, z3, z4⟩ := g3
          exact W.zret B.exec B.bytes (hret.trans z3) z4 hq (fun q hq => g2.2.2 q hq) z1
        | inr a =>
          obtain ⟨z1, rt, z3, z4⟩ := g3
          exact W.aret B.exec B.bytes (hret.trans z3) z4 (mj_rv_c E a) hq (fun q hq => g2.2.2 q hq) z1)
  rw [hpc] at k
  exact k
theorem mj_blind (E : mj_E) (as : List mj_V) (I : mj_I) (S : mj_S) : FrameBlind (mj_Pc E as I S) := by
  intro a U g mk h
  obtain ⟨h1, h2, h3⟩ := h
  exact ⟨h1, mj_env.moved (U := U.calling g mk a) h2 (State.WarmedH.refl U) h2.2.2.2.2.2.2.2.2.2.2.2 (fun _ _ _ => rfl), h3⟩
section MJC
variable {p : Program} {l : Launch} {e : Env} {R : Room} {s : State} {m : MethodId} {args : Array Value} {below : List Frame} {meth : Method} {c : Code} {H : Heap} {locs : List Loc} {cells slots : Nat} {Q : State → Prop}
variable {pc : Nat} {ls : Array Slot} {rest st0 : List Value} {E : mj_E} {I I' : mj_I} {S S' : mj_S} {r : Option mj_V}
/-- behind a call -/
theorem mj_ret {a : Array Value} {mc ms : Nat} (hrun : va_Run p l e R s m args below meth c H locs cells slots mc ms (F0 m pc ls st0) rest (mj_Qc E r I' S' a) (mj_eA E)) (hS : va_S (mj_eA E) s.heap H locs) (hz : H.size + mc + 20 = mj_eb E + mj_nx S')  (hcs : H.size = s.heap.size + cells)
    (kk : ∀ (H1 : Heap) (locs1 : List Loc), mj_rep E I' S' H1 → va_S (mj_eA E) s.heap H1 locs1 → H1.size = s.heap.size + (cells + mc) → W p l e R s m args below meth c H1 locs1 (cells + mc) (slots + ms) Q (F0 m (pc + 3) ls ((r.map (mj_vv E)).toList ++ rest))) : W p l e R s m args below meth c H locs cells slots Q (F0 m pc ls st0) := by
  intro T hT X
  obtain ⟨v, st₀, t, T', L, h0, X', hL, e1, e2, ⟨hv, hrep, hF⟩, st⟩ := hrun T hT X
  cases hv
  obtain ⟨f1, f2⟩ := hF
  rw [h0] at f1 f2
  obtain ⟨t2, a1, b1⟩ := kk T'.heap (locs ++ L) (by rw [e1]; exact hrep) ⟨Nat.le_trans hS.1 (by rw [e1]; exact f1), fun q g1 g2 => by rw [e1, f2 q (Nat.lt_of_lt_of_le g1 hS.1) g2]; exact hS.2.1 q g1 g2, fun q hq => by
      rcases List.mem_append.mp hq with w | w
      · exact hS.2.2 q w
      · exact hL q w⟩ (by have := hrep.2.1; rw [e1]; omega) T' rfl X'
  exact ⟨t2, st t2 a1, b1⟩
end MJC
