def mj_ip : List Nat := [1024, 1032, 1046, 1069, 1113, 1140, 2006, 2063, 2079, 2117, 2136, 4111, 6020]
def mj_np : List Nat := [1001, 1002, 1003, 1004, 1005, 1006, 1007, 1008, 1009, 1010, 1011, 1013, 1012]
/-! soundness of the mini machine, 2: words, classes, locals, stacks -/
def mj_big : List Cond := lw_tbl.filter goodWord
theorem mj_bigm {w : Cond} (h : w ∈ lw_tbl) (g : goodWord w = true) : w ∈ mj_big := List.mem_filter.mpr ⟨h, g⟩
theorem mj_nth_get {α : Type} (d : α) : ∀ (l : List α) (k : Nat), k < l.length → l[k]? = some (mj_nth d l k)
  | [], k, h => absurd h (Nat.not_lt_zero k)
  | x :: l, 0, _ => rfl
  | x :: l, k + 1, h => by
    rw [List.getElem?_cons_succ]
    exact mj_nth_get d l k (Nat.lt_of_succ_lt_succ h)
theorem mj_nth_some {α : Type} : ∀ (l : List (Option α)) (k : Nat) (v : α), mj_nth none l k = some v → l[k]? = some (some v)
  | [], k, v, h => by cases h
  | x :: l, 0, v, h => by
    have h : x = some v := h
    rw [h]; rfl
  | x :: l, k + 1, v, h => by
    rw [List.getElem?_cons_succ]
    exact mj_nth_some l k v h
theorem mj_cls_get {c : Nat} (h : c < 13) : mj_cls[c]? = some (mj_cn c, mj_cT c, mj_cN c) := mj_nth_get ("", mj_T0, 0) mj_cls c h
theorem mj_fchk : ((List.range 13).all (fun c => (List.range (mj_cN c)).all (fun k => mj_at (mj_nth 0 (mj_nth [] mj_fp c) k) (u_lay (mj_cn c) (mj_cT c) k)))) = true := by decide +kernel
theorem mj_tchk : ((List.range 13).all (fun c => (List.range (mj_cN c)).all (fun k => match mj_fk c k, parseFieldDescriptor (mj_cT c k).2.2.1 with
  | 0, some .int => true
  | 2, some .boolean => true
  | 1, some (.object _) => true
  | 1, some (.array _) => true
  | _, _ => false))) = true := by decide +kernel
theorem mj_nchk : ((List.range 13).all (fun c => (List.range (mj_cN c)).all (fun a => (List.range (mj_cN c)).all (fun b => decide (a = b) || decide ((mj_cT c a).2.1 ≠ (mj_cT c b).2.1))))) = true := by decide +kernel
theorem mj_ichk : ((List.range 13).all (fun c => mj_at (mj_nth 0 mj_ip c) (.instantiable (mj_cn c) (mj_cN c)) && mj_at (mj_nth 0 mj_np c) (.initialized (mj_cn c)))) = true := by decide +kernel
theorem mj_lay_good (C : String) (T : u_T) (k : Nat) : goodWord (u_lay C T k) = true := by
  unfold u_lay
  split <;> rfl
theorem mj_hin {c : Nat} (h : c < 13) : ∀ w ∈ u_ws (mj_cn c) (mj_cT c) (mj_cN c), w ∈ mj_big := by
  intro w hw
  obtain ⟨k, hk, rfl⟩ := List.mem_map.mp hw
  have h1 := List.all_eq_true.mp (List.all_eq_true.mp mj_fchk c (List.mem_range.mpr h)) k hk
  exact mj_bigm (mj_at_in h1) (mj_lay_good _ _ _)
def mj_ty0 (c k : Nat) : FieldType := (parseFieldDescriptor (mj_cT c k).2.2.1).getD .int
theorem mj_tyof {c k : Nat} (h : c < 13) (hk : k < mj_cN c) : parseFieldDescriptor (mj_cT c k).2.2.1 = some (mj_ty0 c k) ∧ ((mj_fk c k = 0 ∧ mj_ty0 c k = .int) ∨ (mj_fk c k = 2 ∧ mj_ty0 c k = .boolean) ∨ (mj_fk c k = 1 ∧ ((∃ n, mj_ty0 c k = .object n) ∨ ∃ t, mj_ty0 c k = .array t))) := by
  have h1 := List.all_eq_true.mp (List.all_eq_true.mp mj_tchk c (List.mem_range.mpr h)) k (List.mem_range.mpr hk)
  unfold mj_ty0
  revert h1
  cases e : parseFieldDescriptor (mj_cT c k).2.2.1 with
  | none => intro h1; split at h1 <;> simp_all
  | some t =>
    intro h1
    refine ⟨rfl, ?_⟩
    split at h1
    · rename_i e1 e2; cases e2; exact Or.inl ⟨by assumption, rfl⟩
    · rename_i e1 e2; cases e2; exact Or.inr (Or.inl ⟨by assumption, rfl⟩)
    · rename_i e1 e2; cases e2; exact Or.inr (Or.inr ⟨by assumption, Or.inl ⟨_, rfl⟩⟩)
    · rename_i e1 e2; cases e2; exact Or.inr (Or.inr ⟨by assumption, Or.inr ⟨_, rfl⟩⟩)
    · cases h1
theorem mj_hnm {c : Nat} (h : c < 13) : ∀ a, a < mj_cN c → ∀ b, b < mj_cN c → a ≠ b → (mj_cT c a).2.1 ≠ (mj_cT c b).2.1 := by
  intro a ha b hb hab
  have h1 := List.all_eq_true.mp (List.all_eq_true.mp (List.all_eq_true.mp mj_nchk c (List.mem_range.mpr h)) a (List.mem_range.mpr ha)) b (List.mem_range.mpr hb)
  simp only [Bool.or_eq_true, decide_eq_true_eq] at h1
  exact h1.resolve_left hab
theorem mj_hinst {c : Nat} (h : c < 13) : Cond.instantiable (mj_cn c) (mj_cN c) ∈ mj_big ∧ Cond.initialized (mj_cn c) ∈ mj_big := by
  have h1 := List.all_eq_true.mp mj_ichk c (List.mem_range.mpr h)
  simp only [Bool.and_eq_true] at h1
  exact ⟨mj_bigm (mj_at_in h1.1) rfl, mj_bigm (mj_at_in h1.2) rfl⟩
theorem mj_vv_cat (E : mj_E) (v : mj_V) : (mj_vv E v).category = 1 := by
  cases v with
  | inl x => rfl
  | inr a =>
    show (va_rf (mj_ro E a)).category = 1
    cases mj_ro E a <;> rfl
theorem mj_sum_cat (E : mj_E) : ∀ st : List mj_V, ((st.map (mj_vv E)).map fun v => v.category).sum = st.length
  | [] => rfl
  | v :: st => by
    simp only [List.map_cons, List.sum_cons, List.length_cons, mj_vv_cat]
    rw [mj_sum_cat E st, Nat.add_comm]
theorem mj_rv_c (E : mj_E) (a : Nat) : mj_rv E a = .null ∨ ∃ q, mj_rv E a = .ref q := by
  unfold mj_rv
  cases mj_ro E a with
  | none => exact Or.inl rfl
  | some q => exact Or.inr ⟨q, rfl⟩
theorem mj_map_r {E : mj_E} {a : Nat} {v : Value} (e : mj_rv E a = v) (st : List mj_V) : (Sum.inr a :: st).map (mj_vv E) = v :: st.map (mj_vv E) := by rw [List.map_cons]; show mj_rv E a :: _ = _; rw [e]
theorem mj_oks_i {x : Int} {st : List mj_V} (hx : mj_R x) (h : mj_oks st) : mj_oks (.inl x :: st) := by
  intro y hy
  rcases List.mem_cons.mp hy with e | e
  · cases e; exact hx
  · exact h y e
theorem mj_oks_r {a : Nat} {st : List mj_V} (h : mj_oks st) : mj_oks (.inr a :: st) := by
  intro y hy
  rcases List.mem_cons.mp hy with e | e
  · cases e
  · exact h y e
theorem mj_oks_v {v : mj_V} {w : mj_V} {st st' : List mj_V} (h : mj_oks (v :: st)) (h' : mj_oks st') (e : v = w) : mj_oks (w :: st') := by
  subst e
  intro y hy
  rcases List.mem_cons.mp hy with e | e
  · exact h y (by rw [e]; exact List.mem_cons_self)
  · exact h' y e
theorem mj_oks.t {v : mj_V} {st : List mj_V} (h : mj_oks (v :: st)) : mj_oks st := fun y hy => h y (List.mem_cons_of_mem _ hy)
theorem mj_oks.h {x : Int} {st : List mj_V} (h : mj_oks (.inl x :: st)) : mj_R x := h x List.mem_cons_self
def mj_lvs (E : mj_E) (ls : mj_L) : List (Nat × Value) := (List.range ls.length).filterMap (fun k => match ls[k]? with
  | some (some v) => some (k, mj_vv E v)
  | _ => none)
theorem mj_lvs_mem {E : mj_E} {ls : mj_L} {k : Nat} {v : mj_V} (h : ls[k]? = some (some v)) : (k, mj_vv E v) ∈ mj_lvs E ls := by
  refine List.mem_filterMap.mpr ⟨k, List.mem_range.mpr (List.getElem?_eq_some_iff.mp h).1, ?_⟩
  rw [h]
theorem mj_okl_has {E : mj_E} {ls : mj_L} {lr : Array Slot} {nL : Nat} (h : mj_okl E ls lr nL) : lv_has lr nL (mj_lvs E ls) := by
  refine ⟨h.1, h.2.2.1, fun q hq => ?_⟩
  obtain ⟨k, -, hk⟩ := List.mem_filterMap.mp hq
  revert hk
  cases e : ls[k]? with
  | none => intro hk; cases hk
  | some w =>
    cases w with
    | none => intro hk; cases hk
    | some v =>
      intro hk
      cases hk
      exact h.2.2.2.1 k v e
theorem mj_okl_set {E : mj_E} {ls : mj_L} {lr lr' : Array Slot} {nL k : Nat} {v : mj_V} (h : mj_okl E ls lr nL) (hk : k < nL) (hv : ∀ x, v = .inl x → mj_R x)
    (h' : lv_has lr' nL ((k, mj_vv E v) :: (mj_lvs E ls).filter (fun q => !(q.1 == k) && !(q.1 + 1 == k && q.2.category == 2)))) : mj_okl E (ls.set k (some v)) lr' nL := by
  refine ⟨h'.1, by rw [List.length_set]; exact h.2.1, h'.2.1, fun j w hj => ?_, fun j x hj => ?_⟩
  · by_cases e : j = k
    · subst e
      rw [List.getElem?_set_self (by rw [h.2.1]; exact hk)] at hj
      cases hj
      exact h'.2.2 _ List.mem_cons_self
    · rw [List.getElem?_set_ne (Ne.symm e)] at hj
      refine h'.2.2 (j, mj_vv E w) (List.mem_cons_of_mem _ (List.mem_filter.mpr ⟨mj_lvs_mem hj, ?_⟩))
      simp [e, mj_vv_cat]
  · by_cases e : j = k
    · subst e
      rw [List.getElem?_set_self (by rw [h.2.1]; exact hk)] at hj
      cases hj
      exact hv x rfl
    · rw [List.getElem?_set_ne (Ne.symm e)] at hj
      exact h.2.2.2.2 j x hj
theorem mj_cell_obj (E : mj_E) (I : mj_I) (S : mj_S) {a c : Nat} (h : mj_tg S a = c) (hc : c < 13) : mj_cell E I S a = .inr (c, (List.range (mj_cN c)).map (mj_fv E I S a c)) := by
  unfold mj_cell
  rw [h, if_pos hc]
theorem mj_cell_int (E : mj_E) (I : mj_I) (S : mj_S) {a t : Nat} (h : mj_tg S a = t) (h1 : 13 ≤ t) (h2 : t < 50) : mj_cell E I S a = .inl (mj_et E t, mj_ln S a, .inl (fun j => Int32.ofInt (I a j))) := by
  unfold mj_cell
  rw [h, if_neg (by omega), if_pos h2]
theorem mj_cell_ref (E : mj_E) (I : mj_I) (S : mj_S) {a t : Nat} (h : mj_tg S a = t) (h1 : 50 ≤ t) : mj_cell E I S a = .inl (mj_et E t, mj_ln S a, .inr (.inr (.inr (.inr (fun j => mj_ro E (mj_rf S a j)))))) := by
  unfold mj_cell
  rw [h, if_neg (by omega), if_neg (by omega)]
theorem mj_cell_same (E : mj_E) {I I' : mj_I} {S S' : mj_S} {b : Nat} (h1 : S'.2.1 b = S.2.1 b) (h2 : ∀ k, I' b k = I b k) (h3 : ∀ k, S'.1 b k = S.1 b k) : mj_cell E I' S' b = mj_cell E I S b := by
  have ht : mj_tg S' b = mj_tg S b := by unfold mj_tg; rw [h1]
  have hl : mj_ln S' b = mj_ln S b := by unfold mj_ln; rw [h1]
  have hr : ∀ k, mj_rf S' b k = mj_rf S b k := fun k => h3 k
  unfold mj_cell
  rw [ht, hl]
  have e1 : mj_fv E I' S' b (mj_tg S b) = mj_fv E I S b (mj_tg S b) := by
    funext k
    unfold mj_fv
    rw [h2 k, hr k]
  have e2 : (fun j => Int32.ofInt (I' b j)) = (fun j => Int32.ofInt (I b j)) := by funext j; rw [h2 j]
  have e3 : (fun j => mj_ro E (mj_rf S' b j)) = (fun j => mj_ro E (mj_rf S b j)) := by funext j; rw [hr j]
  rw [e1, e2, e3]
/-- one number changes -/
theorem mj_ws_up (E : mj_E) {I : mj_I} {S : mj_S} {a k : Nat} {x : Int} (h1 : 20 ≤ a) (h2 : a < mj_nx S) {c : va_E} (he : mj_cell E (mj_up I a k x) S a = c) : (mj_ws E I S).set (a - 20) (mj_ad E a, c) = mj_ws E (mj_up I a k x) S := by
  refine mj_ws_set E h1 h2 rfl (fun b _ hb => mj_cell_same E rfl (fun j => ?_) (fun _ => rfl)) he
  unfold mj_up
  rw [if_neg (fun q => hb q.1)]
theorem mj_ws_ur (E : mj_E) {I : mj_I} {S : mj_S} {a k v : Nat} (h1 : 20 ≤ a) (h2 : a < mj_nx S) {c : va_E} (he : mj_cell E I (mj_ur S a k v) a = c) : (mj_ws E I S).set (a - 20) (mj_ad E a, c) = mj_ws E I (mj_ur S a k v) := by
  refine mj_ws_set (S' := mj_ur S a k v) E h1 h2 rfl (fun b _ hb => mj_cell_same E rfl (fun _ => rfl) (fun j => ?_)) he
  unfold mj_ur
  exact if_neg (fun q => hb q.1)
theorem mj_old_up {E : mj_E} {I : mj_I} {S : mj_S} {a k : Nat} {x : Int} (h : mj_old E I S) (ha : 20 ≤ a) : mj_old E (mj_up I a k x) S := by
  have e : ∀ b j, b < 20 → mj_up I a k x b j = I b j := fun b j hb => by unfold mj_up; rw [if_neg (fun q => by omega)]
  obtain ⟨q1, q2, q3, q4, q5⟩ := h
  refine ⟨q1, fun j hj => by rw [e 1 j (by omega)]; exact q2 j hj, q3, fun j hj => by rw [e 2 j (by omega)]; exact q4 j hj, fun i hi => ?_⟩
  obtain ⟨w1, w2, w3, w4⟩ := q5 i hi
  exact ⟨w1, by rw [e _ _ (by omega)]; exact w2, w3, fun j hj => by rw [e _ _ (by omega)]; exact w4 j hj⟩
theorem mj_ok_up {E : mj_E} {I : mj_I} {S : mj_S} {a k : Nat} {x : Int} (h : mj_ok E I S) (ha : 20 ≤ a) (hx : mj_R x) (hb : mj_tg S a = 21 → -128 ≤ x ∧ x ≤ 127) : mj_ok E (mj_up I a k x) S := by
  obtain ⟨q1, q2, q3, q4, q5, q6, q7⟩ := h
  refine ⟨fun b j => ?_, fun b j hj => ?_, q3, q4, q5, q6, mj_old_up q7 ha⟩
  · unfold mj_up
    split
    · exact hx
    · exact q1 b j
  · unfold mj_up
    split
    · rename_i e
      rw [e.1] at hj
      exact hb hj
    · exact q2 b j hj
theorem mj_ok_ur {E : mj_E} {I : mj_I} {S : mj_S} {a k v : Nat} (h : mj_ok E I S) (ha : 20 ≤ a) : mj_ok E I (mj_ur S a k v) := by
  obtain ⟨q1, q2, q3, q4, q5, q6, w1, w2, w3, w4, w5⟩ := h
  refine ⟨q1, q2, q3, q4, q5, q6, w1, w2, w3, w4, fun i hi => ?_⟩
  obtain ⟨z1, z2, z3, z4⟩ := w5 i hi
  refine ⟨?_, z2, z3, z4⟩
  show (if 3 + i = a ∧ 0 = k then v else S.1 (3 + i) 0) = 10 + i
  rw [if_neg (fun q => by omega)]
  exact z1
theorem mj_ok_nw {E : mj_E} {I : mj_I} {S : mj_S} {t n : Nat} (h : mj_ok E I S) (ht : (t < 13 ∧ n = mj_cN t) ∨ (20 ≤ t ∧ t ≤ 23) ∨ (50 ≤ t ∧ t - 50 ∈ mj_aos)) (hn : n ≤ 65536) : mj_ok E (mj_z I (mj_nx S)) (mj_nw S t n) := by
  obtain ⟨q1, q2, q3, q4, q5, q6, w1, w2, w3, w4, w5⟩ := h
  have tg : ∀ b, mj_tg (mj_nw S t n) b = if b = mj_nx S then t else mj_tg S b := by
    intro b
    show (if b = S.2.2.1 then (t, n) else S.2.1 b).1 = _
    unfold mj_nx mj_tg
    split <;> rfl
  have ln : ∀ b, mj_ln (mj_nw S t n) b = if b = mj_nx S then n else mj_ln S b := by
    intro b
    show (if b = S.2.2.1 then (t, n) else S.2.1 b).2 = _
    unfold mj_nx mj_ln
    split <;> rfl
  have zi : ∀ b j, mj_z I (mj_nx S) b j = if b = mj_nx S then 0 else I b j := fun b j => rfl
  have nx : mj_nx (mj_nw S t n) = mj_nx S + 1 := rfl
  refine ⟨fun b j => ?_, fun b j hj => ?_, by rw [nx]; omega, fun b hb1 hb2 => ?_, fun b hb => ?_, fun b => ?_, ?_, fun j hj => ?_, ?_, fun j hj => ?_, fun i hi => ?_⟩
  · rw [zi]
    split
    · exact mj_R0
    · exact q1 b j
  · rw [tg] at hj
    rw [zi]
    split
    · omega
    · rename_i e
      rw [if_neg e] at hj
      exact q2 b j hj
  · rw [tg, ln]
    by_cases e : b = mj_nx S
    · rw [if_pos e, if_pos e]
      exact ht
    · rw [if_neg e, if_neg e]
      exact q4 b hb1 (by omega)
  · rw [tg, if_neg (by omega)]
    exact q5 b (by omega)
  · rw [ln]
    split
    · exact hn
    · exact q6 b
  · rw [ln, if_neg (by omega)]
    exact w1
  · rw [zi, if_neg (by omega)]
    exact w2 j hj
  · rw [ln, if_neg (by omega)]
    exact w3
  · rw [zi, if_neg (by omega)]
    exact w4 j hj
  · obtain ⟨z1, z2, z3, z4⟩ := w5 i hi
    refine ⟨?_, by rw [zi, if_neg (by omega)]; exact z2, by rw [ln, if_neg (by omega)]; exact z3, fun j hj => by rw [zi, if_neg (by omega)]; exact z4 j hj⟩
    show (if 3 + i = S.2.2.1 then 0 else S.1 (3 + i) 0) = 10 + i
    rw [if_neg (by have : 20 ≤ S.2.2.1 := q3; omega)]
    exact z1
theorem mj_ws_nw (E : mj_E) {I : mj_I} {S : mj_S} {t n : Nat} (h20 : 20 ≤ mj_nx S) {c : va_E} (he : mj_cell E (mj_z I (mj_nx S)) (mj_nw S t n) (mj_nx S) = c) : mj_ws E I S ++ [(mj_ad E (mj_nx S), c)] = mj_ws E (mj_z I (mj_nx S)) (mj_nw S t n) := by
  refine mj_ws_push E h20 rfl (fun b _ hb => mj_cell_same E ?_ (fun j => ?_) (fun j => ?_)) he
  · show (if b = S.2.2.1 then (t, n) else S.2.1 b) = S.2.1 b
    rw [if_neg (fun q => by unfold mj_nx at hb; omega)]
  · show (if b = mj_nx S then 0 else I b j) = I b j
    rw [if_neg (by omega)]
  · show (if b = S.2.2.1 then 0 else S.1 b j) = S.1 b j
    rw [if_neg (fun q => by unfold mj_nx at hb; omega)]
theorem mj_vp_in {j : Int} {n : Nat} (h0 : 0 ≤ j) (h1 : j < (n : Int)) (hj : mj_R j) : vp_in (Int32.ofInt j) n := by
  rw [vp_in_iff, mj_of hj]
  exact ⟨h0, h1⟩
