/-! soundness of the mini machine, 6: the theorem -/
theorem mj_map_i (E : mj_E) (x : Int) (st : List mj_V) : (Sum.inl x :: st).map (mj_vv E) = Value.int (Int32.ofInt x) :: st.map (mj_vv E) := rfl
/-- the words that stand for no method of ours -/
def mj_fix : Prop := Cond.native arraycopyName ∈ lw_tbl ∧ Cond.static arraycopyName ∈ lw_tbl ∧ Cond.initialized "java/lang/System" ∈ lw_tbl ∧ Cond.instanceMethod Lib.objectInit ∈ lw_tbl ∧ Cond.code Lib.objectInit ⟨#[0xb1]⟩ 1 none ∈ lw_tbl ∧
  Cond.static Lib.Math.min.name ∈ lw_tbl ∧ Cond.code Lib.Math.min.name Lib.Math.min.code 2 (some .int) ∈ lw_tbl ∧ Cond.static Lib.Math.max.name ∈ lw_tbl ∧ Cond.code Lib.Math.max.name Lib.Math.max.code 2 (some .int) ∈ lw_tbl ∧ Cond.initialized "java/lang/Math" ∈ lw_tbl ∧
  Cond.arrayClass .int ∈ lw_tbl ∧ Cond.arrayClass .byte ∈ lw_tbl ∧ Cond.arrayClass .boolean ∈ lw_tbl ∧ Cond.arrayClass .char ∈ lw_tbl
theorem mj_swT_ok {m pc : Nat} {x : Int} {k : Nat → Prop} {d : Nat} : ∀ {l : List (Int × Nat)} {offs : List Int} {lo : Int}, mj_swT m pc offs lo l = true → mj_sw x k d l → (∃ (t : Nat) (o : Int), k t ∧ lo ≤ x ∧ x < lo + (l.length : Int) ∧ offs[(x - lo).toNat]? = some o ∧ (pc : Int) + o = (mj_pc m t : Int)) ∨ (k d ∧ (x < lo ∨ lo + (l.length : Int) ≤ x))
  | [], offs, lo, _, h2 => Or.inr ⟨h2, by simp; omega⟩
  | q :: l, [], lo, h1, _ => by cases h1
  | q :: l, o :: offs, lo, h1, h2 => by
    simp only [mj_swT, Bool.and_eq_true, decide_eq_true_eq] at h1
    obtain ⟨⟨h3, h4⟩, h5⟩ := h1
    by_cases e : x = q.1
    · refine Or.inl ⟨q.2, o, h2.1 e, by omega, by simp; omega, ?_, h4⟩
      rw [show (x - lo).toNat = 0 by omega]
      rfl
    · rcases mj_swT_ok h5 (h2.2 e) with ⟨t, o', z1, z2, z3, z4, z5⟩ | ⟨z1, z2⟩
      · refine Or.inl ⟨t, o', z1, by omega, by simp; omega, ?_, z5⟩
        rw [show (x - lo).toNat = (x - (lo + 1)).toNat + 1 by omega, List.getElem?_cons_succ]
        exact z4
      · exact Or.inr ⟨z1, by simp; omega⟩
theorem mj_swL_ok {m pc : Nat} {x : Int} {k : Nat → Prop} {d : Nat} {df : Int} (hdf : (pc : Int) + df = (mj_pc m d : Int)) : ∀ {l : List (Int × Nat)} {ps : List (Int × Int)}, mj_swL m pc ps l = true → mj_sw x k d l → ∃ (t : Nat) (o : Int), k t ∧ Op.lookupswitch.offset ps df x = o ∧ (pc : Int) + o = (mj_pc m t : Int)
  | [], [], _, h2 => ⟨d, df, h2, rfl, hdf⟩
  | [], _ :: _, h1, _ => by cases h1
  | q :: l, [], h1, _ => by cases h1
  | q :: l, o :: ps, h1, h2 => by
    simp only [mj_swL, Bool.and_eq_true, decide_eq_true_eq] at h1
    obtain ⟨⟨h3, h4⟩, h5⟩ := h1
    obtain ⟨o1, o2⟩ := o
    by_cases e : x = q.1
    · refine ⟨q.2, o2, h2.1 e, ?_, h4⟩
      rw [Op.lookupswitch.offset_cons, if_pos (by first | (rw [e]; exact h3) | (rw [e]; exact h3.symm))]
    · obtain ⟨t, o', z1, z2, z3⟩ := mj_swL_ok hdf h5 (h2.2 e)
      refine ⟨t, o', z1, ?_, z3⟩
      rw [Op.lookupswitch.offset_cons, if_neg (by first | (intro q; exact e (q.trans h3.symm)) | (intro q; exact e (q.symm.trans h3.symm)) | (intro q; apply e; rw [h3]; exact q) | (intro q; apply e; rw [h3]; exact q.symm))]
      exact z2
set_option maxHeartbeats 40000000 in
set_option maxRecDepth 100000 in
theorem mj_sound (l : Launch) (E : mj_E) (hlk : ∀ m i, m < 300 → mj_lk m i = true) (hmo : ∀ m, m < 299 → m ≠ 1 → m ≠ 43 → m ≠ 44 → mj_mok m) (hfx : mj_fix) : ∀ n, mj_snd l E n := by
  intro n
  induction n with
  | zero => intro d m i ls st I S r I' S' hm h; exact False.elim h
  | succ n ih =>
    intro d m i ls st I S r I' S' hm h p e R s mm args below meth c H locs cells slots lr Z cx hl hs hr hS hcs hC hT fin
    obtain ⟨hx, hb, hml, hown, hts, hnm, henv, hfr, hlo⟩ := id cx
    have go : ∀ (i1 : Nat) (ls1 : mj_L) (st1 : List mj_V) (I1 : mj_I) (S1 : mj_S) (H1 : Heap) (locs1 : List Loc) (cells1 slots1 : Nat) (lr1 : Array Slot), mj_wp n d m i1 ls1 st1 I1 S1 (fun a b c => a = r ∧ b = I' ∧ c = S') → mj_okl E ls1 lr1 (mj_tab m).1 → mj_oks st1 → mj_rep E I1 S1 H1 → va_S (mj_eA E) s.heap H1 locs1 → H1.size = s.heap.size + cells1 →
        cells1 + mj_nx S = cells + mj_nx S1 → slots1 + mj_sl S = slots + mj_sl S1 → mj_le S S1 → W p l e R s mm args below meth c H1 locs1 cells1 slots1 Z (F0 mm (mj_pc m i1) lr1 (st1.map (mj_vv E))) := by
      intro i1 ls1 st1 I1 S1 H1 locs1 cells1 slots1 lr1 w1 w2 w3 w4 w5 w6 w7 w8 w9
      have hg := mj_wp_gr w1
      have e1 : cells1 + (mj_nx S' - mj_nx S1) = cells + (mj_nx S' - mj_nx S) := by have := hg.1; have := w9.1; omega
      have e2 : slots1 + (mj_sl S' - mj_sl S1) = slots + (mj_sl S' - mj_sl S) := by have := hg.2; have := w9.2; omega
      refine ih d m i1 ls1 st1 I1 S1 r I' S' hm w1 p e R s mm args below meth c H1 locs1 cells1 slots1 lr1 Z cx w2 w3 w4 w5 w6 (by rw [e1]; exact hC) (by rw [e2]; exact hT) ?_
      rw [e1, e2]
      exact fin
    unfold mj_wp at h
    have hl0 := hlk m i hm
    unfold mj_lk at hl0
    generalize mj_code m i = c0 at h hl0
    obtain ⟨o, p1, p2, p3, sw⟩ := c0
    rw [Bool.or_eq_true] at hl0
    rcases hl0 with hl0 | hl0
    · have : o = .nop := of_decide_eq_true hl0
      subst this
      exact False.elim h
    generalize mj_pl m i = pl at hl0
    generalize hpc : mj_pc m i = pc at hl0 ⊢
    cases hd : decode (mj_by m) pc with
    | error q => rw [hd] at hl0; cases hl0
    | ok q =>
    rw [hd] at hl0
    obtain ⟨real, len⟩ := q
    have hrel : mj_rel m i pc pl len real (o, p1, p2, p3, sw) = true := hl0
    clear hl0
    have same : ∀ (i1 : Nat) (ls1 : mj_L) (st1 : List mj_V) (lr1 : Array Slot), mj_wp n d m i1 ls1 st1 I S (fun a b c => a = r ∧ b = I' ∧ c = S') → mj_okl E ls1 lr1 (mj_tab m).1 → mj_oks st1 → W p l e R s mm args below meth c H locs cells slots Z (F0 mm (mj_pc m i1) lr1 (st1.map (mj_vv E))) :=
      fun i1 ls1 st1 lr1 w1 w2 w3 => go i1 ls1 st1 I S H locs cells slots lr1 w1 w2 w3 hr hS hcs rfl rfl mj_le_rf
    have keep : ∀ (i1 : Nat) (ls1 : mj_L) (st1 : List mj_V) (I1 : mj_I) (S1 : mj_S) (lr1 : Array Slot), mj_wp n d m i1 ls1 st1 I1 S1 (fun a b c => a = r ∧ b = I' ∧ c = S') → mj_okl E ls1 lr1 (mj_tab m).1 → mj_oks st1 → mj_nx S1 = mj_nx S → mj_sl S1 = mj_sl S → ∀ (H1 : Heap) (locs1 : List Loc), mj_rep E I1 S1 H1 → va_S (mj_eA E) s.heap H1 locs1 → H1.size = s.heap.size + cells → W p l e R s mm args below meth c H1 locs1 cells slots Z (F0 mm (mj_pc m i1) lr1 (st1.map (mj_vv E))) :=
      fun i1 ls1 st1 I1 S1 lr1 w1 w2 w3 w4 w5 H1 locs1 v1 v2 v3 => go i1 ls1 st1 I1 S1 H1 locs1 cells slots lr1 w1 w2 w3 v1 v2 v3 (by rw [w4]) (by rw [w5]) ⟨Nat.le_of_eq w4.symm, Nat.le_of_eq w5.symm⟩
    have nth : ∀ {k : Nat} {v : mj_V}, mj_nth none ls k = some v → lr[k]? = some (.val (mj_vv E v)) := fun hk => hl.2.2.2.1 _ _ (mj_nth_some _ _ _ hk)
    have nthR : ∀ {k : Nat} {x : Int}, mj_nth none ls k = some (.inl x) → mj_R x := fun hk => hl.2.2.2.2 _ _ (mj_nth_some _ _ _ hk)
    have hlrs : lr.size = (mj_tab m).1 := hl.1
    cases real
    case iconst k =>
      simp only [mj_rel, Bool.and_eq_true, decide_eq_true_eq] at hrel
      obtain ⟨⟨⟨rfl, hnx⟩, hk⟩, rfl⟩ := hrel
      simp only [mj_rng, Bool.and_eq_true, decide_eq_true_eq] at hk
      refine lv_iconst (v := Int32.ofInt k) hx hb hd rfl ?_
      rw [← hnx]
      exact same _ _ (.inl k :: st) _ h hl (mj_oks_i hk hs)
    case bipush k =>
      simp only [mj_rel, Bool.and_eq_true, decide_eq_true_eq] at hrel
      obtain ⟨⟨⟨⟨rfl, hnx⟩, hk1⟩, hk2⟩, rfl⟩ := hrel
      refine lv_bipush (v := Int32.ofInt k) hx hb hd ?_ ?_
      · apply Int32.toInt_inj.mp
        rw [mj_of (by unfold mj_R; omega), Int8.toInt_toInt32, Int8.toInt_ofInt_of_le (by omega) (by omega)]
      · rw [← hnx]
        exact same _ _ (.inl k :: st) _ h hl (mj_oks_i (by unfold mj_R; omega) hs)
    case sipush k =>
      simp only [mj_rel, Bool.and_eq_true, decide_eq_true_eq] at hrel
      obtain ⟨⟨⟨⟨rfl, hnx⟩, hk1⟩, hk2⟩, rfl⟩ := hrel
      refine lv_sipush (v := Int32.ofInt k) hx hb hd ?_ ?_
      · apply Int32.toInt_inj.mp
        rw [mj_of (by unfold mj_R; omega), Int16.toInt_toInt32, Int16.toInt_ofInt_of_le (by omega) (by omega)]
      · rw [← hnx]
        exact same _ _ (.inl k :: st) _ h hl (mj_oks_i (by unfold mj_R; omega) hs)
    case ldc ix =>
      simp only [mj_rel, Bool.and_eq_true, decide_eq_true_eq] at hrel
      obtain ⟨⟨hnx, rfl⟩, hk⟩ := hrel
      split at hk
      · rename_i k
        simp only [mj_rng, Bool.and_eq_true, decide_eq_true_eq] at hk
        refine lv_ldc (v := Int32.ofInt k) hx hb hown (hts _ (mj_bigm (mj_at_in hk.1) rfl)) hd ?_
        rw [← hnx]
        exact same _ _ (.inl k :: st) _ h hl (mj_oks_i hk.2 hs)
      · rename_i k
        simp only [Bool.and_eq_true, decide_eq_true_eq] at hk
        obtain ⟨⟨⟨ho, h3⟩, h10⟩, rfl⟩ := hk
        have hR := henv.2.2.2.1 (k - 3) (by omega)
        rw [show 3 + (k - 3) = k by omega] at hR
        refine va_ldcS hx hb hown (q := mj_eo E k) (by rw [ho]; exact hR) hd ?_
        rw [← hnx, ← mj_rv_old (E := E) (a := k) (by omega) (by omega)]
        exact same _ _ (.inr k :: st) _ h hl (mj_oks_r hs)
      · cases hk
    case ldc_w ix =>
      simp only [mj_rel, Bool.and_eq_true, decide_eq_true_eq] at hrel
      obtain ⟨⟨hnx, rfl⟩, hk⟩ := hrel
      split at hk
      · rename_i k
        simp only [mj_rng, Bool.and_eq_true, decide_eq_true_eq] at hk
        refine lv_ldcw (v := Int32.ofInt k) hx hb hown (hts _ (mj_bigm (mj_at_in hk.1) rfl)) hd ?_
        rw [← hnx]
        exact same _ _ (.inl k :: st) _ h hl (mj_oks_i hk.2 hs)
      · cases hk
    case aconst_null =>
      simp only [mj_rel, Bool.and_eq_true, decide_eq_true_eq] at hrel
      obtain ⟨⟨rfl, hnx⟩, rfl⟩ := hrel
      refine lv_null hx hb hd ?_
      rw [← hnx]
      exact same _ _ (.inr 0 :: st) _ h hl (mj_oks_r hs)
    case iload k =>
      simp only [mj_rel, Bool.and_eq_true, decide_eq_true_eq] at hrel
      obtain ⟨⟨rfl, hnx⟩, rfl⟩ := hrel
      unfold mj_sem at h
      dsimp only at h
      split at h
      · rename_i x hk
        refine lv_iload hx hb hd (nth hk) ?_
        rw [← hnx]
        exact same _ _ (.inl x :: st) _ h hl (mj_oks_i (nthR hk) hs)
      · exact False.elim h
    case iload_n k =>
      simp only [mj_rel, Bool.and_eq_true, decide_eq_true_eq] at hrel
      obtain ⟨⟨rfl, hnx⟩, rfl⟩ := hrel
      unfold mj_sem at h
      dsimp only at h
      split at h
      · rename_i x hk
        refine lv_iload_n hx hb hd rfl (nth hk) ?_
        rw [← hnx]
        exact same _ _ (.inl x :: st) _ h hl (mj_oks_i (nthR hk) hs)
      · exact False.elim h
    case aload k =>
      simp only [mj_rel, Bool.and_eq_true, decide_eq_true_eq] at hrel
      obtain ⟨⟨rfl, hnx⟩, rfl⟩ := hrel
      unfold mj_sem at h
      dsimp only at h
      split at h
      · rename_i a hk
        have k1 := same _ _ (.inr a :: st) _ h hl (mj_oks_r hs)
        have k2 : lr[_]? = some (Slot.val (mj_rv E a)) := nth hk
        rcases mj_rv_c E a with q | ⟨z, q⟩
        · rw [mj_map_r q] at k1
          rw [q] at k2
          refine lv_aloadN hx hb hd k2 ?_
          rw [← hnx]
          exact k1
        · rw [mj_map_r q] at k1
          rw [q] at k2
          refine lv_aload hx hb hd k2 ?_
          rw [← hnx]
          exact k1
      · exact False.elim h
    case aload_n k =>
      simp only [mj_rel, Bool.and_eq_true, decide_eq_true_eq] at hrel
      obtain ⟨⟨rfl, hnx⟩, rfl⟩ := hrel
      unfold mj_sem at h
      dsimp only at h
      split at h
      · rename_i a hk
        have k1 := same _ _ (.inr a :: st) _ h hl (mj_oks_r hs)
        have k2 : lr[_]? = some (Slot.val (mj_rv E a)) := nth hk
        rcases mj_rv_c E a with q | ⟨z, q⟩
        · rw [mj_map_r q] at k1
          rw [q] at k2
          refine lv_aload_nN hx hb hd rfl k2 ?_
          rw [← hnx]
          exact k1
        · rw [mj_map_r q] at k1
          rw [q] at k2
          refine lv_aload_n hx hb hd rfl k2 ?_
          rw [← hnx]
          exact k1
      · exact False.elim h
    case istore k =>
      simp only [mj_rel, Bool.and_eq_true, decide_eq_true_eq] at hrel
      obtain ⟨⟨⟨rfl, hnx⟩, rfl⟩, hk⟩ := hrel
      unfold mj_sem at h
      dsimp only at h
      split at h
      · rename_i x rr
        refine lv_istore hx hb hd (mj_okl_has hl) hk rfl (fun lr' hl' => ?_)
        rw [← hnx]
        exact same _ _ rr _ h (mj_okl_set (v := .inl x) hl hk (fun y hy => by cases hy; exact hs.h) hl') hs.t
      · exact False.elim h
    case istore_n k =>
      simp only [mj_rel, Bool.and_eq_true, decide_eq_true_eq] at hrel
      obtain ⟨⟨⟨rfl, hnx⟩, rfl⟩, hk⟩ := hrel
      unfold mj_sem at h
      dsimp only at h
      split at h
      · rename_i x rr
        refine lv_istore_n hx hb hd rfl (mj_okl_has hl) hk rfl (fun lr' hl' => ?_)
        rw [← hnx]
        exact same _ _ rr _ h (mj_okl_set (v := .inl x) hl hk (fun y hy => by cases hy; exact hs.h) hl') hs.t
      · exact False.elim h
    case astore k =>
      simp only [mj_rel, Bool.and_eq_true, decide_eq_true_eq] at hrel
      obtain ⟨⟨⟨rfl, hnx⟩, rfl⟩, hk⟩ := hrel
      unfold mj_sem at h
      dsimp only at h
      split at h
      · rename_i a rr
        rcases mj_rv_c E a with q | ⟨z, q⟩
        · rw [mj_map_r q]
          refine lv_astoreN hx hb hd (mj_okl_has hl) hk rfl (fun lr' hl' => ?_)
          rw [← hnx]
          exact same _ _ rr _ h (mj_okl_set (v := .inr a) hl hk (fun y hy => by cases hy) (by show lv_has lr' _ ((_, mj_rv E a) :: _); rw [q]; exact hl')) hs.t
        · rw [mj_map_r q]
          refine lv_astore hx hb hd (mj_okl_has hl) hk rfl (fun lr' hl' => ?_)
          rw [← hnx]
          exact same _ _ rr _ h (mj_okl_set (v := .inr a) hl hk (fun y hy => by cases hy) (by show lv_has lr' _ ((_, mj_rv E a) :: _); rw [q]; exact hl')) hs.t
      · exact False.elim h
    case astore_n k =>
      simp only [mj_rel, Bool.and_eq_true, decide_eq_true_eq] at hrel
      obtain ⟨⟨⟨rfl, hnx⟩, rfl⟩, hk⟩ := hrel
      unfold mj_sem at h
      dsimp only at h
      split at h
      · rename_i a rr
        rcases mj_rv_c E a with q | ⟨z, q⟩
        · rw [mj_map_r q]
          refine lv_astore_nN hx hb hd rfl (mj_okl_has hl) hk rfl (fun lr' hl' => ?_)
          rw [← hnx]
          exact same _ _ rr _ h (mj_okl_set (v := .inr a) hl hk (fun y hy => by cases hy) (by show lv_has lr' _ ((_, mj_rv E a) :: _); rw [q]; exact hl')) hs.t
        · rw [mj_map_r q]
          refine lv_astore_n hx hb hd rfl (mj_okl_has hl) hk rfl (fun lr' hl' => ?_)
          rw [← hnx]
          exact same _ _ rr _ h (mj_okl_set (v := .inr a) hl hk (fun y hy => by cases hy) (by show lv_has lr' _ ((_, mj_rv E a) :: _); rw [q]; exact hl')) hs.t
      · exact False.elim h
    case iinc k nn =>
      simp only [mj_rel, Bool.and_eq_true, decide_eq_true_eq] at hrel
      obtain ⟨⟨⟨rfl, hnx⟩, rfl⟩, hk⟩ := hrel
      unfold mj_sem at h
      dsimp only at h
      split at h
      · rename_i x hkx
        obtain ⟨kk, hkk⟩ := List.getElem?_of_mem (mj_lvs_mem (E := E) (mj_nth_some _ _ _ hkx))
        refine lv_iinc (v := Int32.ofInt (mj_wr (x + nn))) hx hb hd (mj_okl_has hl) (x := Int32.ofInt x) hkk (by rw [mj_of_wr, Int32.ofInt_add]) hk rfl (fun lr' hl' => ?_)
        rw [← hnx]
        exact same _ _ st _ h (mj_okl_set (v := .inl (mj_wr (x + nn))) hl hk (fun y hy => by cases hy; exact mj_wr_R _) hl') hs
      · exact False.elim h
    case pop =>
      simp only [mj_rel, Bool.and_eq_true, decide_eq_true_eq] at hrel
      obtain ⟨⟨rfl, hnx⟩, rfl⟩ := hrel
      unfold mj_sem at h
      dsimp only at h
      split at h
      · rename_i v rr
        refine lv_pop hx hb hd (mj_vv_cat E v) ?_
        rw [← hnx]
        exact same _ _ rr _ h hl hs.t
      · exact False.elim h
    case dup =>
      simp only [mj_rel, Bool.and_eq_true, decide_eq_true_eq] at hrel
      obtain ⟨⟨rfl, hnx⟩, rfl⟩ := hrel
      unfold mj_sem at h
      dsimp only at h
      split at h
      · rename_i v rr
        refine lv_dup hx hb hd (mj_vv_cat E v) ?_
        rw [← hnx]
        exact same _ _ (v :: v :: rr) _ h hl (mj_oks_v hs hs rfl)
      · exact False.elim h
    case dup_x1 =>
      simp only [mj_rel, Bool.and_eq_true, decide_eq_true_eq] at hrel
      obtain ⟨⟨rfl, hnx⟩, rfl⟩ := hrel
      unfold mj_sem at h
      dsimp only at h
      split at h
      · rename_i u v rr
        refine lv_dup_x1 hx hb hd (mj_vv_cat E u) (mj_vv_cat E v) ?_
        rw [← hnx]
        exact same _ _ (u :: v :: u :: rr) _ h hl (mj_oks_v hs (mj_oks_v hs.t (mj_oks_v hs hs.t.t rfl) rfl) rfl)
      · exact False.elim h
    case dup2 =>
      simp only [mj_rel, Bool.and_eq_true, decide_eq_true_eq] at hrel
      obtain ⟨⟨rfl, hnx⟩, rfl⟩ := hrel
      unfold mj_sem at h
      dsimp only at h
      split at h
      · rename_i u v rr
        refine lv_dup2_11 hx hb hd (mj_vv_cat E u) (mj_vv_cat E v) ?_
        rw [← hnx]
        exact same _ _ (u :: v :: u :: v :: rr) _ h hl (mj_oks_v hs (mj_oks_v hs.t hs rfl) rfl)
      · exact False.elim h
    case iadd =>
      simp only [mj_rel, Bool.and_eq_true, decide_eq_true_eq] at hrel
      obtain ⟨⟨rfl, hnx⟩, rfl⟩ := hrel
      unfold mj_sem at h
      dsimp only at h
      split at h
      · rename_i y x rr
        refine lv_iadd hx hb hd ?_
        rw [← hnx, show Int32.ofInt x + Int32.ofInt y = Int32.ofInt (mj_wr (x + y)) by rw [mj_of_wr, Int32.ofInt_add]]
        exact same _ _ (.inl (mj_wr (x + y)) :: rr) _ h hl (mj_oks_i (mj_wr_R _) hs.t.t)
      · exact False.elim h
    case isub =>
      simp only [mj_rel, Bool.and_eq_true, decide_eq_true_eq] at hrel
      obtain ⟨⟨rfl, hnx⟩, rfl⟩ := hrel
      unfold mj_sem at h
      dsimp only at h
      split at h
      · rename_i y x rr
        refine lv_isub hx hb hd ?_
        rw [← hnx, show Int32.ofInt x - Int32.ofInt y = Int32.ofInt (mj_wr (x - y)) by rw [mj_of_wr, Int32.ofInt_sub]]
        exact same _ _ (.inl (mj_wr (x - y)) :: rr) _ h hl (mj_oks_i (mj_wr_R _) hs.t.t)
      · exact False.elim h
    case imul =>
      simp only [mj_rel, Bool.and_eq_true, decide_eq_true_eq] at hrel
      obtain ⟨⟨rfl, hnx⟩, rfl⟩ := hrel
      unfold mj_sem at h
      dsimp only at h
      split at h
      · rename_i y x rr
        refine lv_imul hx hb hd ?_
        rw [← hnx, show Int32.ofInt x * Int32.ofInt y = Int32.ofInt (mj_wr (x * y)) by rw [mj_of_wr, Int32.ofInt_mul]]
        exact same _ _ (.inl (mj_wr (x * y)) :: rr) _ h hl (mj_oks_i (mj_wr_R _) hs.t.t)
      · exact False.elim h
    case iand =>
      simp only [mj_rel, Bool.and_eq_true, decide_eq_true_eq] at hrel
      obtain ⟨⟨rfl, hnx⟩, rfl⟩ := hrel
      unfold mj_sem at h
      dsimp only at h
      split at h
      · rename_i y x rr
        refine lv_iand hx hb hd ?_
        rw [← hnx, show (Int32.ofInt x &&& Int32.ofInt y) = Int32.ofInt (mj_and x y) by unfold mj_and; rw [Int32.ofInt_toInt]]
        exact same _ _ (.inl (mj_and x y) :: rr) _ h hl (mj_oks_i (mj_toR _) hs.t.t)
      · exact False.elim h
    case ior =>
      simp only [mj_rel, Bool.and_eq_true, decide_eq_true_eq] at hrel
      obtain ⟨⟨rfl, hnx⟩, rfl⟩ := hrel
      unfold mj_sem at h
      dsimp only at h
      split at h
      · rename_i y x rr
        refine lv_ior hx hb hd ?_
        rw [← hnx, show (Int32.ofInt x ||| Int32.ofInt y) = Int32.ofInt (mj_or x y) by unfold mj_or; rw [Int32.ofInt_toInt]]
        exact same _ _ (.inl (mj_or x y) :: rr) _ h hl (mj_oks_i (mj_toR _) hs.t.t)
      · exact False.elim h
    case ixor =>
      simp only [mj_rel, Bool.and_eq_true, decide_eq_true_eq] at hrel
      obtain ⟨⟨rfl, hnx⟩, rfl⟩ := hrel
      unfold mj_sem at h
      dsimp only at h
      split at h
      · rename_i y x rr
        refine lv_ixor hx hb hd ?_
        rw [← hnx, show (Int32.ofInt x ^^^ Int32.ofInt y) = Int32.ofInt (mj_xor x y) by unfold mj_xor; rw [Int32.ofInt_toInt]]
        exact same _ _ (.inl (mj_xor x y) :: rr) _ h hl (mj_oks_i (mj_toR _) hs.t.t)
      · exact False.elim h
    case ishl =>
      simp only [mj_rel, Bool.and_eq_true, decide_eq_true_eq] at hrel
      obtain ⟨⟨rfl, hnx⟩, rfl⟩ := hrel
      unfold mj_sem at h
      dsimp only at h
      split at h
      · rename_i y x rr
        refine lv_ishl hx hb hd ?_
        rw [← hnx, show (Int32.ofInt x <<< (Int32.ofInt y &&& 31)) = Int32.ofInt (mj_shl x y) by unfold mj_shl; rw [Int32.ofInt_toInt]]
        exact same _ _ (.inl (mj_shl x y) :: rr) _ h hl (mj_oks_i (mj_toR _) hs.t.t)
      · exact False.elim h
    case ishr =>
      simp only [mj_rel, Bool.and_eq_true, decide_eq_true_eq] at hrel
      obtain ⟨⟨rfl, hnx⟩, rfl⟩ := hrel
      unfold mj_sem at h
      dsimp only at h
      split at h
      · rename_i y x rr
        refine lv_ishr hx hb hd ?_
        rw [← hnx, show (Int32.ofInt x >>> (Int32.ofInt y &&& 31)) = Int32.ofInt (mj_shr x y) by unfold mj_shr; rw [Int32.ofInt_toInt]]
        exact same _ _ (.inl (mj_shr x y) :: rr) _ h hl (mj_oks_i (mj_toR _) hs.t.t)
      · exact False.elim h
    case iushr =>
      simp only [mj_rel, Bool.and_eq_true, decide_eq_true_eq] at hrel
      obtain ⟨⟨rfl, hnx⟩, rfl⟩ := hrel
      unfold mj_sem at h
      dsimp only at h
      split at h
      · rename_i y x rr
        refine lv_iushr (v := Int32.ofInt (mj_ushr x y)) hx hb hd (by unfold mj_ushr; rw [Int32.ofInt_toInt]) ?_
        rw [← hnx]
        exact same _ _ (.inl (mj_ushr x y) :: rr) _ h hl (mj_oks_i (mj_toR _) hs.t.t)
      · exact False.elim h
    case idiv =>
      simp only [mj_rel, Bool.and_eq_true, decide_eq_true_eq] at hrel
      obtain ⟨⟨rfl, hnx⟩, rfl⟩ := hrel
      unfold mj_sem at h
      dsimp only at h
      split at h
      · rename_i y x rr
        refine lv_idiv hx hb hd (fun q => h.1 (by rw [← mj_of0, mj_eqI hs.h mj_R0] at q; exact q)) ?_
        rw [← hnx, mj_div x y hs.t.h hs.h]
        exact same _ _ (.inl (mj_wr (x.tdiv y)) :: rr) _ h.2 hl (mj_oks_i (mj_wr_R _) hs.t.t)
      · exact False.elim h
    case irem =>
      simp only [mj_rel, Bool.and_eq_true, decide_eq_true_eq] at hrel
      obtain ⟨⟨rfl, hnx⟩, rfl⟩ := hrel
      unfold mj_sem at h
      dsimp only at h
      split at h
      · rename_i y x rr
        refine lv_irem hx hb hd (fun q => h.1 (by rw [← mj_of0, mj_eqI hs.h mj_R0] at q; exact q)) ?_
        rw [← hnx, mj_rem x y hs.t.h hs.h h.1]
        exact same _ _ (.inl (x.tmod y) :: rr) _ h.2 hl (mj_oks_i (mj_tm x y hs.t.h hs.h h.1) hs.t.t)
      · exact False.elim h
    case ineg =>
      simp only [mj_rel, Bool.and_eq_true, decide_eq_true_eq] at hrel
      obtain ⟨⟨rfl, hnx⟩, rfl⟩ := hrel
      unfold mj_sem at h
      dsimp only at h
      split at h
      · rename_i x rr
        refine lv_ineg hx hb hd ?_
        rw [← hnx, show -Int32.ofInt x = Int32.ofInt (mj_wr (-x)) by rw [mj_of_wr, Int32.ofInt_neg]]
        exact same _ _ (.inl (mj_wr (-x)) :: rr) _ h hl (mj_oks_i (mj_wr_R _) hs.t)
      · exact False.elim h
    case i2b =>
      simp only [mj_rel, Bool.and_eq_true, decide_eq_true_eq] at hrel
      obtain ⟨⟨rfl, hnx⟩, rfl⟩ := hrel
      unfold mj_sem at h
      dsimp only at h
      split at h
      · rename_i x rr
        refine lv_i2b (v := Int32.ofInt (mj_b8 x)) hx hb hd (by unfold mj_b8; rw [Int32.ofInt_toInt]) ?_
        rw [← hnx]
        exact same _ _ (.inl (mj_b8 x) :: rr) _ h hl (mj_oks_i (mj_toR _) hs.t)
      · exact False.elim h
    case i2c =>
      simp only [mj_rel, Bool.and_eq_true, decide_eq_true_eq] at hrel
      obtain ⟨⟨rfl, hnx⟩, rfl⟩ := hrel
      unfold mj_sem at h
      dsimp only at h
      split at h
      · rename_i x rr
        refine lv_i2c (v := Int32.ofInt (mj_c16 x)) hx hb hd (by unfold mj_c16; rw [Int32.ofInt_toInt]) ?_
        rw [← hnx]
        exact same _ _ (.inl (mj_c16 x) :: rr) _ h hl (mj_oks_i (mj_toR _) hs.t)
      · exact False.elim h
    case ifCond cd off =>
      simp only [mj_rel, Bool.and_eq_true, decide_eq_true_eq] at hrel
      obtain ⟨⟨⟨rfl, hnx⟩, rfl⟩, htg⟩ := hrel
      unfold mj_sem at h
      dsimp only at h
      split at h
      · rename_i x rr
        refine lv_if_eq (tgt := mj_pc m p1) hx hb hd htg (fun q => ?_) (fun q => ?_)
        · exact same _ _ rr _ (h.1 (by simpa only [← mj_of0, mj_eqI hs.h mj_R0] using q)) hl hs.t
        · rw [← hnx]
          exact same _ _ rr _ (h.2 (by simpa only [← mj_of0, mj_eqI hs.h mj_R0] using q)) hl hs.t
      · rename_i x rr
        refine lv_if_ne (tgt := mj_pc m p1) hx hb hd htg (fun q => ?_) (fun q => ?_)
        · exact same _ _ rr _ (h.1 (by simpa only [← mj_of0, mj_eqI hs.h mj_R0] using q)) hl hs.t
        · rw [← hnx]
          exact same _ _ rr _ (h.2 (by simpa only [← mj_of0, mj_eqI hs.h mj_R0] using q)) hl hs.t
      · rename_i x rr
        refine lv_if_lt (tgt := mj_pc m p1) hx hb hd htg (fun q => ?_) (fun q => ?_)
        · exact same _ _ rr _ (h.1 (by simpa only [← mj_of0, mj_lt hs.h mj_R0] using q)) hl hs.t
        · rw [← hnx]
          exact same _ _ rr _ (h.2 (by simpa only [← mj_of0, mj_lt hs.h mj_R0] using q)) hl hs.t
      · rename_i x rr
        refine lv_if_ge (tgt := mj_pc m p1) hx hb hd htg (fun q => ?_) (fun q => ?_)
        · exact same _ _ rr _ (h.1 (by simpa only [← mj_of0, mj_leI mj_R0 hs.h] using q)) hl hs.t
        · rw [← hnx]
          exact same _ _ rr _ (h.2 (by simpa only [← mj_of0, mj_leI mj_R0 hs.h] using q)) hl hs.t
      · rename_i x rr
        refine lv_if_gt (tgt := mj_pc m p1) hx hb hd htg (fun q => ?_) (fun q => ?_)
        · exact same _ _ rr _ (h.1 (by simpa only [← mj_of0, mj_lt mj_R0 hs.h] using q)) hl hs.t
        · rw [← hnx]
          exact same _ _ rr _ (h.2 (by simpa only [← mj_of0, mj_lt mj_R0 hs.h] using q)) hl hs.t
      · rename_i x rr
        refine lv_if_le (tgt := mj_pc m p1) hx hb hd htg (fun q => ?_) (fun q => ?_)
        · exact same _ _ rr _ (h.1 (by simpa only [← mj_of0, mj_leI hs.h mj_R0] using q)) hl hs.t
        · rw [← hnx]
          exact same _ _ rr _ (h.2 (by simpa only [← mj_of0, mj_leI hs.h mj_R0] using q)) hl hs.t
      · exact False.elim h
    case if_icmp cd off =>
      simp only [mj_rel, Bool.and_eq_true, decide_eq_true_eq] at hrel
      obtain ⟨⟨⟨rfl, hnx⟩, rfl⟩, htg⟩ := hrel
      unfold mj_sem at h
      dsimp only at h
      split at h
      · rename_i y x rr
        refine lv_icmp_eq (tgt := mj_pc m p1) hx hb hd htg (fun q => ?_) (fun q => ?_)
        · exact same _ _ rr _ (h.1 (by simpa only [mj_eqI hs.t.h hs.h] using q)) hl hs.t.t
        · rw [← hnx]
          exact same _ _ rr _ (h.2 (by simpa only [mj_eqI hs.t.h hs.h] using q)) hl hs.t.t
      · rename_i y x rr
        refine lv_icmp_ne (tgt := mj_pc m p1) hx hb hd htg (fun q => ?_) (fun q => ?_)
        · exact same _ _ rr _ (h.1 (by simpa only [mj_eqI hs.t.h hs.h] using q)) hl hs.t.t
        · rw [← hnx]
          exact same _ _ rr _ (h.2 (by simpa only [mj_eqI hs.t.h hs.h] using q)) hl hs.t.t
      · rename_i y x rr
        refine lv_icmp_lt (tgt := mj_pc m p1) hx hb hd htg (fun q => ?_) (fun q => ?_)
        · exact same _ _ rr _ (h.1 (by simpa only [mj_lt hs.t.h hs.h] using q)) hl hs.t.t
        · rw [← hnx]
          exact same _ _ rr _ (h.2 (by simpa only [mj_lt hs.t.h hs.h] using q)) hl hs.t.t
      · rename_i y x rr
        refine lv_icmp_ge (tgt := mj_pc m p1) hx hb hd htg (fun q => ?_) (fun q => ?_)
        · exact same _ _ rr _ (h.1 (by simpa only [mj_leI hs.h hs.t.h] using q)) hl hs.t.t
        · rw [← hnx]
          exact same _ _ rr _ (h.2 (by simpa only [mj_leI hs.h hs.t.h] using q)) hl hs.t.t
      · rename_i y x rr
        refine lv_icmp_gt (tgt := mj_pc m p1) hx hb hd htg (fun q => ?_) (fun q => ?_)
        · exact same _ _ rr _ (h.1 (by simpa only [mj_lt hs.h hs.t.h] using q)) hl hs.t.t
        · rw [← hnx]
          exact same _ _ rr _ (h.2 (by simpa only [mj_lt hs.h hs.t.h] using q)) hl hs.t.t
      · rename_i y x rr
        refine lv_icmp_le (tgt := mj_pc m p1) hx hb hd htg (fun q => ?_) (fun q => ?_)
        · exact same _ _ rr _ (h.1 (by simpa only [mj_leI hs.t.h hs.h] using q)) hl hs.t.t
        · rw [← hnx]
          exact same _ _ rr _ (h.2 (by simpa only [mj_leI hs.t.h hs.h] using q)) hl hs.t.t
      · exact False.elim h
    case ifnull off =>
      simp only [mj_rel, Bool.and_eq_true, decide_eq_true_eq] at hrel
      obtain ⟨⟨⟨rfl, hnx⟩, rfl⟩, htg⟩ := hrel
      unfold mj_sem at h
      dsimp only at h
      split at h
      · rename_i a rr
        sorry
      · exact False.elim h
    case ifnonnull off =>
      simp only [mj_rel, Bool.and_eq_true, decide_eq_true_eq] at hrel
      obtain ⟨⟨⟨rfl, hnx⟩, rfl⟩, htg⟩ := hrel
      unfold mj_sem at h
      dsimp only at h
      split at h
      · rename_i a rr
        sorry
      · exact False.elim h
    case goto off =>
      simp only [mj_rel, Bool.and_eq_true, decide_eq_true_eq] at hrel
      obtain ⟨⟨rfl, rfl⟩, htg⟩ := hrel
      refine lv_goto (tgt := mj_pc m p1) hx hb hd htg ?_
      exact same _ _ st _ h hl hs
    case tableswitch df lo hi offs =>
      simp only [mj_rel, Bool.and_eq_true, decide_eq_true_eq] at hrel
      obtain ⟨⟨⟨rfl, hdf⟩, hsw⟩, hhi⟩ := hrel
      unfold mj_sem at h
      dsimp only at h
      split at h
      · rename_i x rr
        rcases mj_swT_ok hsw h with ⟨t, o, z1, z2, z3, z4, z5⟩ | ⟨z1, z2⟩
        · refine lv_tableIn (tgt := mj_pc m t) (off := o) hx hb hd ?_ ?_ ?_ z5 ?_
          · rw [mj_of hs.h]; omega
          · rw [mj_of hs.h]; omega
          · rw [mj_of hs.h, ← Array.getElem?_toList]; exact z4
          · exact same _ _ rr _ z1 hl hs.t
        · refine lv_tableOut (tgt := mj_pc m p1) hx hb hd ?_ hdf ?_
          · rw [mj_of hs.h]; omega
          · exact same _ _ rr _ z1 hl hs.t
      · exact False.elim h
    case lookupswitch df ps =>
      simp only [mj_rel, Bool.and_eq_true, decide_eq_true_eq] at hrel
      obtain ⟨⟨⟨rfl, hdf⟩, hsw⟩, hps⟩ := hrel
      unfold mj_sem at h
      dsimp only at h
      split at h
      · rename_i x rr
        obtain ⟨t, o, z1, z2, z3⟩ := mj_swL_ok hdf hsw h
        refine lv_lookup (tgt := mj_pc m t) (off := o) hx hb hd hps ?_ z3 ?_
        · rw [mj_of hs.h]; exact z2
        · exact same _ _ rr _ z1 hl hs.t
      · exact False.elim h
    case getstatic ix => sorry
    case getfield ix => sorry
    case putfield ix => sorry
    case iaload => sorry
    case baload => sorry
    case caload => sorry
    case aaload => sorry
    case iastore => sorry
    case bastore => sorry
    case castore => sorry
    case aastore => sorry
    case arraylength => sorry
    case new ix => sorry
    case newarray t => sorry
    case anewarray ix => sorry
    case invokevirtual ix => sorry
    case invokespecial ix => sorry
    case invokestatic ix => sorry
    case ireturn => sorry
    case areturn => sorry
    case return_ => sorry
    all_goals exact absurd hrel Bool.false_ne_true
