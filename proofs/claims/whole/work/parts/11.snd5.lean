/-! soundness of the mini machine, 6: the theorem -/
theorem mj_map_i (E : mj_E) (x : Int) (st : List mj_V) : (Sum.inl x :: st).map (mj_vv E) = Value.int (Int32.ofInt x) :: st.map (mj_vv E) := rfl
/-- the words that stand for no method of ours -/
def mj_fix : Prop := Cond.native arraycopyName ∈ lw_tbl ∧ Cond.static arraycopyName ∈ lw_tbl ∧ Cond.initialized "java/lang/System" ∈ lw_tbl ∧ Cond.instanceMethod Lib.objectInit ∈ lw_tbl ∧ Cond.code Lib.objectInit ⟨#[0xb1]⟩ 1 none ∈ lw_tbl ∧
  Cond.static Lib.Math.min.name ∈ lw_tbl ∧ Cond.code Lib.Math.min.name Lib.Math.min.code 2 (some .int) ∈ lw_tbl ∧ Cond.static Lib.Math.max.name ∈ lw_tbl ∧ Cond.code Lib.Math.max.name Lib.Math.max.code 2 (some .int) ∈ lw_tbl ∧ Cond.initialized "java/lang/Math" ∈ lw_tbl ∧
  Cond.arrayClass .int ∈ lw_tbl ∧ Cond.arrayClass .byte ∈ lw_tbl ∧ Cond.arrayClass .boolean ∈ lw_tbl ∧ Cond.arrayClass .char ∈ lw_tbl
theorem mj_swT_ok {m pc : Nat} {x : Int} {k : Nat → Prop} {d : Nat} : ∀ {l : List (Int × Nat)} {offs : List Int} {lo : Int}, mj_swT m pc offs lo l = true → mj_sw x k d l → (∃ (t : Nat) (o : Int), k t ∧ lo ≤ x ∧ x < lo + (l.length : Int) ∧ offs[(x - lo).toNat]? = some o ∧ (pc : Int) + o = (mj_pc m t : Int)) ∨ (k d ∧ (x < lo ∨ lo + (l.length : Int) ≤ x))
  | [], offs, lo, _, h2 => Or.inr ⟨h2, by simp; omega⟩
  | q :: l, [], lo, h1, _ => by cases h1
  | q :: l, o :: offs, lo, h1, h2 => by
    simp only [mj_swT, Bool.and_eq_true, decide_eq_true_eq] at h1
    obtain ⟨⟨h3, h4⟩, h5⟩ := h1
    by_cases e : x = q.1
    · refine Or.inl ⟨q.2, o, h2.1 e, by omega, by simp; omega, ?_, h4⟩
      rw [show (x - lo).toNat = 0 by omega]
      rfl
    · rcases mj_swT_ok h5 (h2.2 e) with ⟨t, o', z1, z2, z3, z4, z5⟩ | ⟨z1, z2⟩
      · refine Or.inl ⟨t, o', z1, by omega, by simp; omega, ?_, z5⟩
        rw [show (x - lo).toNat = (x - (lo + 1)).toNat + 1 by omega, List.getElem?_cons_succ]
        exact z4
      · exact Or.inr ⟨z1, by simp; omega⟩
theorem mj_swL_ok {m pc : Nat} {x : Int} {k : Nat → Prop} {d : Nat} {df : Int} (hdf : (pc : Int) + df = (mj_pc m d : Int)) : ∀ {l : List (Int × Nat)} {ps : List (Int × Int)}, mj_swL m pc ps l = true → mj_sw x k d l → ∃ (t : Nat) (o : Int), k t ∧ Op.lookupswitch.offset ps df x = o ∧ (pc : Int) + o = (mj_pc m t : Int)
  | [], [], _, h2 => ⟨d, df, h2, rfl, hdf⟩
  | [], _ :: _, h1, _ => by cases h1
  | q :: l, [], h1, _ => by cases h1
  | q :: l, o :: ps, h1, h2 => by
    simp only [mj_swL, Bool.and_eq_true, decide_eq_true_eq] at h1
    obtain ⟨⟨h3, h4⟩, h5⟩ := h1
    obtain ⟨o1, o2⟩ := o
    by_cases e : x = q.1
    · refine ⟨q.2, o2, h2.1 e, ?_, h4⟩
      rw [Op.lookupswitch.offset_cons, if_pos (by first | (rw [e]; exact h3) | (rw [e]; exact h3.symm))]
    · obtain ⟨t, o', z1, z2, z3⟩ := mj_swL_ok hdf h5 (h2.2 e)
      refine ⟨t, o', z1, ?_, z3⟩
      rw [Op.lookupswitch.offset_cons, if_neg (by first | (intro q; exact e (q.trans h3.symm)) | (intro q; exact e (q.symm.trans h3.symm)) | (intro q; apply e; rw [h3]; exact q) | (intro q; apply e; rw [h3]; exact q.symm))]
      exact z2
theorem mj_nar_b {x : Int} (h0 : -128 ≤ x) (h1 : x ≤ 127) : narrow .byte (.int (Int32.ofInt x)) = .int (Int32.ofInt x) := by
  have e : (Int32.ofInt x).toInt8.toInt32 = Int32.ofInt x := by
    apply Int32.toInt_inj.mp
    rw [Int8.toInt_toInt32, Int32.toInt_toInt8, mj_of (by unfold mj_R; omega), Int.bmod_def]
    split <;> omega
  have h := pk_nb (Int32.ofInt x)
  rw [e] at h
  exact h
theorem mj_good {y : Nat} (hm : mj_mok y) : GoodIn mj_big (mj_ws1 y) := by
  intro w hw
  rcases List.mem_cons.mp hw with e | e
  · subst e
    exact ⟨mj_bigm hm.1 rfl, good_of_word rfl⟩
  · exact ⟨e, good_of_word (List.mem_filter.mp e).2⟩
theorem mj_ent_okr {y : Nat} {as : List mj_V} {I : mj_I} {S : mj_S} (ha : mj_oks as) (hI : ∀ a k, mj_R (I a k)) (hn : ∀ a, mj_ln S a ≤ 65536) : mj_okr (mj_ent y as) [] I S := by
  refine ⟨fun k x hk => ?_, fun x hx => absurd hx List.not_mem_nil, hI, hn⟩
  unfold mj_ent at hk
  have hk := List.mem_of_getElem? hk
  rcases List.mem_append.mp hk with w | w
  · obtain ⟨v, hv, e⟩ := List.mem_map.mp w
    cases e
    exact ha x hv
  · rw [List.mem_replicate] at w
    cases w.2
theorem mj_cok_of {c : mj_Ins} (h : mj_ckB c = true) : mj_cok c := by
  obtain ⟨o, p1, p2, p3, sw⟩ := c
  refine ⟨fun k e => ?_, fun k e => ?_, fun k e => ?_⟩
  · have e : o = .iconst k := e
    subst e
    have h : mj_rng k = true := h
    simp only [mj_rng, Bool.and_eq_true, decide_eq_true_eq] at h
    exact h
  · have e : o = .new k := e
    subst e
    exact of_decide_eq_true h
  · have e : o = .invokestatic k := e
    subst e
    exact of_decide_eq_true h
set_option maxHeartbeats 40000000 in
set_option maxRecDepth 100000 in
theorem mj_sound (l : Launch) (E : mj_E) (hlk : ∀ m i, m < 300 → mj_lk m i = true) (hmo : ∀ m, m < 299 → m ≠ 1 → m ≠ 43 → m ≠ 44 → mj_mok m) (hfx : mj_fix) : ∀ n, mj_snd l E n := by
  have hcok : ∀ m i, m < 300 → mj_cok (mj_code m i) := fun m i hm => mj_cok_of (by have q := hlk m i hm; unfold mj_lk at q; rw [Bool.and_eq_true] at q; exact q.1)
  intro n
  induction n with
  | zero => intro d m i ls st I S r I' S' hm h; exact False.elim h
  | succ n ih =>
    intro d m i ls st I S r I' S' hm h p e R s mm args below meth c H locs cells slots lr Z cx hl hs hr hS hcs hC hT fin
    obtain ⟨hx, hb, hml, hown, hts, hnm, henv, hfr, hlo⟩ := id cx
    have go : ∀ (i1 : Nat) (ls1 : mj_L) (st1 : List mj_V) (I1 : mj_I) (S1 : mj_S) (H1 : Heap) (locs1 : List Loc) (cells1 slots1 : Nat) (lr1 : Array Slot), mj_wp n d m i1 ls1 st1 I1 S1 (fun a b c => a = r ∧ b = I' ∧ c = S') → mj_okl E ls1 lr1 (mj_tab m).1 → mj_oks st1 → mj_rep E I1 S1 H1 → va_S (mj_eA E) s.heap H1 locs1 → H1.size = s.heap.size + cells1 →
        cells1 + mj_nx S = cells + mj_nx S1 → slots1 + mj_sl S = slots + mj_sl S1 → mj_le S S1 → W p l e R s mm args below meth c H1 locs1 cells1 slots1 Z (F0 mm (mj_pc m i1) lr1 (st1.map (mj_vv E))) := by
      intro i1 ls1 st1 I1 S1 H1 locs1 cells1 slots1 lr1 w1 w2 w3 w4 w5 w6 w7 w8 w9
      have hg := mj_wp_gr w1
      have e1 : cells1 + (mj_nx S' - mj_nx S1) = cells + (mj_nx S' - mj_nx S) := by have := hg.1; have := w9.1; omega
      have e2 : slots1 + (mj_sl S' - mj_sl S1) = slots + (mj_sl S' - mj_sl S) := by have := hg.2; have := w9.2; omega
      refine ih d m i1 ls1 st1 I1 S1 r I' S' hm w1 p e R s mm args below meth c H1 locs1 cells1 slots1 lr1 Z cx w2 w3 w4 w5 w6 (by rw [e1]; exact hC) (by rw [e2]; exact hT) ?_
      rw [e1, e2]
      exact fin
    unfold mj_wp at h
    have hl0 := hlk m i hm
    unfold mj_lk at hl0
    generalize mj_code m i = c0 at h hl0
    obtain ⟨o, p1, p2, p3, sw⟩ := c0
    rw [Bool.and_eq_true, Bool.or_eq_true] at hl0
    obtain ⟨-, hl0⟩ := hl0
    rcases hl0 with hl0 | hl0
    · have : o = .nop := of_decide_eq_true hl0
      subst this
      exact False.elim h
    generalize mj_pl m i = pl at hl0
    generalize hpc : mj_pc m i = pc at hl0 ⊢
    cases hd : decode (mj_by m) pc with
    | error q => rw [hd] at hl0; cases hl0
    | ok q =>
    rw [hd] at hl0
    obtain ⟨real, len⟩ := q
    have hrel : mj_rel m i pc pl len real (o, p1, p2, p3, sw) = true := hl0
    clear hl0
    have same : ∀ (i1 : Nat) (ls1 : mj_L) (st1 : List mj_V) (lr1 : Array Slot), mj_wp n d m i1 ls1 st1 I S (fun a b c => a = r ∧ b = I' ∧ c = S') → mj_okl E ls1 lr1 (mj_tab m).1 → mj_oks st1 → W p l e R s mm args below meth c H locs cells slots Z (F0 mm (mj_pc m i1) lr1 (st1.map (mj_vv E))) :=
      fun i1 ls1 st1 lr1 w1 w2 w3 => go i1 ls1 st1 I S H locs cells slots lr1 w1 w2 w3 hr hS hcs rfl rfl mj_le_rf
    have keep : ∀ (i1 : Nat) (ls1 : mj_L) (st1 : List mj_V) (I1 : mj_I) (S1 : mj_S) (lr1 : Array Slot), mj_wp n d m i1 ls1 st1 I1 S1 (fun a b c => a = r ∧ b = I' ∧ c = S') → mj_okl E ls1 lr1 (mj_tab m).1 → mj_oks st1 → mj_nx S1 = mj_nx S → mj_sl S1 = mj_sl S → ∀ (H1 : Heap) (locs1 : List Loc), mj_rep E I1 S1 H1 → va_S (mj_eA E) s.heap H1 locs1 → H1.size = s.heap.size + cells → W p l e R s mm args below meth c H1 locs1 cells slots Z (F0 mm (mj_pc m i1) lr1 (st1.map (mj_vv E))) :=
      fun i1 ls1 st1 I1 S1 lr1 w1 w2 w3 w4 w5 H1 locs1 v1 v2 v3 => go i1 ls1 st1 I1 S1 H1 locs1 cells slots lr1 w1 w2 w3 v1 v2 v3 (by rw [w4]) (by rw [w5]) ⟨Nat.le_of_eq w4.symm, Nat.le_of_eq w5.symm⟩
    have nth : ∀ {k : Nat} {v : mj_V}, mj_nth none ls k = some v → lr[k]? = some (.val (mj_vv E v)) := fun hk => hl.2.2.2.1 _ _ (mj_nth_some _ _ _ hk)
    have nthR : ∀ {k : Nat} {x : Int}, mj_nth none ls k = some (.inl x) → mj_R x := fun hk => hl.2.2.2.2 _ _ (mj_nth_some _ _ _ hk)
    have hlrs : lr.size = (mj_tab m).1 := hl.1
    have docall : ∀ (y : Nat) (as rest : List mj_V), y < 299 → y ≠ 1 → y ≠ 43 → y ≠ 44 → as.length ≤ (mj_tab y).1 → mj_oks as → mj_oks rest → 0 < d → mj_pc m (i + 1) = pc + 3 →
        mj_wp n (d - 1) y 0 (mj_ent y as) [] I S (fun r0 I0 S0 => mj_res p2 r0 (fun st' => mj_wp n d m (i + 1) ls st' I0 S0 (fun a b c => a = r ∧ b = I' ∧ c = S')) rest) →
        (∀ (r0 : Option mj_V) (I0 : mj_I) (S0 : mj_S), Met l (mj_nm y) (mj_ws1 y) (mj_rm (d - 1) (mj_nx S0 - mj_nx S) (mj_sl S0 - mj_sl S)) (mj_Pc E as I S) (mj_Qc E r0 I0 S0) (mj_nx S0 - mj_nx S) (mj_sl S0 - mj_sl S) (mj_eA E) → cells + (mj_nx S0 - mj_nx S) ≤ R.cells → slots + (mj_sl S0 - mj_sl S) ≤ R.slots →
          va_Run p l e R s mm args below meth c H locs cells slots (mj_nx S0 - mj_nx S) (mj_sl S0 - mj_sl S) (F0 mm pc lr (st.map (mj_vv E))) (rest.map (mj_vv E)) (mj_Qc E r0 I0 S0 (as.map (mj_vv E)).toArray) (mj_eA E)) →
        W p l e R s mm args below meth c H locs cells slots Z (F0 mm pc lr (st.map (mj_vv E))) := by
      intro y as rest hy hy1 hy2 hy3 hlen has hrs hd0 hnx hw run
      obtain ⟨r0, I0, S0, ⟨⟨hrg, -, -⟩, hk⟩, hex⟩ := mj_wp_ex (mj_wp_R hcok (m := y) (by omega) (mj_ent_okr has hr.2.2.1 hr.2.2.2.2.2.2.2.1) hw)
      have hle0 : mj_le S S0 := by
        obtain ⟨r2, I2, S2, ⟨q1, ⟨q2, q3, q4⟩⟩, -⟩ := mj_wp_ex (mj_wp_grow hex)
        rw [← q4]; exact q1
      obtain ⟨st', hst', hks, hwk⟩ : ∃ st', (r0.map (mj_vv E)).toList ++ rest.map (mj_vv E) = st'.map (mj_vv E) ∧ mj_oks st' ∧ mj_wp n d m (i + 1) ls st' I0 S0 (fun a b c => a = r ∧ b = I' ∧ c = S') := by
        revert hrg
        revert hk
        unfold mj_res
        split
        · exact fun hk _ => ⟨rest, rfl, hrs, hk⟩
        · rename_i v
          exact fun hk hrg => ⟨v :: rest, rfl, (fun x hx => by
            rcases List.mem_cons.mp hx with e | e
            · exact hrg x (by rw [e])
            · exact hrs x e), hk⟩
        · exact fun hk _ => False.elim hk
      have hle1 := mj_wp_gr hwk
      have met := mj_met ih (by omega) (hmo y hy hy1 hy2 hy3) hlen has hex
      refine mj_ret (run r0 I0 S0 met (by have := hle0.1; have := hle1.1; omega) (by have := hle0.2; have := hle1.2; omega)) hS (by have := hr.2.1; have := hle0.1; omega) hcs (fun H1 locs1 v1 v2 v3 => ?_)
      rw [← hnx, hst']
      exact go _ _ st' I0 S0 H1 locs1 _ _ lr hwk hl hks v1 v2 v3 (by have := hle0.1; omega) (by have := hle0.2; omega) hle0
    cases real
    case iconst k =>
      simp only [mj_rel, Bool.and_eq_true, decide_eq_true_eq] at hrel
      obtain ⟨⟨⟨rfl, hnx⟩, hk⟩, rfl⟩ := hrel
      simp only [mj_rng, Bool.and_eq_true, decide_eq_true_eq] at hk
      refine lv_iconst (v := Int32.ofInt k) hx hb hd rfl ?_
      rw [← hnx]
      exact same _ _ (.inl k :: st) _ h hl (mj_oks_i hk hs)
    case bipush k =>
      simp only [mj_rel, Bool.and_eq_true, decide_eq_true_eq] at hrel
      obtain ⟨⟨⟨⟨rfl, hnx⟩, hk1⟩, hk2⟩, rfl⟩ := hrel
      refine lv_bipush (v := Int32.ofInt k) hx hb hd ?_ ?_
      · apply Int32.toInt_inj.mp
        rw [mj_of (by unfold mj_R; omega), Int8.toInt_toInt32, Int8.toInt_ofInt_of_le (by omega) (by omega)]
      · rw [← hnx]
        exact same _ _ (.inl k :: st) _ h hl (mj_oks_i (by unfold mj_R; omega) hs)
    case sipush k =>
      simp only [mj_rel, Bool.and_eq_true, decide_eq_true_eq] at hrel
      obtain ⟨⟨⟨⟨rfl, hnx⟩, hk1⟩, hk2⟩, rfl⟩ := hrel
      refine lv_sipush (v := Int32.ofInt k) hx hb hd ?_ ?_
      · apply Int32.toInt_inj.mp
        rw [mj_of (by unfold mj_R; omega), Int16.toInt_toInt32, Int16.toInt_ofInt_of_le (by omega) (by omega)]
      · rw [← hnx]
        exact same _ _ (.inl k :: st) _ h hl (mj_oks_i (by unfold mj_R; omega) hs)
    case ldc ix =>
      simp only [mj_rel, Bool.and_eq_true, decide_eq_true_eq] at hrel
      obtain ⟨⟨hnx, rfl⟩, hk⟩ := hrel
      split at hk
      · rename_i k
        simp only [mj_rng, Bool.and_eq_true, decide_eq_true_eq] at hk
        refine lv_ldc (v := Int32.ofInt k) hx hb hown (hts _ (mj_bigm (mj_at_in hk.1) rfl)) hd ?_
        rw [← hnx]
        exact same _ _ (.inl k :: st) _ h hl (mj_oks_i hk.2 hs)
      · rename_i k
        simp only [Bool.and_eq_true, decide_eq_true_eq] at hk
        obtain ⟨⟨⟨ho, h3⟩, h10⟩, rfl⟩ := hk
        have hR := henv.2.2.2.1 (k - 3) (by omega)
        rw [show 3 + (k - 3) = k by omega] at hR
        refine va_ldcS hx hb hown (q := mj_eo E k) (by rw [ho]; exact hR) hd ?_
        rw [← hnx, ← mj_rv_old (E := E) (a := k) (by omega) (by omega)]
        exact same _ _ (.inr k :: st) _ h hl (mj_oks_r hs)
      · cases hk
    case ldc_w ix =>
      simp only [mj_rel, Bool.and_eq_true, decide_eq_true_eq] at hrel
      obtain ⟨⟨hnx, rfl⟩, hk⟩ := hrel
      split at hk
      · rename_i k
        simp only [mj_rng, Bool.and_eq_true, decide_eq_true_eq] at hk
        refine lv_ldcw (v := Int32.ofInt k) hx hb hown (hts _ (mj_bigm (mj_at_in hk.1) rfl)) hd ?_
        rw [← hnx]
        exact same _ _ (.inl k :: st) _ h hl (mj_oks_i hk.2 hs)
      · cases hk
    case aconst_null =>
      simp only [mj_rel, Bool.and_eq_true, decide_eq_true_eq] at hrel
      obtain ⟨⟨rfl, hnx⟩, rfl⟩ := hrel
      refine lv_null hx hb hd ?_
      rw [← hnx]
      exact same _ _ (.inr 0 :: st) _ h hl (mj_oks_r hs)
    case iload k =>
      simp only [mj_rel, Bool.and_eq_true, decide_eq_true_eq] at hrel
      obtain ⟨⟨rfl, hnx⟩, rfl⟩ := hrel
      unfold mj_sem at h
      dsimp only at h
      split at h
      · rename_i x hk
        refine lv_iload hx hb hd (nth hk) ?_
        rw [← hnx]
        exact same _ _ (.inl x :: st) _ h hl (mj_oks_i (nthR hk) hs)
      · exact False.elim h
    case iload_n k =>
      simp only [mj_rel, Bool.and_eq_true, decide_eq_true_eq] at hrel
      obtain ⟨⟨rfl, hnx⟩, rfl⟩ := hrel
      unfold mj_sem at h
      dsimp only at h
      split at h
      · rename_i x hk
        refine lv_iload_n hx hb hd rfl (nth hk) ?_
        rw [← hnx]
        exact same _ _ (.inl x :: st) _ h hl (mj_oks_i (nthR hk) hs)
      · exact False.elim h
    case aload k =>
      simp only [mj_rel, Bool.and_eq_true, decide_eq_true_eq] at hrel
      obtain ⟨⟨rfl, hnx⟩, rfl⟩ := hrel
      unfold mj_sem at h
      dsimp only at h
      split at h
      · rename_i a hk
        have k1 := same _ _ (.inr a :: st) _ h hl (mj_oks_r hs)
        have k2 : lr[_]? = some (Slot.val (mj_rv E a)) := nth hk
        rcases mj_rv_c E a with q | ⟨z, q⟩
        · rw [mj_map_r q] at k1
          rw [q] at k2
          refine lv_aloadN hx hb hd k2 ?_
          rw [← hnx]
          exact k1
        · rw [mj_map_r q] at k1
          rw [q] at k2
          refine lv_aload hx hb hd k2 ?_
          rw [← hnx]
          exact k1
      · exact False.elim h
    case aload_n k =>
      simp only [mj_rel, Bool.and_eq_true, decide_eq_true_eq] at hrel
      obtain ⟨⟨rfl, hnx⟩, rfl⟩ := hrel
      unfold mj_sem at h
      dsimp only at h
      split at h
      · rename_i a hk
        have k1 := same _ _ (.inr a :: st) _ h hl (mj_oks_r hs)
        have k2 : lr[_]? = some (Slot.val (mj_rv E a)) := nth hk
        rcases mj_rv_c E a with q | ⟨z, q⟩
        · rw [mj_map_r q] at k1
          rw [q] at k2
          refine lv_aload_nN hx hb hd rfl k2 ?_
          rw [← hnx]
          exact k1
        · rw [mj_map_r q] at k1
          rw [q] at k2
          refine lv_aload_n hx hb hd rfl k2 ?_
          rw [← hnx]
          exact k1
      · exact False.elim h
    case istore k =>
      simp only [mj_rel, Bool.and_eq_true, decide_eq_true_eq] at hrel
      obtain ⟨⟨⟨rfl, hnx⟩, rfl⟩, hk⟩ := hrel
      unfold mj_sem at h
      dsimp only at h
      split at h
      · rename_i x rr
        refine lv_istore hx hb hd (mj_okl_has hl) hk rfl (fun lr' hl' => ?_)
        rw [← hnx]
        exact same _ _ rr _ h (mj_okl_set (v := .inl x) hl hk (fun y hy => by cases hy; exact hs.h) hl') hs.t
      · exact False.elim h
    case istore_n k =>
      simp only [mj_rel, Bool.and_eq_true, decide_eq_true_eq] at hrel
      obtain ⟨⟨⟨rfl, hnx⟩, rfl⟩, hk⟩ := hrel
      unfold mj_sem at h
      dsimp only at h
      split at h
      · rename_i x rr
        refine lv_istore_n hx hb hd rfl (mj_okl_has hl) hk rfl (fun lr' hl' => ?_)
        rw [← hnx]
        exact same _ _ rr _ h (mj_okl_set (v := .inl x) hl hk (fun y hy => by cases hy; exact hs.h) hl') hs.t
      · exact False.elim h
    case astore k =>
      simp only [mj_rel, Bool.and_eq_true, decide_eq_true_eq] at hrel
      obtain ⟨⟨⟨rfl, hnx⟩, rfl⟩, hk⟩ := hrel
      unfold mj_sem at h
      dsimp only at h
      split at h
      · rename_i a rr
        rcases mj_rv_c E a with q | ⟨z, q⟩
        · rw [mj_map_r q]
          refine lv_astoreN hx hb hd (mj_okl_has hl) hk rfl (fun lr' hl' => ?_)
          rw [← hnx]
          exact same _ _ rr _ h (mj_okl_set (v := .inr a) hl hk (fun y hy => by cases hy) (by show lv_has lr' _ ((_, mj_rv E a) :: _); rw [q]; exact hl')) hs.t
        · rw [mj_map_r q]
          refine lv_astore hx hb hd (mj_okl_has hl) hk rfl (fun lr' hl' => ?_)
          rw [← hnx]
          exact same _ _ rr _ h (mj_okl_set (v := .inr a) hl hk (fun y hy => by cases hy) (by show lv_has lr' _ ((_, mj_rv E a) :: _); rw [q]; exact hl')) hs.t
      · exact False.elim h
    case astore_n k =>
      simp only [mj_rel, Bool.and_eq_true, decide_eq_true_eq] at hrel
      obtain ⟨⟨⟨rfl, hnx⟩, rfl⟩, hk⟩ := hrel
      unfold mj_sem at h
      dsimp only at h
      split at h
      · rename_i a rr
        rcases mj_rv_c E a with q | ⟨z, q⟩
        · rw [mj_map_r q]
          refine lv_astore_nN hx hb hd rfl (mj_okl_has hl) hk rfl (fun lr' hl' => ?_)
          rw [← hnx]
          exact same _ _ rr _ h (mj_okl_set (v := .inr a) hl hk (fun y hy => by cases hy) (by show lv_has lr' _ ((_, mj_rv E a) :: _); rw [q]; exact hl')) hs.t
        · rw [mj_map_r q]
          refine lv_astore_n hx hb hd rfl (mj_okl_has hl) hk rfl (fun lr' hl' => ?_)
          rw [← hnx]
          exact same _ _ rr _ h (mj_okl_set (v := .inr a) hl hk (fun y hy => by cases hy) (by show lv_has lr' _ ((_, mj_rv E a) :: _); rw [q]; exact hl')) hs.t
      · exact False.elim h
    case iinc k nn =>
      simp only [mj_rel, Bool.and_eq_true, decide_eq_true_eq] at hrel
      obtain ⟨⟨⟨rfl, hnx⟩, rfl⟩, hk⟩ := hrel
      unfold mj_sem at h
      dsimp only at h
      split at h
      · rename_i x hkx
        obtain ⟨kk, hkk⟩ := List.getElem?_of_mem (mj_lvs_mem (E := E) (mj_nth_some _ _ _ hkx))
        refine lv_iinc (v := Int32.ofInt (mj_wr (x + nn))) hx hb hd (mj_okl_has hl) (x := Int32.ofInt x) hkk (by rw [mj_of_wr, Int32.ofInt_add]) hk rfl (fun lr' hl' => ?_)
        rw [← hnx]
        exact same _ _ st _ h (mj_okl_set (v := .inl (mj_wr (x + nn))) hl hk (fun y hy => by cases hy; exact mj_wr_R _) hl') hs
      · exact False.elim h
    case pop =>
      simp only [mj_rel, Bool.and_eq_true, decide_eq_true_eq] at hrel
      obtain ⟨⟨rfl, hnx⟩, rfl⟩ := hrel
      unfold mj_sem at h
      dsimp only at h
      split at h
      · rename_i v rr
        refine lv_pop hx hb hd (mj_vv_cat E v) ?_
        rw [← hnx]
        exact same _ _ rr _ h hl hs.t
      · exact False.elim h
    case dup =>
      simp only [mj_rel, Bool.and_eq_true, decide_eq_true_eq] at hrel
      obtain ⟨⟨rfl, hnx⟩, rfl⟩ := hrel
      unfold mj_sem at h
      dsimp only at h
      split at h
      · rename_i v rr
        refine lv_dup hx hb hd (mj_vv_cat E v) ?_
        rw [← hnx]
        exact same _ _ (v :: v :: rr) _ h hl (mj_oks_v hs hs rfl)
      · exact False.elim h
    case dup_x1 =>
      simp only [mj_rel, Bool.and_eq_true, decide_eq_true_eq] at hrel
      obtain ⟨⟨rfl, hnx⟩, rfl⟩ := hrel
      unfold mj_sem at h
      dsimp only at h
      split at h
      · rename_i u v rr
        refine lv_dup_x1 hx hb hd (mj_vv_cat E u) (mj_vv_cat E v) ?_
        rw [← hnx]
        exact same _ _ (u :: v :: u :: rr) _ h hl (mj_oks_v hs (mj_oks_v hs.t (mj_oks_v hs hs.t.t rfl) rfl) rfl)
      · exact False.elim h
    case dup2 =>
      simp only [mj_rel, Bool.and_eq_true, decide_eq_true_eq] at hrel
      obtain ⟨⟨rfl, hnx⟩, rfl⟩ := hrel
      unfold mj_sem at h
      dsimp only at h
      split at h
      · rename_i u v rr
        refine lv_dup2_11 hx hb hd (mj_vv_cat E u) (mj_vv_cat E v) ?_
        rw [← hnx]
        exact same _ _ (u :: v :: u :: v :: rr) _ h hl (mj_oks_v hs (mj_oks_v hs.t hs rfl) rfl)
      · exact False.elim h
    case iadd =>
      simp only [mj_rel, Bool.and_eq_true, decide_eq_true_eq] at hrel
      obtain ⟨⟨rfl, hnx⟩, rfl⟩ := hrel
      unfold mj_sem at h
      dsimp only at h
      split at h
      · rename_i y x rr
        refine lv_iadd hx hb hd ?_
        rw [← hnx, show Int32.ofInt x + Int32.ofInt y = Int32.ofInt (mj_wr (x + y)) by rw [mj_of_wr, Int32.ofInt_add]]
        exact same _ _ (.inl (mj_wr (x + y)) :: rr) _ h hl (mj_oks_i (mj_wr_R _) hs.t.t)
      · exact False.elim h
    case isub =>
      simp only [mj_rel, Bool.and_eq_true, decide_eq_true_eq] at hrel
      obtain ⟨⟨rfl, hnx⟩, rfl⟩ := hrel
      unfold mj_sem at h
      dsimp only at h
      split at h
      · rename_i y x rr
        refine lv_isub hx hb hd ?_
        rw [← hnx, show Int32.ofInt x - Int32.ofInt y = Int32.ofInt (mj_wr (x - y)) by rw [mj_of_wr, Int32.ofInt_sub]]
        exact same _ _ (.inl (mj_wr (x - y)) :: rr) _ h hl (mj_oks_i (mj_wr_R _) hs.t.t)
      · exact False.elim h
    case imul =>
      simp only [mj_rel, Bool.and_eq_true, decide_eq_true_eq] at hrel
      obtain ⟨⟨rfl, hnx⟩, rfl⟩ := hrel
      unfold mj_sem at h
      dsimp only at h
      split at h
      · rename_i y x rr
        refine lv_imul hx hb hd ?_
        rw [← hnx, show Int32.ofInt x * Int32.ofInt y = Int32.ofInt (mj_wr (x * y)) by rw [mj_of_wr, Int32.ofInt_mul]]
        exact same _ _ (.inl (mj_wr (x * y)) :: rr) _ h hl (mj_oks_i (mj_wr_R _) hs.t.t)
      · exact False.elim h
    case iand =>
      simp only [mj_rel, Bool.and_eq_true, decide_eq_true_eq] at hrel
      obtain ⟨⟨rfl, hnx⟩, rfl⟩ := hrel
      unfold mj_sem at h
      dsimp only at h
      split at h
      · rename_i y x rr
        refine lv_iand hx hb hd ?_
        rw [← hnx, show (Int32.ofInt x &&& Int32.ofInt y) = Int32.ofInt (mj_and x y) by unfold mj_and; rw [Int32.ofInt_toInt]]
        exact same _ _ (.inl (mj_and x y) :: rr) _ h hl (mj_oks_i (mj_toR _) hs.t.t)
      · exact False.elim h
    case ior =>
      simp only [mj_rel, Bool.and_eq_true, decide_eq_true_eq] at hrel
      obtain ⟨⟨rfl, hnx⟩, rfl⟩ := hrel
      unfold mj_sem at h
      dsimp only at h
      split at h
      · rename_i y x rr
        refine lv_ior hx hb hd ?_
        rw [← hnx, show (Int32.ofInt x ||| Int32.ofInt y) = Int32.ofInt (mj_or x y) by unfold mj_or; rw [Int32.ofInt_toInt]]
        exact same _ _ (.inl (mj_or x y) :: rr) _ h hl (mj_oks_i (mj_toR _) hs.t.t)
      · exact False.elim h
    case ixor =>
      simp only [mj_rel, Bool.and_eq_true, decide_eq_true_eq] at hrel
      obtain ⟨⟨rfl, hnx⟩, rfl⟩ := hrel
      unfold mj_sem at h
      dsimp only at h
      split at h
      · rename_i y x rr
        refine lv_ixor hx hb hd ?_
        rw [← hnx, show (Int32.ofInt x ^^^ Int32.ofInt y) = Int32.ofInt (mj_xor x y) by unfold mj_xor; rw [Int32.ofInt_toInt]]
        exact same _ _ (.inl (mj_xor x y) :: rr) _ h hl (mj_oks_i (mj_toR _) hs.t.t)
      · exact False.elim h
    case ishl =>
      simp only [mj_rel, Bool.and_eq_true, decide_eq_true_eq] at hrel
      obtain ⟨⟨rfl, hnx⟩, rfl⟩ := hrel
      unfold mj_sem at h
      dsimp only at h
      split at h
      · rename_i y x rr
        refine lv_ishl hx hb hd ?_
        rw [← hnx, show (Int32.ofInt x <<< (Int32.ofInt y &&& 31)) = Int32.ofInt (mj_shl x y) by unfold mj_shl; rw [Int32.ofInt_toInt]]
        exact same _ _ (.inl (mj_shl x y) :: rr) _ h hl (mj_oks_i (mj_toR _) hs.t.t)
      · exact False.elim h
    case ishr =>
      simp only [mj_rel, Bool.and_eq_true, decide_eq_true_eq] at hrel
      obtain ⟨⟨rfl, hnx⟩, rfl⟩ := hrel
      unfold mj_sem at h
      dsimp only at h
      split at h
      · rename_i y x rr
        refine lv_ishr hx hb hd ?_
        rw [← hnx, show (Int32.ofInt x >>> (Int32.ofInt y &&& 31)) = Int32.ofInt (mj_shr x y) by unfold mj_shr; rw [Int32.ofInt_toInt]]
        exact same _ _ (.inl (mj_shr x y) :: rr) _ h hl (mj_oks_i (mj_toR _) hs.t.t)
      · exact False.elim h
    case iushr =>
      simp only [mj_rel, Bool.and_eq_true, decide_eq_true_eq] at hrel
      obtain ⟨⟨rfl, hnx⟩, rfl⟩ := hrel
      unfold mj_sem at h
      dsimp only at h
      split at h
      · rename_i y x rr
        refine lv_iushr (v := Int32.ofInt (mj_ushr x y)) hx hb hd (by unfold mj_ushr; rw [Int32.ofInt_toInt]) ?_
        rw [← hnx]
        exact same _ _ (.inl (mj_ushr x y) :: rr) _ h hl (mj_oks_i (mj_toR _) hs.t.t)
      · exact False.elim h
    case idiv =>
      simp only [mj_rel, Bool.and_eq_true, decide_eq_true_eq] at hrel
      obtain ⟨⟨rfl, hnx⟩, rfl⟩ := hrel
      unfold mj_sem at h
      dsimp only at h
      split at h
      · rename_i y x rr
        refine lv_idiv hx hb hd (fun q => h.1 (by rw [← mj_of0, mj_eqI hs.h mj_R0] at q; exact q)) ?_
        rw [← hnx, mj_div x y hs.t.h hs.h]
        exact same _ _ (.inl (mj_wr (x.tdiv y)) :: rr) _ h.2 hl (mj_oks_i (mj_wr_R _) hs.t.t)
      · exact False.elim h
    case irem =>
      simp only [mj_rel, Bool.and_eq_true, decide_eq_true_eq] at hrel
      obtain ⟨⟨rfl, hnx⟩, rfl⟩ := hrel
      unfold mj_sem at h
      dsimp only at h
      split at h
      · rename_i y x rr
        refine lv_irem hx hb hd (fun q => h.1 (by rw [← mj_of0, mj_eqI hs.h mj_R0] at q; exact q)) ?_
        rw [← hnx, mj_rem x y hs.t.h hs.h h.1]
        exact same _ _ (.inl (x.tmod y) :: rr) _ h.2 hl (mj_oks_i (mj_tm x y hs.t.h hs.h h.1) hs.t.t)
      · exact False.elim h
    case ineg =>
      simp only [mj_rel, Bool.and_eq_true, decide_eq_true_eq] at hrel
      obtain ⟨⟨rfl, hnx⟩, rfl⟩ := hrel
      unfold mj_sem at h
      dsimp only at h
      split at h
      · rename_i x rr
        refine lv_ineg hx hb hd ?_
        rw [← hnx, show -Int32.ofInt x = Int32.ofInt (mj_wr (-x)) by rw [mj_of_wr, Int32.ofInt_neg]]
        exact same _ _ (.inl (mj_wr (-x)) :: rr) _ h hl (mj_oks_i (mj_wr_R _) hs.t)
      · exact False.elim h
    case i2b =>
      simp only [mj_rel, Bool.and_eq_true, decide_eq_true_eq] at hrel
      obtain ⟨⟨rfl, hnx⟩, rfl⟩ := hrel
      unfold mj_sem at h
      dsimp only at h
      split at h
      · rename_i x rr
        refine lv_i2b (v := Int32.ofInt (mj_b8 x)) hx hb hd (by unfold mj_b8; rw [Int32.ofInt_toInt]) ?_
        rw [← hnx]
        exact same _ _ (.inl (mj_b8 x) :: rr) _ h hl (mj_oks_i (mj_toR _) hs.t)
      · exact False.elim h
    case i2c =>
      simp only [mj_rel, Bool.and_eq_true, decide_eq_true_eq] at hrel
      obtain ⟨⟨rfl, hnx⟩, rfl⟩ := hrel
      unfold mj_sem at h
      dsimp only at h
      split at h
      · rename_i x rr
        refine lv_i2c (v := Int32.ofInt (mj_c16 x)) hx hb hd (by unfold mj_c16; rw [Int32.ofInt_toInt]) ?_
        rw [← hnx]
        exact same _ _ (.inl (mj_c16 x) :: rr) _ h hl (mj_oks_i (mj_toR _) hs.t)
      · exact False.elim h
    case ifCond cd off =>
      simp only [mj_rel, Bool.and_eq_true, decide_eq_true_eq] at hrel
      obtain ⟨⟨⟨rfl, hnx⟩, rfl⟩, htg⟩ := hrel
      unfold mj_sem at h
      dsimp only at h
      split at h
      · rename_i x rr
        refine lv_if_eq (tgt := mj_pc m p1) hx hb hd htg (fun q => ?_) (fun q => ?_)
        · exact same _ _ rr _ (h.1 (by simpa only [← mj_of0, mj_eqI hs.h mj_R0] using q)) hl hs.t
        · rw [← hnx]
          exact same _ _ rr _ (h.2 (by simpa only [← mj_of0, mj_eqI hs.h mj_R0] using q)) hl hs.t
      · rename_i x rr
        refine lv_if_ne (tgt := mj_pc m p1) hx hb hd htg (fun q => ?_) (fun q => ?_)
        · exact same _ _ rr _ (h.1 (by simpa only [← mj_of0, mj_eqI hs.h mj_R0] using q)) hl hs.t
        · rw [← hnx]
          exact same _ _ rr _ (h.2 (by simpa only [← mj_of0, mj_eqI hs.h mj_R0] using q)) hl hs.t
      · rename_i x rr
        refine lv_if_lt (tgt := mj_pc m p1) hx hb hd htg (fun q => ?_) (fun q => ?_)
        · exact same _ _ rr _ (h.1 (by simpa only [← mj_of0, mj_lt hs.h mj_R0] using q)) hl hs.t
        · rw [← hnx]
          exact same _ _ rr _ (h.2 (by simpa only [← mj_of0, mj_lt hs.h mj_R0] using q)) hl hs.t
      · rename_i x rr
        refine lv_if_ge (tgt := mj_pc m p1) hx hb hd htg (fun q => ?_) (fun q => ?_)
        · exact same _ _ rr _ (h.1 (by simpa only [← mj_of0, mj_leI mj_R0 hs.h] using q)) hl hs.t
        · rw [← hnx]
          exact same _ _ rr _ (h.2 (by simpa only [← mj_of0, mj_leI mj_R0 hs.h] using q)) hl hs.t
      · rename_i x rr
        refine lv_if_gt (tgt := mj_pc m p1) hx hb hd htg (fun q => ?_) (fun q => ?_)
        · exact same _ _ rr _ (h.1 (by simpa only [← mj_of0, mj_lt mj_R0 hs.h] using q)) hl hs.t
        · rw [← hnx]
          exact same _ _ rr _ (h.2 (by simpa only [← mj_of0, mj_lt mj_R0 hs.h] using q)) hl hs.t
      · rename_i x rr
        refine lv_if_le (tgt := mj_pc m p1) hx hb hd htg (fun q => ?_) (fun q => ?_)
        · exact same _ _ rr _ (h.1 (by simpa only [← mj_of0, mj_leI hs.h mj_R0] using q)) hl hs.t
        · rw [← hnx]
          exact same _ _ rr _ (h.2 (by simpa only [← mj_of0, mj_leI hs.h mj_R0] using q)) hl hs.t
      · exact False.elim h
    case if_icmp cd off =>
      simp only [mj_rel, Bool.and_eq_true, decide_eq_true_eq] at hrel
      obtain ⟨⟨⟨rfl, hnx⟩, rfl⟩, htg⟩ := hrel
      unfold mj_sem at h
      dsimp only at h
      split at h
      · rename_i y x rr
        refine lv_icmp_eq (tgt := mj_pc m p1) hx hb hd htg (fun q => ?_) (fun q => ?_)
        · exact same _ _ rr _ (h.1 (by simpa only [mj_eqI hs.t.h hs.h] using q)) hl hs.t.t
        · rw [← hnx]
          exact same _ _ rr _ (h.2 (by simpa only [mj_eqI hs.t.h hs.h] using q)) hl hs.t.t
      · rename_i y x rr
        refine lv_icmp_ne (tgt := mj_pc m p1) hx hb hd htg (fun q => ?_) (fun q => ?_)
        · exact same _ _ rr _ (h.1 (by simpa only [mj_eqI hs.t.h hs.h] using q)) hl hs.t.t
        · rw [← hnx]
          exact same _ _ rr _ (h.2 (by simpa only [mj_eqI hs.t.h hs.h] using q)) hl hs.t.t
      · rename_i y x rr
        refine lv_icmp_lt (tgt := mj_pc m p1) hx hb hd htg (fun q => ?_) (fun q => ?_)
        · exact same _ _ rr _ (h.1 (by simpa only [mj_lt hs.t.h hs.h] using q)) hl hs.t.t
        · rw [← hnx]
          exact same _ _ rr _ (h.2 (by simpa only [mj_lt hs.t.h hs.h] using q)) hl hs.t.t
      · rename_i y x rr
        refine lv_icmp_ge (tgt := mj_pc m p1) hx hb hd htg (fun q => ?_) (fun q => ?_)
        · exact same _ _ rr _ (h.1 (by simpa only [mj_leI hs.h hs.t.h] using q)) hl hs.t.t
        · rw [← hnx]
          exact same _ _ rr _ (h.2 (by simpa only [mj_leI hs.h hs.t.h] using q)) hl hs.t.t
      · rename_i y x rr
        refine lv_icmp_gt (tgt := mj_pc m p1) hx hb hd htg (fun q => ?_) (fun q => ?_)
        · exact same _ _ rr _ (h.1 (by simpa only [mj_lt hs.h hs.t.h] using q)) hl hs.t.t
        · rw [← hnx]
          exact same _ _ rr _ (h.2 (by simpa only [mj_lt hs.h hs.t.h] using q)) hl hs.t.t
      · rename_i y x rr
        refine lv_icmp_le (tgt := mj_pc m p1) hx hb hd htg (fun q => ?_) (fun q => ?_)
        · exact same _ _ rr _ (h.1 (by simpa only [mj_leI hs.t.h hs.h] using q)) hl hs.t.t
        · rw [← hnx]
          exact same _ _ rr _ (h.2 (by simpa only [mj_leI hs.t.h hs.h] using q)) hl hs.t.t
      · exact False.elim h
    case ifnull off =>
      simp only [mj_rel, Bool.and_eq_true, decide_eq_true_eq] at hrel
      obtain ⟨⟨⟨rfl, hnx⟩, rfl⟩, htg⟩ := hrel
      unfold mj_sem at h
      dsimp only at h
      split at h
      · rename_i a rr
        obtain ⟨h19, h⟩ := h
        by_cases q : a = 0
        · subst q
          rw [mj_map_r (show mj_rv E 0 = .null from rfl)]
          refine lv_ifnullN (tgt := mj_pc m p1) hx hb hd htg ?_
          exact same _ _ rr _ (h.1 rfl) hl hs.t
        · obtain ⟨z, hz⟩ : ∃ z, mj_rv E a = .ref z := ⟨_, by unfold mj_rv mj_ro; rw [if_neg (by omega)]; rfl⟩
          rw [mj_map_r hz]
          refine lv_ifnull hx hb hd ?_
          rw [← hnx]; exact same _ _ rr _ (h.2 q) hl hs.t
      · exact False.elim h
    case ifnonnull off =>
      simp only [mj_rel, Bool.and_eq_true, decide_eq_true_eq] at hrel
      obtain ⟨⟨⟨rfl, hnx⟩, rfl⟩, htg⟩ := hrel
      unfold mj_sem at h
      dsimp only at h
      split at h
      · rename_i a rr
        obtain ⟨h19, h⟩ := h
        by_cases q : a = 0
        · subst q
          rw [mj_map_r (show mj_rv E 0 = .null from rfl)]
          refine lv_ifnonnullN hx hb hd ?_
          rw [← hnx]; exact same _ _ rr _ (h.2 rfl) hl hs.t
        · obtain ⟨z, hz⟩ : ∃ z, mj_rv E a = .ref z := ⟨_, by unfold mj_rv mj_ro; rw [if_neg (by omega)]; rfl⟩
          rw [mj_map_r hz]
          refine lv_ifnonnull (tgt := mj_pc m p1) hx hb hd htg ?_
          exact same _ _ rr _ (h.1 q) hl hs.t
      · exact False.elim h
    case goto off =>
      simp only [mj_rel, Bool.and_eq_true, decide_eq_true_eq] at hrel
      obtain ⟨⟨rfl, rfl⟩, htg⟩ := hrel
      refine lv_goto (tgt := mj_pc m p1) hx hb hd htg ?_
      exact same _ _ st _ h hl hs
    case tableswitch df lo hi offs =>
      simp only [mj_rel, Bool.and_eq_true, decide_eq_true_eq] at hrel
      obtain ⟨⟨⟨rfl, hdf⟩, hsw⟩, hhi⟩ := hrel
      unfold mj_sem at h
      dsimp only at h
      split at h
      · rename_i x rr
        rcases mj_swT_ok hsw h with ⟨t, o, z1, z2, z3, z4, z5⟩ | ⟨z1, z2⟩
        · refine lv_tableIn (tgt := mj_pc m t) (off := o) hx hb hd ?_ ?_ ?_ z5 ?_
          · rw [mj_of hs.h]; omega
          · rw [mj_of hs.h]; omega
          · rw [mj_of hs.h, ← Array.getElem?_toList]; exact z4
          · exact same _ _ rr _ z1 hl hs.t
        · refine lv_tableOut (tgt := mj_pc m p1) hx hb hd ?_ hdf ?_
          · rw [mj_of hs.h]; omega
          · exact same _ _ rr _ z1 hl hs.t
      · exact False.elim h
    case lookupswitch df ps =>
      simp only [mj_rel, Bool.and_eq_true, decide_eq_true_eq] at hrel
      obtain ⟨⟨⟨rfl, hdf⟩, hsw⟩, hps⟩ := hrel
      unfold mj_sem at h
      dsimp only at h
      split at h
      · rename_i x rr
        obtain ⟨t, o, z1, z2, z3⟩ := mj_swL_ok hdf hsw h
        refine lv_lookup (tgt := mj_pc m t) (off := o) hx hb hd hps ?_ z3 ?_
        · rw [mj_of hs.h]; exact z2
        · exact same _ _ rr _ z1 hl hs.t
      · exact False.elim h
    case getstatic ix =>
      simp only [mj_rel, Bool.and_eq_true, decide_eq_true_eq] at hrel
      obtain ⟨⟨hnx, rfl⟩, hk⟩ := hrel
      split at hk
      · rename_i k
        simp only [Bool.and_eq_true, decide_eq_true_eq] at hk
        obtain ⟨rfl, hk⟩ := hk
        refine va_gets hx hb henv.2.2.2.2.2.1 hS hown (hts _ (mj_bigm (mj_at_in hk) rfl)) (fun _ q => q) hd ?_
        rw [← hnx]
        exact same _ _ (.inl 1 :: st) _ h hl (mj_oks_i (by unfold mj_R; omega) hs)
      · rename_i k
        simp only [Bool.or_eq_true, Bool.and_eq_true, decide_eq_true_eq] at hk
        rcases hk with ⟨rfl, hk⟩ | ⟨rfl, hk⟩
        · refine va_gets hx hb henv.2.2.2.2.1 hS hown (hts _ (mj_bigm (mj_at_in hk) rfl)) (fun _ q => q) hd ?_
          rw [← hnx, ← mj_rv_old (E := E) (a := 2) (by omega) (by omega)]
          exact same _ _ (.inr 2 :: st) _ h hl (mj_oks_r hs)
        · refine va_gets hx hb henv.2.2.2.2.2.2.1 hS hown (hts _ (mj_bigm (mj_at_in hk) rfl)) (fun _ q => q) hd ?_
          rw [← hnx]
          exact same _ _ (.inr 19 :: st) _ h hl (mj_oks_r hs)
      · cases hk
    case getfield ix =>
      simp only [mj_rel, Bool.and_eq_true, decide_eq_true_eq] at hrel
      obtain ⟨⟨hnx, rfl⟩, hk⟩ := hrel
      split at hk
      · rename_i k
        simp only [Bool.or_eq_true, Bool.and_eq_true, decide_eq_true_eq] at hk
        rcases hk with ⟨rfl, hk⟩ | ⟨⟨⟨h13, hkN⟩, hfk⟩, hat⟩
        · obtain ⟨-, -, -, -, -, -, -, -, -, -, e11, -⟩ := id henv
          obtain ⟨-, -, -, -, o5⟩ := hr.2.2.2.2.2.2.2.2
          rcases hk with ⟨⟨rfl, rfl⟩, hat⟩ | ⟨⟨rfl, rfl⟩, hat⟩
          · rcases st with _ | ⟨x | a, rr⟩
            · exact False.elim h
            · exact False.elim h
            · have h : mj_tg S a = 41 ∧ mj_wp n d m (i + 1) ls (.inr (mj_rf S a 0) :: rr) I S (fun a b c => a = r ∧ b = I' ∧ c = S') := h
              obtain ⟨g1, g2⟩ := mj_tag41 hr.2.2 h.1
              obtain ⟨j, rfl⟩ : ∃ j, a = 3 + j := ⟨a - 3, by omega⟩
              have hrf := (o5 j (by omega)).1
              have k1 := same _ _ _ _ h.2 hl (mj_oks_r hs.t)
              rw [mj_map_r (E := E) (v := .ref (mj_eo E (10 + j))) (by rw [hrf]; exact mj_rv_old (by omega) (by omega))] at k1
              rw [mj_map_r (mj_rv_old (E := E) (a := 3 + j) (by omega) (by omega))]
              refine vk_getf hx hb (e11.1 j (by omega)).2.2.1 hS hown (hts _ (mj_bigm (mj_at_in hat) rfl)) (fun _ q => q) hd ?_
              rw [← hnx]
              exact k1
          · rcases st with _ | ⟨x | a, rr⟩
            · exact False.elim h
            · exact False.elim h
            · have h : mj_tg S a = 41 ∧ mj_wp n d m (i + 1) ls (.inl (I a 1) :: rr) I S (fun a b c => a = r ∧ b = I' ∧ c = S') := h
              obtain ⟨g1, g2⟩ := mj_tag41 hr.2.2 h.1
              obtain ⟨j, rfl⟩ : ∃ j, a = 3 + j := ⟨a - 3, by omega⟩
              have hco := (o5 j (by omega)).2.1
              have k1 := same _ _ _ _ h.2 hl (mj_oks_i (hr.2.2.1 _ _) hs.t)
              rw [hco] at k1
              rw [mj_map_r (mj_rv_old (E := E) (a := 3 + j) (by omega) (by omega))]
              refine vk_getf hx hb (e11.1 j (by omega)).2.1 hS hown (hts _ (mj_bigm (mj_at_in hat) rfl)) (fun _ q => q) hd ?_
              rw [← hnx]
              exact k1
        · have hI : ∀ a rr, st = .inr a :: rr → p2 ≠ 1 → mj_tg S a = p1 → mj_wp n d m (i + 1) ls (.inl (I a k) :: rr) I S (fun a b c => a = r ∧ b = I' ∧ c = S') → W p l e R s mm args below meth c H locs cells slots Z (F0 mm pc lr (st.map (mj_vv E))) := by
            intro a rr he hne ht hw
            subst he
            refine mj_getf hx hb hts hown henv hr ht h13 hkN (mj_at_in hat) hd ?_
            rw [← hnx, mj_fv_i (by rw [hfk]; exact hne)]
            exact same _ _ (.inl (I a k) :: rr) _ hw hl (mj_oks_i (hr.2.2.1 _ _) hs.t)
          rcases p2 with _ | _ | p2
          · rcases st with _ | ⟨x | a, rr⟩
            · exact False.elim h
            · exact False.elim h
            · exact hI a rr rfl (by omega) h.1 h.2
          · rcases st with _ | ⟨x | a, rr⟩
            · exact False.elim h
            · exact False.elim h
            · have h : mj_tg S a = p1 ∧ mj_wp n d m (i + 1) ls (.inr (mj_rf S a k) :: rr) I S (fun a b c => a = r ∧ b = I' ∧ c = S') := h
              refine mj_getf hx hb hts hown henv hr h.1 h13 hkN (mj_at_in hat) hd ?_
              rw [← hnx, mj_fv_r hfk]
              exact same _ _ (.inr (mj_rf S a k) :: rr) _ h.2 hl (mj_oks_r hs.t)
          · rcases st with _ | ⟨x | a, rr⟩
            · exact False.elim h
            · exact False.elim h
            · exact hI a rr rfl (by omega) h.1 h.2
      · cases hk
    case putfield ix =>
      simp only [mj_rel, Bool.and_eq_true, decide_eq_true_eq] at hrel
      obtain ⟨⟨hnx, rfl⟩, hk⟩ := hrel
      split at hk
      · rename_i k
        simp only [Bool.or_eq_true, Bool.and_eq_true, decide_eq_true_eq, Bool.not_eq_true'] at hk
        obtain ⟨⟨⟨⟨h13, hkN⟩, hfk⟩, hat⟩, hfi⟩ := hk
        have hfin : (mj_cT p1 k).2.2.2 = false ∨ (meth.name = "<init>" ∧ (mj_cT p1 k).1 = (mj_nm m).cls) := by
          rcases hfi with q | q
          · exact Or.inl q
          · refine Or.inr ⟨?_, q.2⟩
            rcases hnm with w | w
            · exact w.trans q.1
            · exact absurd q.1 (by rw [w]; decide)
        unfold mj_sem at h
        dsimp only at h
        split at h
        · rename_i x a rr
          refine mj_puti hx hb hts hown henv hr hS hcs h.1 h13 hkN (mj_at_in hat) hfin hs.h (Or.inl hfk) hd ?_
          rw [← hnx]
          exact keep _ _ rr _ _ _ h.2 hl hs.t.t rfl rfl
        · rename_i v a rr
          refine mj_putr hx hb hts hown henv hr hS hcs h.1 h13 hkN (mj_at_in hat) hfin hfk hd ?_
          rw [← hnx]
          exact keep _ _ rr _ _ _ h.2 hl hs.t.t rfl rfl
        · rename_i x a rr
          refine mj_puti hx hb hts hown henv hr hS hcs h.1.1 h13 hkN (mj_at_in hat) hfin hs.h (Or.inr ⟨hfk, h.1.2⟩) hd ?_
          rw [← hnx]
          exact keep _ _ rr _ _ _ h.2 hl hs.t.t rfl rfl
        · exact False.elim h
      · cases hk
    case iaload =>
      simp only [mj_rel, Bool.and_eq_true, decide_eq_true_eq] at hrel
      obtain ⟨⟨rfl, hnx⟩, rfl⟩ := hrel
      unfold mj_sem at h
      dsimp only at h
      split at h
      · rename_i j a rr
        refine mj_iaload hx hb henv hr hS h.1 hs.h hd ?_
        rw [← hnx]
        exact same _ _ (.inl (I a j.toNat) :: rr) _ h.2 hl (mj_oks_i (hr.2.2.1 _ _) hs.t.t)
      · exact False.elim h
    case baload =>
      simp only [mj_rel, Bool.and_eq_true, Bool.or_eq_true, decide_eq_true_eq] at hrel
      obtain ⟨⟨ho, hnx⟩, rfl⟩ := hrel
      rcases ho with rfl | rfl
      · unfold mj_sem at h
        dsimp only at h
        split at h
        · rename_i j a rr
          refine mj_baload hx hb henv hr hS h.1 hs.h hd ?_
          rw [← hnx]
          exact same _ _ (.inl (I a j.toNat) :: rr) _ h.2 hl (mj_oks_i (hr.2.2.1 _ _) hs.t.t)
        · exact False.elim h
      · unfold mj_sem at h
        dsimp only at h
        split at h
        · rename_i j a rr
          refine mj_zaload hx hb henv hr h.1 hs.h hd ?_
          rw [← hnx]
          exact same _ _ (.inl (I a j.toNat) :: rr) _ h.2 hl (mj_oks_i (hr.2.2.1 _ _) hs.t.t)
        · exact False.elim h
    case caload =>
      simp only [mj_rel, Bool.and_eq_true, decide_eq_true_eq] at hrel
      obtain ⟨⟨rfl, hnx⟩, rfl⟩ := hrel
      unfold mj_sem at h
      dsimp only at h
      split at h
      · rename_i j a rr
        refine mj_caload hx hb henv hr h.1 hs.h hd ?_
        rw [← hnx]
        exact same _ _ (.inl (I a j.toNat) :: rr) _ h.2 hl (mj_oks_i (hr.2.2.1 _ _) hs.t.t)
      · exact False.elim h
    case aaload =>
      simp only [mj_rel, Bool.and_eq_true, decide_eq_true_eq] at hrel
      obtain ⟨⟨rfl, hnx⟩, rfl⟩ := hrel
      unfold mj_sem at h
      dsimp only at h
      split at h
      · rename_i j a rr
        refine mj_aaload hx hb henv hr h.1 hs.h hd ?_
        rw [← hnx]
        exact same _ _ (.inr (mj_rf S a j.toNat) :: rr) _ h.2 hl (mj_oks_r hs.t.t)
      · exact False.elim h
    case iastore =>
      simp only [mj_rel, Bool.and_eq_true, decide_eq_true_eq] at hrel
      obtain ⟨⟨rfl, hnx⟩, rfl⟩ := hrel
      unfold mj_sem at h
      dsimp only at h
      split at h
      · rename_i x j a rr
        obtain ⟨⟨ht, h0, h1⟩, h⟩ := h
        refine mj_iast hx hb henv hr hS hcs (by omega) h0 h1 hs.t.h hs.h hd ?_
        rw [← hnx]
        exact keep _ _ rr _ _ _ h hl hs.t.t.t rfl rfl
      · exact False.elim h
    case bastore =>
      simp only [mj_rel, Bool.and_eq_true, Bool.or_eq_true, decide_eq_true_eq] at hrel
      obtain ⟨⟨ho, hnx⟩, rfl⟩ := hrel
      rcases ho with rfl | rfl
      · unfold mj_sem at h
        dsimp only at h
        split at h
        · rename_i x j a rr
          obtain ⟨⟨ht, h0, h1⟩, h⟩ := h
          refine mj_bast hx hb henv hr hS hcs (by omega) h0 h1 hs.t.h hd ?_
          rw [← hnx]
          exact keep _ _ rr _ _ _ h hl hs.t.t.t rfl rfl
        · exact False.elim h
      · unfold mj_sem at h
        dsimp only at h
        split at h
        · rename_i x j a rr
          obtain ⟨⟨⟨ht, h0, h1⟩, h01⟩, h⟩ := h
          refine mj_zast hx hb henv hr hS hcs (by omega) h0 h1 hs.t.h h01 hd ?_
          rw [← hnx]
          exact keep _ _ rr _ _ _ h hl hs.t.t.t rfl rfl
        · exact False.elim h
    case castore =>
      simp only [mj_rel, Bool.and_eq_true, decide_eq_true_eq] at hrel
      obtain ⟨⟨rfl, hnx⟩, rfl⟩ := hrel
      unfold mj_sem at h
      dsimp only at h
      split at h
      · rename_i x j a rr
        obtain ⟨⟨⟨ht, h0, h1⟩, h2, h3⟩, h⟩ := h
        refine mj_cast hx hb henv hr hS hcs (by omega) h0 h1 hs.t.h h2 h3 hd ?_
        rw [← hnx]
        exact keep _ _ rr _ _ _ h hl hs.t.t.t rfl rfl
      · exact False.elim h
    case aastore =>
      simp only [mj_rel, Bool.and_eq_true, decide_eq_true_eq] at hrel
      obtain ⟨⟨rfl, hnx⟩, rfl⟩ := hrel
      unfold mj_sem at h
      dsimp only at h
      split at h
      · rename_i v j a rr
        obtain ⟨⟨h1, h2⟩, h⟩ := h
        refine mj_aast hx hb henv hr hS hcs h1 hs.t.h h2 hd ?_
        rw [← hnx]
        exact keep _ _ rr _ _ _ h hl hs.t.t.t rfl rfl
      · exact False.elim h
    case arraylength =>
      simp only [mj_rel, Bool.and_eq_true, decide_eq_true_eq] at hrel
      obtain ⟨⟨rfl, hnx⟩, rfl⟩ := hrel
      unfold mj_sem at h
      dsimp only at h
      split at h
      · rename_i a rr
        obtain ⟨⟨h1, h2⟩, h⟩ := h
        refine mj_alen hx hb henv hr hS h1 h2 hd ?_
        rw [← hnx]
        have hln := hr.2.2.2.2.2.2.2.1 a
        exact same _ _ (.inl (mj_ln S a : Int) :: rr) _ h hl (mj_oks_i (by unfold mj_R; omega) hs.t)
      · exact False.elim h
    case new ix =>
      simp only [mj_rel, Bool.and_eq_true, decide_eq_true_eq] at hrel
      obtain ⟨⟨hnx, rfl⟩, hk⟩ := hrel
      split at hk
      · rename_i k
        simp only [Bool.and_eq_true, decide_eq_true_eq] at hk
        obtain ⟨⟨h13, rfl⟩, hat⟩ := hk
        have h : mj_wp n d m (i + 1) ls (.inr (mj_nx S) :: st) (mj_z I (mj_nx S)) (mj_nw S k (mj_cN k)) (fun a b c => a = r ∧ b = I' ∧ c = S') := h
        have hg := mj_wp_gr h
        have g1 : mj_nx S + 1 ≤ mj_nx S' := hg.1
        have g2 : mj_sl S + mj_cN k ≤ mj_sl S' := hg.2
        refine mj_new hx hb hts hown henv hr hS hcs h13 (mj_at_in hat) (by omega) (by omega) hd (fun H1 v1 v2 v3 => ?_)
        rw [← hnx]
        exact go _ _ (.inr (mj_nx S) :: st) _ _ _ _ _ _ _ h hl (mj_oks_r hs) v1 v2 v3 (by show cells + 1 + mj_nx S = cells + (mj_nx S + 1); omega) (by show slots + mj_cN k + mj_sl S = slots + (mj_sl S + mj_cN k); omega) mj_le_nw
      · cases hk
    case newarray t =>
      simp only [mj_rel, Bool.and_eq_true, Bool.or_eq_true, decide_eq_true_eq] at hrel
      obtain ⟨⟨⟨hnx, rfl⟩, rfl⟩, hk⟩ := hrel
      unfold mj_sem at h
      dsimp only at h
      split at h
      · rename_i nn rr
        obtain ⟨⟨h0, h1⟩, h⟩ := h
        have hg := mj_wp_gr h
        have g1 : mj_nx S + 1 ≤ mj_nx S' := hg.1
        have g2 : mj_sl S + nn.toNat ≤ mj_sl S' := hg.2
        obtain ⟨-, -, -, -, -, -, -, -, -, -, a1, a2, a3, a4⟩ := id hfx
        rcases hk with ((⟨rfl, rfl⟩ | ⟨rfl, rfl⟩) | ⟨rfl, rfl⟩) | ⟨rfl, rfl⟩
        · refine mj_newa (at' := .int) (ty := .int) (t := 20) (t0 := 0) hx hb hts henv hr hS hcs rfl rfl (by omega) (by omega) a1 rfl (by decide) h0 h1 (by omega) (by omega) hd (fun H1 v1 v2 v3 => ?_)
          rw [← hnx]
          exact go _ _ (.inr (mj_nx S) :: rr) _ _ _ _ _ _ _ h hl (mj_oks_r hs.t) v1 v2 v3 (by show cells + 1 + mj_nx S = cells + (mj_nx S + 1); omega) (by show slots + nn.toNat + mj_sl S = slots + (mj_sl S + nn.toNat); omega) mj_le_nw
        · refine mj_newa (at' := .byte) (ty := .byte) (t := 21) (t0 := 1) hx hb hts henv hr hS hcs rfl rfl (by omega) (by omega) a2 rfl (by decide) h0 h1 (by omega) (by omega) hd (fun H1 v1 v2 v3 => ?_)
          rw [← hnx]
          exact go _ _ (.inr (mj_nx S) :: rr) _ _ _ _ _ _ _ h hl (mj_oks_r hs.t) v1 v2 v3 (by show cells + 1 + mj_nx S = cells + (mj_nx S + 1); omega) (by show slots + nn.toNat + mj_sl S = slots + (mj_sl S + nn.toNat); omega) mj_le_nw
        · refine mj_newa (at' := .boolean) (ty := .boolean) (t := 22) (t0 := 2) hx hb hts henv hr hS hcs rfl rfl (by omega) (by omega) a3 rfl (by decide) h0 h1 (by omega) (by omega) hd (fun H1 v1 v2 v3 => ?_)
          rw [← hnx]
          exact go _ _ (.inr (mj_nx S) :: rr) _ _ _ _ _ _ _ h hl (mj_oks_r hs.t) v1 v2 v3 (by show cells + 1 + mj_nx S = cells + (mj_nx S + 1); omega) (by show slots + nn.toNat + mj_sl S = slots + (mj_sl S + nn.toNat); omega) mj_le_nw
        · refine mj_newa (at' := .char) (ty := .char) (t := 23) (t0 := 3) hx hb hts henv hr hS hcs rfl rfl (by omega) (by omega) a4 rfl (by decide) h0 h1 (by omega) (by omega) hd (fun H1 v1 v2 v3 => ?_)
          rw [← hnx]
          exact go _ _ (.inr (mj_nx S) :: rr) _ _ _ _ _ _ _ h hl (mj_oks_r hs.t) v1 v2 v3 (by show cells + 1 + mj_nx S = cells + (mj_nx S + 1); omega) (by show slots + nn.toNat + mj_sl S = slots + (mj_sl S + nn.toNat); omega) mj_le_nw
      · exact False.elim h
    case anewarray ix =>
      simp only [mj_rel, Bool.and_eq_true, decide_eq_true_eq] at hrel
      obtain ⟨⟨hnx, rfl⟩, hk⟩ := hrel
      split at hk
      · rename_i k
        simp only [Bool.and_eq_true, decide_eq_true_eq, List.contains_iff_mem] at hk
        obtain ⟨⟨h13, hat⟩, hao⟩ := hk
        unfold mj_sem at h
        dsimp only at h
        split at h
        · rename_i nn rr
          obtain ⟨⟨h0, h1⟩, h⟩ := h
          have hg := mj_wp_gr h
          have g1 : mj_nx S + 1 ≤ mj_nx S' := hg.1
          have g2 : mj_sl S + nn.toNat ≤ mj_sl S' := hg.2
          refine mj_newq hx hb hts hown henv hr hS hcs hao (mj_at_in hat) h0 h1 (by omega) (by omega) hd (fun H1 v1 v2 v3 => ?_)
          rw [← hnx]
          exact go _ _ (.inr (mj_nx S) :: rr) _ _ _ _ _ _ _ h hl (mj_oks_r hs.t) v1 v2 v3 (by show cells + 1 + mj_nx S = cells + (mj_nx S + 1); omega) (by show slots + nn.toNat + mj_sl S = slots + (mj_sl S + nn.toNat); omega) mj_le_nw
        · exact False.elim h
      · cases hk
    case ireturn =>
      simp only [mj_rel, Bool.and_eq_true, decide_eq_true_eq] at hrel
      obtain ⟨⟨⟨rfl, rfl⟩, hrt⟩, h4⟩ := hrel
      unfold mj_sem at h
      dsimp only at h
      split at h
      · rename_i v
        have hty : ∀ x, v = .inl x → mj_rtc (mj_re m) = p1 → ∀ ty, mj_re m = some ty → narrow ty (.int (Int32.ofInt x)) = .int (Int32.ofInt x) → (r = some (.inl x) ∧ I = I' ∧ S = S') → W p l e R s mm args below meth c H locs cells slots Z (F0 mm pc lr ([v].map (mj_vv E))) := by
          intro x hv _ ty hre hn hQ
          subst hv
          obtain ⟨rfl, rfl, rfl⟩ := hQ
          have k := fin H locs pc lr hr hS ⟨hd, hs.h, ty, hre, hn⟩
          rw [Nat.sub_self, Nat.sub_self] at k
          exact k
        unfold mj_rt at h
        cases hre : mj_re m with
        | none => rw [hre] at hrt; have : p1 = 9 := hrt; omega
        | some ty =>
          rw [hre] at hrt
          split at h
          · rename_i x
            have : ty = .int := by cases ty <;> first | rfl | (have q : (0 : Nat) = _ := hrt; simp [mj_rtc] at q)
            subst this
            exact hty x rfl (by rw [hre]; exact hrt.symm) _ hre rfl ⟨h.1.symm, h.2.1, h.2.2⟩
          · rename_i x
            have : ty = .boolean := by cases ty <;> first | rfl | (have q : (1 : Nat) = _ := hrt; simp [mj_rtc] at q)
            subst this
            obtain ⟨h01, h⟩ := h
            refine hty x rfl (by rw [hre]; exact hrt.symm) _ hre ?_ ⟨h.1.symm, h.2.1, h.2.2⟩
            rcases h01 with q | q <;> subst q <;> rfl
          · rename_i x
            have : ty = .char := by cases ty <;> first | rfl | (have q : (2 : Nat) = _ := hrt; simp [mj_rtc] at q)
            subst this
            obtain ⟨h01, h⟩ := h
            refine hty x rfl (by rw [hre]; exact hrt.symm) _ hre ?_ ⟨h.1.symm, h.2.1, h.2.2⟩
            obtain ⟨nn, rfl⟩ := Int.eq_ofNat_of_zero_le h01.1
            exact (pk_charN (q := nn) (by omega)).1
          · rename_i x
            have : ty = .byte := by cases ty <;> first | rfl | (have q : (3 : Nat) = _ := hrt; simp [mj_rtc] at q)
            subst this
            obtain ⟨h01, h⟩ := h
            refine hty x rfl (by rw [hre]; exact hrt.symm) _ hre ?_ ⟨h.1.symm, h.2.1, h.2.2⟩
            exact mj_nar_b h01.1 h01.2
          · omega
          · exact False.elim h
      · exact False.elim h
    case areturn =>
      simp only [mj_rel, Bool.and_eq_true, decide_eq_true_eq] at hrel
      obtain ⟨⟨⟨rfl, rfl⟩, hrt⟩, rfl⟩ := hrel
      unfold mj_sem at h
      dsimp only at h
      split at h
      · rename_i v
        rcases v with x | a
        · exact False.elim h
        · have h : r = some (.inr a) ∧ I = I' ∧ S = S' := by
            obtain ⟨q1, q2, q3⟩ := (show some (Sum.inr a) = r ∧ I = I' ∧ S = S' from h)
            exact ⟨q1.symm, q2, q3⟩
          obtain ⟨rfl, rfl, rfl⟩ := h
          cases hre : mj_re m with
          | none => rw [hre] at hrt; cases hrt
          | some ty =>
            rw [hre] at hrt
            have hq : (∃ n, ty = .object n) ∨ ∃ t, ty = .array t := by
              cases ty <;> first | exact Or.inl ⟨_, rfl⟩ | exact Or.inr ⟨_, rfl⟩ | (have q : (4 : Nat) = _ := hrt; simp [mj_rtc] at q)
            have k := fin H locs pc lr hr hS ⟨hd, ty, hre, hq⟩
            rw [Nat.sub_self, Nat.sub_self] at k
            exact k
      · exact False.elim h
    case return_ =>
      simp only [mj_rel, Bool.and_eq_true, decide_eq_true_eq] at hrel
      obtain ⟨⟨rfl, rfl⟩, hrt⟩ := hrel
      unfold mj_sem at h
      dsimp only at h
      split at h
      · obtain ⟨h1, h2, h3⟩ := h
        subst h2; subst h3
        rw [← h1] at fin
        have k := fin H locs pc lr hr hS ⟨hd, hrt⟩
        rw [Nat.sub_self, Nat.sub_self] at k
        exact k
      · exact False.elim h
    case invokevirtual ix =>
      simp only [mj_rel, Bool.and_eq_true, decide_eq_true_eq] at hrel
      obtain ⟨⟨hnx, rfl⟩, hk⟩ := hrel
      split at hk
      · rename_i y
        simp only [Bool.and_eq_true, Bool.or_eq_true, decide_eq_true_eq] at hk
        obtain ⟨⟨⟨⟨⟨⟨⟨⟨hy, hy1⟩, hy2⟩, hy3⟩, hkd⟩, hp1⟩, hp2⟩, hrc⟩, hlink⟩ := hk
        have hm := hmo y hy hy1 hy2 hy3
        unfold mj_sem at h
        dsimp only at h
        split at h
        · rename_i q hq
          split at h
          · rename_i hble
            obtain ⟨hlen, hst⟩ := mj_args_len _ _ _ _ hq
            obtain ⟨has, hrs⟩ := mj_args_R hs hq
            obtain ⟨as, rest⟩ := q
            have hst : st = as.reverse ++ rest := hst
            have hlen : as.length = p1 := hlen
            have h8 : rest.length ≤ 8 := Nat.le_of_ble_eq_true hble
            rcases as with _ | ⟨v, as⟩
            · have : (0 : Nat) = p1 := hlen
              omega
            have hal : as.length = (mj_kd y).2.2.2.2.2 := by have : as.length + 1 = p1 := hlen; omega
            have hmx : (v :: as).length ≤ (mj_tab y).1 := by have := hm.2.2.2.2.2.2.2.1; rw [hkd] at this; show as.length + 1 ≤ _; rw [hal]; exact this
            rcases p3 with _ | c3
            · omega
            rcases v with x | a
            · exact False.elim h
            have h : mj_tg S a = c3 ∧ 0 < d ∧ mj_wp n (d - 1) y 0 (mj_ent y (.inr a :: as)) [] I S (fun r I' S' => mj_res p2 r (fun st' => mj_wp n d m (i + 1) ls st' I' S' _) rest) := h
            obtain ⟨htg, hd0, hw⟩ := h
            refine docall y (.inr a :: as) rest hy hy1 hy2 hy3 hmx has hrs hd0 hnx hw (fun r0 I0 S0 met hcc hss => ?_)
            obtain ⟨b, hbv, hrec⟩ : ∃ b, mj_rv E a = .ref b ∧ ∃ cell : Cell, H[b]? = some cell ∧ cell.vm.isStatics = false ∧ s.vm.findClass (mj_nm y).cls = some cell.cls := by
              rcases hrc with ⟨q1, q2⟩ | ⟨⟨q1, q2⟩, q3⟩
              · have e41 : mj_tg S a = 41 := by omega
                obtain ⟨g1, g2⟩ := mj_tag41 hr.2.2 e41
                obtain ⟨j, rfl⟩ : ∃ j, a = 3 + j := ⟨a - 3, by omega⟩
                obtain ⟨-, -, -, -, -, -, -, -, -, -, e11, -⟩ := id henv
                exact ⟨_, mj_rv_old (by omega) (by omega), by rw [q2]; exact vk_recv e11 (i := j) (by omega) hS⟩
              · have h13 : c3 < 13 := by omega
                obtain ⟨g1, g2⟩ := hr.2.2.new (a := a) (by omega) (by omega) (by omega) (by omega)
                exact ⟨_, mj_rv_new g1, by rw [q3, show c3 + 1 - 1 = c3 by omega]; exact va_recv henv.1 hr.1 (mj_cls_get h13) (hr.get g1 g2 (mj_cell_obj E I S htg h13))⟩
            have hstk : st.map (mj_vv E) = (as.map (mj_vv E)).reverse ++ .ref b :: rest.map (mj_vv E) := by
              rw [hst, List.map_append, List.reverse_cons, List.map_append, List.map_reverse, List.append_assoc]
              show _ ++ ([mj_rv E a] ++ _) = _
              rw [hbv]
              rfl
            have harr : (Value.ref b :: as.map (mj_vv E)).toArray = ((Sum.inr a :: as).map (mj_vv E)).toArray := by rw [mj_map_r hbv]
            have hpre : PreV s H (mj_nm y).cls b (mj_Pc E (.inr a :: as) I S) (as.map (mj_vv E)) := ⟨mj_blind E _ I S, hrec, fun U hU hW => ⟨harr, mj_env.moved henv hW (by rw [hU]; have := hr.2.1; have : 20 ≤ mj_nx S := hr.2.2.2.2.1; omega) (by rw [hU]; exact hS.2.1), by rw [hU]; exact hr⟩⟩
            rw [← harr]
            obtain ⟨hi1, hi2⟩ : Cond.instanceMethod (mj_nm y) ∈ lw_tbl ∧ Cond.selects (mj_nm y).cls (mj_nm y) (mj_nm y) ∈ lw_tbl := by
              rcases hm.2.2.2.2.2.2.2.2.2 with q | q | q
              · omega
              · exact q.2
              · omega
            have hroom : (mj_rm (d - 1) (mj_nx S0 - mj_nx S) (mj_sl S0 - mj_sl S)).frames + 1 ≤ R.frames ∧ 8 + ((mj_tab y).1 + 11) + (mj_rm (d - 1) (mj_nx S0 - mj_nx S) (mj_sl S0 - mj_sl S)).locals ≤ R.locals := by
              have := hm.2.2.2.2.2.2.1
              refine ⟨?_, ?_⟩
              · show d - 1 + 1 + 1 ≤ _; omega
              · show _ + (d - 1 + 1) * 160 ≤ _; omega
            rcases hlink with hlink | ⟨-, hlink⟩
            · exact va_runV ⟨hx, hb, hml, hown, hts⟩ met ⟨callB_of (mj_kd y).2.2.2.2.2 hts (mj_good hm) rfl rfl rfl (hts _ (mj_bigm hm.2.1 rfl)) (hts _ (mj_bigm (mj_at_in hlink) rfl)) ⟨hm.2.2.2.1, hm.2.2.2.2.1, hm.2.2.1⟩ hroom, hts _ (mj_bigm hi1 rfl), hts _ (mj_bigm hi2 rfl)⟩ hpre rfl (by rw [List.length_map]; exact hal) hlrs hstk (by rw [mj_sum_cat]; show 2 * 0 + _ ≤ 8; omega) hd ⟨hcc, hss⟩
            · exact va_runVN ⟨hx, hb, hml, hown, hts⟩ met ⟨va_cnB (mj_kd y).2.2.2.2.2 hts (mj_good hm) rfl rfl rfl (henv.2.2.1 _ (List.mem_of_getElem? hlink)) (hts _ (mj_bigm hm.2.1 rfl)) ⟨hm.2.2.2.1, hm.2.2.2.2.1, hm.2.2.1⟩ hroom, hts _ (mj_bigm hi1 rfl), hts _ (mj_bigm hi2 rfl)⟩ hpre rfl (by rw [List.length_map]; exact hal) hlrs hstk (by rw [mj_sum_cat]; show 2 * 0 + _ ≤ 8; omega) hd ⟨hcc, hss⟩
          · exact False.elim h
        · exact False.elim h
      · cases hk
    case invokespecial ix =>
      simp only [mj_rel, Bool.and_eq_true, decide_eq_true_eq] at hrel
      obtain ⟨⟨hnx, rfl⟩, hk⟩ := hrel
      split at hk
      · rename_i y
        simp only [Bool.and_eq_true, Bool.or_eq_true, decide_eq_true_eq] at hk
        obtain ⟨⟨⟨⟨⟨⟨⟨⟨⟨hy, hy1⟩, hy2⟩, hy3⟩, hkd⟩, hp1⟩, hp2⟩, hrc⟩, hre⟩, hlink⟩ := hk
        have hm := hmo y hy hy1 hy2 hy3
        unfold mj_sem at h
        dsimp only at h
        split at h
        · rename_i q hq
          split at h
          · rename_i hble
            obtain ⟨hlen, hst⟩ := mj_args_len _ _ _ _ hq
            obtain ⟨has, hrs⟩ := mj_args_R hs hq
            obtain ⟨as, rest⟩ := q
            have hst : st = as.reverse ++ rest := hst
            have hlen : as.length = p1 := hlen
            have h8 : rest.length ≤ 8 := Nat.le_of_ble_eq_true hble
            rcases as with _ | ⟨v, as⟩
            · have : (0 : Nat) = p1 := hlen
              omega
            have hal : as.length = (mj_kd y).2.2.2.2.2 := by have : as.length + 1 = p1 := hlen; omega
            have hmx : (v :: as).length ≤ (mj_tab y).1 := by have := hm.2.2.2.2.2.2.2.1; rw [hkd] at this; show as.length + 1 ≤ _; rw [hal]; exact this
            rcases p3 with _ | c3
            · omega
            rcases v with x | a
            · exact False.elim h
            have h : mj_tg S a = c3 ∧ 0 < d ∧ mj_wp n (d - 1) y 0 (mj_ent y (.inr a :: as)) [] I S (fun r I' S' => mj_res p2 r (fun st' => mj_wp n d m (i + 1) ls st' I' S' _) rest) := h
            obtain ⟨htg, hd0, hw⟩ := h
            refine docall y (.inr a :: as) rest hy hy1 hy2 hy3 hmx has hrs hd0 hnx hw (fun r0 I0 S0 met hcc hss => ?_)
            obtain ⟨⟨q1, q2⟩, q3⟩ := hrc
            have h13 : c3 < 13 := by omega
            obtain ⟨g1, g2⟩ := hr.2.2.new (a := a) (by omega) (by omega) (by omega) (by omega)
            have hbv := mj_rv_new (E := E) g1
            have hstk : st.map (mj_vv E) = (as.map (mj_vv E)).reverse ++ .ref (mj_ad E a) :: rest.map (mj_vv E) := by
              rw [hst, List.map_append, List.reverse_cons, List.map_append, List.map_reverse, List.append_assoc]
              show _ ++ ([mj_rv E a] ++ _) = _
              rw [hbv]
              rfl
            have harr : (Value.ref (mj_ad E a) :: as.map (mj_vv E)).toArray = ((Sum.inr a :: as).map (mj_vv E)).toArray := by rw [mj_map_r hbv]
            have hpre : PreS s H (mj_Pc E (.inr a :: as) I S) (.ref (mj_ad E a) :: as.map (mj_vv E)) := ⟨mj_blind E _ I S, fun U hU hW => ⟨harr, mj_env.moved henv hW (by rw [hU]; have := hr.2.1; have : 20 ≤ mj_nx S := hr.2.2.2.2.1; omega) (by rw [hU]; exact hS.2.1), by rw [hU]; exact hr⟩⟩
            rw [← harr]
            obtain ⟨hi1, hi2⟩ : Cond.instanceMethod (mj_nm y) ∈ lw_tbl ∧ (mj_nm y).name = "<init>" := by
              rcases hm.2.2.2.2.2.2.2.2.2 with q | q | q
              · omega
              · omega
              · exact q.2
            have hroom : (mj_rm (d - 1) (mj_nx S0 - mj_nx S) (mj_sl S0 - mj_sl S)).frames + 1 ≤ R.frames ∧ 8 + ((mj_tab y).1 + 11) + (mj_rm (d - 1) (mj_nx S0 - mj_nx S) (mj_sl S0 - mj_sl S)).locals ≤ R.locals := by
              have := hm.2.2.2.2.2.2.1
              refine ⟨?_, ?_⟩
              · show d - 1 + 1 + 1 ≤ _; omega
              · show _ + (d - 1 + 1) * 160 ≤ _; omega
            have hws1 : mj_ws1 y = Cond.code (mj_nm y) (mj_by y) (mj_tab y).1 none :: mj_big := by unfold mj_ws1; rw [hre]
            rcases hlink with hlink | ⟨-, hlink⟩
            · exact va_runI ⟨hx, hb, hml, hown, hts⟩ met ⟨callB_of (mj_kd y).2.2.2.2.2 hts (mj_good hm) hws1 rfl rfl (hts _ (mj_bigm hm.2.1 rfl)) (hts _ (mj_bigm (mj_at_in hlink) rfl)) ⟨hm.2.2.2.1, hm.2.2.2.2.1, hm.2.2.1⟩ hroom, hi2, hts _ (mj_bigm hi1 rfl)⟩ hpre rfl (by rw [List.length_map]; exact hal) hlrs hstk (by rw [mj_sum_cat]; show 2 * 0 + _ ≤ 8; omega) hd ⟨hcc, hss⟩
            · exact va_runIN ⟨hx, hb, hml, hown, hts⟩ met ⟨va_cnB (mj_kd y).2.2.2.2.2 hts (mj_good hm) hws1 rfl rfl (henv.2.2.1 _ (List.mem_of_getElem? hlink)) (hts _ (mj_bigm hm.2.1 rfl)) ⟨hm.2.2.2.1, hm.2.2.2.2.1, hm.2.2.1⟩ hroom, hi2, hts _ (mj_bigm hi1 rfl)⟩ hpre rfl (by rw [List.length_map]; exact hal) hlrs hstk (by rw [mj_sum_cat]; show 2 * 0 + _ ≤ 8; omega) hd ⟨hcc, hss⟩
          · exact False.elim h
        · exact False.elim h
      · unfold mj_sem at h
        dsimp only at h
        split at h
        · rename_i a rr
          split at h
          · rename_i hble
            have h8 : rr.length ≤ 8 := Nat.le_of_ble_eq_true hble
            rw [mj_map_r (mj_rv_new h.1)]
            refine W.objInit hx hb hown (hts _ (mj_bigm (mj_at_in hk) rfl)) (hts _ (mj_bigm hfx.2.2.2.1 rfl)) (hts _ (mj_bigm hfx.2.2.2.2.1 rfl)) rfl (hlrs.trans hml.symm) rfl hd (by omega) (by rw [mj_sum_cat]; show 2 * 0 + _ + 12 ≤ _; omega) ?_
            show W p l e R s mm args below meth c H locs cells slots Z (F0 mm (pc + 3) lr _)
            rw [← hnx]
            exact same _ _ rr _ h.2 hl hs.t
          · exact False.elim h
        · exact False.elim h
      · cases hk
    case invokestatic ix =>
      simp only [mj_rel, Bool.and_eq_true, decide_eq_true_eq] at hrel
      obtain ⟨⟨hnx, rfl⟩, hk⟩ := hrel
      split at hk
      · rename_i y
        simp only [Bool.and_eq_true, Bool.or_eq_true, decide_eq_true_eq] at hk
        obtain ⟨⟨⟨⟨⟨⟨⟨⟨hy, hy1⟩, hy2⟩, hy3⟩, hkd⟩, hp1⟩, hp2⟩, rfl⟩, hlink⟩ := hk
        have hm := hmo y hy hy1 hy2 hy3
        unfold mj_sem at h
        dsimp only at h
        split at h
        · rename_i q hq
          split at h
          · rename_i hble
            obtain ⟨hlen, hst⟩ := mj_args_len _ _ _ _ hq
            obtain ⟨has, hrs⟩ := mj_args_R hs hq
            obtain ⟨as, rest⟩ := q
            have hst : st = as.reverse ++ rest := hst
            have hlen : as.length = p1 := hlen
            have h8 : rest.length ≤ 8 := Nat.le_of_ble_eq_true hble
            have hmx : as.length ≤ (mj_tab y).1 := by have := hm.2.2.2.2.2.2.2.1; rw [hkd] at this; have : (mj_kd y).2.2.2.2.2 + 0 ≤ _ := this; omega
            have h : 0 < d ∧ mj_wp n (d - 1) y 0 (mj_ent y as) [] I S (fun r I' S' => mj_res p2 r (fun st' => mj_wp n d m (i + 1) ls st' I' S' _) rest) := h
            obtain ⟨hd0, hw⟩ := h
            refine docall y as rest hy hy1 hy2 hy3 hmx has hrs hd0 hnx hw (fun r0 I0 S0 met hcc hss => ?_)
            have hstk : st.map (mj_vv E) = (as.map (mj_vv E)).reverse ++ rest.map (mj_vv E) := by rw [hst, List.map_append, List.map_reverse]
            have hpre : PreS s H (mj_Pc E as I S) (as.map (mj_vv E)) := ⟨mj_blind E _ I S, fun U hU hW => ⟨rfl, mj_env.moved henv hW (by rw [hU]; have := hr.2.1; have : 20 ≤ mj_nx S := hr.2.2.2.2.1; omega) (by rw [hU]; exact hS.2.1), by rw [hU]; exact hr⟩⟩
            have hi1 : Cond.static (mj_nm y) ∈ lw_tbl := by
              rcases hm.2.2.2.2.2.2.2.2.2 with q | q | q
              · exact q.2
              · omega
              · omega
            have hroom : (mj_rm (d - 1) (mj_nx S0 - mj_nx S) (mj_sl S0 - mj_sl S)).frames + 1 ≤ R.frames ∧ 8 + ((mj_tab y).1 + 11) + (mj_rm (d - 1) (mj_nx S0 - mj_nx S) (mj_sl S0 - mj_sl S)).locals ≤ R.locals := by
              have := hm.2.2.2.2.2.2.1
              refine ⟨?_, ?_⟩
              · show d - 1 + 1 + 1 ≤ _; omega
              · show _ + (d - 1 + 1) * 160 ≤ _; omega
            rcases hlink with hlink | ⟨-, hlink⟩
            · exact va_runS ⟨hx, hb, hml, hown, hts⟩ met ⟨callB_of (mj_kd y).2.2.2.2.2 hts (mj_good hm) rfl rfl rfl (hts _ (mj_bigm hm.2.1 rfl)) (hts _ (mj_bigm (mj_at_in hlink) rfl)) ⟨hm.2.2.2.1, hm.2.2.2.2.1, hm.2.2.1⟩ hroom, hts _ (mj_bigm hi1 rfl)⟩ hpre rfl (by rw [List.length_map]; omega) hlrs hstk (by rw [mj_sum_cat]; show 2 * 0 + _ ≤ 8; omega) hd ⟨hcc, hss⟩
            · exact va_runSN ⟨hx, hb, hml, hown, hts⟩ met ⟨va_cnB (mj_kd y).2.2.2.2.2 hts (mj_good hm) rfl rfl rfl (henv.2.2.1 _ (List.mem_of_getElem? hlink)) (hts _ (mj_bigm hm.2.1 rfl)) ⟨hm.2.2.2.1, hm.2.2.2.2.1, hm.2.2.1⟩ hroom, hts _ (mj_bigm hi1 rfl), trivial⟩ hpre rfl (by rw [List.length_map]; omega) hlrs hstk (by rw [mj_sum_cat]; show 2 * 0 + _ ≤ 8; omega) hd ⟨hcc, hss⟩
          · exact False.elim h
        · exact False.elim h
      · unfold mj_sem at h
        dsimp only at h
        split at h
        · rename_i nn dp b sp a rr
          split at h
          · rename_i hble
            have h8 : rr.length ≤ 8 := Nat.le_of_ble_eq_true hble
            obtain ⟨⟨q1, q2, q3, q4, q5, q6, q7⟩, h⟩ := h
            refine mj_copy hx hb (hml.trans hlrs.symm) hts hown henv hr hS hcs (mj_at_in hk) hfx.1 hfx.2.1 hfx.2.2.1 q1 q2 q3 q4 q5 q6 q7 hs.t.t.t.h hs.t.h hs.h (by omega) (by rw [mj_sum_cat]; show _ + (5 + 2 + 11) ≤ _; omega) hd ?_
            rw [← hnx]
            exact keep _ _ rr _ _ _ h hl hs.t.t.t.t.t rfl rfl
          · exact False.elim h
        · exact False.elim h
      · unfold mj_sem at h
        dsimp only at h
        split at h
        · rename_i y x rr
          split at h
          · rename_i hble
            have h8 : rr.length ≤ 8 := Nat.le_of_ble_eq_true hble
            refine va_mmin hx hb (hml.trans hlrs.symm) hown (hts _ (mj_bigm (mj_at_in hk) rfl)) (hts _ (mj_bigm hfx.2.2.2.2.2.1 rfl)) (hts _ (mj_bigm hfx.2.2.2.2.2.2.2.2.2.1 rfl)) (hts _ (mj_bigm hfx.2.2.2.2.2.2.1 rfl)) (by omega) (by rw [mj_sum_cat]; omega) (by omega) (by omega) hd ?_
            rw [← hnx, show (if Int32.ofInt y < Int32.ofInt x then Int32.ofInt y else Int32.ofInt x) = Int32.ofInt (min x y) by
              simp only [mj_lt hs.h hs.t.h]
              split
              · rw [Int.min_eq_right (by omega)]
              · rw [Int.min_eq_left (by omega)]]
            exact same _ _ (.inl (min x y) :: rr) _ h hl (mj_oks_i (by have := hs.h; have := hs.t.h; unfold mj_R at *; omega) hs.t.t)
          · exact False.elim h
        · exact False.elim h
      · unfold mj_sem at h
        dsimp only at h
        split at h
        · rename_i y x rr
          split at h
          · rename_i hble
            have h8 : rr.length ≤ 8 := Nat.le_of_ble_eq_true hble
            refine va_mmax hx hb (hml.trans hlrs.symm) hown (hts _ (mj_bigm (mj_at_in hk) rfl)) (hts _ (mj_bigm hfx.2.2.2.2.2.2.2.1 rfl)) (hts _ (mj_bigm hfx.2.2.2.2.2.2.2.2.2.1 rfl)) (hts _ (mj_bigm hfx.2.2.2.2.2.2.2.2.1 rfl)) (by omega) (by rw [mj_sum_cat]; omega) (by omega) (by omega) hd ?_
            rw [← hnx, show (if Int32.ofInt x < Int32.ofInt y then Int32.ofInt y else Int32.ofInt x) = Int32.ofInt (max x y) by
              simp only [mj_lt hs.t.h hs.h]
              split
              · rw [Int.max_eq_right (by omega)]
              · rw [Int.max_eq_left (by omega)]]
            exact same _ _ (.inl (max x y) :: rr) _ h hl (mj_oks_i (by have := hs.h; have := hs.t.h; unfold mj_R at *; omega) hs.t.t)
          · exact False.elim h
        · exact False.elim h
      · cases hk
    all_goals exact absurd hrel Bool.false_ne_true
