/-! the start: what the Statement gives is a picture of the mini machine -/
def mj_I0 (xs : Nat → Int32) : mj_I := fun a k => if a = 1 then (xs k).toInt else if a = 2 then mj_kab k else if 10 ≤ a ∧ a < 17 then ((mj_byt.getD (a - 10) []).getD k 0).toInt else 0
def mj_S0 (L : Nat) : mj_S := (fun a k => if 3 ≤ a ∧ a < 10 ∧ k = 0 then a + 7 else 0, fun a => (mj_otg a, if a = 1 then L else if a = 2 then 6 else if 10 ≤ a ∧ a < 17 then mj_sln.getD (a - 10) 0 else 0), 20, 0)
/-- WHAT IS LEFT: the law, run by the mini machine, answers 1 on every script -/
def mj_goal : Prop := ∀ (L : Nat) (xs : Nat → Int32), L ≤ 384 → mj_C 500 299 [.inr 1] (mj_I0 xs) (mj_S0 L) (fun r _ S' => r = some (.inl 1) ∧ mj_nx S' ≤ 600000 ∧ mj_sl S' ≤ 7000000)
def mj_F : List Cond := flatC (Jvm.Cond.and given_1 narrow_1)
def mj_tmS (i : Nat) : Term := .string "WhoSigns$Reader" (mj_six i)
theorem mj_Fs : ((List.range 7).all (fun i => decide (Cond.exactly (mj_tmS i) "java/lang/String" ∈ mj_F) && decide (Cond.eq (.field (mj_tmS i) "java/lang/String" "coder" "B") (.int 0) ∈ mj_F) && decide (Cond.arrayOf (.field (mj_tmS i) "java/lang/String" "value" "[B") .byte ∈ mj_F) && decide (Cond.eq (.length (.field (mj_tmS i) "java/lang/String" "value" "[B")) (.int (Int32.ofNat (mj_sln.getD i 0))) ∈ mj_F)
  && (List.range (mj_sln.getD i 0)).all (fun j => decide (Cond.eq (.elem (.field (mj_tmS i) "java/lang/String" "value" "[B") (.int (Int32.ofNat j))) (.int ((mj_byt.getD i []).getD j 0)) ∈ mj_F)))) = true := by decide +kernel
theorem mj_Fn : ((List.range 7).all (fun i => (List.range 7).all (fun j => decide (i = j) || decide (Cond.not (Cond.eq (mj_tmS i) (mj_tmS j)) ∈ mj_F) || decide (Cond.not (Cond.eq (mj_tmS j) (mj_tmS i)) ∈ mj_F)))) = true := by decide +kernel
def mj_kt : Term := .static "WhoSigns" "KIND_ABOVE" "[I"
theorem mj_Fk : (decide (Cond.arrayOf mj_kt .int ∈ mj_F) && decide (Cond.eq (.length mj_kt) (.int 6) ∈ mj_F) && (List.range 6).all (fun j => decide (Cond.eq (.elem mj_kt (.int (Int32.ofNat j))) (.int (Int32.ofInt (mj_kab j))) ∈ mj_F))) = true := by decide +kernel
theorem mj_Fc : Cond.eq (.static "java/lang/String" "COMPACT_STRINGS" "Z") (.int 1) ∈ mj_F := by decide +kernel
theorem mj_Ff : Cond.isRef (.static "jdk/internal/util/Preconditions" "SIOOBE_FORMATTER" "Ljava/util/function/BiFunction;") ∈ mj_F := by decide +kernel
theorem mj_ok0 (E : mj_E) {L : Nat} {xs : Nat → Int32} (hL : L ≤ 384) (h1 : mj_eL E = L) (h2 : mj_ex E = xs) : mj_ok E (mj_I0 xs) (mj_S0 L) := by
  have ht : ∀ a, mj_tg (mj_S0 L) a = mj_otg a := fun a => rfl
  refine ⟨fun a k => ?_, fun a k h => ?_, Nat.le_refl 20, fun a ha hb => ?_, fun a _ => ht a, fun a => ?_, ?_, fun j hj => ?_, ?_, fun j hj => ?_, fun i hi => ?_⟩
  · unfold mj_I0
    split
    · exact mj_toR _
    · split
      · unfold mj_kab
        have : ∀ k, mj_R (mj_nth 0 [-1, 0, 0, 1, 1, 0] k) := by
          intro k
          match k with
          | 0 => unfold mj_R; decide
          | 1 => unfold mj_R; decide
          | 2 => unfold mj_R; decide
          | 3 => unfold mj_R; decide
          | 4 => unfold mj_R; decide
          | 5 => unfold mj_R; decide
          | k + 6 => exact mj_R0
        exact this k
      · split
        · exact mj_toR _
        · exact mj_R0
  · rw [ht] at h
    rcases mj_otg_c a with w | w | w | w <;> omega
  · have : mj_nx (mj_S0 L) = 20 := rfl
    omega
  · show (if a = 1 then L else if a = 2 then 6 else if 10 ≤ a ∧ a < 17 then mj_sln.getD (a - 10) 0 else 0) ≤ 65536
    split
    · omega
    · split
      · omega
      · split
        · have hl : ∀ i, i < 7 → mj_sln.getD i 0 ≤ 65536 := by decide
          exact hl _ (by omega)
        · omega
  · rw [h1]; rfl
  · rw [h2]; rfl
  · rfl
  · rfl
  · refine ⟨?_, ?_, ?_, fun j hj => ?_⟩
    · show (if 3 ≤ 3 + i ∧ 3 + i < 10 ∧ 0 = 0 then 3 + i + 7 else 0) = 10 + i
      rw [if_pos (by omega)]
      omega
    · unfold mj_I0
      rw [if_neg (by omega), if_neg (by omega), if_neg (by omega)]
    · show (if 10 + i = 1 then L else if 10 + i = 2 then 6 else if 10 ≤ 10 + i ∧ 10 + i < 17 then mj_sln.getD (10 + i - 10) 0 else 0) = _
      rw [if_neg (by omega), if_neg (by omega), if_pos (by omega), show 10 + i - 10 = i by omega]
    · unfold mj_I0
      rw [if_neg (by omega), if_neg (by omega), if_pos (by omega), show 10 + i - 10 = i by omega]
theorem mj_aoc {s : State} {args : Array Value} {C : String} (h : (Cond.arrayOver (.object C)).before args s = true) : ∃ cA, ArrOfT s cA (.object C) ∧ va_RA s cA (.object C) := by
  obtain ⟨comp, c, k, h1, h2, h3, h4, h5⟩ := Cond.arrayOver_spec h
  exact ⟨c, fun N z => ⟨(fun k h => by cases h), k, h3, comp, h4⟩, k, comp, h3, h4, h1, h5⟩
theorem mj_apc {s : State} {args : Array Value} {ty : FieldType} (hty : ∀ C, ty ≠ .object C) (h : (Cond.arrayClass ty).before args s = true) : ∃ cA, ArrOfT s cA ty ∧ va_RA s cA ty := by
  obtain ⟨c, k, comp, h1, h2, h3⟩ := Cond.arrayClass_spec h
  refine ⟨c, fun N z => ⟨(fun k h => by cases h), k, h2, comp, h3⟩, ?_⟩
  cases ty with
  | object C => exact absurd rfl (hty C)
  | _ => exact h1
theorem mj_wao3 : Cond.arrayOver (.object (mj_cn 3)) ∈ lw_tbl := mj_at_in (pl := 1038) (by decide +kernel)
theorem mj_wao4 : Cond.arrayOver (.object (mj_cn 4)) ∈ lw_tbl := mj_at_in (pl := 1040) (by decide +kernel)
theorem mj_wao5 : Cond.arrayOver (.object (mj_cn 5)) ∈ lw_tbl := mj_at_in (pl := 1042) (by decide +kernel)
theorem mj_wao9 : Cond.arrayOver (.object (mj_cn 9)) ∈ lw_tbl := mj_at_in (pl := 2114) (by decide +kernel)
theorem mj_wao10 : Cond.arrayOver (.object (mj_cn 10)) ∈ lw_tbl := mj_at_in (pl := 2116) (by decide +kernel)
theorem mj_wao11 : Cond.arrayOver (.object (mj_cn 11)) ∈ lw_tbl := mj_at_in (pl := 1044) (by decide +kernel)
theorem mj_wnw : ∀ w ∈ mj_nws, w ∈ lw_tbl := by
  intro w hw
  simp only [mj_nws, List.mem_cons, List.not_mem_nil, or_false] at hw
  rcases hw with rfl | rfl | rfl | rfl | rfl | rfl | rfl | rfl | rfl | rfl | rfl | rfl | rfl | rfl | rfl
  · exact mj_at_in (pl := 1047) (by decide +kernel)
  · exact mj_at_in (pl := 1070) (by decide +kernel)
  · exact mj_at_in (pl := 1114) (by decide +kernel)
  · exact mj_at_in (pl := 1141) (by decide +kernel)
  · exact mj_at_in (pl := 2007) (by decide +kernel)
  · exact mj_at_in (pl := 2064) (by decide +kernel)
  · exact mj_at_in (pl := 2080) (by decide +kernel)
  · exact mj_at_in (pl := 2118) (by decide +kernel)
  · exact mj_at_in (pl := 2137) (by decide +kernel)
  · exact mj_at_in (pl := 2142) (by decide +kernel)
  · exact mj_at_in (pl := 2144) (by decide +kernel)
  · exact mj_at_in (pl := 2217) (by decide +kernel)
  · exact mj_at_in (pl := 3005) (by decide +kernel)
  · exact mj_at_in (pl := 5096) (by decide +kernel)
  · exact mj_at_in (pl := 5174) (by decide +kernel)
theorem mj_wst : ∀ i, i < 7 → Cond.stringRef "WhoSigns$Reader" (mj_six i) (mj_stx i) ∈ lw_tbl := by
  intro i hi
  match i, hi with
  | 0, _ => exact mj_at_in (pl := 3206) (by decide +kernel)
  | 1, _ => exact mj_at_in (pl := 4019) (by decide +kernel)
  | 2, _ => exact mj_at_in (pl := 4020) (by decide +kernel)
  | 3, _ => exact mj_at_in (pl := 4044) (by decide +kernel)
  | 4, _ => exact mj_at_in (pl := 4045) (by decide +kernel)
  | 5, _ => exact mj_at_in (pl := 4046) (by decide +kernel)
  | 6, _ => exact mj_at_in (pl := 4102) (by decide +kernel)
  | i + 7, h => omega
theorem mj_wzk : Cond.laysStatic "WhoSigns" "KIND_ABOVE" "[I" ∈ lw_tbl := mj_at_in (pl := 3152) (by decide +kernel)
theorem mj_wik : Cond.initialized "WhoSigns" ∈ lw_tbl := mj_at_in (pl := 1001) (by decide +kernel)
theorem mj_wzc : Cond.laysStatic "java/lang/String" "COMPACT_STRINGS" "Z" ∈ lw_tbl := mj_at_in (pl := 3220) (by decide +kernel)
theorem mj_wic : Cond.initialized "java/lang/String" ∈ lw_tbl := mj_at_in (pl := 1017) (by decide +kernel)
theorem mj_wzf : Cond.laysStatic "jdk/internal/util/Preconditions" "SIOOBE_FORMATTER" "Ljava/util/function/BiFunction;" ∈ lw_tbl := mj_at_in (pl := 3236) (by decide +kernel)
theorem mj_wif : Cond.initialized "jdk/internal/util/Preconditions" ∈ lw_tbl := mj_at_in (pl := 1019) (by decide +kernel)
def R_law : String := "WhoSignsLaw"
def lw_P (b : Addr) (xs : List Int32) (args : Array Value) (s : State) : Prop := args = #[.ref b] ∧ s.IntsAt b xs ∧ xs.length ≤ 384 ∧ (Jvm.Cond.and given_1 narrow_1).before args s = true
def lw_Q (_ : Array Value) (s : State) (o : Outcome) (t : State) : Prop := o = .returned (some (.int 1)) ∧ Framed s o t [] 600000 7302250
def lw_Z (below : List Frame) (a : Array Value) (s : State) : State → Prop := fun t => ∃ o, t.status = .running ∧ Ended t below o ∧ lw_Q a s o t
/-- the law's own end, with 1 on the stack, nothing written that was there before, its room as the claim has it -/
theorem lw_ret {p : Program} {l : Launch} {e : Env} {s : State} {m : MethodId} {below : List Frame} {meth : Method} {c : Code} {b : Nat} (hx : p.tables.exec = Jvm.exec) (hb : c.code = code) (hr : meth.sig.returnType = ret) (hlocks : meth.locks = false) {pc : Nat} {H : Heap} {ls : Array Slot} (hdg : decode code pc = .ok (.ireturn, 1)) : W p l e room_1 s m #[Value.ref b] below meth c H [] 600000 7302250 (lw_Z below #[Value.ref b] s) (F0 m pc ls [.int 1]) := by
  intro T hT X
  obtain ⟨fs, hret, hrun, hended, hW, hframe⟩ := X.leave (v := some (.int 1)) (hlocks := hlocks) (fun h => by rw [hr] at h; cases h)
  have hmeth' : T.vm.method? m = some meth := X.method'
  refine ⟨T.setFrames fs, ?_, .returned (some (.int 1)), hrun, hended, rfl, ⟨_, rfl⟩, hW, hframe⟩
  jvm_step X.here [X.here.top, hx, hb, hdg, hmeth', hr, ret, narrow_b1]
  (try refine ⟨rfl, ?_⟩); (try refine ⟨rfl, ?_⟩)
  first | (intro acts; rw [hret _ acts rfl rfl rfl]) | rw [hret _ _ rfl rfl rfl]
  exact Steps.refl _
/-- what holds at the law's entry: the machine, the code, the tables' words (any of lw_tbl by 'hts w (by decide +kernel)'), the script of L ints xs at the cell b, what the Statement gives of the start (any of its parts by flat_of_before) -/
def lw_At (p : Program) (s : State) (m : MethodId) (meth : Method) (c : Code) (b L : Nat) (xs : Nat → Int32) : Prop :=
  p.tables.exec = Jvm.exec ∧ c.code = code ∧ meth.sig.returnType = ret ∧ c.maxLocals = 4 ∧ s.vm.findClass R_law = some m.cls ∧ (∀ w ∈ lw_tbl, w.before #[Value.ref b] s = true) ∧ va_X b L xs s s.heap ∧ b < s.heap.size ∧ meth.locks = false ∧ (Jvm.Cond.and given_1 narrow_1).before #[Value.ref b] s = true
set_option maxHeartbeats 4000000 in
theorem mj_begin {p : Program} {s : State} {m : MethodId} {meth : Method} {c : Code} {b L : Nat} {xs : Nat → Int32} (hL : L ≤ 384) (C0 : lw_At p s m meth c b L xs) : ∃ E : mj_E, mj_env E s ∧ mj_rep E (mj_I0 xs) (mj_S0 L) s.heap ∧ mj_eb E = s.heap.size ∧ mj_eo E 1 = b := by
  obtain ⟨hx, hb, hr, hml, hown, hts, hX, hbl, hlocks, hgv⟩ := C0
  have hF : ∀ w ∈ mj_F, w.before #[Value.ref b] s = true := flat_of_before _ hgv
  have htb : ∀ w ∈ mj_big, w.before #[Value.ref b] s = true := fun w hw => hts w (List.mem_filter.mp hw).1
  have hA : ∀ a : Nat, a < s.heap.size → ¬ (fun q : Nat => s.heap.size ≤ q) a := fun a h q => Nat.not_le.mpr h q
  have hcls : ∀ c, ∃ q : ClassId × (Nat → Nat), c < 13 → u_Kn s (mj_cn c) (mj_cT c) (mj_cN c) q.1 q.2 := by
    intro c
    by_cases hc : c < 13
    · obtain ⟨cC, iS, h⟩ := u_known htb (mj_hin hc) (htb _ (mj_hinst hc).1)
      exact ⟨(cC, iS), fun _ => h⟩
    · exact ⟨(0, fun _ => 0), fun h => absurd h hc⟩
  obtain ⟨f, hf⟩ := Classical.axiomOfChoice hcls
  obtain ⟨-, -, -, -, -, -, -, -, -, -, a1, a2, a3, a4⟩ := mj_fix_ok
  obtain ⟨c20, h20⟩ := mj_apc (fun C h => by cases h) (hts _ a1)
  obtain ⟨c21, h21⟩ := mj_apc (fun C h => by cases h) (hts _ a2)
  obtain ⟨c22, h22⟩ := mj_apc (fun C h => by cases h) (hts _ a3)
  obtain ⟨c23, h23⟩ := mj_apc (fun C h => by cases h) (hts _ a4)
  obtain ⟨c53, h53⟩ := mj_aoc (hts _ mj_wao3)
  obtain ⟨c54, h54⟩ := mj_aoc (hts _ mj_wao4)
  obtain ⟨c55, h55⟩ := mj_aoc (hts _ mj_wao5)
  obtain ⟨c59, h59⟩ := mj_aoc (hts _ mj_wao9)
  obtain ⟨c60, h60⟩ := mj_aoc (hts _ mj_wao10)
  obtain ⟨c61, h61⟩ := mj_aoc (hts _ mj_wao11)
  have hFs : ∀ i, i < 7 → _ := fun i hi => List.all_eq_true.mp mj_Fs i (List.mem_range.mpr hi)
  simp only [Bool.and_eq_true, decide_eq_true_eq] at hFs
  obtain ⟨adK, adV, hS7, hev⟩ := vk_Sof (args := #[Value.ref b]) (s := s) (N := 7) (tm := mj_tmS) (len := mj_sln) (byt := mj_byt) (A := fun q : Nat => s.heap.size ≤ q) (by decide)
    (fun i hi => hF _ (hFs i hi).1.1.1.1) (fun i hi => hF _ (hFs i hi).1.1.1.2) (fun i hi => hF _ (hFs i hi).1.1.2) (fun i hi => hF _ (hFs i hi).1.2) (fun i hi j hj => hF _ (of_decide_eq_true (List.all_eq_true.mp (hFs i hi).2 j (List.mem_range.mpr hj)))) (fun i j hi hj hij => by
      have h := List.all_eq_true.mp (List.all_eq_true.mp mj_Fn i (List.mem_range.mpr hi)) j (List.mem_range.mpr hj)
      simp only [Bool.or_eq_true, decide_eq_true_eq] at h
      rcases h with (h | h) | h
      · exact absurd h hij
      · exact Or.inl (hF _ h)
      · exact Or.inr (hF _ h)) hA
  have hFk := mj_Fk
  simp only [Bool.and_eq_true, decide_eq_true_eq] at hFk
  obtain ⟨tK, hK1, hK2⟩ := va_Tof (args := #[Value.ref b]) (s := s) (tm := mj_kt) (ty := .int) (N := 6) (f := fun j => .int (Int32.ofInt (mj_kab j))) (A := fun q : Nat => s.heap.size ≤ q) (by decide) (hF _ hFk.1.1) (va_eqt (hF _ hFk.1.2)) (fun j hj => va_eqt (hF _ (of_decide_eq_true (List.all_eq_true.mp hFk.2 j (List.mem_range.mpr hj))))) hA
  have hZ1 := va_Zof (hts _ mj_wzk) (hts _ mj_wik) hK1 hA
  have hZ2 := va_Zof (hts _ mj_wzc) (hts _ mj_wic) (va_eqt (hF _ mj_Fc)) hA
  have hZ3 := va_Zqof (hts _ mj_wzf) (hts _ mj_wif) (hF _ mj_Ff) hA
  obtain ⟨fn, t19, hZ3⟩ : ∃ (fn : Bool) (t : Nat), va_Z "jdk/internal/util/Preconditions" "SIOOBE_FORMATTER" "Ljava/util/function/BiFunction;" (va_rf (if fn = true then none else some t)) (fun q : Nat => s.heap.size ≤ q) s s.heap := by
    rcases hZ3 with h | ⟨t, h⟩
    · exact ⟨true, 0, h⟩
    · exact ⟨false, t, h⟩
  let E : mj_E := (fun c => (f c).1, fun c => (f c).2, fun t => if t = 20 then c20 else if t = 21 then c21 else if t = 22 then c22 else if t = 23 then c23 else if t = 53 then c53 else if t = 54 then c54 else if t = 55 then c55 else if t = 59 then c59 else if t = 60 then c60 else c61,
    s.heap.size, fun a => if a = 1 then b else if a = 2 then tK else if a = 19 then t19 else if a < 10 then adK (a - 3) else adV (a - 10), fn, L, xs)
  have eK : ∀ i, i < 7 → mj_eo E (3 + i) = adK i := fun i hi => by
    show (if 3 + i = 1 then b else if 3 + i = 2 then tK else if 3 + i = 19 then t19 else if 3 + i < 10 then adK (3 + i - 3) else adV (3 + i - 10)) = adK i
    rw [if_neg (by omega), if_neg (by omega), if_neg (by omega), if_pos (by omega), show 3 + i - 3 = i by omega]
  have eV : ∀ i, i < 7 → mj_eo E (10 + i) = adV i := fun i hi => by
    show (if 10 + i = 1 then b else if 10 + i = 2 then tK else if 10 + i = 19 then t19 else if 10 + i < 10 then adK (10 + i - 3) else adV (10 + i - 10)) = adV i
    rw [if_neg (by omega), if_neg (by omega), if_neg (by omega), if_neg (by omega), show 10 + i - 10 = i by omega]
  refine ⟨E, ⟨⟨fun c q hq => ?_, fun k q hq => ?_⟩, fun c hc => ?_, fun w hw => ?_, fun i hi => ?_, hZ1, hZ2, ?_, hK2, hX, hbl, ⟨fun i hi => ?_, fun i j hi hj he => ?_⟩, Nat.le_refl _⟩, ⟨fun k q hk => ?_, rfl, mj_ok0 E hL rfl rfl⟩, rfl, rfl⟩
  · have hc : c < 13 := (List.getElem?_eq_some_iff.mp hq).1
    rw [mj_cls_get hc] at hq
    cases hq
    exact hf c hc
  · match k, hq with
    | 0, hq => cases hq; exact h20
    | 1, hq => cases hq; exact h21
    | 2, hq => cases hq; exact h22
    | 3, hq => cases hq; exact h23
    | 4, hq => cases hq; exact h53
    | 5, hq => cases hq; exact h54
    | 6, hq => cases hq; exact h55
    | 7, hq => cases hq; exact h59
    | 8, hq => cases hq; exact h60
    | 9, hq => cases hq; exact h61
    | k + 10, hq => cases hq
  · simp only [mj_aos, List.mem_cons, List.not_mem_nil, or_false] at hc
    rcases hc with rfl | rfl | rfl | rfl | rfl | rfl
    · exact va_AO.of (hts _ mj_wao3)
    · exact va_AO.of (hts _ mj_wao4)
    · exact va_AO.of (hts _ mj_wao5)
    · exact va_AO.of (hts _ mj_wao9)
    · exact va_AO.of (hts _ mj_wao10)
    · exact va_AO.of (hts _ mj_wao11)
  · obtain ⟨a, i, x, q, rfl⟩ := mj_nws_M w hw
    exact va_Nw.of rfl (hts _ (mj_wnw _ hw))
  · rw [eK i hi]
    exact vk_R.of (hts _ (mj_wst i hi)) (hev i hi)
  · have e : mj_rv E 19 = va_rf (if fn = true then none else some t19) := by
      show va_rf (if (19 : Nat) = 0 ∨ ((19 : Nat) = 19 ∧ fn = true) then none else some (if (19 : Nat) < 20 then t19 else _)) = _
      cases fn <;> rfl
    rw [e]
    exact hZ3
  · have h := hS7.1 i hi
    simp only [eK i hi, eV i hi]
    exact h
  · have he : mj_eo E (3 + i) = mj_eo E (3 + j) := he
    rw [eK i hi, eK j hj] at he
    exact hS7.2 i j hi hj he
  · have : mj_ws E (mj_I0 xs) (mj_S0 L) = [] := rfl
    rw [this] at hk
    cases hk
set_option maxHeartbeats 4000000 in
theorem mj_whole (hg : mj_goal) {p : Program} {e : Env} {s : State} {m : MethodId} {below : List Frame} {meth : Method} {c : Code} (l : Launch) {b L : Nat} {xs : Nat → Int32} (hL : L ≤ 384) (C0 : lw_At p s m meth c b L xs) : W p l e room_1 s m #[Value.ref b] below meth c s.heap [] 0 0 (lw_Z below #[Value.ref b] s) (entryFrame m ([Value.ref b] : List Value).toArray 4) := by
  obtain ⟨E, henv, hrep, heb, heo⟩ := mj_begin hL C0
  obtain ⟨hx, hb, hr, hml, hown, hts, hX, hbl, hlocks, hgv⟩ := id C0
  have htb : ∀ w ∈ mj_big, w.before #[Value.ref b] s = true := fun w hw => hts w (List.mem_filter.mp hw).1
  obtain ⟨n, hn⟩ := hg L xs hL
  obtain ⟨r, I', S', ⟨hr1, hc, hs⟩, hex⟩ := mj_wp_ex hn
  subst hr1
  have hv : [Value.ref b] = [(.inr 1 : mj_V)].map (mj_vv E) := by
    show _ = [mj_rv E 1]
    rw [mj_rv_old (by omega) (by omega), heo]
  have hent : mj_oks [(.inr 1 : mj_V)] := fun x hx => by
    rcases List.mem_cons.mp hx with q | q
    · cases q
    · cases q
  have hfr : entryFrame m ([Value.ref b] : List Value).toArray 4 = F0 m 0 ((lg_sl ([(.inr 1 : mj_V)].map (mj_vv E)) ++ List.replicate ((mj_tab 299).1 - (lg_sl ([(.inr 1 : mj_V)].map (mj_vv E))).length) Slot.unset).toArray) [] := by
    rw [hv]
    exact lg_entry_eq _ _ _
  rw [hfr]
  have nx0 : mj_nx (mj_S0 L) = 20 := rfl
  have sl0 : mj_sl (mj_S0 L) = 0 := rfl
  have k := mj_snd_all l E n 500 299 0 (mj_ent 299 [.inr 1]) [] (mj_I0 xs) (mj_S0 L) _ I' S' (by omega) hex p e room_1 s m #[Value.ref b] below meth c s.heap [] 0 0 ((lg_sl ([(.inr 1 : mj_V)].map (mj_vv E)) ++ List.replicate ((mj_tab 299).1 - (lg_sl ([(.inr 1 : mj_V)].map (mj_vv E))).length) Slot.unset).toArray) (lw_Z below #[Value.ref b] s)
    ⟨hx, hb, hml, hown, htb, Or.inr rfl, henv, by decide, by decide⟩ (mj_ent_ok E (by decide) hent) (fun x hx => absurd hx List.not_mem_nil) hrep va_S.rf rfl (by rw [nx0]; show 0 + _ ≤ 600000; omega) (by rw [sl0]; show 0 + _ ≤ 7302250; omega) (fun H' locs' pc lr' g1 g2 g3 => by
      refine va_forget (fun q hq => by have := g2.2.2 q hq; rw [← heb]; exact this) ?_
      refine W.widen (k := 600000) (n := 7302250) (by rw [nx0]; omega) (by rw [sl0]; omega) ?_
      exact lw_ret hx hb hr hlocks g3.1)
  rw [show mj_pc 299 0 = 0 from rfl] at k
  exact k
