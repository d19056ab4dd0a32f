/-! soundness of the mini machine, 1: numbers, environment, cells -/
def mj_R (x : Int) : Prop := -2147483648 ≤ x ∧ x ≤ 2147483647
theorem mj_wr_R (x : Int) : mj_R (mj_wr x) := by unfold mj_R mj_wr; omega
theorem mj_wr_id {x : Int} (h : mj_R x) : mj_wr x = x := by unfold mj_wr; unfold mj_R at h; omega
theorem mj_of {x : Int} (h : mj_R x) : (Int32.ofInt x).toInt = x := by
  unfold mj_R at h
  exact Int32.toInt_ofInt_of_le (by omega) (by omega)
theorem mj_toR (x : Int32) : mj_R x.toInt := by
  have h1 := x.le_toInt
  have h2 := x.toInt_lt
  unfold mj_R
  omega
theorem mj_wr_b (x : Int) : mj_wr x = x.bmod 4294967296 := by
  unfold mj_wr
  rw [Int.bmod_def]
  split <;> omega
theorem mj_of_wr (x : Int) : Int32.ofInt (mj_wr x) = Int32.ofInt x := by
  apply Int32.toInt_inj.mp
  rw [mj_of (mj_wr_R x), Int32.toInt_ofInt]
  exact mj_wr_b x
theorem mj_lt {x y : Int} (hx : mj_R x) (hy : mj_R y) : Int32.ofInt x < Int32.ofInt y ↔ x < y := by rw [Int32.lt_iff_toInt_lt, mj_of hx, mj_of hy]
theorem mj_leI {x y : Int} (hx : mj_R x) (hy : mj_R y) : Int32.ofInt x ≤ Int32.ofInt y ↔ x ≤ y := by rw [Int32.le_iff_toInt_le, mj_of hx, mj_of hy]
theorem mj_eqI {x y : Int} (hx : mj_R x) (hy : mj_R y) : Int32.ofInt x = Int32.ofInt y ↔ x = y := by
  refine ⟨fun h => ?_, fun h => by rw [h]⟩
  have := congrArg Int32.toInt h
  rwa [mj_of hx, mj_of hy] at this
theorem mj_R0 : mj_R 0 := by unfold mj_R; omega
theorem mj_of0 : Int32.ofInt 0 = 0 := rfl
theorem mj_cl {x : Int} (h : mj_R x) : (Int32.ofInt x).toNatClampNeg = x.toNat := by
  show (Int32.ofInt x).toInt.toNat = x.toNat
  rw [mj_of h]
theorem mj_div (x y : Int) (hx : mj_R x) (hy : mj_R y) : Int32.ofInt x / Int32.ofInt y = Int32.ofInt (mj_wr (x.tdiv y)) := by
  apply Int32.toInt_inj.mp
  rw [Int32.toInt_div, mj_of hx, mj_of hy, mj_of (mj_wr_R _)]
  exact (mj_wr_b _).symm
theorem mj_tm (x y : Int) (hx : mj_R x) (hy : mj_R y) (h0 : ¬ y = 0) : mj_R (x.tmod y) := by
  unfold mj_R at *
  have h1 : (x.tmod y).natAbs = x.natAbs % y.natAbs := Int.natAbs_tmod x y
  have h2 : x.natAbs % y.natAbs ≤ x.natAbs := Nat.mod_le _ _
  have h3 : x.natAbs % y.natAbs < y.natAbs := Nat.mod_lt _ (by omega)
  omega
theorem mj_rem (x y : Int) (hx : mj_R x) (hy : mj_R y) (h0 : ¬ y = 0) : Int32.ofInt x - Int32.ofInt x / Int32.ofInt y * Int32.ofInt y = Int32.ofInt (x.tmod y) := by
  rw [mj_div x y hx hy, mj_of_wr, ← Int32.ofInt_mul, ← Int32.ofInt_sub]
  congr 1
  have := Int.tmod_add_mul_tdiv x y
  rw [Int.mul_comm] at this
  omega
/-- classes of objects, their fields' slots; classes of arrays; the first new address; addresses of old cells; is the formatter null; the script -/
abbrev mj_E : Type := (Nat → ClassId) × (Nat → Nat → Nat) × (Nat → ClassId) × Nat × (Nat → Nat) × Bool × Nat × (Nat → Int32)
def mj_eD (E : mj_E) : va_G := (E.1, E.2.1)
def mj_et (E : mj_E) : Nat → ClassId := E.2.2.1
def mj_eb (E : mj_E) : Nat := E.2.2.2.1
def mj_eo (E : mj_E) : Nat → Nat := E.2.2.2.2.1
def mj_ef (E : mj_E) : Bool := E.2.2.2.2.2.1
def mj_eL (E : mj_E) : Nat := E.2.2.2.2.2.2.1
def mj_ex (E : mj_E) : Nat → Int32 := E.2.2.2.2.2.2.2
def mj_eA (E : mj_E) : Nat → Prop := fun q => mj_eb E ≤ q
def mj_ad (E : mj_E) (a : Nat) : Nat := if a < 20 then mj_eo E a else mj_eb E + (a - 20)
def mj_ro (E : mj_E) (a : Nat) : Option Nat := if a = 0 ∨ (a = 19 ∧ mj_ef E = true) then none else some (mj_ad E a)
def mj_rv (E : mj_E) (a : Nat) : Value := va_rf (mj_ro E a)
def mj_vv (E : mj_E) : mj_V → Value
  | .inl x => .int (Int32.ofInt x)
  | .inr a => mj_rv E a
def mj_tys (E : mj_E) : List (ClassId × FieldType) := [(mj_et E 20, .int), (mj_et E 21, .byte), (mj_et E 22, .boolean), (mj_et E 23, .char), (mj_et E 53, .object (mj_cn 3)), (mj_et E 54, .object (mj_cn 4)), (mj_et E 55, .object (mj_cn 5)), (mj_et E 59, .object (mj_cn 9)), (mj_et E 60, .object (mj_cn 10)), (mj_et E 61, .object (mj_cn 11))]
def mj_fv (E : mj_E) (I : mj_I) (S : mj_S) (a t k : Nat) : Value := if mj_fk t k = 1 then mj_rv E (mj_rf S a k) else .int (Int32.ofInt (I a k))
def mj_cell (E : mj_E) (I : mj_I) (S : mj_S) (a : Nat) : va_E :=
  if mj_tg S a < 13 then .inr (mj_tg S a, (List.range (mj_cN (mj_tg S a))).map (mj_fv E I S a (mj_tg S a)))
  else if mj_tg S a < 50 then .inl (mj_et E (mj_tg S a), mj_ln S a, .inl (fun j => Int32.ofInt (I a j)))
  else .inl (mj_et E (mj_tg S a), mj_ln S a, .inr (.inr (.inr (.inr (fun j => mj_ro E (mj_rf S a j))))))
def mj_ws (E : mj_E) (I : mj_I) (S : mj_S) : va_W := (List.range (mj_nx S - 20)).map (fun k => (mj_eb E + k, mj_cell E I S (20 + k)))
theorem mj_ad_new {E : mj_E} {a : Nat} (h : 20 ≤ a) : mj_ad E a = mj_eb E + (a - 20) := by unfold mj_ad; rw [if_neg (by omega)]
theorem mj_ro_new {E : mj_E} {a : Nat} (h : 20 ≤ a) : mj_ro E a = some (mj_ad E a) := by unfold mj_ro; rw [if_neg (by omega)]
theorem mj_rv_new {E : mj_E} {a : Nat} (h : 20 ≤ a) : mj_rv E a = .ref (mj_ad E a) := by unfold mj_rv; rw [mj_ro_new h]; rfl
theorem mj_rv_old {E : mj_E} {a : Nat} (h : 0 < a) (h2 : a < 19) : mj_rv E a = .ref (mj_eo E a) := by
  unfold mj_rv mj_ro mj_ad
  rw [if_neg (by omega), if_pos (by omega)]
  rfl
theorem mj_ws_get (E : mj_E) (I : mj_I) (S : mj_S) {a : Nat} (h1 : 20 ≤ a) (h2 : a < mj_nx S) : (mj_ws E I S)[a - 20]? = some (mj_ad E a, mj_cell E I S a) := by
  unfold mj_ws
  rw [List.getElem?_map, List.getElem?_range (by omega), mj_ad_new h1]
  simp only [Option.map_some]
  rw [show 20 + (a - 20) = a by omega]
theorem mj_ws_inv (E : mj_E) (I : mj_I) (S : mj_S) {k : Nat} {q : Nat × va_E} (h : (mj_ws E I S)[k]? = some q) : k < mj_nx S - 20 ∧ q = (mj_eb E + k, mj_cell E I S (20 + k)) := by
  unfold mj_ws at h
  rw [List.getElem?_map] at h
  by_cases hk : k < mj_nx S - 20
  · rw [List.getElem?_range hk] at h
    exact ⟨hk, (Option.some.inj h).symm⟩
  · rw [List.getElem?_eq_none (by rw [List.length_range]; omega)] at h
    cases h
theorem mj_ws_D (E : mj_E) (I : mj_I) (S : mj_S) : va_D (mj_eA E) (mj_ws E I S) := by
  refine ⟨fun i j p q hi hj e => ?_, fun k q hk => ?_⟩
  · obtain ⟨-, rfl⟩ := mj_ws_inv E I S hi
    obtain ⟨-, rfl⟩ := mj_ws_inv E I S hj
    have : mj_eb E + i = mj_eb E + j := e
    omega
  · obtain ⟨-, rfl⟩ := mj_ws_inv E I S hk
    exact Nat.le_add_right _ _
theorem mj_ws_len (E : mj_E) (I : mj_I) (S : mj_S) : (mj_ws E I S).length = mj_nx S - 20 := by simp [mj_ws]
theorem mj_ws_set (E : mj_E) {I I' : mj_I} {S S' : mj_S} {a : Nat} (h1 : 20 ≤ a) (h2 : a < mj_nx S) (hn : mj_nx S' = mj_nx S) (hc : ∀ b, 20 ≤ b → b ≠ a → mj_cell E I' S' b = mj_cell E I S b) {c : va_E} (he : mj_cell E I' S' a = c) :
    (mj_ws E I S).set (a - 20) (mj_ad E a, c) = mj_ws E I' S' := by
  subst he
  apply List.ext_getElem?
  intro k
  by_cases hk : k = a - 20
  · subst hk
    rw [List.getElem?_set_self (by rw [mj_ws_len]; omega), mj_ws_get E I' S' h1 (by omega)]
  · rw [List.getElem?_set_ne (Ne.symm hk)]
    unfold mj_ws
    rw [hn, List.getElem?_map, List.getElem?_map]
    by_cases hl : k < mj_nx S - 20
    · rw [List.getElem?_range hl]
      simp only [Option.map_some]
      rw [hc (20 + k) (by omega) (by omega)]
    · rw [List.getElem?_eq_none (by rw [List.length_range]; omega)]
      rfl
theorem mj_ws_push (E : mj_E) {I I' : mj_I} {S S' : mj_S} (h20 : 20 ≤ mj_nx S) (hn : mj_nx S' = mj_nx S + 1) (hc : ∀ b, 20 ≤ b → b < mj_nx S → mj_cell E I' S' b = mj_cell E I S b) {c : va_E} (he : mj_cell E I' S' (mj_nx S) = c) :
    mj_ws E I S ++ [(mj_ad E (mj_nx S), c)] = mj_ws E I' S' := by
  subst he
  unfold mj_ws
  rw [hn, show mj_nx S + 1 - 20 = (mj_nx S - 20) + 1 by omega, List.range_succ, List.map_append, mj_ad_new h20]
  congr 1
  · apply List.map_congr_left
    intro k hk
    rw [hc (20 + k) (by omega) (by have := List.mem_range.mp hk; omega)]
  · simp only [List.map_cons, List.map_nil]
    rw [show 20 + (mj_nx S - 20) = mj_nx S by omega]
def mj_otg (a : Nat) : Nat := if a = 1 ∨ a = 2 then 40 else if 3 ≤ a ∧ a < 10 then 41 else if 10 ≤ a ∧ a < 17 then 42 else 19
def mj_kab (j : Nat) : Int := mj_nth 0 [-1, 0, 0, 1, 1, 0] j
def mj_byt : List (List Int32) := [[109, 97, 121], [99, 111, 115, 116], [119, 97, 105, 116], [107, 114, 111, 100], [114, 111, 109], [114, 111, 100], [107, 114, 111, 100, 109]]
def mj_sln : List Nat := [3, 4, 4, 4, 3, 3, 5]
/-- what the old cells hold -/
def mj_old (E : mj_E) (I : mj_I) (S : mj_S) : Prop :=
  mj_ln S 1 = mj_eL E ∧ (∀ j, j < mj_eL E → I 1 j = (mj_ex E j).toInt) ∧ mj_ln S 2 = 6 ∧ (∀ j, j < 6 → I 2 j = mj_kab j) ∧
  ∀ i, i < 7 → mj_rf S (3 + i) 0 = 10 + i ∧ I (3 + i) 1 = 0 ∧ mj_ln S (10 + i) = mj_sln.getD i 0 ∧ ∀ j, j < mj_sln.getD i 0 → I (10 + i) j = ((mj_byt.getD i []).getD j 0).toInt
def mj_ok (E : mj_E) (I : mj_I) (S : mj_S) : Prop :=
  (∀ a k, mj_R (I a k)) ∧ (∀ a k, mj_tg S a = 21 → -128 ≤ I a k ∧ I a k ≤ 127) ∧ 20 ≤ mj_nx S ∧
  (∀ a, 20 ≤ a → a < mj_nx S → (mj_tg S a < 13 ∧ mj_ln S a = mj_cN (mj_tg S a)) ∨ (20 ≤ mj_tg S a ∧ mj_tg S a ≤ 23) ∨ (50 ≤ mj_tg S a ∧ mj_tg S a - 50 ∈ mj_aos)) ∧
  (∀ a, a < 20 ∨ mj_nx S ≤ a → mj_tg S a = mj_otg a) ∧ (∀ a, mj_ln S a ≤ 65536) ∧ mj_old E I S
theorem mj_otg_big {a : Nat} (h : 17 ≤ a) : mj_otg a = 19 := by unfold mj_otg; rw [if_neg (by omega), if_neg (by omega), if_neg (by omega)]
theorem mj_otg_c (a : Nat) : mj_otg a = 40 ∨ mj_otg a = 41 ∨ mj_otg a = 42 ∨ mj_otg a = 19 := by
  unfold mj_otg
  split
  · exact Or.inl rfl
  · split
    · exact Or.inr (Or.inl rfl)
    · split
      · exact Or.inr (Or.inr (Or.inl rfl))
      · exact Or.inr (Or.inr (Or.inr rfl))
/-- a cell whose tag is none of the old ones' is new -/
theorem mj_ok.new {E : mj_E} {I : mj_I} {S : mj_S} (h : mj_ok E I S) {a : Nat} (h1 : mj_tg S a ≠ 40) (h2 : mj_tg S a ≠ 41) (h3 : mj_tg S a ≠ 42) (h4 : mj_tg S a ≠ 19) : 20 ≤ a ∧ a < mj_nx S := by
  by_cases q : a < 20 ∨ mj_nx S ≤ a
  · have e := h.2.2.2.2.1 a q
    rcases mj_otg_c a with w | w | w | w <;> rw [w] at e <;> contradiction
  · omega
/-- the whole picture: cells, size, what holds of the numbers -/
def mj_rep (E : mj_E) (I : mj_I) (S : mj_S) (H : Heap) : Prop := va_P (mj_eD E) mj_cls (mj_ws E I S) H ∧ H.size + 20 = mj_eb E + mj_nx S ∧ mj_ok E I S
def mj_okl (E : mj_E) (ls : mj_L) (lr : Array Slot) (nL : Nat) : Prop := lr.size = nL ∧ ls.length = nL ∧ lv_wf lr ∧ (∀ (k : Nat) (v : mj_V), ls[k]? = some (some v) → lr[k]? = some (Slot.val (mj_vv E v))) ∧ ∀ (k : Nat) (x : Int), ls[k]? = some (some (Sum.inl x)) → mj_R x
def mj_oks (st : List mj_V) : Prop := ∀ x : Int, Sum.inl x ∈ st → mj_R x
/-- what holds of a state that the program never changes -/
def mj_env (E : mj_E) (U : State) : Prop :=
  va_K (mj_eD E) mj_cls (mj_tys E) U ∧ (∀ c ∈ mj_aos, va_AO (mj_cn c) U) ∧ (∀ w ∈ mj_nws, va_Nw w U) ∧ (∀ i, i < 7 → vk_R "WhoSigns$Reader" (mj_six i) (mj_stx i) (mj_eo E (3 + i)) U) ∧
  va_Z "WhoSigns" "KIND_ABOVE" "[I" (.ref (mj_eo E 2)) (mj_eA E) U U.heap ∧ va_Z "java/lang/String" "COMPACT_STRINGS" "Z" (.int 1) (mj_eA E) U U.heap ∧
  va_Z "jdk/internal/util/Preconditions" "SIOOBE_FORMATTER" "Ljava/util/function/BiFunction;" (mj_rv E 19) (mj_eA E) U U.heap ∧
  va_T .int (mj_eo E 2) 6 (fun j => .int (Int32.ofInt (mj_kab j))) (mj_eA E) U U.heap ∧ va_X (mj_eo E 1) (mj_eL E) (mj_ex E) U U.heap ∧ mj_eo E 1 < mj_eb E ∧
  vk_S 7 mj_sln mj_byt (fun i => mj_eo E (3 + i)) (fun i => mj_eo E (10 + i)) (mj_eA E) U U.heap ∧ mj_eb E ≤ U.heap.size
theorem mj_nws_M : ∀ w ∈ mj_nws, ∃ a i x h, w = .methodLinkNest a i x h := by
  intro w hw
  simp only [mj_nws, List.mem_cons, List.not_mem_nil, or_false] at hw
  repeat' (first | (rcases hw with rfl | hw; exact ⟨_, _, _, _, rfl⟩) | (subst hw; exact ⟨_, _, _, _, rfl⟩))
theorem mj_env.moved {E : mj_E} {s U : State} (h : mj_env E s) (hW : s.WarmedH U.vm) (hz : mj_eb E ≤ U.heap.size) (hk : ∀ a : Nat, a < s.heap.size → ¬ mj_eA E a → U.heap[a]? = s.heap[a]?) : mj_env E U := by
  obtain ⟨h1, h2, h3, h4, h5, h6, h7, h8, h9, h10, h11, h12⟩ := h
  have al := hW.alike
  refine ⟨va_K.moved al h1, fun c hc => va_AO.moved al (h2 c hc), fun w hw => ?_, fun i hi => vk_R.warm hW (h4 i hi), (va_Z.moved al h5).kept hk, (va_Z.moved al h6).kept hk, (va_Z.moved al h7).kept hk, (va_T.moved al h8).kept hk, (va_X.moved al h9).kept (hk _ (by omega) (by unfold mj_eA; omega)), h10, (vk_S.moved al h11).kept hk, hz⟩
  obtain ⟨a, i, x, q, rfl⟩ := mj_nws_M w hw
  exact va_Nw.warmM hW (h3 _ hw)
