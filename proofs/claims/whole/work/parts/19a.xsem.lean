/-! the typed executor: what one instruction does -/
def x_tag (S : mj_S) (r a t : Nat) (K : Prop) : Prop := match Nat.beq r 0 with
  | true => mj_tg S a = t ∧ K
  | false => (match Nat.beq r (t + 1) with
    | true => K
    | false => False)
theorem x_tag_s {S : mj_S} {r b a n t : Nat} {K : Prop} (h : xok S (r, b, a, n)) (k : x_tag S r a t K) : mj_tg S a = t ∧ K := by
  unfold x_tag at k
  split at k
  · exact k
  · rename_i e
    split at k
    · rename_i e2
      rcases h with h | h
      · have h : r = 0 := h
        subst h
        exact absurd e (by decide)
      · have h1 : mj_tg S a + 1 = r := h.1
        have h2 := Nat.eq_of_beq_eq_true e2
        exact ⟨by omega, k⟩
    · exact False.elim k
def x_ix (S : mj_S) (r a n : Nat) (j : Int) (t u : Nat) (K : Prop) : Prop := match Nat.beq r 0 with
  | true => (mj_ai S a j t u ∧ j < 1610) ∧ K
  | false => (match Nat.beq r (t + 1) && Nat.ble n 1610 with
    | true => (0 ≤ j ∧ j < (n : Int)) ∧ K
    | false => False)
theorem x_ix_s {S : mj_S} {r b a n t u : Nat} {j : Int} {K : Prop} (h : xok S (r, b, a, n)) (ht : 20 ≤ t) (k : x_ix S r a n j t u K) : mj_ai S a j t u ∧ j < 1610 ∧ K := by
  unfold x_ix at k
  split at k
  · exact ⟨k.1.1, k.1.2, k.2⟩
  · rename_i e
    split at k
    · rename_i e2
      simp only [Bool.and_eq_true, Nat.ble_eq, Nat.beq_eq] at e2
      rcases h with h | h
      · have h : r = 0 := h
        subst h
        exact absurd e (by decide)
      · have h1 : mj_tg S a + 1 = r := h.1
        have h2 := e2.1
        have h3 : mj_ln S a = n := h.2.1 (show 21 ≤ r by omega)
        exact ⟨⟨Or.inl (by omega), k.1.1, by rw [h3]; exact k.1.2⟩, by omega, k.2⟩
    · exact False.elim k
def x_iq (S : mj_S) (r b a n : Nat) (j : Int) (K : xR → Prop) : Prop := match Nat.ble 51 r with
  | true => (match x_elm r b j.toNat with
    | some q => (0 ≤ j ∧ j < (n : Int)) ∧ K q
    | none => (0 ≤ j ∧ j < (n : Int)) ∧ K (0, 0, mj_rf S a j.toNat, 0))
  | false => mj_aq S a j ∧ K (0, 0, mj_rf S a j.toNat, 0)
theorem x_iq_s {S : mj_S} (hS : mk_Sh S) {r b a n : Nat} {j : Int} {K : xR → Prop} (h : xok S (r, b, a, n)) (k : x_iq S r b a n j K) : mj_aq S a j ∧ ∃ q : xR, mj_rf S a j.toNat = q.2.2.1 ∧ xok S q ∧ K q := by
  unfold x_iq at k
  split at k
  · rename_i e
    have e1 : 51 ≤ r := Nat.le_of_ble_eq_true e
    have key : (0 ≤ j ∧ j < (n : Int)) → mj_aq S a j := by
      intro hj
      rcases h with h | h
      · have h : r = 0 := h
        omega
      · have h1 : mj_tg S a + 1 = r := h.1
        have h3 : mj_ln S a = n := h.2.1 (show 21 ≤ r by omega)
        exact ⟨by omega, hj.1, by rw [h3]; exact hj.2⟩
    split at k
    · rename_i q e2
      refine ⟨key k.1, q, ?_⟩
      have h4 := x_F3 hS h (show j.toNat < n by omega) (by omega) e2
      exact ⟨h4.1, h4.2, k.2⟩
    · exact ⟨key k.1, _, rfl, Or.inl rfl, k.2⟩
  · exact ⟨k.1, _, rfl, Or.inl rfl, k.2⟩
def x_rf (S : mj_S) (r b a k : Nat) (K : xR → Prop) : Prop := match x_fld r b a k with
  | some q => K q
  | none => K (0, 0, mj_rf S a k, 0)
theorem x_rf_s {S : mj_S} (hS : mk_Sh S) {r b a n k : Nat} {K : xR → Prop} (h : xok S (r, b, a, n)) (w : x_rf S r b a k K) : ∃ q : xR, mj_rf S a k = q.2.2.1 ∧ xok S q ∧ K q := by
  unfold x_rf at w
  split at w
  · rename_i q e
    exact ⟨q, (x_F2 hS h e).1, (x_F2 hS h e).2, w⟩
  · exact ⟨_, rfl, Or.inl rfl, w⟩
/-- a sum, a product ..: within its bounds (false), or wrapped (true) -/
def x_ar (ov : Bool) (e : Int) (K : Int → Prop) : Prop := match ov with
  | true => K (mj_wr e)
  | false => (-2147483648 ≤ e ∧ e ≤ 2147483647) ∧ K e
theorem x_ar_s {ov : Bool} {e : Int} {K : Int → Prop} (h : x_ar ov e K) : K (mj_wr e) := by
  unfold x_ar at h
  split at h
  · exact h
  · rw [mj_wr_id h.1]
    exact h.2
def x_len (S : mj_S) (r a n : Nat) (K : Int → Prop) : Prop := match Nat.ble 21 r with
  | true => (match Nat.beq r 42 with
    | true => False
    | false => K (n : Int))
  | false => (20 ≤ mj_tg S a ∧ ¬ mj_tg S a = 41) ∧ K (mj_ln S a : Int)
theorem x_len_s {S : mj_S} {r b a n : Nat} {K : Int → Prop} (h : xok S (r, b, a, n)) (k : x_len S r a n K) : (20 ≤ mj_tg S a ∧ ¬ mj_tg S a = 41) ∧ K (mj_ln S a : Int) := by
  unfold x_len at k
  split at k
  · rename_i e
    have e1 : 21 ≤ r := Nat.le_of_ble_eq_true e
    split at k
    · exact False.elim k
    · rename_i e2
      have e3 : r ≠ 42 := fun z => by subst z; exact absurd e2 (by decide)
      rcases h with h | h
      · have h : r = 0 := h
        omega
      · have h1 : mj_tg S a + 1 = r := h.1
        have h3 : mj_ln S a = n := h.2.1 e1
        rw [h3]
        exact ⟨⟨by omega, by omega⟩, k⟩
  · exact k
def x_args : Nat → List xV → List xV → Option (List xV × List xV)
  | 0, st, acc => some (acc, st)
  | n + 1, v :: st, acc => x_args n st (v :: acc)
  | _ + 1, [], _ => none
theorem x_args_s {S : mj_S} : ∀ {n : Nat} {st acc as rest : List xV}, x_args n st acc = some (as, rest) → xokS S st → xokS S acc → mj_args n (st.map xe) (acc.map xe) = some (as.map xe, rest.map xe) ∧ xokS S as ∧ xokS S rest
  | 0, st, acc, as, rest, h, h1, h2 => by
    cases h
    exact ⟨rfl, h2, h1⟩
  | n + 1, [], acc, as, rest, h, h1, h2 => by cases h
  | n + 1, v :: st, acc, as, rest, h, h1, h2 => x_args_s (n := n) (st := st) (acc := v :: acc) h h1.2 ⟨h1.1, h2⟩
def x_rcv (S : mj_S) (p : Nat) (as : List xV) (K : Prop) : Prop := match p, as with
  | 0, _ => K
  | c + 1, .inr (r, _, a, _) :: _ => x_tag S r a c K
  | _, _ => False
theorem x_rcv_s {S : mj_S} {p : Nat} {as : List xV} {K : Prop} (h : xokS S as) (k : x_rcv S p as K) : mj_rcv p S (as.map xe) K := by
  unfold x_rcv at k
  split at k
  · exact k
  · exact x_tag_s h.1 k
  · exact False.elim k
def x_res (S : mj_S) (h : Nat) (r : Option mj_V) (K : List xV → Prop) (rest : List xV) : Prop := match h, r with
  | 0, none => K rest
  | 1, some (.inl x) => K (.inl x :: rest)
  | 1, some (.inr a) => ∃ q : xR, (q.2.2.1 = a ∧ xok S q) ∧ K (.inr q :: rest)
  | _, _ => False
theorem x_res_s {S : mj_S} {h : Nat} {r : Option mj_V} {K : List xV → Prop} {K' : List mj_V → Prop} {rest : List xV} (hr : xokS S rest) (hK : ∀ st, xokS S st → K st → K' (st.map xe)) (k : x_res S h r K rest) : mj_res h r K' (rest.map xe) := by
  unfold x_res at k
  split at k
  · exact hK _ hr k
  · rename_i x
    exact hK (.inl x :: rest) ⟨trivial, hr⟩ k
  · obtain ⟨q, ⟨q1, q2⟩, q3⟩ := k
    have := hK (.inr q :: rest) ⟨q2, hr⟩ q3
    subst q1
    exact this
  · exact False.elim k
theorem x_nth {ls : xL} : ∀ (k : Nat), mj_nth none (ls.map xeo) k = xeo (mj_nth none ls k) := by
  induction ls with
  | nil => intro k; rw [List.map_nil, mj_nth_nil, mj_nth_nil]; rfl
  | cons v l ih =>
    intro k
    cases k with
    | zero => rfl
    | succ k => exact ih k
theorem x_nth_ok {S : mj_S} {ls : xL} (h : xokL S ls) : ∀ (k : Nat), xokO S (mj_nth none ls k) := by
  induction ls with
  | nil => intro k; rw [mj_nth_nil]; exact trivial
  | cons v l ih =>
    intro k
    cases k with
    | zero => exact h.1
    | succ k => exact ih h.2 k
theorem x_set_ok {S : mj_S} {ls : xL} (h : xokL S ls) {v : Option xV} (hv : xokO S v) : ∀ (k : Nat), xokL S (ls.set k v) := by
  induction ls with
  | nil => intro k; exact trivial
  | cons w l ih =>
    intro k
    cases k with
    | zero => exact ⟨hv, h.2⟩
    | succ k => exact ⟨h.1, ih h.2 k⟩
def x_sem (S : mj_S) (ov : Bool) (c : mj_Ins) (i : Nat) (ls : xL) (st : List xV) (I : mj_I) (go : Nat → xL → List xV → mj_I → Prop) (call : Nat → List mj_V → mj_Q → Prop) (ret : Option mj_V → Prop) : Prop :=
  match c with
  | (o, p1, p2, p3, sw) => match o with
  | .iconst n => go (i + 1) ls (.inl n :: st) I
  | .aconst_null => go (i + 1) ls (.inr (0, 0, 0, 0) :: st) I
  | .ldc k => go (i + 1) ls (.inr (0, 0, k, 0) :: st) I
  | .iload k => (match mj_nth none ls k with
    | some (.inl x) => go (i + 1) ls (.inl x :: st) I
    | _ => False)
  | .aload k => (match mj_nth none ls k with
    | some (.inr q) => go (i + 1) ls (.inr q :: st) I
    | _ => False)
  | .istore k => (match st with
    | .inl x :: r => go (i + 1) (ls.set k (some (.inl x))) r I
    | _ => False)
  | .astore k => (match st with
    | .inr q :: r => go (i + 1) (ls.set k (some (.inr q))) r I
    | _ => False)
  | .iinc k n => (match mj_nth none ls k with
    | some (.inl x) => x_ar ov (x + n) (fun z => go (i + 1) (ls.set k (some (.inl z))) st I)
    | _ => False)
  | .pop => (match st with
    | _ :: r => go (i + 1) ls r I
    | _ => False)
  | .dup => (match st with
    | v :: r => go (i + 1) ls (v :: v :: r) I
    | _ => False)
  | .dup_x1 => (match st with
    | w :: v :: r => go (i + 1) ls (w :: v :: w :: r) I
    | _ => False)
  | .dup2 => (match st with
    | w :: v :: r => go (i + 1) ls (w :: v :: w :: v :: r) I
    | _ => False)
  | .iadd => (match st with
    | .inl y :: .inl x :: r => x_ar ov (x + y) (fun z => go (i + 1) ls (.inl z :: r) I)
    | _ => False)
  | .isub => (match st with
    | .inl y :: .inl x :: r => x_ar ov (x - y) (fun z => go (i + 1) ls (.inl z :: r) I)
    | _ => False)
  | .imul => (match st with
    | .inl y :: .inl x :: r => x_ar ov (x * y) (fun z => go (i + 1) ls (.inl z :: r) I)
    | _ => False)
  | .idiv => (match st with
    | .inl y :: .inl x :: r => ¬ y = 0 ∧ x_ar ov (x.tdiv y) (fun z => go (i + 1) ls (.inl z :: r) I)
    | _ => False)
  | .irem => (match st with
    | .inl y :: .inl x :: r => ¬ y = 0 ∧ go (i + 1) ls (.inl (x.tmod y) :: r) I
    | _ => False)
  | .ineg => (match st with
    | .inl x :: r => x_ar ov (-x) (fun z => go (i + 1) ls (.inl z :: r) I)
    | _ => False)
  | .iand => (match st with
    | .inl y :: .inl x :: r => go (i + 1) ls (.inl (mj_and x y) :: r) I
    | _ => False)
  | .ior => (match st with
    | .inl y :: .inl x :: r => go (i + 1) ls (.inl (mj_or x y) :: r) I
    | _ => False)
  | .ixor => (match st with
    | .inl y :: .inl x :: r => go (i + 1) ls (.inl (mj_xor x y) :: r) I
    | _ => False)
  | .ishl => (match st with
    | .inl y :: .inl x :: r => go (i + 1) ls (.inl (mj_shl x y) :: r) I
    | _ => False)
  | .ishr => (match st with
    | .inl y :: .inl x :: r => go (i + 1) ls (.inl (mj_shr x y) :: r) I
    | _ => False)
  | .iushr => (match st with
    | .inl y :: .inl x :: r => go (i + 1) ls (.inl (mj_ushr x y) :: r) I
    | _ => False)
  | .i2b => (match st with
    | .inl x :: r => go (i + 1) ls (.inl (mj_b8 x) :: r) I
    | _ => False)
  | .i2c => (match st with
    | .inl x :: r => go (i + 1) ls (.inl (mj_c16 x) :: r) I
    | _ => False)
  | .dmul => (match st with
    | .inl y :: .inl x :: r => (match Nat.ble r.length 8 with
      | true => go (i + 1) ls (.inl (min x y) :: r) I
      | false => False)
    | _ => False)
  | .ddiv => (match st with
    | .inl y :: .inl x :: r => (match Nat.ble r.length 8 with
      | true => go (i + 1) ls (.inl (max x y) :: r) I
      | false => False)
    | _ => False)
  | .ifCond cd _ => (match cd, st with
    | .eq, .inl x :: r => (x = 0 → go p1 ls r I) ∧ (¬ x = 0 → go (i + 1) ls r I)
    | .ne, .inl x :: r => (¬ x = 0 → go p1 ls r I) ∧ (x = 0 → go (i + 1) ls r I)
    | .lt, .inl x :: r => (x < 0 → go p1 ls r I) ∧ (¬ x < 0 → go (i + 1) ls r I)
    | .ge, .inl x :: r => (0 ≤ x → go p1 ls r I) ∧ (¬ 0 ≤ x → go (i + 1) ls r I)
    | .gt, .inl x :: r => (0 < x → go p1 ls r I) ∧ (¬ 0 < x → go (i + 1) ls r I)
    | .le, .inl x :: r => (x ≤ 0 → go p1 ls r I) ∧ (¬ x ≤ 0 → go (i + 1) ls r I)
    | _, _ => False)
  | .if_icmp cd _ => (match cd, st with
    | .eq, .inl y :: .inl x :: r => (x = y → go p1 ls r I) ∧ (¬ x = y → go (i + 1) ls r I)
    | .ne, .inl y :: .inl x :: r => (¬ x = y → go p1 ls r I) ∧ (x = y → go (i + 1) ls r I)
    | .lt, .inl y :: .inl x :: r => (x < y → go p1 ls r I) ∧ (¬ x < y → go (i + 1) ls r I)
    | .ge, .inl y :: .inl x :: r => (y ≤ x → go p1 ls r I) ∧ (¬ y ≤ x → go (i + 1) ls r I)
    | .gt, .inl y :: .inl x :: r => (y < x → go p1 ls r I) ∧ (¬ y < x → go (i + 1) ls r I)
    | .le, .inl y :: .inl x :: r => (x ≤ y → go p1 ls r I) ∧ (¬ x ≤ y → go (i + 1) ls r I)
    | _, _ => False)
  | .ifnull _ => (match st with
    | .inr (_, _, a, _) :: r => ¬ a = 19 ∧ ((a = 0 → go p1 ls r I) ∧ (¬ a = 0 → go (i + 1) ls r I))
    | _ => False)
  | .ifnonnull _ => (match st with
    | .inr (_, _, a, _) :: r => ¬ a = 19 ∧ ((¬ a = 0 → go p1 ls r I) ∧ (a = 0 → go (i + 1) ls r I))
    | _ => False)
  | .goto _ => go p1 ls st I
  | .lookupswitch _ _ => (match st with
    | .inl x :: r => mj_sw x (fun t => go t ls r I) p1 sw
    | _ => False)
  | .getfield k => (match p2, st with
    | 1, .inr (r, b, a, _) :: w => x_tag S r a p1 (x_rf S r b a k (fun q => go (i + 1) ls (.inr q :: w) I))
    | _, .inr (r, _, a, _) :: w => x_tag S r a p1 (go (i + 1) ls (.inl (I a k) :: w) I)
    | _, _ => False)
  | .putfield k => (match p2, st with
    | 0, .inl x :: .inr (r, _, a, _) :: w => x_tag S r a p1 (go (i + 1) ls w (mj_up I a k x))
    | 2, .inl x :: .inr (r, _, a, _) :: w => x_tag S r a p1 ((x = 0 ∨ x = 1) ∧ go (i + 1) ls w (mj_up I a k x))
    | _, _ => False)
  | .iaload => (match st with
    | .inl j :: .inr (r, _, a, n) :: w => x_ix S r a n j 20 40 (go (i + 1) ls (.inl (rd I a j) :: w) I)
    | _ => False)
  | .baload => (match st with
    | .inl j :: .inr (r, _, a, n) :: w => x_ix S r a n j 21 42 (go (i + 1) ls (.inl (rd I a j) :: w) I)
    | _ => False)
  | .saload => (match st with
    | .inl j :: .inr (r, _, a, n) :: w => x_ix S r a n j 22 22 (go (i + 1) ls (.inl (rd I a j) :: w) I)
    | _ => False)
  | .caload => (match st with
    | .inl j :: .inr (r, _, a, n) :: w => x_ix S r a n j 23 23 (go (i + 1) ls (.inl (rd I a j) :: w) I)
    | _ => False)
  | .aaload => (match st with
    | .inl j :: .inr (r, b, a, n) :: w => x_iq S r b a n j (fun q => go (i + 1) ls (.inr q :: w) I)
    | _ => False)
  | .iastore => (match st with
    | .inl x :: .inl j :: .inr (r, _, a, n) :: w => x_ix S r a n j 20 20 (go (i + 1) ls w (up I a j x))
    | _ => False)
  | .bastore => (match st with
    | .inl x :: .inl j :: .inr (r, _, a, n) :: w => x_ix S r a n j 21 21 (go (i + 1) ls w (up I a j (mj_b8 x)))
    | _ => False)
  | .sastore => (match st with
    | .inl x :: .inl j :: .inr (r, _, a, n) :: w => x_ix S r a n j 22 22 ((x = 0 ∨ x = 1) ∧ go (i + 1) ls w (up I a j x))
    | _ => False)
  | .arraylength => (match st with
    | .inr (r, _, a, n) :: w => x_len S r a n (fun z => go (i + 1) ls (.inl z :: w) I)
    | _ => False)
  | .invokestatic y => (match x_args p1 st [] with
    | some (as, rest) => (match Nat.ble rest.length 8 with
      | true => x_rcv S p3 as (call y (x_raw as) (fun r I' S' => S' = S ∧ x_res S p2 r (fun st' => go (i + 1) ls st' I') rest))
      | false => False)
    | none => False)
  | .invokedynamic _ => (match st with
    | .inl n :: .inl dp :: .inr (r1, _, b, m1) :: .inl sp :: .inr (r2, _, a, m2) :: r => (match Nat.ble r.length 8, Nat.beq r1 r2, (Nat.beq r1 21 || Nat.beq r1 22) with
      | true, true, true => ((0 ≤ sp ∧ 0 ≤ dp) ∧ 0 ≤ n ∧ sp + n ≤ (m2 : Int) ∧ dp + n ≤ (m1 : Int)) ∧ go (i + 1) ls r (mj_cp I a sp.toNat b dp.toNat n.toNat)
      | _, _, _ => False)
    | _ => False)
  | .ireturn => (match st with
    | [.inl x] => mj_rt p1 (.inl x) (ret (some (.inl x)))
    | [.inr (_, _, a, _)] => mj_rt p1 (.inr a) (ret (some (.inr a)))
    | _ => False)
  | .return_ => (match st with
    | [] => ret none
    | _ => False)
  | _ => False
