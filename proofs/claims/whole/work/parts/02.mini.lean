/-! mini machine (dmul, ddiv stand for Math.min, Math.max; monitorenter for Object.<init>; invokedynamic for System.arraycopy; saload, sastore for rows of booleans): values, memory, what one instruction does (as a predicate transformer), runs -/
abbrev mj_V : Type := Int ⊕ Nat
abbrev mj_I : Type := Nat → Nat → Int
abbrev mj_S : Type := (Nat → Nat → Nat) × (Nat → Nat × Nat) × Nat × Nat
abbrev mj_L : Type := List (Option mj_V)
abbrev mj_Ins : Type := Instr × Nat × Nat × Nat × List (Int × Nat)
abbrev mj_Q : Type := Option mj_V → mj_I → mj_S → Prop
/-- an int, wrapped into 32 bits -/
def mj_wr (x : Int) : Int := (x + 2147483648) % 4294967296 - 2147483648
def mj_rf (S : mj_S) (a k : Nat) : Nat := S.1 a k
def mj_tg (S : mj_S) (a : Nat) : Nat := (S.2.1 a).1
def mj_ln (S : mj_S) (a : Nat) : Nat := (S.2.1 a).2
def mj_nx (S : mj_S) : Nat := S.2.2.1
def mj_sl (S : mj_S) : Nat := S.2.2.2
def mj_up (I : mj_I) (a k : Nat) (x : Int) : mj_I := fun b j => if b = a ∧ j = k then x else I b j
def mj_ur (S : mj_S) (a k : Nat) (v : Nat) : mj_S := (fun b j => if b = a ∧ j = k then v else S.1 b j, S.2.1, S.2.2.1, S.2.2.2)
def mj_z (I : mj_I) (n : Nat) : mj_I := fun b j => if b = n then 0 else I b j
/-- one more cell: its tag, its length, its slots -/
def mj_nw (S : mj_S) (t len : Nat) : mj_S := (fun b j => if b = S.2.2.1 then 0 else S.1 b j, fun b => if b = S.2.2.1 then (t, len) else S.2.1 b, S.2.2.1 + 1, S.2.2.2 + len)
def mj_cp (I : mj_I) (a sp b dp n : Nat) : mj_I := fun c j => if c = b ∧ dp ≤ j ∧ j < dp + n then I a (sp + (j - dp)) else I c j
def mj_and (x y : Int) : Int := (Int32.ofInt x &&& Int32.ofInt y).toInt
def mj_or (x y : Int) : Int := (Int32.ofInt x ||| Int32.ofInt y).toInt
def mj_xor (x y : Int) : Int := (Int32.ofInt x ^^^ Int32.ofInt y).toInt
def mj_shl (x y : Int) : Int := (Int32.ofInt x <<< (Int32.ofInt y &&& 31)).toInt
def mj_shr (x y : Int) : Int := (Int32.ofInt x >>> (Int32.ofInt y &&& 31)).toInt
def mj_ushr (x y : Int) : Int := ((Int32.ofInt x).toUInt32 >>> ((Int32.ofInt y).toUInt32 &&& Int32.toUInt32 31)).toInt32.toInt
def mj_b8 (x : Int) : Int := (Int32.ofInt x).toInt8.toInt32.toInt
def mj_c16 (x : Int) : Int := ((Int32.ofInt x).toUInt32 % 65536).toInt32.toInt
def mj_nth {α : Type} (d : α) : List α → Nat → α
  | [], _ => d
  | x :: _, 0 => x
  | _ :: l, n + 1 => mj_nth d l n
def mj_sw (x : Int) (k : Nat → Prop) (d : Nat) : List (Int × Nat) → Prop
  | [] => k d
  | q :: l => (x = q.1 → k q.2) ∧ (¬ x = q.1 → mj_sw x k d l)
/-- an array's place: its tag is one of two, the index is inside -/
def mj_ai (S : mj_S) (a : Nat) (j : Int) (t u : Nat) : Prop := (mj_tg S a = t ∨ mj_tg S a = u) ∧ 0 ≤ j ∧ j < (mj_ln S a : Int)
def mj_aq (S : mj_S) (a : Nat) (j : Int) : Prop := 50 ≤ mj_tg S a ∧ 0 ≤ j ∧ j < (mj_ln S a : Int)
/-- what may be returned: 0 an int, 1 a boolean, 2 a char, 3 a byte, 4 a reference -/
def mj_rt (t : Nat) (v : mj_V) (K : Prop) : Prop := match t, v with
  | 0, .inl _ => K
  | 1, .inl x => (x = 0 ∨ x = 1) ∧ K
  | 2, .inl x => (0 ≤ x ∧ x ≤ 65535) ∧ K
  | 3, .inl x => (-128 ≤ x ∧ x ≤ 127) ∧ K
  | 4, .inr _ => K
  | _, _ => False
def mj_res (h : Nat) (r : Option mj_V) (K : List mj_V → Prop) (rest : List mj_V) : Prop := match h, r with
  | 0, none => K rest
  | 1, some v => K (v :: rest)
  | _, _ => False
def mj_rcv (p : Nat) (S : mj_S) (as : List mj_V) (K : Prop) : Prop := match p, as with
  | 0, _ => K
  | c + 1, .inr a :: _ => mj_tg S a = c ∧ K
  | _, _ => False
/-- the arguments of a call, the last on top -/
def mj_args : Nat → List mj_V → List mj_V → Option (List mj_V × List mj_V)
  | 0, st, acc => some (acc, st)
  | n + 1, v :: st, acc => mj_args n st (v :: acc)
  | _ + 1, [], _ => none
def mj_sem (c : mj_Ins) (i : Nat) (ls : mj_L) (st : List mj_V) (I : mj_I) (S : mj_S) (go : Nat → mj_L → List mj_V → mj_I → mj_S → Prop) (call : Nat → List mj_V → mj_Q → Prop) (ret : Option mj_V → Prop) : Prop :=
  match c.1 with
  | .iconst n => go (i + 1) ls (.inl n :: st) I S
  | .aconst_null => go (i + 1) ls (.inr 0 :: st) I S
  | .ldc k => go (i + 1) ls (.inr k :: st) I S
  | .iload k => (match mj_nth none ls k with
    | some (.inl x) => go (i + 1) ls (.inl x :: st) I S
    | _ => False)
  | .aload k => (match mj_nth none ls k with
    | some (.inr a) => go (i + 1) ls (.inr a :: st) I S
    | _ => False)
  | .istore k => (match st with
    | .inl x :: r => go (i + 1) (ls.set k (some (.inl x))) r I S
    | _ => False)
  | .astore k => (match st with
    | .inr a :: r => go (i + 1) (ls.set k (some (.inr a))) r I S
    | _ => False)
  | .iinc k n => (match mj_nth none ls k with
    | some (.inl x) => go (i + 1) (ls.set k (some (.inl (mj_wr (x + n))))) st I S
    | _ => False)
  | .pop => (match st with
    | _ :: r => go (i + 1) ls r I S
    | _ => False)
  | .dup => (match st with
    | v :: r => go (i + 1) ls (v :: v :: r) I S
    | _ => False)
  | .dup_x1 => (match st with
    | w :: v :: r => go (i + 1) ls (w :: v :: w :: r) I S
    | _ => False)
  | .dup2 => (match st with
    | w :: v :: r => go (i + 1) ls (w :: v :: w :: v :: r) I S
    | _ => False)
  | .iadd => (match st with
    | .inl y :: .inl x :: r => go (i + 1) ls (.inl (mj_wr (x + y)) :: r) I S
    | _ => False)
  | .isub => (match st with
    | .inl y :: .inl x :: r => go (i + 1) ls (.inl (mj_wr (x - y)) :: r) I S
    | _ => False)
  | .imul => (match st with
    | .inl y :: .inl x :: r => go (i + 1) ls (.inl (mj_wr (x * y)) :: r) I S
    | _ => False)
  | .idiv => (match st with
    | .inl y :: .inl x :: r => ¬ y = 0 ∧ go (i + 1) ls (.inl (mj_wr (x.tdiv y)) :: r) I S
    | _ => False)
  | .irem => (match st with
    | .inl y :: .inl x :: r => ¬ y = 0 ∧ go (i + 1) ls (.inl (x.tmod y) :: r) I S
    | _ => False)
  | .ineg => (match st with
    | .inl x :: r => go (i + 1) ls (.inl (mj_wr (-x)) :: r) I S
    | _ => False)
  | .iand => (match st with
    | .inl y :: .inl x :: r => go (i + 1) ls (.inl (mj_and x y) :: r) I S
    | _ => False)
  | .ior => (match st with
    | .inl y :: .inl x :: r => go (i + 1) ls (.inl (mj_or x y) :: r) I S
    | _ => False)
  | .ixor => (match st with
    | .inl y :: .inl x :: r => go (i + 1) ls (.inl (mj_xor x y) :: r) I S
    | _ => False)
  | .ishl => (match st with
    | .inl y :: .inl x :: r => go (i + 1) ls (.inl (mj_shl x y) :: r) I S
    | _ => False)
  | .ishr => (match st with
    | .inl y :: .inl x :: r => go (i + 1) ls (.inl (mj_shr x y) :: r) I S
    | _ => False)
  | .iushr => (match st with
    | .inl y :: .inl x :: r => go (i + 1) ls (.inl (mj_ushr x y) :: r) I S
    | _ => False)
  | .i2b => (match st with
    | .inl x :: r => go (i + 1) ls (.inl (mj_b8 x) :: r) I S
    | _ => False)
  | .i2c => (match st with
    | .inl x :: r => go (i + 1) ls (.inl (mj_c16 x) :: r) I S
    | _ => False)
  | .dmul => (match st with
    | .inl y :: .inl x :: r => (match Nat.ble r.length 8 with
      | true => go (i + 1) ls (.inl (min x y) :: r) I S
      | false => False)
    | _ => False)
  | .ddiv => (match st with
    | .inl y :: .inl x :: r => (match Nat.ble r.length 8 with
      | true => go (i + 1) ls (.inl (max x y) :: r) I S
      | false => False)
    | _ => False)
  | .monitorenter => (match st with
    | .inr a :: r => (match Nat.ble r.length 8 with
      | true => 20 ≤ a ∧ go (i + 1) ls r I S
      | false => False)
    | _ => False)
  | .ifCond cd _ => (match cd, st with
    | .eq, .inl x :: r => (x = 0 → go c.2.1 ls r I S) ∧ (¬ x = 0 → go (i + 1) ls r I S)
    | .ne, .inl x :: r => (¬ x = 0 → go c.2.1 ls r I S) ∧ (x = 0 → go (i + 1) ls r I S)
    | .lt, .inl x :: r => (x < 0 → go c.2.1 ls r I S) ∧ (¬ x < 0 → go (i + 1) ls r I S)
    | .ge, .inl x :: r => (0 ≤ x → go c.2.1 ls r I S) ∧ (¬ 0 ≤ x → go (i + 1) ls r I S)
    | .gt, .inl x :: r => (0 < x → go c.2.1 ls r I S) ∧ (¬ 0 < x → go (i + 1) ls r I S)
    | .le, .inl x :: r => (x ≤ 0 → go c.2.1 ls r I S) ∧ (¬ x ≤ 0 → go (i + 1) ls r I S)
    | _, _ => False)
  | .if_icmp cd _ => (match cd, st with
    | .eq, .inl y :: .inl x :: r => (x = y → go c.2.1 ls r I S) ∧ (¬ x = y → go (i + 1) ls r I S)
    | .ne, .inl y :: .inl x :: r => (¬ x = y → go c.2.1 ls r I S) ∧ (x = y → go (i + 1) ls r I S)
    | .lt, .inl y :: .inl x :: r => (x < y → go c.2.1 ls r I S) ∧ (¬ x < y → go (i + 1) ls r I S)
    | .ge, .inl y :: .inl x :: r => (y ≤ x → go c.2.1 ls r I S) ∧ (¬ y ≤ x → go (i + 1) ls r I S)
    | .gt, .inl y :: .inl x :: r => (y < x → go c.2.1 ls r I S) ∧ (¬ y < x → go (i + 1) ls r I S)
    | .le, .inl y :: .inl x :: r => (x ≤ y → go c.2.1 ls r I S) ∧ (¬ x ≤ y → go (i + 1) ls r I S)
    | _, _ => False)
  | .ifnull _ => (match st with
    | .inr a :: r => ¬ a = 19 ∧ ((a = 0 → go c.2.1 ls r I S) ∧ (¬ a = 0 → go (i + 1) ls r I S))
    | _ => False)
  | .ifnonnull _ => (match st with
    | .inr a :: r => ¬ a = 19 ∧ ((¬ a = 0 → go c.2.1 ls r I S) ∧ (a = 0 → go (i + 1) ls r I S))
    | _ => False)
  | .goto _ => go c.2.1 ls st I S
  | .lookupswitch _ _ => (match st with
    | .inl x :: r => mj_sw x (fun t => go t ls r I S) c.2.1 c.2.2.2.2
    | _ => False)
  | .getfield k => (match c.2.2.1, st with
    | 1, .inr a :: r => mj_tg S a = c.2.1 ∧ go (i + 1) ls (.inr (mj_rf S a k) :: r) I S
    | _, .inr a :: r => mj_tg S a = c.2.1 ∧ go (i + 1) ls (.inl (I a k) :: r) I S
    | _, _ => False)
  | .putfield k => (match c.2.2.1, st with
    | 0, .inl x :: .inr a :: r => mj_tg S a = c.2.1 ∧ go (i + 1) ls r (mj_up I a k x) S
    | 1, .inr v :: .inr a :: r => mj_tg S a = c.2.1 ∧ go (i + 1) ls r I (mj_ur S a k v)
    | 2, .inl x :: .inr a :: r => (mj_tg S a = c.2.1 ∧ (x = 0 ∨ x = 1)) ∧ go (i + 1) ls r (mj_up I a k x) S
    | _, _ => False)
  | .iaload => (match st with
    | .inl j :: .inr a :: r => mj_ai S a j 20 40 ∧ go (i + 1) ls (.inl (I a j.toNat) :: r) I S
    | _ => False)
  | .baload => (match st with
    | .inl j :: .inr a :: r => mj_ai S a j 21 42 ∧ go (i + 1) ls (.inl (I a j.toNat) :: r) I S
    | _ => False)
  | .saload => (match st with
    | .inl j :: .inr a :: r => mj_ai S a j 22 22 ∧ go (i + 1) ls (.inl (I a j.toNat) :: r) I S
    | _ => False)
  | .caload => (match st with
    | .inl j :: .inr a :: r => mj_ai S a j 23 23 ∧ go (i + 1) ls (.inl (I a j.toNat) :: r) I S
    | _ => False)
  | .aaload => (match st with
    | .inl j :: .inr a :: r => mj_aq S a j ∧ go (i + 1) ls (.inr (mj_rf S a j.toNat) :: r) I S
    | _ => False)
  | .iastore => (match st with
    | .inl x :: .inl j :: .inr a :: r => mj_ai S a j 20 20 ∧ go (i + 1) ls r (mj_up I a j.toNat x) S
    | _ => False)
  | .bastore => (match st with
    | .inl x :: .inl j :: .inr a :: r => mj_ai S a j 21 21 ∧ go (i + 1) ls r (mj_up I a j.toNat (mj_b8 x)) S
    | _ => False)
  | .sastore => (match st with
    | .inl x :: .inl j :: .inr a :: r => (mj_ai S a j 22 22 ∧ (x = 0 ∨ x = 1)) ∧ go (i + 1) ls r (mj_up I a j.toNat x) S
    | _ => False)
  | .castore => (match st with
    | .inl x :: .inl j :: .inr a :: r => (mj_ai S a j 23 23 ∧ 0 ≤ x ∧ x ≤ 65535) ∧ go (i + 1) ls r (mj_up I a j.toNat x) S
    | _ => False)
  | .aastore => (match st with
    | .inr v :: .inl j :: .inr a :: r => (mj_aq S a j ∧ (v = 0 ∨ (20 ≤ v ∧ v < mj_nx S ∧ mj_tg S a = 50 + mj_tg S v))) ∧ go (i + 1) ls r I (mj_ur S a j.toNat v)
    | _ => False)
  | .arraylength => (match st with
    | .inr a :: r => (20 ≤ mj_tg S a ∧ ¬ mj_tg S a = 41) ∧ go (i + 1) ls (.inl (mj_ln S a : Int) :: r) I S
    | _ => False)
  | .new k => go (i + 1) ls (.inr (mj_nx S) :: st) (mj_z I (mj_nx S)) (mj_nw S k c.2.1)
  | .newarray _ => (match st with
    | .inl n :: r => (0 ≤ n ∧ n ≤ 4096) ∧ go (i + 1) ls (.inr (mj_nx S) :: r) (mj_z I (mj_nx S)) (mj_nw S c.2.1 n.toNat)
    | _ => False)
  | .anewarray k => (match st with
    | .inl n :: r => (0 ≤ n ∧ n ≤ 4096) ∧ go (i + 1) ls (.inr (mj_nx S) :: r) (mj_z I (mj_nx S)) (mj_nw S (50 + k) n.toNat)
    | _ => False)
  | .invokestatic y => (match mj_args c.2.1 st [] with
    | some q => (match Nat.ble q.2.length 8 with
      | true => mj_rcv c.2.2.2.1 S q.1 (call y q.1 (fun r I' S' => mj_res c.2.2.1 r (fun st' => go (i + 1) ls st' I' S') q.2))
      | false => False)
    | none => False)
  | .invokedynamic _ => (match st with
    | .inl n :: .inl dp :: .inr b :: .inl sp :: .inr a :: r => (match Nat.ble r.length 8 with
      | true => (mj_tg S a = mj_tg S b ∧ (mj_tg S b = 20 ∨ mj_tg S b = 21) ∧ 0 ≤ sp ∧ 0 ≤ dp ∧ 0 ≤ n ∧ sp + n ≤ (mj_ln S a : Int) ∧ dp + n ≤ (mj_ln S b : Int)) ∧ go (i + 1) ls r (mj_cp I a sp.toNat b dp.toNat n.toNat) S
      | false => False)
    | _ => False)
  | .ireturn => (match st with
    | [v] => mj_rt c.2.1 v (ret (some v))
    | _ => False)
  | .return_ => (match st with
    | [] => ret none
    | _ => False)
  | _ => False
theorem mj_sw_mono {x : Int} {k k' : Nat → Prop} (h : ∀ t, k t → k' t) {d : Nat} : ∀ {l : List (Int × Nat)}, mj_sw x k d l → mj_sw x k' d l
  | [], q => h d q
  | _ :: _, q => ⟨fun e => h _ (q.1 e), fun e => mj_sw_mono h (q.2 e)⟩
set_option maxHeartbeats 4000000 in
theorem mj_sem_mono {c : mj_Ins} {i : Nat} {ls : mj_L} {st : List mj_V} {I : mj_I} {S : mj_S} {go go' : Nat → mj_L → List mj_V → mj_I → mj_S → Prop} {call call' : Nat → List mj_V → mj_Q → Prop} {ret ret' : Option mj_V → Prop}
    (hg : ∀ i ls st I S, go i ls st I S → go' i ls st I S) (hc : ∀ y as (k k' : mj_Q), (∀ r I S, k r I S → k' r I S) → call y as k → call' y as k') (hr : ∀ v, ret v → ret' v) (h : mj_sem c i ls st I S go call ret) : mj_sem c i ls st I S go' call' ret' := by
  obtain ⟨o, p1, p2, p3, sw⟩ := c
  unfold mj_sem at h ⊢
  dsimp only at h ⊢
  split at h <;> try exact False.elim h
  all_goals first
    | exact hg _ _ _ _ _ h
    | (split at h <;> first
      | exact False.elim h
      | exact hg _ _ _ _ _ h
      | exact ⟨h.1, hg _ _ _ _ _ h.2⟩
      | exact ⟨fun q => hg _ _ _ _ _ (h.1 q), fun q => hg _ _ _ _ _ (h.2 q)⟩
      | exact ⟨h.1, fun q => hg _ _ _ _ _ (h.2.1 q), fun q => hg _ _ _ _ _ (h.2.2 q)⟩
      | exact mj_sw_mono (fun t q => hg _ _ _ _ _ q) h
      | exact hr _ h
      | (revert h; unfold mj_rt; split <;> first | exact fun h => hr _ h | exact fun h => ⟨h.1, hr _ h.2⟩ | exact fun h => h)
      | (split at h <;> first
        | exact False.elim h
        | exact hg _ _ _ _ _ h
        | exact ⟨h.1, hg _ _ _ _ _ h.2⟩
        | (revert h; unfold mj_rcv
           have key : ∀ (rest : List mj_V) y as, call y as (fun r I' S' => mj_res p2 r (fun st' => go (i + 1) ls st' I' S') rest) → call' y as (fun r I' S' => mj_res p2 r (fun st' => go' (i + 1) ls st' I' S') rest) := fun rest y as w => hc y as _ _ (fun r I S => by
             unfold mj_res
             split <;> first | exact fun w => hg _ _ _ _ _ w | exact fun w => w) w
           split <;> first | exact fun h => key _ _ _ h | exact fun h => ⟨h.1, key _ _ _ h.2⟩ | exact fun h => h)))
