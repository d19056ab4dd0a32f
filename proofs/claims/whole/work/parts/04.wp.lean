/-! runs of the mini machine -/
def mj_wp : Nat → Nat → Nat → Nat → mj_L → List mj_V → mj_I → mj_S → mj_Q → Prop
  | 0, _, _, _, _, _, _, _, _ => False
  | n + 1, d, m, i, ls, st, I, S, Q => mj_sem (mj_code m i) i ls st I S (fun i ls st I S => mj_wp n d m i ls st I S Q)
      (fun y as k => 0 < d ∧ mj_wp n (d - 1) y 0 (mj_ent y as) [] I S k) (fun v => Q v I S)
/-- the method m goes on from its i-th instruction to its end, and Q holds there -/
def mj_W (d m i : Nat) (ls : mj_L) (st : List mj_V) (I : mj_I) (S : mj_S) (Q : mj_Q) : Prop := ∃ n, mj_wp n d m i ls st I S Q
/-- a call of the method y -/
def mj_C (d y : Nat) (as : List mj_V) (I : mj_I) (S : mj_S) (Q : mj_Q) : Prop := mj_W d y 0 (mj_ent y as) [] I S Q
theorem mj_wp_mono {n d m i : Nat} {ls : mj_L} {st : List mj_V} {I : mj_I} {S : mj_S} {Q Q' : mj_Q} (hQ : ∀ r I S, Q r I S → Q' r I S) (h : mj_wp n d m i ls st I S Q) : mj_wp n d m i ls st I S Q' := by
  induction n generalizing d m i ls st I S Q Q' with
  | zero => exact h
  | succ n ih =>
    unfold mj_wp at h ⊢
    exact mj_sem_mono (fun i ls st I S q => ih hQ q) (fun y as k k' hk q => ⟨q.1, ih hk q.2⟩) (fun v q => hQ v I S q) h
theorem mj_wp_succ {n d m i : Nat} {ls : mj_L} {st : List mj_V} {I : mj_I} {S : mj_S} {Q : mj_Q} (h : mj_wp n d m i ls st I S Q) : mj_wp (n + 1) d m i ls st I S Q := by
  induction n generalizing d m i ls st I S Q with
  | zero => exact False.elim h
  | succ n ih =>
    unfold mj_wp at h ⊢
    exact mj_sem_mono (fun i ls st I S q => ih q) (fun y as k k' hk q => ⟨q.1, ih (mj_wp_mono hk q.2)⟩) (fun v q => q) h
theorem mj_wp_le {n k d m i : Nat} {ls : mj_L} {st : List mj_V} {I : mj_I} {S : mj_S} {Q : mj_Q} (hk : n ≤ k) (h : mj_wp n d m i ls st I S Q) : mj_wp k d m i ls st I S Q := by
  induction hk with
  | refl => exact h
  | step _ ih => exact mj_wp_succ ih
theorem mj_W_mono {d m i : Nat} {ls : mj_L} {st : List mj_V} {I : mj_I} {S : mj_S} {Q Q' : mj_Q} (h : mj_W d m i ls st I S Q) (hQ : ∀ r I S, Q r I S → Q' r I S) : mj_W d m i ls st I S Q' := by
  obtain ⟨n, h⟩ := h
  exact ⟨n, mj_wp_mono hQ h⟩
/-- more depth does no harm -/
theorem mj_wp_d {n d e m i : Nat} {ls : mj_L} {st : List mj_V} {I : mj_I} {S : mj_S} {Q : mj_Q} (hd : d ≤ e) (h : mj_wp n d m i ls st I S Q) : mj_wp n e m i ls st I S Q := by
  induction n generalizing d e m i ls st I S Q with
  | zero => exact h
  | succ n ih =>
    unfold mj_wp at h ⊢
    exact mj_sem_mono (fun i ls st I S q => ih hd q) (fun y as k k' hk q => ⟨Nat.lt_of_lt_of_le q.1 hd, mj_wp_mono hk (ih (Nat.sub_le_sub_right hd 1) q.2)⟩) (fun v q => q) h
theorem mj_W_d {d e m i : Nat} {ls : mj_L} {st : List mj_V} {I : mj_I} {S : mj_S} {Q : mj_Q} (hd : d ≤ e) (h : mj_W d m i ls st I S Q) : mj_W e m i ls st I S Q := by
  obtain ⟨n, h⟩ := h
  exact ⟨n, mj_wp_d hd h⟩
/-- k instructions, then mj_W -/
def mj_vc : Nat → Nat → Nat → Nat → mj_L → List mj_V → mj_I → mj_S → mj_Q → Prop
  | 0, d, m, i, ls, st, I, S, Q => mj_W d m i ls st I S Q
  | n + 1, d, m, i, ls, st, I, S, Q => mj_sem (mj_code m i) i ls st I S (fun i ls st I S => mj_vc n d m i ls st I S Q)
      (fun y as k => 0 < d ∧ mj_C (d - 1) y as I S k) (fun v => Q v I S)
/-- cells and slots are only made -/
def mj_le (S T : mj_S) : Prop := mj_nx S ≤ mj_nx T ∧ mj_sl S ≤ mj_sl T
theorem mj_le_rf {S : mj_S} : mj_le S S := ⟨Nat.le_refl _, Nat.le_refl _⟩
theorem mj_le_ur {S : mj_S} {a k v : Nat} : mj_le S (mj_ur S a k v) := ⟨Nat.le_refl _, Nat.le_refl _⟩
theorem mj_le_nw {S : mj_S} {t n : Nat} : mj_le S (mj_nw S t n) := ⟨Nat.le_succ _, Nat.le_add_right _ _⟩
theorem mj_le_tr {S T U : mj_S} (h : mj_le S T) (k : mj_le T U) : mj_le S U := ⟨Nat.le_trans h.1 k.1, Nat.le_trans h.2 k.2⟩
theorem mj_sw_cases {x : Int} {k : Nat → Prop} {d : Nat} : ∀ {l : List (Int × Nat)}, mj_sw x k d l → ∃ t, k t ∧ ∀ k' : Nat → Prop, k' t → mj_sw x k' d l
  | [], q => ⟨d, q, fun _ w => w⟩
  | (a, b) :: l, q => by
    by_cases e : x = a
    · exact ⟨b, q.1 e, fun k' w => ⟨fun _ => w, fun n => absurd e n⟩⟩
    · obtain ⟨t, h1, h2⟩ := mj_sw_cases (q.2 e)
      exact ⟨t, h1, fun k' w => ⟨fun z => absurd z e, fun _ => h2 k' w⟩⟩
set_option maxHeartbeats 4000000 in
/-- what one instruction does is one of three: it goes on, it calls, it returns -/
theorem mj_sem_cases {c : mj_Ins} {i : Nat} {ls : mj_L} {st : List mj_V} {I : mj_I} {S : mj_S} {go : Nat → mj_L → List mj_V → mj_I → mj_S → Prop} {call : Nat → List mj_V → mj_Q → Prop} {ret : Option mj_V → Prop} (h : mj_sem c i ls st I S go call ret) :
    (∃ i' ls' st' I' S', go i' ls' st' I' S' ∧ mj_le S S' ∧ ∀ (go' : Nat → mj_L → List mj_V → mj_I → mj_S → Prop) (call' : Nat → List mj_V → mj_Q → Prop) (ret' : Option mj_V → Prop), go' i' ls' st' I' S' → mj_sem c i ls st I S go' call' ret') ∨
    (∃ y as hh rest, call y as (fun r I' S' => mj_res hh r (fun st' => go (i + 1) ls st' I' S') rest) ∧ ∀ (go' : Nat → mj_L → List mj_V → mj_I → mj_S → Prop) (call' : Nat → List mj_V → mj_Q → Prop) (ret' : Option mj_V → Prop), call' y as (fun r I' S' => mj_res hh r (fun st' => go' (i + 1) ls st' I' S') rest) → mj_sem c i ls st I S go' call' ret') ∨
    (∃ v, ret v ∧ ∀ (go' : Nat → mj_L → List mj_V → mj_I → mj_S → Prop) (call' : Nat → List mj_V → mj_Q → Prop) (ret' : Option mj_V → Prop), ret' v → mj_sem c i ls st I S go' call' ret') := by
  obtain ⟨o, p1, p2, p3, sw⟩ := c
  unfold mj_sem at h ⊢
  dsimp only at h ⊢
  split at h <;> try exact False.elim h
  all_goals first
    | exact Or.inl ⟨_, _, _, _, _, h, (by first | exact mj_le_rf | exact mj_le_ur | exact mj_le_nw), fun _ _ _ w => w⟩
    | (split at h <;> first
      | exact False.elim h
      | exact Or.inl ⟨_, _, _, _, _, h, (by first | exact mj_le_rf | exact mj_le_ur | exact mj_le_nw), fun _ _ _ w => w⟩
      | exact Or.inl ⟨_, _, _, _, _, h.2, (by first | exact mj_le_rf | exact mj_le_ur | exact mj_le_nw), fun _ _ _ w => ⟨h.1, w⟩⟩
      | (rename_i x r
         by_cases e : x = 0
         · exact Or.inl ⟨_, _, _, _, _, h.1 e, (by first | exact mj_le_rf | exact mj_le_ur | exact mj_le_nw), fun _ _ _ w => ⟨fun _ => w, fun n => absurd e n⟩⟩
         · exact Or.inl ⟨_, _, _, _, _, h.2 e, (by first | exact mj_le_rf | exact mj_le_ur | exact mj_le_nw), fun _ _ _ w => ⟨fun n => absurd n e, fun _ => w⟩⟩)
      | (rename_i x r
         by_cases e : x = 0
         · exact Or.inl ⟨_, _, _, _, _, h.2 e, (by first | exact mj_le_rf | exact mj_le_ur | exact mj_le_nw), fun _ _ _ w => ⟨fun n => absurd e n, fun _ => w⟩⟩
         · exact Or.inl ⟨_, _, _, _, _, h.1 e, (by first | exact mj_le_rf | exact mj_le_ur | exact mj_le_nw), fun _ _ _ w => ⟨fun _ => w, fun n => absurd n e⟩⟩)
      | (rename_i x r
         by_cases e : x < 0
         · exact Or.inl ⟨_, _, _, _, _, h.1 e, (by first | exact mj_le_rf | exact mj_le_ur | exact mj_le_nw), fun _ _ _ w => ⟨fun _ => w, fun n => absurd e n⟩⟩
         · exact Or.inl ⟨_, _, _, _, _, h.2 e, (by first | exact mj_le_rf | exact mj_le_ur | exact mj_le_nw), fun _ _ _ w => ⟨fun n => absurd n e, fun _ => w⟩⟩)
      | (rename_i x r
         by_cases e : 0 ≤ x
         · exact Or.inl ⟨_, _, _, _, _, h.1 e, (by first | exact mj_le_rf | exact mj_le_ur | exact mj_le_nw), fun _ _ _ w => ⟨fun _ => w, fun n => absurd e n⟩⟩
         · exact Or.inl ⟨_, _, _, _, _, h.2 e, (by first | exact mj_le_rf | exact mj_le_ur | exact mj_le_nw), fun _ _ _ w => ⟨fun n => absurd n e, fun _ => w⟩⟩)
      | (rename_i x r
         by_cases e : 0 < x
         · exact Or.inl ⟨_, _, _, _, _, h.1 e, (by first | exact mj_le_rf | exact mj_le_ur | exact mj_le_nw), fun _ _ _ w => ⟨fun _ => w, fun n => absurd e n⟩⟩
         · exact Or.inl ⟨_, _, _, _, _, h.2 e, (by first | exact mj_le_rf | exact mj_le_ur | exact mj_le_nw), fun _ _ _ w => ⟨fun n => absurd n e, fun _ => w⟩⟩)
      | (rename_i x r
         by_cases e : x ≤ 0
         · exact Or.inl ⟨_, _, _, _, _, h.1 e, (by first | exact mj_le_rf | exact mj_le_ur | exact mj_le_nw), fun _ _ _ w => ⟨fun _ => w, fun n => absurd e n⟩⟩
         · exact Or.inl ⟨_, _, _, _, _, h.2 e, (by first | exact mj_le_rf | exact mj_le_ur | exact mj_le_nw), fun _ _ _ w => ⟨fun n => absurd n e, fun _ => w⟩⟩)
      | (rename_i y x r
         by_cases e : x = y
         · exact Or.inl ⟨_, _, _, _, _, h.1 e, (by first | exact mj_le_rf | exact mj_le_ur | exact mj_le_nw), fun _ _ _ w => ⟨fun _ => w, fun n => absurd e n⟩⟩
         · exact Or.inl ⟨_, _, _, _, _, h.2 e, (by first | exact mj_le_rf | exact mj_le_ur | exact mj_le_nw), fun _ _ _ w => ⟨fun n => absurd n e, fun _ => w⟩⟩)
      | (rename_i y x r
         by_cases e : x = y
         · exact Or.inl ⟨_, _, _, _, _, h.2 e, (by first | exact mj_le_rf | exact mj_le_ur | exact mj_le_nw), fun _ _ _ w => ⟨fun n => absurd e n, fun _ => w⟩⟩
         · exact Or.inl ⟨_, _, _, _, _, h.1 e, (by first | exact mj_le_rf | exact mj_le_ur | exact mj_le_nw), fun _ _ _ w => ⟨fun _ => w, fun n => absurd n e⟩⟩)
      | (rename_i y x r
         by_cases e : x < y
         · exact Or.inl ⟨_, _, _, _, _, h.1 e, (by first | exact mj_le_rf | exact mj_le_ur | exact mj_le_nw), fun _ _ _ w => ⟨fun _ => w, fun n => absurd e n⟩⟩
         · exact Or.inl ⟨_, _, _, _, _, h.2 e, (by first | exact mj_le_rf | exact mj_le_ur | exact mj_le_nw), fun _ _ _ w => ⟨fun n => absurd n e, fun _ => w⟩⟩)
      | (rename_i y x r
         by_cases e : y ≤ x
         · exact Or.inl ⟨_, _, _, _, _, h.1 e, (by first | exact mj_le_rf | exact mj_le_ur | exact mj_le_nw), fun _ _ _ w => ⟨fun _ => w, fun n => absurd e n⟩⟩
         · exact Or.inl ⟨_, _, _, _, _, h.2 e, (by first | exact mj_le_rf | exact mj_le_ur | exact mj_le_nw), fun _ _ _ w => ⟨fun n => absurd n e, fun _ => w⟩⟩)
      | (rename_i y x r
         by_cases e : y < x
         · exact Or.inl ⟨_, _, _, _, _, h.1 e, (by first | exact mj_le_rf | exact mj_le_ur | exact mj_le_nw), fun _ _ _ w => ⟨fun _ => w, fun n => absurd e n⟩⟩
         · exact Or.inl ⟨_, _, _, _, _, h.2 e, (by first | exact mj_le_rf | exact mj_le_ur | exact mj_le_nw), fun _ _ _ w => ⟨fun n => absurd n e, fun _ => w⟩⟩)
      | (rename_i y x r
         by_cases e : x ≤ y
         · exact Or.inl ⟨_, _, _, _, _, h.1 e, (by first | exact mj_le_rf | exact mj_le_ur | exact mj_le_nw), fun _ _ _ w => ⟨fun _ => w, fun n => absurd e n⟩⟩
         · exact Or.inl ⟨_, _, _, _, _, h.2 e, (by first | exact mj_le_rf | exact mj_le_ur | exact mj_le_nw), fun _ _ _ w => ⟨fun n => absurd n e, fun _ => w⟩⟩)
      | (rename_i x r
         by_cases e : x = 0
         · exact Or.inl ⟨_, _, _, _, _, h.2.1 e, (by first | exact mj_le_rf | exact mj_le_ur | exact mj_le_nw), fun _ _ _ w => ⟨h.1, fun _ => w, fun n => absurd e n⟩⟩
         · exact Or.inl ⟨_, _, _, _, _, h.2.2 e, (by first | exact mj_le_rf | exact mj_le_ur | exact mj_le_nw), fun _ _ _ w => ⟨h.1, fun n => absurd n e, fun _ => w⟩⟩)
      | (rename_i x r
         by_cases e : x = 0
         · exact Or.inl ⟨_, _, _, _, _, h.2.2 e, (by first | exact mj_le_rf | exact mj_le_ur | exact mj_le_nw), fun _ _ _ w => ⟨h.1, fun n => absurd e n, fun _ => w⟩⟩
         · exact Or.inl ⟨_, _, _, _, _, h.2.1 e, (by first | exact mj_le_rf | exact mj_le_ur | exact mj_le_nw), fun _ _ _ w => ⟨h.1, fun _ => w, fun n => absurd n e⟩⟩)
      | (obtain ⟨t, h1, h2⟩ := mj_sw_cases h
         exact Or.inl ⟨_, _, _, _, _, h1, (by first | exact mj_le_rf | exact mj_le_ur | exact mj_le_nw), fun _ _ _ w => h2 _ w⟩)
      | exact Or.inr (Or.inr ⟨_, h, fun _ _ _ w => w⟩)
      | (revert h; unfold mj_rt; split <;> first
          | exact fun h => Or.inr (Or.inr ⟨_, h, fun _ _ _ w => w⟩)
          | exact fun h => Or.inr (Or.inr ⟨_, h.2, fun _ _ _ w => ⟨h.1, w⟩⟩)
          | exact fun h => False.elim h)
      | (split at h <;> first
        | exact False.elim h
        | exact Or.inl ⟨_, _, _, _, _, h, mj_le_rf, fun _ _ _ w => w⟩
        | exact Or.inl ⟨_, _, _, _, _, h.2, mj_le_rf, fun _ _ _ w => ⟨h.1, w⟩⟩
        | (revert h; unfold mj_rcv; split <;> first
            | exact fun h => Or.inr (Or.inl ⟨_, _, _, _, h, fun _ _ _ w => w⟩)
            | exact fun h => Or.inr (Or.inl ⟨_, _, _, _, h.2, fun _ _ _ w => ⟨h.1, w⟩⟩)
            | exact fun h => False.elim h)))
theorem mj_res_cases {hh : Nat} {r : Option mj_V} {K : List mj_V → Prop} {rest : List mj_V} (h : mj_res hh r K rest) : ∃ st', K st' ∧ ∀ K' : List mj_V → Prop, K' st' → mj_res hh r K' rest := by
  revert h
  unfold mj_res
  split <;> first | exact fun h => ⟨_, h, fun _ w => w⟩ | exact fun h => False.elim h
/-- a run has one end -/
theorem mj_wp_ex {n d m i : Nat} {ls : mj_L} {st : List mj_V} {I : mj_I} {S : mj_S} {Q : mj_Q} (h : mj_wp n d m i ls st I S Q) : ∃ r I' S', Q r I' S' ∧ mj_wp n d m i ls st I S (fun a b c => a = r ∧ b = I' ∧ c = S') := by
  induction n generalizing d m i ls st I S Q with
  | zero => exact False.elim h
  | succ n ih =>
    unfold mj_wp at h
    rcases mj_sem_cases h with ⟨i', ls', st', I1, S1, h1, -, h2⟩ | ⟨y, as, hh, rest, h1, h2⟩ | ⟨v, h1, h2⟩
    · obtain ⟨r, I', S', q1, q2⟩ := ih h1
      exact ⟨r, I', S', q1, by unfold mj_wp; exact h2 _ _ _ q2⟩
    · obtain ⟨hd, h1⟩ := h1
      obtain ⟨r0, I0, S0, q1, q2⟩ := ih h1
      obtain ⟨st', k1, k2⟩ := mj_res_cases q1
      obtain ⟨r, I', S', q3, q4⟩ := ih k1
      refine ⟨r, I', S', q3, ?_⟩
      unfold mj_wp
      refine h2 _ _ _ ⟨hd, mj_wp_mono (fun a b c e => ?_) q2⟩
      obtain ⟨e1, e2, e3⟩ := e
      subst e1; subst e2; subst e3
      exact k2 _ q4
    · exact ⟨v, I, S, h1, by unfold mj_wp; exact h2 _ _ _ ⟨rfl, rfl, rfl⟩⟩
theorem mj_wp_grow {n d m i : Nat} {ls : mj_L} {st : List mj_V} {I : mj_I} {S : mj_S} {Q : mj_Q} (h : mj_wp n d m i ls st I S Q) : mj_wp n d m i ls st I S (fun r I' S' => mj_le S S' ∧ Q r I' S') := by
  induction n generalizing d m i ls st I S Q with
  | zero => exact h
  | succ n ih =>
    unfold mj_wp at h ⊢
    rcases mj_sem_cases h with ⟨i', ls', st', I1, S1, h1, hl, h2⟩ | ⟨y, as, hh, rest, h1, h2⟩ | ⟨v, h1, h2⟩
    · exact h2 _ _ _ (mj_wp_mono (fun r I' S' q => ⟨mj_le_tr hl q.1, q.2⟩) (ih h1))
    · refine h2 _ _ _ ⟨h1.1, mj_wp_mono (fun r I' S' q => ?_) (ih h1.2)⟩
      obtain ⟨st', k1, k2⟩ := mj_res_cases q.2
      exact k2 _ (mj_wp_mono (fun r I'' S'' z => ⟨mj_le_tr q.1 z.1, z.2⟩) (ih k1))
    · exact h2 _ _ _ ⟨mj_le_rf, h1⟩
/-- one instruction of mj_W -/
theorem mj_W_sem {d m i : Nat} {ls : mj_L} {st : List mj_V} {I : mj_I} {S : mj_S} {Q : mj_Q} (h : mj_sem (mj_code m i) i ls st I S (fun i ls st I S => mj_W d m i ls st I S Q) (fun y as k => 0 < d ∧ mj_C (d - 1) y as I S k) (fun v => Q v I S)) : mj_W d m i ls st I S Q := by
  rcases mj_sem_cases h with ⟨i', ls', st', I1, S1, h1, -, h2⟩ | ⟨y, as, hh, rest, h1, h2⟩ | ⟨v, h1, h2⟩
  · obtain ⟨n, h1⟩ := h1
    exact ⟨n + 1, by unfold mj_wp; exact h2 _ _ _ h1⟩
  · obtain ⟨hd, n, h1⟩ := h1
    obtain ⟨r0, I0, S0, q1, q2⟩ := mj_wp_ex h1
    obtain ⟨st', ⟨k, k1⟩, k2⟩ := mj_res_cases q1
    refine ⟨max n k + 1, ?_⟩
    unfold mj_wp
    refine h2 _ _ _ ⟨hd, mj_wp_mono (fun a b c e => ?_) (mj_wp_le (Nat.le_max_left n k) q2)⟩
    obtain ⟨e1, e2, e3⟩ := e
    subst e1; subst e2; subst e3
    exact k2 _ (mj_wp_le (Nat.le_max_right n k) k1)
  · exact ⟨1, by unfold mj_wp; exact h2 _ _ _ h1⟩
theorem mj_W_of {d m i : Nat} {ls : mj_L} {st : List mj_V} {I : mj_I} {S : mj_S} {Q : mj_Q} (k : Nat) (h : mj_vc k d m i ls st I S Q) : mj_W d m i ls st I S Q := by
  induction k generalizing i ls st I S with
  | zero => exact h
  | succ k ih =>
    unfold mj_vc at h
    exact mj_W_sem (mj_sem_mono (fun i ls st I S q => ih q) (fun y as a b hab q => ⟨q.1, mj_W_mono q.2 hab⟩) (fun v q => q) h)
theorem mj_W_un {d m i : Nat} {ls : mj_L} {st : List mj_V} {I : mj_I} {S : mj_S} {Q : mj_Q} (h : mj_W d m i ls st I S Q) : mj_sem (mj_code m i) i ls st I S (fun i ls st I S => mj_W d m i ls st I S Q) (fun y as k => 0 < d ∧ mj_C (d - 1) y as I S k) (fun v => Q v I S) := by
  obtain ⟨n, h⟩ := h
  cases n with
  | zero => exact False.elim h
  | succ n =>
    unfold mj_wp at h
    exact mj_sem_mono (fun i ls st I S q => ⟨n, q⟩) (fun y as a b hab q => ⟨q.1, n, mj_wp_mono hab q.2⟩) (fun v q => q) h
/-- a run may be taken up anywhere -/
theorem mj_vc_of {k d m i : Nat} {ls : mj_L} {st : List mj_V} {I : mj_I} {S : mj_S} {Q : mj_Q} (h : mj_W d m i ls st I S Q) : mj_vc k d m i ls st I S Q := by
  induction k generalizing i ls st I S with
  | zero => exact h
  | succ k ih =>
    unfold mj_vc
    exact mj_sem_mono (fun i ls st I S q => ih q) (fun y as a b hab q => ⟨q.1, mj_W_mono q.2 hab⟩) (fun v q => q) (mj_W_un h)
theorem mj_C_of {d y : Nat} {as : List mj_V} {I : mj_I} {S : mj_S} {Q : mj_Q} (k : Nat) (h : mj_vc k d y 0 (mj_ent y as) [] I S Q) : mj_C d y as I S Q := mj_W_of k h
theorem mj_C_mono {d y : Nat} {as : List mj_V} {I : mj_I} {S : mj_S} {Q Q' : mj_Q} (h : mj_C d y as I S Q) (hQ : ∀ r I S, Q r I S → Q' r I S) : mj_C d y as I S Q' := mj_W_mono h hQ
theorem mj_C_d {d e y : Nat} {as : List mj_V} {I : mj_I} {S : mj_S} {Q : mj_Q} (hd : d ≤ e) (h : mj_C d y as I S Q) : mj_C e y as I S Q := mj_W_d hd h
