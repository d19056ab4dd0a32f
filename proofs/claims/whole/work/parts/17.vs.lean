/-! runs that stop at the heads of loops -/
def mj_vs (hs : List Nat) : Nat → Nat → Nat → Nat → mj_L → List mj_V → mj_I → mj_S → mj_Q → Prop
  | 0, d, m, i, ls, st, I, S, Q => mj_W d m i ls st I S Q
  | n + 1, d, m, i, ls, st, I, S, Q => (match hs.elem i with
    | true => mj_W d m i ls st I S Q
    | false => mj_sem (mj_code m i) i ls st I S (fun i ls st I S => mj_vs hs n d m i ls st I S Q)
      (fun y as k => 0 < d ∧ mj_C (d - 1) y as I S k) (fun v => Q v I S))
theorem mj_W_vs {hs : List Nat} {d m i : Nat} {ls : mj_L} {st : List mj_V} {I : mj_I} {S : mj_S} {Q : mj_Q} (k : Nat) (h : mj_vs hs k d m i ls st I S Q) : mj_W d m i ls st I S Q := by
  induction k generalizing i ls st I S with
  | zero => exact h
  | succ k ih =>
    unfold mj_vs at h
    split at h
    · exact h
    · exact mj_W_sem (mj_sem_mono (fun i ls st I S q => ih q) (fun y as a b hab q => ⟨q.1, mj_W_mono q.2 hab⟩) (fun v q => q) h)
/-- from the head of a loop on -/
theorem mj_W_hd (hs : List Nat) (k : Nat) {d m i : Nat} {ls : mj_L} {st : List mj_V} {I : mj_I} {S : mj_S} {Q : mj_Q} (h : mj_sem (mj_code m i) i ls st I S (fun i ls st I S => mj_vs hs k d m i ls st I S Q) (fun y as k => 0 < d ∧ mj_C (d - 1) y as I S k) (fun v => Q v I S)) : mj_W d m i ls st I S Q :=
  mj_W_sem (mj_sem_mono (fun i ls st I S q => mj_W_vs k q) (fun y as a b hab q => ⟨q.1, mj_W_mono q.2 hab⟩) (fun v q => q) h)
theorem mj_C_vs (hs : List Nat) (k : Nat) {d y : Nat} {as : List mj_V} {I : mj_I} {S : mj_S} {Q : mj_Q} (h : mj_vs hs k d y 0 (mj_ent y as) [] I S Q) : mj_C d y as I S Q := mj_W_vs k h
