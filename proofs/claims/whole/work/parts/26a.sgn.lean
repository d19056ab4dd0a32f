/-! who signed -/
theorem fil_rd {I : mj_I} {a n : Nat} {x : Int} (hn : n < 1610) {j : Int} (h0 : 0 ≤ j) (h1 : j < n) : rd (mj_fl I a x n) a j = x := by
  rw [rd_in h0 (by omega)]
  exact if_pos ⟨rfl, by omega⟩
theorem fil_fr {I : mj_I} {a n : Nat} {x : Int} : fr (fun c => c = a) I (mj_fl I a x n) := fun c hc => by
  funext k
  exact if_neg (fun (q : c = a ∧ _) => hc q.1)
theorem fil_rd2 {I : mj_I} {a n : Nat} {x : Int} {j : Int} (h1 : (n : Int) ≤ j) : rd (mj_fl I a x n) a j = rd I a j := by
  unfold rd
  split
  · exact if_neg (fun (q : a = a ∧ j.toNat < n) => by omega)
  · rfl
/-- 52 nobody -/
theorem ok_do {S : mj_S} (hS : mk_Sh S) {b : Nat} (hb : mB b) : xok S (21, 0, b + 14, 6) := (x_F2 hS (xok_b hS hb) (show x_fld 2 b b 17 = some (21, 0, b + 14, 6) from rfl)).2
theorem ln_do {S : mj_S} (hS : mk_Sh S) {b : Nat} (hb : mB b) : mj_tg S (b + 14) = 20 ∧ mj_ln S (b + 14) = 6 := by
  rcases ok_do hS hb with h | h
  · exact absurd (show (21 : Nat) = 0 from h) (by decide)
  · have h1 : mj_tg S (b + 14) + 1 = 21 := h.1
    exact ⟨by omega, h.2.1 (Nat.le_refl 21)⟩
theorem c_nobody {d : Nat} {I : mj_I} {S : mj_S} {Q : mj_Q} (hS : mk_Sh S) {b : Nat} (hb : mB b) (hd : 0 < d) (h : Q (some (.inr (b + 14))) (mj_fl I (b + 14) (-1) 6) S) : mj_C d 52 [.inr b] I S Q := by
  have hl := ln_do hS hb
  refine x_C false [.inr (2, b, b, 0)] [] 20 hS ⟨xok_b hS hb, trivial⟩ ?_
  (repeat' (first | refine c_fill _ _ hl.1 (by omega) ?_ | with_reducible assumption | with_reducible exact rfl | with_reducible exact trivial | (with_reducible (show (_ : Int) ≤ _); omega) | (with_reducible (show (_ : Int) < _); omega) | (with_reducible (show (_ : Nat) < _); omega) | (with_reducible (show (_ : Nat) ≤ _); omega) | with_reducible exact Or.inl rfl | with_reducible exact Or.inr rfl | with_reducible exact Or.inl trivial | with_reducible exact Or.inr trivial | (intro hz; exact absurd hz (by decide)) | (intro hz; exfalso; omega) | refine And.intro ?_ ?_ | intro _))
  rw [hl.2]
  (repeat' (first | with_reducible assumption | with_reducible exact rfl | with_reducible exact trivial | (with_reducible (show (_ : Int) ≤ _); omega) | (with_reducible (show (_ : Int) < _); omega) | (with_reducible (show (_ : Nat) < _); omega) | (with_reducible (show (_ : Nat) ≤ _); omega) | with_reducible exact Or.inl rfl | with_reducible exact Or.inr rfl | with_reducible exact Or.inl trivial | with_reducible exact Or.inr trivial | (intro hz; exact absurd hz (by decide)) | (intro hz; exfalso; omega) | refine And.intro ?_ ?_ | intro _))
  exact h
/-- who signed -/
def sgn (N : Int → Int) : Int → Int := fun s => if 0 ≤ s ∧ s < N 3 then N (64 + 4 * s + 3) else -1
theorem c_signers {d : Nat} {I : mj_I} {S : mj_S} {Q : mj_Q} (hS : mk_Sh S) {b : Nat} (hb : mB b) {N : Int → Int} (hN : Inv N) (hC : Cb I S b N) (hd : 1 < d) (h : ∀ I', fr (fun a => a = b + 14) I I' → (∀ s, 0 ≤ s → s < 6 → rd I' (b + 14) s = sgn N s) → Q (some (.inr (b + 14))) I' S) : mj_C d 51 [.inr b] I S Q := by
  have hH := hN.1
  have hCH := hC.1
  unfold InvH at hH
  unfold CbH at hCH
  have loop : ∀ m k : Nat, (k + m : Int) = N 3 → ∀ (kk : Int) (J : mj_I), kk = k → fr (fun a => a = b + 14) I J → (∀ s, 0 ≤ s → s < 6 → rd J (b + 14) s = if s < k then sgn N s else -1) →
      xW d 51 5 [some (.inr (2, b, b, 0)), some (.inr (21, 0, b + 14, 6)), some (.inl kk)] [] J S Q := by
    intro m
    induction m with
    | zero =>
      intro k hk kk J h1 h2 h3
      have e3 : J b 3 = I b 3 := h2.f (by omega) 3
      refine x_hd false [5] 20 ?_
      (repeat' (first | with_reducible assumption | with_reducible exact rfl | with_reducible exact trivial | (with_reducible (show (_ : Int) ≤ _); omega) | (with_reducible (show (_ : Int) < _); omega) | (with_reducible (show (_ : Nat) < _); omega) | (with_reducible (show (_ : Nat) ≤ _); omega) | with_reducible exact Or.inl rfl | with_reducible exact Or.inr rfl | with_reducible exact Or.inl trivial | with_reducible exact Or.inr trivial | (intro hz; exact absurd hz (by decide)) | (intro hz; exfalso; omega) | refine And.intro ?_ ?_ | intro _))
      refine h J h2 (fun s h0 h6 => ?_)
      rw [h3 s h0 h6]
      split
      · rfl
      · unfold sgn
        rw [if_neg (by omega)]
    | succ m ih =>
      intro k hk kk J h1 h2 h3
      have e3 : J b 3 = I b 3 := h2.f (by omega) 3
      have e4 : J (b + 22 + kk.toNat) 3 = I (b + 22 + kk.toNat) 3 := h2.f (by omega) 3
      have hCS := hC.2.2.1 kk (by omega) (by omega)
      unfold CbS at hCS
      refine x_hd false [5] 20 ?_
      (repeat' (first | with_reducible assumption | with_reducible exact rfl | with_reducible exact trivial | (with_reducible (show (_ : Int) ≤ _); omega) | (with_reducible (show (_ : Int) < _); omega) | (with_reducible (show (_ : Nat) < _); omega) | (with_reducible (show (_ : Nat) ≤ _); omega) | with_reducible exact Or.inl rfl | with_reducible exact Or.inr rfl | with_reducible exact Or.inl trivial | with_reducible exact Or.inr trivial | (intro hz; exact absurd hz (by decide)) | (intro hz; exfalso; omega) | refine And.intro ?_ ?_ | intro _))
      refine ih (k + 1) (by omega) _ _ (by omega) (h2.up rfl _ _) (fun s h0 h6 => ?_)
      rw [rd_up (by omega) (by omega)]
      by_cases e : s = kk
      · subst e
        rw [ru_s, if_pos (by omega), e4, hCS.2.2.2]
        unfold sgn
        rw [if_pos (by omega)]
      · rw [ru_n e, h3 s h0 h6]
        by_cases e5 : s < k
        · rw [if_pos e5, if_pos (by omega)]
        · rw [if_neg e5, if_neg (by omega)]
  refine x_C false [.inr (2, b, b, 0)] [5] 20 hS ⟨xok_b hS hb, trivial⟩ ?_
  (repeat' (first | refine c_nobody hS hb ?_ ?_ | refine ⟨(21, 0, b + 14, 6), ⟨rfl, ok_do hS hb⟩, ?_⟩ | with_reducible assumption | with_reducible exact rfl | with_reducible exact trivial | (with_reducible (show (_ : Int) ≤ _); omega) | (with_reducible (show (_ : Int) < _); omega) | (with_reducible (show (_ : Nat) < _); omega) | (with_reducible (show (_ : Nat) ≤ _); omega) | with_reducible exact Or.inl rfl | with_reducible exact Or.inr rfl | with_reducible exact Or.inl trivial | with_reducible exact Or.inr trivial | (intro hz; exact absurd hz (by decide)) | (intro hz; exfalso; omega) | refine And.intro ?_ ?_ | intro _))
  exact loop (N 3).toNat 0 (by omega) _ _ rfl fil_fr (fun s h0 h6 => by rw [fil_rd (by omega) h0 (by omega), if_neg (by omega)])
/-- 225 signedOnes -/
theorem m_signedOnes {d : Nat} {I : mj_I} {S : mj_S} {Q : mj_Q} (hS : mk_Sh S) (hN : Inv (rd I 151)) (hd : 0 < d) (h : ∀ I', fr (fun a => a = 155) I I' → (∀ s, 0 ≤ s → s < 6 → rd I' 155 s = sgn (rd I 151) s) → Q none I' S) : mj_C d 225 [.inr 150] I S Q := by
  have hH := hN.1
  unfold InvH at hH
  have loop : ∀ m k : Nat, k + m = 6 → ∀ (kk : Int) (J : mj_I), kk = k → fr (fun a => a = 155) I J → (∀ s : Int, 0 ≤ s → s < k → rd J 155 s = sgn (rd I 151) s) →
      xW d 225 2 [some (.inr (13, 0, 150, 0)), some (.inl kk)] [] J S Q := by
    intro m
    induction m with
    | zero =>
      intro k hk kk J h1 h2 h3
      refine x_hd false [2] 20 ?_
      (repeat' (first | with_reducible assumption | with_reducible exact rfl | with_reducible exact trivial | (with_reducible (show (_ : Int) ≤ _); omega) | (with_reducible (show (_ : Int) < _); omega) | (with_reducible (show (_ : Nat) < _); omega) | (with_reducible (show (_ : Nat) ≤ _); omega) | with_reducible exact Or.inl rfl | with_reducible exact Or.inr rfl | with_reducible exact Or.inl trivial | with_reducible exact Or.inr trivial | (intro hz; exact absurd hz (by decide)) | (intro hz; exfalso; omega) | refine And.intro ?_ ?_ | intro _))
      exact h J h2 (fun s h0 h6 => h3 s h0 (by omega))
    | succ m ih =>
      intro k hk kk J h1 h2 h3
      have e3 : rd J 151 = rd I 151 := h2.r (by omega)
      refine x_hd false [2] 20 ?_
      (repeat' (first | refine m_of4 hS _ _ ?_ ?_ ?_ | rw [e3] | with_reducible assumption | with_reducible exact rfl | with_reducible exact trivial | (with_reducible (show (_ : Int) ≤ _); omega) | (with_reducible (show (_ : Int) < _); omega) | (with_reducible (show (_ : Nat) < _); omega) | (with_reducible (show (_ : Nat) ≤ _); omega) | with_reducible exact Or.inl rfl | with_reducible exact Or.inr rfl | with_reducible exact Or.inl trivial | with_reducible exact Or.inr trivial | (intro hz; exact absurd hz (by decide)) | (intro hz; exfalso; omega) | refine And.intro ?_ ?_ | intro _))
      all_goals refine ih (k + 1) (by omega) _ _ (by omega) (h2.up rfl _ _) (fun s h0 h6 => ?_)
      all_goals rw [rd_up (by omega) (by omega)]
      all_goals by_cases e : s = kk
      · subst e
        rw [ru_s]
        unfold sgn
        rw [if_neg (by omega)]
      · rw [ru_n e, h3 s h0 (by omega)]
      · subst e
        rw [ru_s]
        unfold sgn
        rw [if_pos (by omega)]
      · rw [ru_n e, h3 s h0 (by omega)]
  refine x_C false [.inr (13, 0, 150, 0)] [2] 20 hS ⟨xok_m hS, trivial⟩ ?_
  (repeat' (first | with_reducible assumption | with_reducible exact rfl | with_reducible exact trivial | (with_reducible (show (_ : Int) ≤ _); omega) | (with_reducible (show (_ : Int) < _); omega) | (with_reducible (show (_ : Nat) < _); omega) | (with_reducible (show (_ : Nat) ≤ _); omega) | with_reducible exact Or.inl rfl | with_reducible exact Or.inr rfl | with_reducible exact Or.inl trivial | with_reducible exact Or.inr trivial | (intro hz; exact absurd hz (by decide)) | (intro hz; exfalso; omega) | refine And.intro ?_ ?_ | intro _))
  exact loop 6 0 (by omega) _ _ rfl fr.refl (fun s h0 h6 => by omega)
/-- 271 allKept, 152 firstBroken -/
def brk (N W : Int → Int) : Nat → Nat → Int
  | 0, _ => -1
  | m + 1, k => if keptB N W k = true then brk N W m (k + 1) else k
/-- the first rule that these do not keep; -1: none -/
def brkS (N W : Int → Int) : Int := brk N W (N 4).toNat 0
theorem brk_b (N W : Int → Int) : ∀ m k : Nat, brk N W m k = -1 ∨ ((k : Int) ≤ brk N W m k ∧ brk N W m k < k + m)
  | 0, _ => Or.inl rfl
  | m + 1, k => by
    unfold brk
    split
    · have := brk_b N W m (k + 1)
      omega
    · omega
theorem keptB_c {N W W' : Int → Int} {r : Int} (hN : Inv N) (hr : 0 ≤ r ∧ r < N 4) (h : ∀ s, 0 ≤ s → s < N 3 → W s = W' s) : keptB N W r = keptB N W' r := by
  have hR := hN.2.2.2.1 r hr.1 hr.2
  unfold InvR at hR
  have key : ∀ k : Nat, lo1 N r + k ≤ N 3 → sb W (lo1 N r) k = sb W' (lo1 N r) k ∧ ngB W (lo1 N r) k = ngB W' (lo1 N r) k := by
    intro k
    induction k with
    | zero => exact fun _ => ⟨rfl, rfl⟩
    | succ k ih =>
      intro hk
      have := ih (by omega)
      have e := h (lo1 N r + k) (by unfold lo1; omega) (by omega)
      unfold sb ngB
      rw [this.1, this.2, e]
      exact ⟨rfl, rfl⟩
  by_cases h5 : N (88 + 4 * r + 0) = 5
  · have q := key (hi1 N r - lo1 N r + 1).toNat (by unfold hi1 lo1; omega)
    rw [keptB_m h5, keptB_m h5, q.1, q.2]
  · rw [keptB_p h5, keptB_p h5, h _ (by omega) (by omega), h _ (by omega) (by omega)]
theorem brk_c {N W W' : Int → Int} (hN : Inv N) (h : ∀ s, 0 ≤ s → s < N 3 → W s = W' s) : ∀ m k : Nat, (k + m : Int) ≤ N 4 → brk N W m k = brk N W' m k
  | 0, _, _ => rfl
  | m + 1, k, hk => by
    unfold brk
    rw [keptB_c hN (by omega) h, brk_c hN h m (k + 1) (by omega)]
theorem brkS_c {N W W' : Int → Int} (hN : Inv N) (h : ∀ s, 0 ≤ s → s < N 3 → W s = W' s) : brkS N W = brkS N W' := brk_c hN h _ _ (by have := hN.1.2.2.2.1; omega)
