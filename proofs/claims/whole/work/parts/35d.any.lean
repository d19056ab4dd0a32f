/-! bearsAny -/
/-- the first set of n people, from k on, without whom there is no way; -1: none -/
def fbr (N M : Int → Int) (day n : Int) : Nat → Nat → Int
  | 0, _ => -1
  | m + 1, k => if pc7 k = n ∧ (allW N (abB N M day k)).isEmpty = true then k else fbr N M day n m (k + 1)
theorem shl_2 : ∀ p, p < 8 → mj_shl 1 ((p : Nat) : Int) = ((2 ^ p : Nat) : Int) := by decide +kernel
def sets (N : Int → Int) : Nat := 2 ^ (N 2).toNat
theorem sets_b {N : Int → Int} (h : 0 ≤ N 2 ∧ N 2 ≤ 7) : mj_shl 1 (N 2) = (sets N : Int) ∧ sets N ≤ 128 := by
  have e := shl_2 (N 2).toNat (by omega)
  rw [show (((N 2).toNat : Nat) : Int) = N 2 by omega] at e
  refine ⟨e, ?_⟩
  unfold sets
  have : ∀ p, p < 8 → 2 ^ p ≤ 128 := by decide
  exact this _ (by omega)
theorem m_bearsAny {d : Nat} {I : mj_I} {S : mj_S} {Q : mj_Q} (hS : mk_Sh S) (n : Int) (hN : Inv (rd I 151)) (hd : 5 < d)
    (hT : fbr (rd I 151) (rd I 154) (rd I 151 1) n (sets (rd I 151)) 0 < 0 → ∀ J, fr (fun a => a = 155 ∨ a = 162 ∨ a = 163 ∨ a = 164) I J → Q (some (.inl 1)) J S)
    (hF : ¬ fbr (rd I 151) (rd I 154) (rd I 151 1) n (sets (rd I 151)) 0 < 0 → ∀ J, fr (fun a => a = 155 ∨ a = 162 ∨ a = 163 ∨ a = 164) I J → Q (some (.inl 0)) J S) : mj_C d 264 [.inr 150, .inl n] I S Q := by
  have hH := hN.1
  unfold InvH at hH
  obtain ⟨b1, b2⟩ := sets_b (N := rd I 151) (by omega)
  generalize hT0 : fbr (rd I 151) (rd I 154) (rd I 151 1) n (sets (rd I 151)) 0 = T at hT hF
  have loop : ∀ m k : Nat, k + m = sets (rd I 151) → ∀ (kk : Int) (J : mj_I), kk = k → fr (fun a => a = 155 ∨ a = 162 ∨ a = 163 ∨ a = 164) I J → T = fbr (rd I 151) (rd I 154) (rd I 151 1) n m k →
      xW d 264 2 [some (.inr (13, 0, 150, 0)), some (.inl n), some (.inl kk)] [] J S Q := by
    intro m
    induction m with
    | zero =>
      intro k hk kk J h1 h2 h3
      have e151 : rd J 151 = rd I 151 := h2.r (by omega)
      refine x_hd false [2] 30 ?_
      (repeat' (first | rw [e151] | rw [b1] | with_reducible assumption | with_reducible exact rfl | with_reducible exact trivial | (with_reducible (show (_ : Int) ≤ _); omega) | (with_reducible (show (_ : Int) < _); omega) | (with_reducible (show (_ : Nat) < _); omega) | (with_reducible (show (_ : Nat) ≤ _); omega) | with_reducible exact Or.inl rfl | with_reducible exact Or.inr rfl | with_reducible exact Or.inl trivial | with_reducible exact Or.inr trivial | (intro hz; exact absurd hz (by decide)) | (intro hz; exfalso; omega) | refine And.intro ?_ ?_ | intro _))
      exact hT (by rw [h3]; show (-1 : Int) < 0; decide) J h2
    | succ m ih =>
      intro k hk kk J h1 h2 h3
      subst h1
      have e151 : rd J 151 = rd I 151 := h2.r (by omega)
      have e154 : rd J 154 = rd I 154 := h2.r (by omega)
      unfold fbr at h3
      refine x_hd false [2] 30 ?_
      (repeat' (first | rw [e151] | rw [b1] | refine m_ones hS _ ?_ | refine m_hasWay hS _ _ (by rw [e151]; exact hN) ?_ ?_ ?_ | with_reducible assumption | with_reducible exact rfl | with_reducible exact trivial | (with_reducible (show (_ : Int) ≤ _); omega) | (with_reducible (show (_ : Int) < _); omega) | (with_reducible (show (_ : Nat) < _); omega) | (with_reducible (show (_ : Nat) ≤ _); omega) | with_reducible exact Or.inl rfl | with_reducible exact Or.inr rfl | with_reducible exact Or.inl trivial | with_reducible exact Or.inr trivial | (intro hz; exact absurd hz (by decide)) | (intro hz; exfalso; omega) | refine And.intro ?_ ?_ | intro _))
      · rename_i z
        rw [if_neg (fun q => z q.1)] at h3
        exact ih (k + 1) (by omega) _ _ (by omega) h2 h3
      · rename_i z y A hA _
        rw [e154] at y
        rw [if_neg (fun q => y (List.isEmpty_iff.mp q.2))] at h3
        exact ih (k + 1) (by omega) _ _ (by omega) (h2.tr hA) h3
      · rename_i z y A hA _
        rw [e154] at y
        rw [if_pos ⟨z, List.isEmpty_iff.mpr y⟩] at h3
        exact hF (by omega) A (h2.tr hA)
  refine x_C false [.inr (13, 0, 150, 0), .inl n] [2] 30 hS ⟨xok_m hS, trivial, trivial⟩ ?_
  (repeat' (first | with_reducible assumption | with_reducible exact rfl | with_reducible exact trivial | (with_reducible (show (_ : Int) ≤ _); omega) | (with_reducible (show (_ : Int) < _); omega) | (with_reducible (show (_ : Nat) < _); omega) | (with_reducible (show (_ : Nat) ≤ _); omega) | with_reducible exact Or.inl rfl | with_reducible exact Or.inr rfl | with_reducible exact Or.inl trivial | with_reducible exact Or.inr trivial | (intro hz; exact absurd hz (by decide)) | (intro hz; exfalso; omega) | refine And.intro ?_ ?_ | intro _))
  exact loop (sets (rd I 151)) 0 (by omega) _ _ rfl fr.refl hT0.symm
