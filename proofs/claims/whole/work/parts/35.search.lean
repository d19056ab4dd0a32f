/-! the reference's search: fits, begins, findAble -/
theorem fitN_f {N W : Int → Int} {s : Int} {k : Nat} (h : fitN N W s k = false) : ∀ m : Nat, fitN N W s (k + m) = false
  | 0 => h
  | m + 1 => by
    show (fitN N W s (k + m) && _) = false
    rw [fitN_f h m]
    rfl
theorem m_fits {d : Nat} {I : mj_I} {S : mj_S} {Q : mj_Q} (hS : mk_Sh S) (s : Int) (hN : Inv (rd I 151)) (hd : 2 < d) (hW : ∀ s, 0 ≤ s → s < 6 → -1 ≤ rd I 155 s ∧ rd I 155 s < rd I 151 2)
    (hT : fitB (rd I 151) (rd I 155) s = true → Q (some (.inl 1)) I S) (hF : fitB (rd I 151) (rd I 155) s = false → Q (some (.inl 0)) I S) : mj_C d 254 [.inr 150, .inl s] I S Q := by
  have hH := hN.1
  unfold InvH at hH
  have loop : ∀ m k : Nat, (k + m : Int) = rd I 151 4 → ∀ (kk : Int) (w : Option xV), kk = k → fitN (rd I 151) (rd I 155) s k = true → xW d 254 2 [some (.inr (13, 0, 150, 0)), some (.inl s), some (.inl kk), w] [] I S Q := by
    intro m
    induction m with
    | zero =>
      intro k hk kk w h1 h2
      refine x_hd false [2] 50 ?_
      (repeat' (first | with_reducible assumption | with_reducible exact rfl | with_reducible exact trivial | (with_reducible (show (_ : Int) ≤ _); omega) | (with_reducible (show (_ : Int) < _); omega) | (with_reducible (show (_ : Nat) < _); omega) | (with_reducible (show (_ : Nat) ≤ _); omega) | with_reducible exact Or.inl rfl | with_reducible exact Or.inr rfl | with_reducible exact Or.inl trivial | with_reducible exact Or.inr trivial | (intro hz; exact absurd hz (by decide)) | (intro hz; exfalso; omega) | refine And.intro ?_ ?_ | intro _))
      refine hT ?_
      unfold fitB
      rw [show (rd I 151 4).toNat = k by omega]
      exact h2
    | succ m ih =>
      intro k hk kk w h1 h2
      subst h1
      have eh : hi1 (rd I 151) k = max (rd I 151 (88 + 4 * (k : Int) + 1)) (rd I 151 (88 + 4 * (k : Int) + 2)) := rfl
      have nxt : (hi1 (rd I 151) k = s → keptB (rd I 151) (rd I 155) k = true) → ∀ w, xW d 254 2 [some (.inr (13, 0, 150, 0)), some (.inl s), some (.inl ((k : Int) + 1)), w] [] I S Q := by
        intro hq w
        refine ih (k + 1) (by omega) _ _ (by omega) ?_
        show (fitN (rd I 151) (rd I 155) s k && _) = true
        rw [h2, Bool.true_and]
        split
        · rename_i e
          exact hq e
        · rfl
      have bad : hi1 (rd I 151) k = s → keptB (rd I 151) (rd I 155) k = false → Q (some (.inl 0)) I S := by
        intro e1 e2
        refine hF ?_
        unfold fitB
        have e3 : fitN (rd I 151) (rd I 155) s (k + 1) = false := by
          show (fitN (rd I 151) (rd I 155) s k && _) = false
          rw [if_pos e1, e2, Bool.and_false]
        have := fitN_f e3 m
        rwa [show k + 1 + m = (rd I 151 4).toNat by omega] at this
      refine x_hd false [2] 50 ?_
      (repeat' (first | refine m_rule4 hS _ _ ?_ ?_ ?_ | refine m_keptBy hS _ hN ?_ ?_ hW ?_ ?_ | with_reducible assumption | with_reducible exact rfl | with_reducible exact trivial | (with_reducible (show (_ : Int) ≤ _); omega) | (with_reducible (show (_ : Int) < _); omega) | (with_reducible (show (_ : Nat) < _); omega) | (with_reducible (show (_ : Nat) ≤ _); omega) | with_reducible exact Or.inl rfl | with_reducible exact Or.inr rfl | with_reducible exact Or.inl trivial | with_reducible exact Or.inr trivial | (intro hz; exact absurd hz (by decide)) | (intro hz; exfalso; omega) | refine And.intro ?_ ?_ | intro _))
      all_goals first
        | exact nxt (fun e => by omega) _
        | (rename_i z _; exact nxt (fun _ => z) _)
        | (rename_i z _; exact bad (by omega) z)
  refine x_C false [.inr (13, 0, 150, 0), .inl s] [2] 30 hS ⟨xok_m hS, trivial, trivial⟩ ?_
  (repeat' (first | with_reducible assumption | with_reducible exact rfl | with_reducible exact trivial | (with_reducible (show (_ : Int) ≤ _); omega) | (with_reducible (show (_ : Int) < _); omega) | (with_reducible (show (_ : Nat) < _); omega) | (with_reducible (show (_ : Nat) ≤ _); omega) | with_reducible exact Or.inl rfl | with_reducible exact Or.inr rfl | with_reducible exact Or.inl trivial | with_reducible exact Or.inr trivial | (intro hz; exact absurd hz (by decide)) | (intro hz; exfalso; omega) | refine And.intro ?_ ?_ | intro _))
  exact loop (rd I 151 4).toNat 0 (by omega) _ _ rfl rfl
theorem m_begins {d : Nat} {I : mj_I} {S : mj_S} {Q : mj_Q} (hS : mk_Sh S) (h : ∀ J, fr (fun a => a = 155) I J → (∀ s, 0 ≤ s → s < 6 → rd J 155 s = -1) → Q none J S) : mj_C d 252 [.inr 150] I S Q := by
  have loop : ∀ m k : Nat, k + m = 6 → ∀ (kk : Int) (J : mj_I), kk = k → fr (fun a => a = 155) I J → (∀ s : Int, 0 ≤ s → s < k → rd J 155 s = -1) → xW d 252 2 [some (.inr (13, 0, 150, 0)), some (.inl kk)] [] J S Q := by
    intro m
    induction m with
    | zero =>
      intro k hk kk J h1 h2 h3
      refine x_hd false [2] 30 ?_
      (repeat' (first | with_reducible assumption | with_reducible exact rfl | with_reducible exact trivial | (with_reducible (show (_ : Int) ≤ _); omega) | (with_reducible (show (_ : Int) < _); omega) | (with_reducible (show (_ : Nat) < _); omega) | (with_reducible (show (_ : Nat) ≤ _); omega) | with_reducible exact Or.inl rfl | with_reducible exact Or.inr rfl | with_reducible exact Or.inl trivial | with_reducible exact Or.inr trivial | (intro hz; exact absurd hz (by decide)) | (intro hz; exfalso; omega) | refine And.intro ?_ ?_ | intro _))
      exact h J h2 (fun s h0 h1 => h3 s h0 (by omega))
    | succ m ih =>
      intro k hk kk J h1 h2 h3
      refine x_hd false [2] 30 ?_
      (repeat' (first | with_reducible assumption | with_reducible exact rfl | with_reducible exact trivial | (with_reducible (show (_ : Int) ≤ _); omega) | (with_reducible (show (_ : Int) < _); omega) | (with_reducible (show (_ : Nat) < _); omega) | (with_reducible (show (_ : Nat) ≤ _); omega) | with_reducible exact Or.inl rfl | with_reducible exact Or.inr rfl | with_reducible exact Or.inl trivial | with_reducible exact Or.inr trivial | (intro hz; exact absurd hz (by decide)) | (intro hz; exfalso; omega) | refine And.intro ?_ ?_ | intro _))
      refine ih (k + 1) (by omega) _ _ (by omega) (h2.up rfl _ _) (fun s h0 h1 => ?_)
      rw [rd_up (by omega) (by omega)]
      by_cases e : s = kk
      · rw [e, ru_s]
      · rw [ru_n e]
        exact h3 s h0 (by omega)
  refine x_C false [.inr (13, 0, 150, 0)] [2] 30 hS ⟨xok_m hS, trivial⟩ ?_
  (repeat' (first | with_reducible assumption | with_reducible exact rfl | with_reducible exact trivial | (with_reducible (show (_ : Int) ≤ _); omega) | (with_reducible (show (_ : Int) < _); omega) | (with_reducible (show (_ : Nat) < _); omega) | (with_reducible (show (_ : Nat) ≤ _); omega) | with_reducible exact Or.inl rfl | with_reducible exact Or.inr rfl | with_reducible exact Or.inl trivial | with_reducible exact Or.inr trivial | (intro hz; exact absurd hz (by decide)) | (intro hz; exfalso; omega) | refine And.intro ?_ ?_ | intro _))
  exact loop 6 0 (by omega) _ _ rfl fr.refl (fun s h0 h1 => by omega)
/-- who can do a step, as bits -/
def abN (N M : Int → Int) (day mis s : Int) : Nat → Int
  | 0 => 0
  | p + 1 => mj_or (abN N M day mis s p) (if abB N M day mis s p = true then mj_shl 1 p else 0)
theorem abN_t {N M : Int → Int} {day mis s : Int} : ∀ k : Nat, k ≤ 7 → ∀ i : Nat, i < 32 → mt (abN N M day mis s k) i = (decide (i < k) && abB N M day mis s i)
  | 0, _, i, hi => by
    rw [decide_eq_false (by omega), Bool.false_and]
    exact mt_0 i
  | k + 1, h, i, hi => by
    have ih := abN_t (N := N) (M := M) (day := day) (mis := mis) (s := s) k (by omega) i hi
    unfold abN
    rw [mt_or, ih]
    by_cases e : i = k
    · subst e
      rw [decide_eq_false (show ¬ i < i by omega), Bool.false_and, Bool.false_or, decide_eq_true (show i < i + 1 by omega), Bool.true_and]
      split
      · rename_i q
        rw [mt_one (by omega) hi, decide_eq_true rfl, q]
      · rename_i q
        rw [mt_0]
        cases hb : abB N M day mis s i with
        | true => exact absurd hb q
        | false => rfl
    · have e2 : mt (if abB N M day mis s k = true then mj_shl 1 k else 0) i = false := by
        split
        · rw [mt_one (by omega) hi, decide_eq_false (by omega)]
        · exact mt_0 i
      rw [e2, Bool.or_false]
      by_cases e3 : i < k
      · rw [decide_eq_true e3, decide_eq_true (show i < k + 1 by omega)]
      · rw [decide_eq_false e3, decide_eq_false (show ¬ i < k + 1 by omega)]
/-- 251 findAble -/
theorem m_findAble {d : Nat} {I : mj_I} {S : mj_S} {Q : mj_Q} (hS : mk_Sh S) (day mis : Int) (hN : Inv (rd I 151)) (hd : 3 < d)
    (h : ∀ J, fr (fun a => a = 162 ∨ a = 163 ∨ a = 164) I J → (∀ s, 0 ≤ s → s < rd I 151 3 → rd J 164 s = abN (rd I 151) (rd I 154) day mis s (rd I 151 2).toNat) → Q none J S) : mj_C d 251 [.inr 150, .inl day, .inl mis] I S Q := by
  have hH := hN.1
  unfold InvH at hH
  have loop : ∀ m k : Nat, (k + m : Int) = rd I 151 3 → ∀ (kk : Int) (w1 w2 : Option xV) (J : mj_I), kk = k → fr (fun a => a = 162 ∨ a = 163 ∨ a = 164) I J → (∀ s : Int, 0 ≤ s → s < k → rd J 164 s = abN (rd I 151) (rd I 154) day mis s (rd I 151 2).toNat) →
      xW d 251 2 [some (.inr (13, 0, 150, 0)), some (.inl day), some (.inl mis), some (.inl kk), w1, w2] [] J S Q := by
    intro m
    induction m with
    | zero =>
      intro k hk kk w1 w2 J h1 h2 h3
      have e151 : rd J 151 = rd I 151 := h2.r (by omega)
      refine x_hd false [2] 30 ?_
      (repeat' (first | rw [e151] | with_reducible assumption | with_reducible exact rfl | with_reducible exact trivial | (with_reducible (show (_ : Int) ≤ _); omega) | (with_reducible (show (_ : Int) < _); omega) | (with_reducible (show (_ : Nat) < _); omega) | (with_reducible (show (_ : Nat) ≤ _); omega) | with_reducible exact Or.inl rfl | with_reducible exact Or.inr rfl | with_reducible exact Or.inl trivial | with_reducible exact Or.inr trivial | (intro hz; exact absurd hz (by decide)) | (intro hz; exfalso; omega) | refine And.intro ?_ ?_ | intro _))
      exact h J h2 (fun s h0 h1 => h3 s h0 (by omega))
    | succ m ih =>
      intro k hk kk w1 w2 J h1 h2 h3
      subst h1
      have e151 : rd J 151 = rd I 151 := h2.r (by omega)
      have inner : ∀ x p : Nat, (p + x : Int) = rd I 151 2 → ∀ (pp : Int) (w3 : Option xV) (A : mj_I), pp = p → fr (fun a => a = 162 ∨ a = 163 ∨ a = 164) I A → (∀ s : Int, 0 ≤ s → s < k → rd A 164 s = abN (rd I 151) (rd I 154) day mis s (rd I 151 2).toNat) → rd A 164 k = abN (rd I 151) (rd I 154) day mis k p →
          xW d 251 15 [some (.inr (13, 0, 150, 0)), some (.inl day), some (.inl mis), some (.inl (k : Int)), some (.inl pp), w3] [] A S Q := by
        intro x
        induction x with
        | zero =>
          intro p hp pp w3 A g1 g2 g3 g4
          have a151 : rd A 151 = rd I 151 := g2.r (by omega)
          refine x_hd false [2, 15] 30 ?_
          (repeat' (first | rw [a151] | with_reducible assumption | with_reducible exact rfl | with_reducible exact trivial | (with_reducible (show (_ : Int) ≤ _); omega) | (with_reducible (show (_ : Int) < _); omega) | (with_reducible (show (_ : Nat) < _); omega) | (with_reducible (show (_ : Nat) ≤ _); omega) | with_reducible exact Or.inl rfl | with_reducible exact Or.inr rfl | with_reducible exact Or.inl trivial | with_reducible exact Or.inr trivial | (intro hz; exact absurd hz (by decide)) | (intro hz; exfalso; omega) | refine And.intro ?_ ?_ | intro _))
          refine ih (k + 1) (by omega) _ _ _ _ (by omega) g2 (fun s h0 h1 => ?_)
          by_cases e : s = k
          · rw [e, g4, show (rd I 151 2).toNat = p by omega]
          · exact g3 s h0 (by omega)
        | succ x ihx =>
          intro p hp pp w3 A g1 g2 g3 g4
          subst g1
          have a151 : rd A 151 = rd I 151 := g2.r (by omega)
          have a154 : rd A 154 = rd I 154 := g2.r (by omega)
          have hask : mj_and (mj_shr mis p) 1 = 0 ↔ mt mis p = false := mj_ask0 mis (by omega)
          have fin : ∀ (B : mj_I) (b : Int) (w3 : Option xV), fr (fun a => a = 162 ∨ a = 163) A B → b = (if abB (rd I 151) (rd I 154) day mis k p = true then mj_shl 1 p else 0) → xW d 251 15 [some (.inr (13, 0, 150, 0)), some (.inl day), some (.inl mis), some (.inl (k : Int)), some (.inl ((p : Int) + 1)), w3] [] (up B 164 k (mj_or (rd B 164 k) b)) S Q := by
            intro B b w3 hB hb
            have b164 : rd B 164 = rd A 164 := hB.r (by omega)
            refine ihx (p + 1) (by omega) _ _ _ (by omega) ((g2.tr (hB.mo (fun a q => by omega))).up (Or.inr (Or.inr rfl)) _ _) (fun s h0 h1 => ?_) ?_
            · rw [rd_up (by omega) (by omega), ru_n (by omega), b164]
              exact g3 s h0 h1
            · rw [rd_up (by omega) (by omega), ru_s, b164, g4, hb]
              rfl
          have habo : rd I 151 (64 + 4 * (k : Int) + 3) < 0 → abB (rd I 151) (rd I 154) day mis k p = (!(mt mis p) && mayS (rd I 151) (rd I 154) p k day) := fun q => by
            unfold abB
            rw [if_neg (by omega)]
            rfl
          have habs : ¬ rd I 151 (64 + 4 * (k : Int) + 3) < 0 → abB (rd I 151) (rd I 154) day mis k p = decide (rd I 151 (64 + 4 * (k : Int) + 3) = p) := fun q => by
            unfold abB
            rw [if_pos (by omega)]
          refine x_hd false [2, 15] 60 ?_
          (repeat' (first | rw [a151] | refine m_of4 hS _ _ ?_ ?_ ?_ | refine m_mayDo hS _ _ _ (by rw [a151]; exact hN) ?_ ?_ ?_ ?_ ?_ | with_reducible assumption | with_reducible exact rfl | with_reducible exact trivial | (with_reducible (show (_ : Int) ≤ _); omega) | (with_reducible (show (_ : Int) < _); omega) | (with_reducible (show (_ : Nat) < _); omega) | (with_reducible (show (_ : Nat) ≤ _); omega) | with_reducible exact Or.inl rfl | with_reducible exact Or.inr rfl | with_reducible exact Or.inl trivial | with_reducible exact Or.inr trivial | (intro hz; exact absurd hz (by decide)) | (intro hz; exfalso; omega) | refine And.intro ?_ ?_ | intro _))
          · rename_i z1 z2 _
            have hm : mt mis p = true := by
              cases e : mt mis p with
              | true => rfl
              | false => exact absurd (hask.mpr e) z2
            refine fin A 0 _ fr.refl ?_
            rw [habo z1, hm]
            rfl
          · rename_i z1 z2 z3 B hB _ _
            rw [a154] at z3
            refine fin B _ _ hB ?_
            rw [habo z1, hask.mp z2, z3]
            rfl
          · rename_i z1 z2 z3 B hB _ _
            rw [a154] at z3
            refine fin B 0 _ hB ?_
            rw [habo z1, hask.mp z2, z3]
            rfl
          · rename_i z1 z2 _
            refine fin A 0 _ fr.refl ?_
            rw [habs z1, decide_eq_false z2]
            rfl
          · rename_i z1 z2 _
            refine fin A _ _ fr.refl ?_
            rw [habs z1, decide_eq_true z2]
            rfl
      refine x_hd false [2, 15] 30 ?_
      (repeat' (first | rw [e151] | with_reducible assumption | with_reducible exact rfl | with_reducible exact trivial | (with_reducible (show (_ : Int) ≤ _); omega) | (with_reducible (show (_ : Int) < _); omega) | (with_reducible (show (_ : Nat) < _); omega) | (with_reducible (show (_ : Nat) ≤ _); omega) | with_reducible exact Or.inl rfl | with_reducible exact Or.inr rfl | with_reducible exact Or.inl trivial | with_reducible exact Or.inr trivial | (intro hz; exact absurd hz (by decide)) | (intro hz; exfalso; omega) | refine And.intro ?_ ?_ | intro _))
      refine inner (rd I 151 2).toNat 0 (by omega) _ _ _ rfl (h2.up (Or.inr (Or.inr rfl)) _ _) (fun s h0 h1 => ?_) ?_
      · rw [rd_up (by omega) (by omega), ru_n (by omega)]
        exact h3 s h0 h1
      · rw [rd_up (by omega) (by omega), ru_s]
        rfl
  refine x_C false [.inr (13, 0, 150, 0), .inl day, .inl mis] [2] 30 hS ⟨xok_m hS, trivial, trivial, trivial⟩ ?_
  (repeat' (first | with_reducible assumption | with_reducible exact rfl | with_reducible exact trivial | (with_reducible (show (_ : Int) ≤ _); omega) | (with_reducible (show (_ : Int) < _); omega) | (with_reducible (show (_ : Nat) < _); omega) | (with_reducible (show (_ : Nat) ≤ _); omega) | with_reducible exact Or.inl rfl | with_reducible exact Or.inr rfl | with_reducible exact Or.inl trivial | with_reducible exact Or.inr trivial | (intro hz; exact absurd hz (by decide)) | (intro hz; exfalso; omega) | refine And.intro ?_ ?_ | intro _))
  exact loop (rd I 151 3).toNat 0 (by omega) _ _ _ _ rfl fr.refl (fun s h0 h1 => by omega)
