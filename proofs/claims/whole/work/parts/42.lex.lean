/-! the words of the tape -/
def srt (c : Int) : Int := if 97 ≤ c ∧ c ≤ 122 then 1 else if 48 ≤ c ∧ c ≤ 57 then 2 else 3
def skp (T : Int → Int) (L : Int) : Nat → Int → Int
  | 0, e => e
  | f + 1, e => if e < L ∧ T e = 32 then skp T L f (e + 1) else e
def rnn (T : Int → Int) (L k : Int) : Nat → Int → Int
  | 0, e => e
  | f + 1, e => if e < L ∧ srt (T e) = k then rnn T L k f (e + 1) else e
theorem skp_b {T : Int → Int} {L : Int} : ∀ (f : Nat) (e : Int), e ≤ skp T L f e ∧ (e ≤ L → skp T L f e ≤ L)
  | 0, e => ⟨Int.le_refl _, fun h => h⟩
  | f + 1, e => by
    unfold skp
    split
    · have := skp_b (T := T) (L := L) f (e + 1)
      omega
    · omega
theorem rnn_b {T : Int → Int} {L k : Int} : ∀ (f : Nat) (e : Int), e ≤ rnn T L k f e ∧ (e ≤ L → rnn T L k f e ≤ L)
  | 0, e => ⟨Int.le_refl _, fun h => h⟩
  | f + 1, e => by
    unfold rnn
    split
    · have := rnn_b (T := T) (L := L) (k := k) f (e + 1)
      omega
    · omega
theorem srt_b (c : Int) : 1 ≤ srt c ∧ srt c ≤ 3 := by
  unfold srt
  split
  · omega
  · split <;> omega
/-- the next word: its sort, from, to -/
def nxA (T : Int → Int) (L b : Int) : Int := skp T L 100 b
def nxB (T : Int → Int) (L b : Int) : Int := if L ≤ nxA T L b then nxA T L b else if srt (T (nxA T L b)) = 3 then nxA T L b + 1 else rnn T L (srt (T (nxA T L b))) 100 (nxA T L b + 1)
def nxK (T : Int → Int) (L k b : Int) : Int := if L ≤ nxA T L b then 0 else if srt (T (nxA T L b)) = 3 then 3 else if (k = 1 ∨ k = 2) ∧ nxA T L b = b then 4 else srt (T (nxA T L b))
theorem c_sortOf {d : Nat} {I : mj_I} {S : mj_S} {Q : mj_Q} (hS : mk_Sh S) (c : Int) (h : Q (some (.inl (srt c))) I S) : mj_C d 72 [.inl c] I S Q := by
  refine x_C false [.inl c] [] 20 hS ⟨trivial, trivial⟩ ?_
  (repeat' (first | with_reducible assumption | with_reducible exact rfl | with_reducible exact trivial | (with_reducible (show (_ : Int) ≤ _); omega) | (with_reducible (show (_ : Int) < _); omega) | (with_reducible (show (_ : Nat) < _); omega) | (with_reducible (show (_ : Nat) ≤ _); omega) | with_reducible exact Or.inl rfl | with_reducible exact Or.inr rfl | with_reducible exact Or.inl trivial | with_reducible exact Or.inr trivial | (intro hz; exact absurd hz (by decide)) | (intro hz; exfalso; omega) | refine And.intro ?_ ?_ | intro _))
  all_goals (refine Qe h ?_; unfold srt; split <;> first | omega | (split <;> omega))
/-- 71 next -/
theorem c_next {d : Nat} {I : mj_I} {S : mj_S} {Q : mj_Q} (hS : mk_Sh S) {T : Int → Int} {L k b : Int} (hT : rd I 116 = T) (hL : I 115 1 = L) (hL2 : 0 ≤ L ∧ L ≤ 96) (hk : I 115 2 = k) (hb : I 115 4 = b) (hb2 : 0 ≤ b ∧ b ≤ L) (hd : 0 < d)
    (h : ∀ J, fr (fun a => a = 115) I J → (∀ j, j ≠ 2 → j ≠ 3 → j ≠ 4 → J 115 j = I 115 j) → J 115 2 = nxK T L k b → J 115 3 = nxA T L b → J 115 4 = nxB T L b → Q none J S) : mj_C d 71 [.inr 115] I S Q := by
  have hAb := skp_b (T := T) (L := L) 100 b
  have d1 : nxA T L b < L → ¬ srt (T (nxA T L b)) = 3 → ∀ J, fr (fun a => a = 115) I J → (∀ j, j ≠ 2 → j ≠ 3 → j ≠ 4 → J 115 j = I 115 j) → J 115 2 = srt (T (nxA T L b)) → J 115 3 = nxA T L b → J 115 4 = rnn T L (srt (T (nxA T L b))) 100 (nxA T L b + 1) → (¬ ((k = 1 ∨ k = 2) ∧ nxA T L b = b) → Q none J S) ∧ ((k = 1 ∨ k = 2) ∧ nxA T L b = b → Q none (mj_up J 115 2 4) S) := by
    intro q1 q2 J hJ j0 j2 j3 j4
    have eB : nxB T L b = rnn T L (srt (T (nxA T L b))) 100 (nxA T L b + 1) := by unfold nxB; rw [if_neg (by omega), if_neg q2]
    refine ⟨fun z => ?_, fun z => ?_⟩
    · refine h J hJ j0 ?_ j3 (by rw [j4, eB])
      unfold nxK
      rw [if_neg (by omega), if_neg q2, if_neg z, j2]
    · refine h _ (hJ.mu rfl _ _) (fun j a b c => by rw [mu_f (by omega)]; exact j0 j a b c) ?_ (by rw [mu_f (by omega)]; exact j3) (by rw [mu_f (by omega), j4, eB])
      unfold nxK
      rw [if_neg (by omega), if_neg q2, if_pos z, mj_up_s]
  have loop2 : ∀ (f : Nat) (e : Int), L ≤ e + f → 0 ≤ e → e ≤ L → ∀ (J : mj_I) (w1 : Int), fr (fun a => a = 115) I J → (∀ j, j ≠ 2 → j ≠ 3 → j ≠ 4 → J 115 j = I 115 j) → nxA T L b < L → ¬ srt (T (nxA T L b)) = 3 → J 115 2 = srt (T (nxA T L b)) → J 115 3 = nxA T L b → J 115 4 = e → (w1 = 0 ∧ ¬ (k = 1 ∨ k = 2) ∨ w1 = 1 ∧ (k = 1 ∨ k = 2)) → rnn T L (srt (T (nxA T L b))) 100 (nxA T L b + 1) = rnn T L (srt (T (nxA T L b))) f e → xW d 71 70 [some (.inr (9, 0, 115, 0)), some (.inl w1), some (.inl b)] [] J S Q := by
    intro f
    induction f with
    | zero =>
      intro e e0 e1 e2 J w1 hJ j0 q1 q2 j2 j3 j4 hw he
      have jL : J 115 1 = L := by rw [j0 1 (by decide) (by decide) (by decide)]; exact hL
      have q1' : e = L := by omega
      refine x_hd false [70] 40 ?_
      (repeat' (first | rw [jL] | rw [j4] | rw [j3] | with_reducible assumption | with_reducible exact rfl | with_reducible exact trivial | (with_reducible (show (_ : Int) ≤ _); omega) | (with_reducible (show (_ : Int) < _); omega) | (with_reducible (show (_ : Nat) < _); omega) | (with_reducible (show (_ : Nat) ≤ _); omega) | with_reducible exact Or.inl rfl | with_reducible exact Or.inr rfl | with_reducible exact Or.inl trivial | with_reducible exact Or.inr trivial | (intro hz; exact absurd hz (by decide)) | (intro hz; exfalso; omega) | refine And.intro ?_ ?_ | intro _))
      · exact (d1 q1 q2 J hJ j0 j2 j3 (by rw [j4, he]; rfl)).1 (by omega)
      · exact (d1 q1 q2 J hJ j0 j2 j3 (by rw [j4, he]; rfl)).1 (by omega)
      · exact (d1 q1 q2 J hJ j0 j2 j3 (by rw [j4, he]; rfl)).2 (by omega)
    | succ f ih =>
      intro e e0 e1 e2 J w1 hJ j0 q1 q2 j2 j3 j4 hw he
      have jL : J 115 1 = L := by rw [j0 1 (by decide) (by decide) (by decide)]; exact hL
      have jT : rd J 116 = T := by rw [hJ.r (by omega)]; exact hT
      have r1 : ¬ (e < L ∧ srt (T e) = srt (T (nxA T L b))) → rnn T L (srt (T (nxA T L b))) (f + 1) e = e := fun z => if_neg z
      have r2 : (e < L ∧ srt (T e) = srt (T (nxA T L b))) → rnn T L (srt (T (nxA T L b))) (f + 1) e = rnn T L (srt (T (nxA T L b))) f (e + 1) := fun z => if_pos z
      refine x_hd false [70] 40 ?_
      (repeat' (first | rw [jL] | rw [j4] | rw [j3] | rw [jT] | rw [j2] | refine c_sortOf hS _ ?_ | with_reducible assumption | with_reducible exact rfl | with_reducible exact trivial | (with_reducible (show (_ : Int) ≤ _); omega) | (with_reducible (show (_ : Int) < _); omega) | (with_reducible (show (_ : Nat) < _); omega) | (with_reducible (show (_ : Nat) ≤ _); omega) | with_reducible exact Or.inl rfl | with_reducible exact Or.inr rfl | with_reducible exact Or.inl trivial | with_reducible exact Or.inr trivial | (intro hz; exact absurd hz (by decide)) | (intro hz; exfalso; omega) | refine And.intro ?_ ?_ | intro _))
      · exact (d1 q1 q2 J hJ j0 j2 j3 (by rw [j4, he, r1 (by omega)])).1 (by omega)
      · exact (d1 q1 q2 J hJ j0 j2 j3 (by rw [j4, he, r1 (by omega)])).1 (by omega)
      · exact (d1 q1 q2 J hJ j0 j2 j3 (by rw [j4, he, r1 (by omega)])).2 (by omega)
      · rename_i z _
        exact (d1 q1 q2 J hJ j0 j2 j3 (by rw [j4, he, r1 (fun q => z q.2)])).1 (by omega)
      · rename_i z _ _
        exact (d1 q1 q2 J hJ j0 j2 j3 (by rw [j4, he, r1 (fun q => z q.2)])).1 (by omega)
      · rename_i z _ _
        exact (d1 q1 q2 J hJ j0 j2 j3 (by rw [j4, he, r1 (fun q => z q.2)])).2 (by omega)
      · rename_i z
        refine ih (e + 1) (by omega) (by omega) (by omega) _ w1 (hJ.mu rfl _ _) (fun j a b c => by rw [mu_f (by omega)]; exact j0 j a b c) q1 q2 (by rw [mu_f (by omega)]; exact j2) (by rw [mu_f (by omega)]; exact j3) mj_up_s hw ?_
        rw [he, r2 ⟨by omega, z⟩]
  have mid : ∀ (J : mj_I) (w1 : Int), fr (fun a => a = 115) I J → (∀ j, j ≠ 3 → J 115 j = I 115 j) → J 115 3 = nxA T L b → (w1 = 0 ∧ ¬ (k = 1 ∨ k = 2) ∨ w1 = 1 ∧ (k = 1 ∨ k = 2)) → xW d 71 38 [some (.inr (9, 0, 115, 0)), some (.inl w1), some (.inl b)] [] J S Q := by
    intro J w1 hJ j0 j3 hw
    have jL : J 115 1 = L := by rw [j0 1 (by decide)]; exact hL
    have jT : rd J 116 = T := by rw [hJ.r (by omega)]; exact hT
    have hA0 : 0 ≤ nxA T L b := by unfold nxA; omega
    refine x_hd false [70] 60 ?_
    have hA : b ≤ nxA T L b ∧ nxA T L b ≤ L := ⟨hAb.1, hAb.2 hb2.2⟩
    (repeat' (first | simp (disch := omega) only [rd_up, rd_uo, rd_mu, up_f, mu_f, mj_up_s, ru_s, ru_n] | rw [jL] | rw [j3] | rw [jT] | refine c_sortOf hS _ ?_ | with_reducible assumption | with_reducible exact rfl | with_reducible exact trivial | (with_reducible (show (_ : Int) ≤ _); omega) | (with_reducible (show (_ : Int) < _); omega) | (with_reducible (show (_ : Nat) < _); omega) | (with_reducible (show (_ : Nat) ≤ _); omega) | with_reducible exact Or.inl rfl | with_reducible exact Or.inr rfl | with_reducible exact Or.inl trivial | with_reducible exact Or.inr trivial | (intro hz; exact absurd hz (by decide)) | (intro hz; exfalso; omega) | refine And.intro ?_ ?_ | intro _))
    · rename_i z1 z2
      refine loop2 100 (nxA T L b + 1) (by omega) (by omega) (by omega) _ w1 (((hJ.mu rfl _ _).mu rfl _ _).mu rfl _ _) (fun j a b c => by rw [mu_f (by omega), mu_f (by omega), mu_f (by omega)]; exact j0 j b) z1 z2 (by rw [mu_f (by omega)]; exact mj_up_s) (by rw [mu_f (by omega), mu_f (by omega), mu_f (by omega)]; exact j3) mj_up_s hw rfl
    · rename_i z1 z2
      refine h _ (((hJ.mu rfl _ _).mu rfl _ _).mu rfl _ _) (fun j a b c => by rw [mu_f (by omega), mu_f (by omega), mu_f (by omega)]; exact j0 j b) ?_ (by rw [mu_f (by omega), mu_f (by omega), mu_f (by omega)]; exact j3) ?_
      · rw [mu_f (by omega), mj_up_s]
        unfold nxK
        rw [if_neg (by omega), if_pos z2, z2]
      · rw [mj_up_s]
        unfold nxB
        rw [if_neg (by omega), if_pos z2]
    · rename_i z1
      refine h (mj_up (mj_up J 115 4 (nxA T L b)) 115 2 0) ((hJ.mu rfl _ _).mu rfl _ _) (fun j a b c => by rw [mu_f (by omega), mu_f (by omega)]; exact j0 j b) ?_ (by rw [mu_f (by omega), mu_f (by omega)]; exact j3) ?_
      · rw [mj_up_s]
        unfold nxK
        rw [if_pos (by omega)]
      · rw [mu_f (by omega), mj_up_s]
        unfold nxB
        rw [if_pos (by omega)]
  have loop1 : ∀ (f : Nat) (e : Int), L ≤ e + f → 0 ≤ e → e ≤ L → ∀ (J : mj_I) (w1 : Int), fr (fun a => a = 115) I J → (∀ j, j ≠ 3 → J 115 j = I 115 j) → J 115 3 = e → (w1 = 0 ∧ ¬ (k = 1 ∨ k = 2) ∨ w1 = 1 ∧ (k = 1 ∨ k = 2)) → nxA T L b = skp T L f e → xW d 71 19 [some (.inr (9, 0, 115, 0)), some (.inl w1), some (.inl b)] [] J S Q := by
    intro f
    induction f with
    | zero =>
      intro e e0 e1 e2 J w1 hJ j0 j3 hw he
      have jL : J 115 1 = L := by rw [j0 1 (by decide)]; exact hL
      refine x_hd false [19, 38] 40 ?_
      (repeat' (first | rw [jL] | rw [j3] | with_reducible assumption | with_reducible exact rfl | with_reducible exact trivial | (with_reducible (show (_ : Int) ≤ _); omega) | (with_reducible (show (_ : Int) < _); omega) | (with_reducible (show (_ : Nat) < _); omega) | (with_reducible (show (_ : Nat) ≤ _); omega) | with_reducible exact Or.inl rfl | with_reducible exact Or.inr rfl | with_reducible exact Or.inl trivial | with_reducible exact Or.inr trivial | (intro hz; exact absurd hz (by decide)) | (intro hz; exfalso; omega) | refine And.intro ?_ ?_ | intro _))
      exact mid J w1 hJ j0 (by rw [j3, he]; rfl) hw
    | succ f ih =>
      intro e e0 e1 e2 J w1 hJ j0 j3 hw he
      have jL : J 115 1 = L := by rw [j0 1 (by decide)]; exact hL
      have jT : rd J 116 = T := by rw [hJ.r (by omega)]; exact hT
      have r1 : ¬ (e < L ∧ T e = 32) → skp T L (f + 1) e = e := fun z => if_neg z
      have r2 : (e < L ∧ T e = 32) → skp T L (f + 1) e = skp T L f (e + 1) := fun z => if_pos z
      refine x_hd false [19, 38] 60 ?_
      (repeat' (first | rw [jL] | rw [j3] | rw [jT] | with_reducible assumption | with_reducible exact rfl | with_reducible exact trivial | (with_reducible (show (_ : Int) ≤ _); omega) | (with_reducible (show (_ : Int) < _); omega) | (with_reducible (show (_ : Nat) < _); omega) | (with_reducible (show (_ : Nat) ≤ _); omega) | with_reducible exact Or.inl rfl | with_reducible exact Or.inr rfl | with_reducible exact Or.inl trivial | with_reducible exact Or.inr trivial | (intro hz; exact absurd hz (by decide)) | (intro hz; exfalso; omega) | refine And.intro ?_ ?_ | intro _))
      · exact mid J w1 hJ j0 (by rw [j3, he, r1 (by omega)]) hw
      · rename_i z
        exact mid J w1 hJ j0 (by rw [j3, he, r1 (fun q => z q.2)]) hw
      · rename_i z
        exact ih (e + 1) (by omega) (by omega) (by omega) _ w1 (hJ.mu rfl _ _) (fun j a => by rw [mu_f (by omega)]; exact j0 j a) mj_up_s hw (by rw [he, r2 ⟨by omega, z⟩])
  subst hb
  refine x_C false [.inr (9, 0, 115, 0)] [19] 30 hS ⟨xok_rea hS, trivial⟩ ?_
  (repeat' (first | rw [hk] | with_reducible assumption | with_reducible exact rfl | with_reducible exact trivial | (with_reducible (show (_ : Int) ≤ _); omega) | (with_reducible (show (_ : Int) < _); omega) | (with_reducible (show (_ : Nat) < _); omega) | (with_reducible (show (_ : Nat) ≤ _); omega) | with_reducible exact Or.inl rfl | with_reducible exact Or.inr rfl | with_reducible exact Or.inl trivial | with_reducible exact Or.inr trivial | (intro hz; exact absurd hz (by decide)) | (intro hz; exfalso; omega) | refine And.intro ?_ ?_ | intro _))
  · exact loop1 100 _ (by omega) (by omega) (by omega) _ 1 ((fr.refl (X := fun a => a = 115)).mu rfl _ _) (fun j a => by rw [mu_f (by omega)]) mj_up_s (by omega) rfl
  · exact loop1 100 _ (by omega) (by omega) (by omega) _ 0 ((fr.refl (X := fun a => a = 115)).mu rfl _ _) (fun j a => by rw [mu_f (by omega)]) mj_up_s (by omega) rfl
  · exact loop1 100 _ (by omega) (by omega) (by omega) _ 1 ((fr.refl (X := fun a => a = 115)).mu rfl _ _) (fun j a => by rw [mu_f (by omega)]) mj_up_s (by omega) rfl
