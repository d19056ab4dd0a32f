/-! the reference's words of the tape -/
def nuV (T : Int → Int) (a : Int) : Nat → Int
  | 0 => 0
  | j + 1 => 10 * nuV T a j + T (a + j) - 48
def tokR (T : Int → Int) (J : mj_I) (k a b : Int) : Prop := J 150 10 = a ∧ J 150 9 = b ∧ J 150 11 = (if k = 2 ∧ 4 < b - a then 4 else k) ∧ (k = 1 ∨ k = 3 → J 150 12 = T a) ∧ (k = 2 → b - a ≤ 4 → J 150 12 = nuV T a (b - a).toNat) ∧ (k = 1 ∨ k = 2 → J 150 13 = b) ∧ (¬ (k = 1 ∨ k = 2) → k = 3 → J 150 13 < b)
theorem srt_1 {c : Int} : srt c = 1 ↔ 97 ≤ c ∧ c ≤ 122 := by
  unfold srt
  split
  · omega
  · split <;> omega
theorem srt_2 {c : Int} : srt c = 2 ↔ 48 ≤ c ∧ c ≤ 57 := by
  unfold srt
  split
  · omega
  · split <;> omega
theorem rnn_s {T : Int → Int} {L k : Int} : ∀ (f : Nat) (e j : Int), e ≤ j → j < rnn T L k f e → srt (T j) = k
  | 0, e, j, h1, h2 => by
    have : j < e := h2
    omega
  | f + 1, e, j, h1, h2 => by
    unfold rnn at h2
    by_cases z : e < L ∧ srt (T e) = k
    · rw [if_pos z] at h2
      by_cases q : j = e
      · rw [q]; exact z.2
      · exact rnn_s f (e + 1) j (by omega) h2
    · rw [if_neg z] at h2
      omega
theorem m_isLetter {d : Nat} {I : mj_I} {S : mj_S} {Q : mj_Q} (hS : mk_Sh S) {T : Int → Int} {L : Int} (hT : ∀ j, 0 ≤ j → j < L → rd I 156 j = T j) (hL : I 150 8 = L) (hL2 : 0 ≤ L ∧ L ≤ 96) (e : Int) (he : 0 ≤ e) (h1 : e < L ∧ srt (T e) = 1 → Q (some (.inl 1)) I S) (h0 : ¬ (e < L ∧ srt (T e) = 1) → Q (some (.inl 0)) I S) : mj_C d 237 [.inr 150, .inl e] I S Q := by
  have hTe := hT e he
  have hs := srt_1 (c := T e)
  refine x_C false [.inr (13, 0, 150, 0), .inl e] [] 40 hS ⟨xok_m hS, trivial, trivial⟩ ?_
  (repeat' (first | rw [hL] | rw [hTe (by omega)] | with_reducible assumption | with_reducible exact rfl | with_reducible exact trivial | (with_reducible (show (_ : Int) ≤ _); omega) | (with_reducible (show (_ : Int) < _); omega) | (with_reducible (show (_ : Nat) < _); omega) | (with_reducible (show (_ : Nat) ≤ _); omega) | with_reducible exact Or.inl rfl | with_reducible exact Or.inr rfl | with_reducible exact Or.inl trivial | with_reducible exact Or.inr trivial | (intro hz; exact absurd hz (by decide)) | (intro hz; exfalso; omega) | refine And.intro ?_ ?_ | intro _))
  all_goals first | exact h1 (by omega) | exact h0 (by omega)
theorem m_isFigure {d : Nat} {I : mj_I} {S : mj_S} {Q : mj_Q} (hS : mk_Sh S) {T : Int → Int} {L : Int} (hT : ∀ j, 0 ≤ j → j < L → rd I 156 j = T j) (hL : I 150 8 = L) (hL2 : 0 ≤ L ∧ L ≤ 96) (e : Int) (he : 0 ≤ e) (h1 : e < L ∧ srt (T e) = 2 → Q (some (.inl 1)) I S) (h0 : ¬ (e < L ∧ srt (T e) = 2) → Q (some (.inl 0)) I S) : mj_C d 238 [.inr 150, .inl e] I S Q := by
  have hTe := hT e he
  have hs := srt_2 (c := T e)
  refine x_C false [.inr (13, 0, 150, 0), .inl e] [] 40 hS ⟨xok_m hS, trivial, trivial⟩ ?_
  (repeat' (first | rw [hL] | rw [hTe (by omega)] | with_reducible assumption | with_reducible exact rfl | with_reducible exact trivial | (with_reducible (show (_ : Int) ≤ _); omega) | (with_reducible (show (_ : Int) < _); omega) | (with_reducible (show (_ : Nat) < _); omega) | (with_reducible (show (_ : Nat) ≤ _); omega) | with_reducible exact Or.inl rfl | with_reducible exact Or.inr rfl | with_reducible exact Or.inl trivial | with_reducible exact Or.inr trivial | (intro hz; exact absurd hz (by decide)) | (intro hz; exfalso; omega) | refine And.intro ?_ ?_ | intro _))
  all_goals first | exact h1 (by omega) | exact h0 (by omega)
/-- 236 go -/
theorem m_go {d : Nat} {I : mj_I} {S : mj_S} {Q : mj_Q} (hS : mk_Sh S) {T : Int → Int} {L k b : Int} (hT : ∀ j, 0 ≤ j → j < L → rd I 156 j = T j) (hL : I 150 8 = L) (hL2 : 0 ≤ L ∧ L ≤ 96) (hb : I 150 9 = b) (hb2 : 0 ≤ b ∧ b ≤ L) (hE1 : k = 1 ∨ k = 2 → I 150 13 = b) (hE2 : ¬ (k = 1 ∨ k = 2) → I 150 13 < b) (hd : 0 < d)
    (h : ∀ J, fr (fun a => a = 150) I J → (∀ j, (j < 9 ∨ 13 < j) → J 150 j = I 150 j) → tokR T J (nxK T L k b) (nxA T L b) (nxB T L b) → Q none J S) : mj_C d 236 [.inr 150] I S Q := by
  have hAb := skp_b (T := T) (L := L) 100 b
  have hA : b ≤ nxA T L b ∧ nxA T L b ≤ L := ⟨hAb.1, hAb.2 hb2.2⟩
  generalize hAe : nxA T L b = A at h hA
  have hst : ∀ J, fr (fun a => a = 150) I J → ∀ j, 0 ≤ j → j < L → rd J 156 j = T j := fun J hJ j j0 j1 => by rw [hJ.r (by omega)]; exact hT j j0 j1
  have loopL : ∀ (f : Nat) (e : Int), L ≤ e + f → A ≤ e → e ≤ L → ∀ (J : mj_I) (w1 : Int), fr (fun a => a = 150) I J → (∀ j, (j < 9 ∨ 13 < j) → J 150 j = I 150 j) → A < L → srt (T A) = 1 → J 150 10 = A → J 150 9 = e → (w1 = 0 ∧ ¬ ((k = 1 ∨ k = 2) ∧ A = b) ∨ w1 = 1 ∧ ((k = 1 ∨ k = 2) ∧ A = b)) → rnn T L 1 100 (A + 1) = rnn T L 1 f e → xW d 236 46 [some (.inr (13, 0, 150, 0)), some (.inl w1)] [] J S Q := by
    intro f
    induction f with
    | zero =>
      intro e e0 e1 e2 J w1 hJ j0 q1 q2 j10 j9 hw he
      have jL : J 150 8 = L := by rw [j0 8 (by omega)]; exact hL
      have jT := hst J hJ
      refine x_hd false [46] 40 ?_
      (repeat' (first | rw [jL] | rw [j9] | rw [j10] | refine m_isLetter hS jT jL hL2 _ ?_ ?_ ?_ | with_reducible assumption | with_reducible exact rfl | with_reducible exact trivial | (with_reducible (show (_ : Int) ≤ _); omega) | (with_reducible (show (_ : Int) < _); omega) | (with_reducible (show (_ : Nat) < _); omega) | (with_reducible (show (_ : Nat) ≤ _); omega) | with_reducible exact Or.inl rfl | with_reducible exact Or.inr rfl | with_reducible exact Or.inl trivial | with_reducible exact Or.inr trivial | (intro hz; exact absurd hz (by decide)) | (intro hz; exfalso; omega) | refine And.intro ?_ ?_ | intro _))
      all_goals skip
    | succ f ih =>
      intro e e0 e1 e2 J w1 hJ j0 q1 q2 j10 j9 hw he
      have jL : J 150 8 = L := by rw [j0 8 (by omega)]; exact hL
      have jT := hst J hJ
      refine x_hd false [46] 40 ?_
      (repeat' (first | rw [jL] | rw [j9] | rw [j10] | refine m_isLetter hS jT jL hL2 _ ?_ ?_ ?_ | with_reducible assumption | with_reducible exact rfl | with_reducible exact trivial | (with_reducible (show (_ : Int) ≤ _); omega) | (with_reducible (show (_ : Int) < _); omega) | (with_reducible (show (_ : Nat) < _); omega) | (with_reducible (show (_ : Nat) ≤ _); omega) | with_reducible exact Or.inl rfl | with_reducible exact Or.inr rfl | with_reducible exact Or.inl trivial | with_reducible exact Or.inr trivial | (intro hz; exact absurd hz (by decide)) | (intro hz; exfalso; omega) | refine And.intro ?_ ?_ | intro _))
      all_goals skip
  all_goals skip
