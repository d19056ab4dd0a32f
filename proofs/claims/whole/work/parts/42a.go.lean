/-! the reference's words of the tape -/
def nuV (T : Int → Int) (a : Int) : Nat → Int
  | 0 => 0
  | j + 1 => 10 * nuV T a j + T (a + j) - 48
def tokR (T : Int → Int) (J : mj_I) (k a b : Int) : Prop := J 150 10 = a ∧ J 150 9 = b ∧ J 150 11 = (if k = 2 ∧ 4 < b - a then 4 else k) ∧ (k = 1 ∨ k = 3 → J 150 12 = T a) ∧ (k = 2 → b - a ≤ 4 → J 150 12 = nuV T a (b - a).toNat) ∧ (k = 1 ∨ k = 2 → J 150 13 = b) ∧ (¬ (k = 1 ∨ k = 2) → k = 3 → J 150 13 < b)
theorem srt_1 {c : Int} : srt c = 1 ↔ 97 ≤ c ∧ c ≤ 122 := by
  unfold srt
  split
  · omega
  · split <;> omega
theorem srt_2 {c : Int} : srt c = 2 ↔ 48 ≤ c ∧ c ≤ 57 := by
  unfold srt
  split
  · omega
  · split <;> omega
theorem rnn_s {T : Int → Int} {L k : Int} : ∀ (f : Nat) (e j : Int), e ≤ j → j < rnn T L k f e → srt (T j) = k
  | 0, e, j, h1, h2 => by
    have : j < e := h2
    omega
  | f + 1, e, j, h1, h2 => by
    unfold rnn at h2
    by_cases z : e < L ∧ srt (T e) = k
    · rw [if_pos z] at h2
      by_cases q : j = e
      · rw [q]; exact z.2
      · exact rnn_s f (e + 1) j (by omega) h2
    · rw [if_neg z] at h2
      omega
theorem m_isLetter {d : Nat} {I : mj_I} {S : mj_S} {Q : mj_Q} (hS : mk_Sh S) {T : Int → Int} {L : Int} (hT : ∀ j, 0 ≤ j → j < L → rd I 156 j = T j) (hL : I 150 8 = L) (hL2 : 0 ≤ L ∧ L ≤ 96) (e : Int) (he : 0 ≤ e) (h1 : e < L ∧ srt (T e) = 1 → Q (some (.inl 1)) I S) (h0 : ¬ (e < L ∧ srt (T e) = 1) → Q (some (.inl 0)) I S) : mj_C d 237 [.inr 150, .inl e] I S Q := by
  have hTe := hT e he
  have hs := srt_1 (c := T e)
  refine x_C false [.inr (13, 0, 150, 0), .inl e] [] 40 hS ⟨xok_m hS, trivial, trivial⟩ ?_
  (repeat' (first | rw [hL] | rw [hTe (by omega)] | with_reducible assumption | with_reducible exact rfl | with_reducible exact trivial | (with_reducible (show (_ : Int) ≤ _); omega) | (with_reducible (show (_ : Int) < _); omega) | (with_reducible (show (_ : Nat) < _); omega) | (with_reducible (show (_ : Nat) ≤ _); omega) | with_reducible exact Or.inl rfl | with_reducible exact Or.inr rfl | with_reducible exact Or.inl trivial | with_reducible exact Or.inr trivial | (intro hz; exact absurd hz (by decide)) | (intro hz; exfalso; omega) | refine And.intro ?_ ?_ | intro _))
  all_goals first | exact h1 (by omega) | exact h0 (by omega)
theorem m_isFigure {d : Nat} {I : mj_I} {S : mj_S} {Q : mj_Q} (hS : mk_Sh S) {T : Int → Int} {L : Int} (hT : ∀ j, 0 ≤ j → j < L → rd I 156 j = T j) (hL : I 150 8 = L) (hL2 : 0 ≤ L ∧ L ≤ 96) (e : Int) (he : 0 ≤ e) (h1 : e < L ∧ srt (T e) = 2 → Q (some (.inl 1)) I S) (h0 : ¬ (e < L ∧ srt (T e) = 2) → Q (some (.inl 0)) I S) : mj_C d 238 [.inr 150, .inl e] I S Q := by
  have hTe := hT e he
  have hs := srt_2 (c := T e)
  refine x_C false [.inr (13, 0, 150, 0), .inl e] [] 40 hS ⟨xok_m hS, trivial, trivial⟩ ?_
  (repeat' (first | rw [hL] | rw [hTe (by omega)] | with_reducible assumption | with_reducible exact rfl | with_reducible exact trivial | (with_reducible (show (_ : Int) ≤ _); omega) | (with_reducible (show (_ : Int) < _); omega) | (with_reducible (show (_ : Nat) < _); omega) | (with_reducible (show (_ : Nat) ≤ _); omega) | with_reducible exact Or.inl rfl | with_reducible exact Or.inr rfl | with_reducible exact Or.inl trivial | with_reducible exact Or.inr trivial | (intro hz; exact absurd hz (by decide)) | (intro hz; exfalso; omega) | refine And.intro ?_ ?_ | intro _))
  all_goals first | exact h1 (by omega) | exact h0 (by omega)
/-- 236 go -/
theorem m_go {d : Nat} {I : mj_I} {S : mj_S} {Q : mj_Q} (hS : mk_Sh S) {T : Int → Int} {L k b : Int} (hT : ∀ j, 0 ≤ j → j < L → rd I 156 j = T j) (hL : I 150 8 = L) (hL2 : 0 ≤ L ∧ L ≤ 96) (hb : I 150 9 = b) (hb2 : 0 ≤ b ∧ b ≤ L) (hE1 : k = 1 ∨ k = 2 → I 150 13 = b) (hE2 : ¬ (k = 1 ∨ k = 2) → I 150 13 < b) (hd : 0 < d)
    (h : ∀ J, fr (fun a => a = 150) I J → (∀ j, (j < 9 ∨ 13 < j) → J 150 j = I 150 j) → tokR T J (nxK T L k b) (nxA T L b) (nxB T L b) → Q none J S) : mj_C d 236 [.inr 150] I S Q := by
  have hAb := skp_b (T := T) (L := L) 100 b
  have hA : b ≤ nxA T L b ∧ nxA T L b ≤ L := ⟨hAb.1, hAb.2 hb2.2⟩
  generalize hAe : nxA T L b = A at h hA
  have hst : ∀ J, fr (fun a => a = 150) I J → ∀ j, 0 ≤ j → j < L → rd J 156 j = T j := fun J hJ j j0 j1 => by rw [hJ.r (by omega)]; exact hT j j0 j1
  have endL : ∀ (J : mj_I) (w1 : Int), fr (fun a => a = 150) I J → (∀ j, (j < 9 ∨ 13 < j) → J 150 j = I 150 j) → A < L → srt (T A) = 1 → J 150 10 = A → J 150 9 = rnn T L 1 100 (A + 1) → (w1 = 0 ∧ ¬ ((k = 1 ∨ k = 2) ∧ A = b) ∨ w1 = 1 ∧ ((k = 1 ∨ k = 2) ∧ A = b)) → xW d 236 58 [some (.inr (13, 0, 150, 0)), some (.inl w1)] [] J S Q := by
    intro J w1 hJ j0 q1 q2 j10 j9 hw
    have jT := hst J hJ A (by omega) q1
    have eB : nxB T L b = rnn T L 1 100 (A + 1) := by unfold nxB; rw [hAe, if_neg (by omega), if_neg (by omega), q2]
    refine x_hd false [] 40 ?_
    (repeat' (first | simp (disch := omega) only [rd_up, rd_uo, rd_mu, up_f, mu_f, mj_up_s, ru_s, ru_n] | rw [j10] | rw [jT] | with_reducible assumption | with_reducible exact rfl | with_reducible exact trivial | (with_reducible (show (_ : Int) ≤ _); omega) | (with_reducible (show (_ : Int) < _); omega) | (with_reducible (show (_ : Nat) < _); omega) | (with_reducible (show (_ : Nat) ≤ _); omega) | with_reducible exact Or.inl rfl | with_reducible exact Or.inr rfl | with_reducible exact Or.inl trivial | with_reducible exact Or.inr trivial | (intro hz; exact absurd hz (by decide)) | (intro hz; exfalso; omega) | refine And.intro ?_ ?_ | intro _))
    · rename_i z
      have eK : nxK T L k b = 1 := by unfold nxK; rw [hAe, if_neg (by omega), if_neg (by omega), if_neg (by omega), q2]
      refine h _ (((hJ.mu rfl _ _).mu rfl _ _).mu rfl _ _) (fun j hj => by rw [mu_f (by omega), mu_f (by omega), mu_f (by omega)]; exact j0 j hj) ?_
      unfold tokR
      rw [eK, eB]
      exact ⟨by simp (disch := omega) only [rd_up, rd_uo, rd_mu, up_f, mu_f, mj_up_s, ru_s, ru_n]; exact j10, by simp (disch := omega) only [rd_up, rd_uo, rd_mu, up_f, mu_f, mj_up_s, ru_s, ru_n]; exact j9, by simp (disch := omega) only [rd_up, rd_uo, rd_mu, up_f, mu_f, mj_up_s, ru_s, ru_n]; rw [if_neg (by omega)], fun _ => by simp (disch := omega) only [rd_up, rd_uo, rd_mu, up_f, mu_f, mj_up_s, ru_s, ru_n], fun q => absurd q (by decide), fun _ => by simp (disch := omega) only [rd_up, rd_uo, rd_mu, up_f, mu_f, mj_up_s, ru_s, ru_n]; exact j9, fun q => absurd (Or.inl rfl) q⟩
    · rename_i z
      have eK : nxK T L k b = 4 := by unfold nxK; rw [hAe, if_neg (by omega), if_neg (by omega), if_pos (by omega)]
      refine h _ (((hJ.mu rfl _ _).mu rfl _ _).mu rfl _ _) (fun j hj => by rw [mu_f (by omega), mu_f (by omega), mu_f (by omega)]; exact j0 j hj) ?_
      unfold tokR
      rw [eK, eB]
      exact ⟨by simp (disch := omega) only [rd_up, rd_uo, rd_mu, up_f, mu_f, mj_up_s, ru_s, ru_n]; exact j10, by simp (disch := omega) only [rd_up, rd_uo, rd_mu, up_f, mu_f, mj_up_s, ru_s, ru_n]; exact j9, by simp (disch := omega) only [rd_up, rd_uo, rd_mu, up_f, mu_f, mj_up_s, ru_s, ru_n]; rw [if_neg (by omega)], fun q => absurd q (by decide), fun q => absurd q (by decide), fun q => absurd q (by decide), fun _ q => absurd q (by decide)⟩
  have endF : ∀ (J : mj_I) (w1 : Int), fr (fun a => a = 150) I J → (∀ j, (j < 9 ∨ 13 < j) → J 150 j = I 150 j) → A < L → srt (T A) = 2 → J 150 10 = A → J 150 9 = rnn T L 2 100 (A + 1) → (J 150 9 - A ≤ 4 → J 150 12 = nuV T A (J 150 9 - A).toNat) → (w1 = 0 ∧ ¬ ((k = 1 ∨ k = 2) ∧ A = b) ∨ w1 = 1 ∧ ((k = 1 ∨ k = 2) ∧ A = b)) → xW d 236 121 [some (.inr (13, 0, 150, 0)), some (.inl w1)] [] J S Q := by
    intro J w1 hJ j0 q1 q2 j10 j9 jv hw
    have eB : nxB T L b = rnn T L 2 100 (A + 1) := by unfold nxB; rw [hAe, if_neg (by omega), if_neg (by omega), q2]
    have hrb := rnn_b (T := T) (L := L) (k := 2) 100 (A + 1)
    have hk2 : ¬ ((k = 1 ∨ k = 2) ∧ A = b) → nxK T L k b = 2 := fun z => by unfold nxK; rw [hAe, if_neg (by omega), if_neg (by omega), if_neg z, q2]
    have hk4 : ((k = 1 ∨ k = 2) ∧ A = b) → nxK T L k b = 4 := fun z => by unfold nxK; rw [hAe, if_neg (by omega), if_neg (by omega), if_pos z]
    rw [j9] at jv
    refine x_hd false [] 40 ?_
    (repeat' (first | simp (disch := omega) only [rd_up, rd_uo, rd_mu, up_f, mu_f, mj_up_s, ru_s, ru_n] | rw [j10] | rw [j9] | with_reducible assumption | with_reducible exact rfl | with_reducible exact trivial | (with_reducible (show (_ : Int) ≤ _); omega) | (with_reducible (show (_ : Int) < _); omega) | (with_reducible (show (_ : Nat) < _); omega) | (with_reducible (show (_ : Nat) ≤ _); omega) | with_reducible exact Or.inl rfl | with_reducible exact Or.inr rfl | with_reducible exact Or.inl trivial | with_reducible exact Or.inr trivial | (intro hz; exact absurd hz (by decide)) | (intro hz; exfalso; omega) | refine And.intro ?_ ?_ | intro _))
    · rename_i z
      have eK := hk4 (by omega)
      refine h (mj_up (mj_up J 150 11 4) 150 13 (mj_up J 150 11 4 150 9)) ((hJ.mu rfl _ _).mu rfl _ _) (fun j hj => by rw [mu_f (by omega), mu_f (by omega)]; exact j0 j hj) ?_
      unfold tokR
      rw [eK, eB]
      exact ⟨by simp (disch := omega) only [rd_up, rd_uo, rd_mu, up_f, mu_f, mj_up_s, ru_s, ru_n]; exact j10, by simp (disch := omega) only [rd_up, rd_uo, rd_mu, up_f, mu_f, mj_up_s, ru_s, ru_n]; exact j9, by simp (disch := omega) only [rd_up, rd_uo, rd_mu, up_f, mu_f, mj_up_s, ru_s, ru_n]; rw [if_neg (by omega)], fun q => absurd q (by decide), fun q => absurd q (by decide), fun q => absurd q (by decide), fun _ q => absurd q (by decide)⟩
    · rename_i z1 z2
      have eK := hk2 (by omega)
      refine h (mj_up (mj_up J 150 11 2) 150 13 (mj_up J 150 11 2 150 9)) ((hJ.mu rfl _ _).mu rfl _ _) (fun j hj => by rw [mu_f (by omega), mu_f (by omega)]; exact j0 j hj) ?_
      unfold tokR
      rw [eK, eB]
      exact ⟨by simp (disch := omega) only [rd_up, rd_uo, rd_mu, up_f, mu_f, mj_up_s, ru_s, ru_n]; exact j10, by simp (disch := omega) only [rd_up, rd_uo, rd_mu, up_f, mu_f, mj_up_s, ru_s, ru_n]; exact j9, by simp (disch := omega) only [rd_up, rd_uo, rd_mu, up_f, mu_f, mj_up_s, ru_s, ru_n]; rw [if_neg (by omega)], fun q => absurd q (by decide), fun _ q => by simp (disch := omega) only [rd_up, rd_uo, rd_mu, up_f, mu_f, mj_up_s, ru_s, ru_n]; exact jv q, fun _ => by simp (disch := omega) only [rd_up, rd_uo, rd_mu, up_f, mu_f, mj_up_s, ru_s, ru_n]; exact j9, fun q => absurd (Or.inr rfl) q⟩
    · rename_i z1 z2
      have eK := hk2 (by omega)
      refine h (mj_up (mj_up J 150 11 4) 150 13 (mj_up J 150 11 4 150 9)) ((hJ.mu rfl _ _).mu rfl _ _) (fun j hj => by rw [mu_f (by omega), mu_f (by omega)]; exact j0 j hj) ?_
      unfold tokR
      rw [eK, eB]
      exact ⟨by simp (disch := omega) only [rd_up, rd_uo, rd_mu, up_f, mu_f, mj_up_s, ru_s, ru_n]; exact j10, by simp (disch := omega) only [rd_up, rd_uo, rd_mu, up_f, mu_f, mj_up_s, ru_s, ru_n]; exact j9, by simp (disch := omega) only [rd_up, rd_uo, rd_mu, up_f, mu_f, mj_up_s, ru_s, ru_n]; rw [if_pos ⟨trivial, by omega⟩], fun q => absurd q (by decide), fun _ q => absurd q (by omega), fun _ => by simp (disch := omega) only [rd_up, rd_uo, rd_mu, up_f, mu_f, mj_up_s, ru_s, ru_n]; exact j9, fun q => absurd (Or.inr rfl) q⟩
  have loopL : ∀ (f : Nat) (e : Int), L ≤ e + f → A ≤ e → e ≤ L → ∀ (J : mj_I) (w1 : Int), fr (fun a => a = 150) I J → (∀ j, (j < 9 ∨ 13 < j) → J 150 j = I 150 j) → A < L → srt (T A) = 1 → J 150 10 = A → J 150 9 = e → (w1 = 0 ∧ ¬ ((k = 1 ∨ k = 2) ∧ A = b) ∨ w1 = 1 ∧ ((k = 1 ∨ k = 2) ∧ A = b)) → rnn T L 1 100 (A + 1) = rnn T L 1 f e → xW d 236 46 [some (.inr (13, 0, 150, 0)), some (.inl w1)] [] J S Q := by
    intro f
    induction f with
    | zero =>
      intro e e0 e1 e2 J w1 hJ j0 q1 q2 j10 j9 hw he
      have jL : J 150 8 = L := by rw [j0 8 (by omega)]; exact hL
      have jT := hst J hJ
      refine x_hd false [46, 58] 40 ?_
      (repeat' (first | rw [jL] | rw [j9] | rw [j10] | refine m_isLetter hS jT jL hL2 _ ?_ ?_ ?_ | with_reducible assumption | with_reducible exact rfl | with_reducible exact trivial | (with_reducible (show (_ : Int) ≤ _); omega) | (with_reducible (show (_ : Int) < _); omega) | (with_reducible (show (_ : Nat) < _); omega) | (with_reducible (show (_ : Nat) ≤ _); omega) | with_reducible exact Or.inl rfl | with_reducible exact Or.inr rfl | with_reducible exact Or.inl trivial | with_reducible exact Or.inr trivial | (intro hz; exact absurd hz (by decide)) | (intro hz; exfalso; omega) | refine And.intro ?_ ?_ | intro _))
      exact endL J w1 hJ j0 q1 q2 j10 (by rw [j9, he]; rfl) hw
    | succ f ih =>
      intro e e0 e1 e2 J w1 hJ j0 q1 q2 j10 j9 hw he
      have jL : J 150 8 = L := by rw [j0 8 (by omega)]; exact hL
      have jT := hst J hJ
      have r1 : ¬ (e < L ∧ srt (T e) = 1) → rnn T L 1 (f + 1) e = e := fun z => if_neg z
      have r2 : (e < L ∧ srt (T e) = 1) → rnn T L 1 (f + 1) e = rnn T L 1 f (e + 1) := fun z => if_pos z
      refine x_hd false [46, 58] 40 ?_
      (repeat' (first | rw [jL] | rw [j9] | rw [j10] | refine m_isLetter hS jT jL hL2 _ ?_ ?_ ?_ | with_reducible assumption | with_reducible exact rfl | with_reducible exact trivial | (with_reducible (show (_ : Int) ≤ _); omega) | (with_reducible (show (_ : Int) < _); omega) | (with_reducible (show (_ : Nat) < _); omega) | (with_reducible (show (_ : Nat) ≤ _); omega) | with_reducible exact Or.inl rfl | with_reducible exact Or.inr rfl | with_reducible exact Or.inl trivial | with_reducible exact Or.inr trivial | (intro hz; exact absurd hz (by decide)) | (intro hz; exfalso; omega) | refine And.intro ?_ ?_ | intro _))
      · rename_i z _
        exact ih (e + 1) (by omega) (by omega) (by omega) _ w1 (hJ.mu rfl _ _) (fun j hj => by rw [mu_f (by omega)]; exact j0 j hj) q1 q2 (by rw [mu_f (by omega)]; exact j10) mj_up_s hw (by rw [he, r2 z])
      · rename_i z _
        exact endL J w1 hJ j0 q1 q2 j10 (by rw [j9, he, r1 z]) hw
  have loopF : ∀ (f : Nat) (e : Int), L ≤ e + f → A ≤ e → e ≤ L → ∀ (J : mj_I) (w1 v : Int), fr (fun a => a = 150) I J → (∀ j, (j < 9 ∨ 13 < j) → J 150 j = I 150 j) → A < L → srt (T A) = 2 → J 150 10 = A → J 150 9 = e → J 150 12 = v → (e - A ≤ 4 → v = nuV T A (e - A).toNat) → (0 ≤ v ∧ v ≤ 9999 ∧ (e - A ≤ 3 → v ≤ 999) ∧ (e - A ≤ 2 → v ≤ 99) ∧ (e - A ≤ 1 → v ≤ 9) ∧ (e - A ≤ 0 → v ≤ 0)) → (w1 = 0 ∧ ¬ ((k = 1 ∨ k = 2) ∧ A = b) ∨ w1 = 1 ∧ ((k = 1 ∨ k = 2) ∧ A = b)) → rnn T L 2 100 (A + 1) = rnn T L 2 f e → xW d 236 85 [some (.inr (13, 0, 150, 0)), some (.inl w1)] [] J S Q := by
    intro f
    induction f with
    | zero =>
      intro e e0 e1 e2 J w1 v hJ j0 q1 q2 j10 j9 j12 hv hvb hw he
      have jL : J 150 8 = L := by rw [j0 8 (by omega)]; exact hL
      have jT := hst J hJ
      refine x_hd false [85, 121] 40 ?_
      (repeat' (first | rw [jL] | rw [j9] | rw [j10] | refine m_isFigure hS jT jL hL2 _ ?_ ?_ ?_ | with_reducible assumption | with_reducible exact rfl | with_reducible exact trivial | (with_reducible (show (_ : Int) ≤ _); omega) | (with_reducible (show (_ : Int) < _); omega) | (with_reducible (show (_ : Nat) < _); omega) | (with_reducible (show (_ : Nat) ≤ _); omega) | with_reducible exact Or.inl rfl | with_reducible exact Or.inr rfl | with_reducible exact Or.inl trivial | with_reducible exact Or.inr trivial | (intro hz; exact absurd hz (by decide)) | (intro hz; exfalso; omega) | refine And.intro ?_ ?_ | intro _))
      exact endF J w1 hJ j0 q1 q2 j10 (by rw [j9, he]; rfl) (by rw [j9, j12]; exact hv) hw
    | succ f ih =>
      intro e e0 e1 e2 J w1 v hJ j0 q1 q2 j10 j9 j12 hv hvb hw he
      have jL : J 150 8 = L := by rw [j0 8 (by omega)]; exact hL
      have jT := hst J hJ
      have jTe := jT e (by omega)
      have h2 := srt_2 (c := T e)
      have r1 : ¬ (e < L ∧ srt (T e) = 2) → rnn T L 2 (f + 1) e = e := fun z => if_neg z
      have r2 : (e < L ∧ srt (T e) = 2) → rnn T L 2 (f + 1) e = rnn T L 2 f (e + 1) := fun z => if_pos z
      have rv : e - A ≤ 3 → nuV T A (e + 1 - A).toNat = 10 * nuV T A (e - A).toNat + T e - 48 := fun z => by
        rw [show (e + 1 - A).toNat = (e - A).toNat + 1 by omega]
        show 10 * nuV T A (e - A).toNat + T (A + ((e - A).toNat : Nat)) - 48 = _
        rw [show A + ((e - A).toNat : Int) = e by omega]
      refine x_hd false [85, 121] 60 ?_
      (repeat' (first | simp (disch := omega) only [rd_up, rd_uo, rd_mu, up_f, mu_f, mj_up_s, ru_s, ru_n] | rw [jL] | rw [j9] | rw [j10] | rw [j12] | rw [jTe (by omega)] | refine m_isFigure hS jT jL hL2 _ ?_ ?_ ?_ | with_reducible assumption | with_reducible exact rfl | with_reducible exact trivial | (with_reducible (show (_ : Int) ≤ _); omega) | (with_reducible (show (_ : Int) < _); omega) | (with_reducible (show (_ : Nat) < _); omega) | (with_reducible (show (_ : Nat) ≤ _); omega) | with_reducible exact Or.inl rfl | with_reducible exact Or.inr rfl | with_reducible exact Or.inl trivial | with_reducible exact Or.inr trivial | (intro hz; exact absurd hz (by decide)) | (intro hz; exfalso; omega) | refine And.intro ?_ ?_ | intro _))
      · rename_i z1 _ z2
        exact ih (e + 1) (by omega) (by omega) (by omega) _ w1 v ((hJ.mu rfl _ _).mu rfl _ _) (fun j hj => by rw [mu_f (by omega), mu_f (by omega)]; exact j0 j hj) q1 q2 (by simp (disch := omega) only [rd_up, rd_uo, rd_mu, up_f, mu_f, mj_up_s, ru_s, ru_n]; exact j10) mj_up_s (by simp (disch := omega) only [rd_up, rd_uo, rd_mu, up_f, mu_f, mj_up_s, ru_s, ru_n]) (by omega) (by omega) hw (by rw [he, r2 z1])
      · rename_i z1 _ z2
        exact ih (e + 1) (by omega) (by omega) (by omega) _ w1 (10 * v + T e - 48) ((hJ.mu rfl _ _).mu rfl _ _) (fun j hj => by rw [mu_f (by omega), mu_f (by omega)]; exact j0 j hj) q1 q2 (by simp (disch := omega) only [rd_up, rd_uo, rd_mu, up_f, mu_f, mj_up_s, ru_s, ru_n]; exact j10) mj_up_s (by simp (disch := omega) only [rd_up, rd_uo, rd_mu, up_f, mu_f, mj_up_s, ru_s, ru_n]) (fun q => by rw [rv (by omega), hv (by omega)]) (by omega) hw (by rw [he, r2 z1])
      · rename_i z1 _
        exact endF J w1 hJ j0 q1 q2 j10 (by rw [j9, he, r1 z1]) (by rw [j9, j12]; exact hv) hw
  have mid : ∀ (J : mj_I), fr (fun a => a = 150) I J → (∀ j, j ≠ 9 → J 150 j = I 150 j) → J 150 9 = A → xW d 236 19 [some (.inr (13, 0, 150, 0)), none] [] J S Q := by
    intro J hJ j0 j9
    have jL : mj_up J 150 10 A 150 8 = L := by rw [mu_f (by omega), j0 8 (by decide)]; exact hL
    have jL' : J 150 8 = L := by rw [j0 8 (by decide)]; exact hL
    have jT := hst _ (hJ.mu rfl 10 A)
    have jT' := jT A (by omega)
    have j13 : J 150 13 = I 150 13 := j0 13 (by decide)
    refine x_hd false [46, 85] 90 ?_
    have sg : ∀ (J : mj_I), fr (fun a => a = 150) I J → (∀ j, j ≠ 9 → J 150 j = I 150 j) → J 150 9 = A → A < L → ¬ srt (T A) = 1 → ¬ srt (T A) = 2 → Q none (mj_up (mj_up (mj_up (mj_up J 150 10 A) 150 11 3) 150 12 (rd J 156 A)) 150 9 (A + 1)) S := by
      intro J hJ j0 j9 z1 z2 z3
      have hs := srt_b (T A)
      have eB : nxB T L b = A + 1 := by unfold nxB; rw [hAe, if_neg (by omega), if_pos (by omega)]
      have eK : nxK T L k b = 3 := by unfold nxK; rw [hAe, if_neg (by omega), if_pos (by omega)]
      refine h _ ((((hJ.mu rfl _ _).mu rfl _ _).mu rfl _ _).mu rfl _ _) (fun j hj => by simp (disch := omega) only [rd_up, rd_uo, rd_mu, up_f, mu_f, mj_up_s, ru_s, ru_n]; exact j0 j (by omega)) ?_
      unfold tokR
      rw [eK, eB]
      exact ⟨by simp (disch := omega) only [rd_up, rd_uo, rd_mu, up_f, mu_f, mj_up_s, ru_s, ru_n], by simp (disch := omega) only [rd_up, rd_uo, rd_mu, up_f, mu_f, mj_up_s, ru_s, ru_n], by simp (disch := omega) only [rd_up, rd_uo, rd_mu, up_f, mu_f, mj_up_s, ru_s, ru_n]; rw [if_neg (by omega)], fun _ => by simp (disch := omega) only [rd_up, rd_uo, rd_mu, up_f, mu_f, mj_up_s, ru_s, ru_n]; exact hst J hJ A (by omega) z1, fun q => absurd q (by decide), fun q => absurd q (by decide), fun _ _ => by simp (disch := omega) only [rd_up, rd_uo, rd_mu, up_f, mu_f, mj_up_s, ru_s, ru_n]; rw [j0 13 (by decide)]; omega⟩
    have en : ∀ (J : mj_I), fr (fun a => a = 150) I J → (∀ j, j ≠ 9 → J 150 j = I 150 j) → J 150 9 = A → A = L → Q none (mj_up (mj_up J 150 10 A) 150 11 0) S := by
      intro J hJ j0 j9 z1
      have eB : nxB T L b = A := by unfold nxB; rw [hAe, if_pos (by omega)]
      have eK : nxK T L k b = 0 := by unfold nxK; rw [hAe, if_pos (by omega)]
      refine h _ ((hJ.mu rfl _ _).mu rfl _ _) (fun j hj => by simp (disch := omega) only [rd_up, rd_uo, rd_mu, up_f, mu_f, mj_up_s, ru_s, ru_n]; exact j0 j (by omega)) ?_
      unfold tokR
      rw [eK, eB]
      exact ⟨by simp (disch := omega) only [rd_up, rd_uo, rd_mu, up_f, mu_f, mj_up_s, ru_s, ru_n], by simp (disch := omega) only [rd_up, rd_uo, rd_mu, up_f, mu_f, mj_up_s, ru_s, ru_n]; exact j9, by simp (disch := omega) only [rd_up, rd_uo, rd_mu, up_f, mu_f, mj_up_s, ru_s, ru_n]; rw [if_neg (by omega)], fun q => absurd q (by decide), fun q => absurd q (by decide), fun q => absurd q (by decide), fun _ q => absurd q (by decide)⟩
    (repeat' (first | simp (disch := omega) only [rd_up, rd_uo, rd_mu, up_f, mu_f, mj_up_s, ru_s, ru_n] | rw [j9] | rw [jL'] | rw [j13] | refine m_isFigure hS jT jL hL2 _ ?_ ?_ ?_ | refine m_isLetter hS jT jL hL2 _ ?_ ?_ ?_ | with_reducible assumption | with_reducible exact rfl | with_reducible exact trivial | (with_reducible (show (_ : Int) ≤ _); omega) | (with_reducible (show (_ : Int) < _); omega) | (with_reducible (show (_ : Nat) < _); omega) | (with_reducible (show (_ : Nat) ≤ _); omega) | with_reducible exact Or.inl rfl | with_reducible exact Or.inr rfl | with_reducible exact Or.inl trivial | with_reducible exact Or.inr trivial | (intro hz; exact absurd hz (by decide)) | (intro hz; exfalso; omega) | refine And.intro ?_ ?_ | intro _))
    · rename_i z1 z2 z3 _
      exact loopL 101 A (by omega) (by omega) (by omega) _ 0 (hJ.mu rfl _ _) (fun j hj => by rw [mu_f (by omega)]; exact j0 j (by omega)) z3.1 z3.2 mj_up_s (by rw [mu_f (by omega)]; exact j9) (by omega) (if_pos z3).symm
    · rename_i z1 z2 _ _ z3 _
      exact loopF 101 A (by omega) (by omega) (by omega) _ 0 0 ((hJ.mu rfl _ _).mu rfl _ _) (fun j hj => by rw [mu_f (by omega), mu_f (by omega)]; exact j0 j (by omega)) z3.1 z3.2 (by rw [mu_f (by omega)]; exact mj_up_s) (by rw [mu_f (by omega), mu_f (by omega)]; exact j9) mj_up_s (fun _ => by rw [show A - A = 0 by omega]; rfl) (by omega) (by omega) (if_pos z3).symm
    · rename_i z1 z2 z4 _ z3 _
      exact sg J hJ j0 j9 (by omega) (fun q => z4 ⟨by omega, q⟩) (fun q => z3 ⟨by omega, q⟩)
    · rename_i z1 z2
      exact en J hJ j0 j9 z2
    · rename_i z1 z2 z3 _
      exact loopL 101 A (by omega) (by omega) (by omega) _ 1 (hJ.mu rfl _ _) (fun j hj => by rw [mu_f (by omega)]; exact j0 j (by omega)) z3.1 z3.2 mj_up_s (by rw [mu_f (by omega)]; exact j9) (by omega) (if_pos z3).symm
    · rename_i z1 z2 _ _ z3 _
      exact loopF 101 A (by omega) (by omega) (by omega) _ 1 0 ((hJ.mu rfl _ _).mu rfl _ _) (fun j hj => by rw [mu_f (by omega), mu_f (by omega)]; exact j0 j (by omega)) z3.1 z3.2 (by rw [mu_f (by omega)]; exact mj_up_s) (by rw [mu_f (by omega), mu_f (by omega)]; exact j9) mj_up_s (fun _ => by rw [show A - A = 0 by omega]; rfl) (by omega) (by omega) (if_pos z3).symm
    · rename_i z1 z2 z4 _ z3 _
      exact sg J hJ j0 j9 (by omega) (fun q => z4 ⟨by omega, q⟩) (fun q => z3 ⟨by omega, q⟩)
    · rename_i z1 z2
      exact en J hJ j0 j9 z2
  have loop1 : ∀ (f : Nat) (e : Int), L ≤ e + f → 0 ≤ e → e ≤ L → ∀ (J : mj_I), fr (fun a => a = 150) I J → (∀ j, j ≠ 9 → J 150 j = I 150 j) → J 150 9 = e → A = skp T L f e → xW d 236 0 [some (.inr (13, 0, 150, 0)), none] [] J S Q := by
    intro f
    induction f with
    | zero =>
      intro e e0 e1 e2 J hJ j0 j9 he
      have jL : J 150 8 = L := by rw [j0 8 (by decide)]; exact hL
      refine x_hd false [0, 19] 40 ?_
      (repeat' (first | rw [jL] | rw [j9] | with_reducible assumption | with_reducible exact rfl | with_reducible exact trivial | (with_reducible (show (_ : Int) ≤ _); omega) | (with_reducible (show (_ : Int) < _); omega) | (with_reducible (show (_ : Nat) < _); omega) | (with_reducible (show (_ : Nat) ≤ _); omega) | with_reducible exact Or.inl rfl | with_reducible exact Or.inr rfl | with_reducible exact Or.inl trivial | with_reducible exact Or.inr trivial | (intro hz; exact absurd hz (by decide)) | (intro hz; exfalso; omega) | refine And.intro ?_ ?_ | intro _))
      exact mid J hJ j0 (by rw [j9, he]; rfl)
    | succ f ih =>
      intro e e0 e1 e2 J hJ j0 j9 he
      have jL : J 150 8 = L := by rw [j0 8 (by decide)]; exact hL
      have jT := hst _ hJ e e1
      have r1 : ¬ (e < L ∧ T e = 32) → skp T L (f + 1) e = e := fun z => if_neg z
      have r2 : (e < L ∧ T e = 32) → skp T L (f + 1) e = skp T L f (e + 1) := fun z => if_pos z
      refine x_hd false [0, 19] 60 ?_
      (repeat' (first | rw [jL] | rw [j9] | rw [jT (by omega)] | with_reducible assumption | with_reducible exact rfl | with_reducible exact trivial | (with_reducible (show (_ : Int) ≤ _); omega) | (with_reducible (show (_ : Int) < _); omega) | (with_reducible (show (_ : Nat) < _); omega) | (with_reducible (show (_ : Nat) ≤ _); omega) | with_reducible exact Or.inl rfl | with_reducible exact Or.inr rfl | with_reducible exact Or.inl trivial | with_reducible exact Or.inr trivial | (intro hz; exact absurd hz (by decide)) | (intro hz; exfalso; omega) | refine And.intro ?_ ?_ | intro _))
      · exact mid J hJ j0 (by rw [j9, he, r1 (by omega)])
      · rename_i z
        exact mid J hJ j0 (by rw [j9, he, r1 (fun q => z q.2)])
      · rename_i z
        exact ih (e + 1) (by omega) (by omega) (by omega) _ (hJ.mu rfl _ _) (fun j a => by rw [mu_f (by omega)]; exact j0 j a) mj_up_s (by rw [he, r2 ⟨by omega, z⟩])
  refine x_C false [.inr (13, 0, 150, 0)] [0] 30 hS ⟨xok_m hS, trivial⟩ ?_
  exact loop1 100 b (by omega) (by omega) (by omega) I fr.refl (fun _ _ => rfl) hb hAe.symm
