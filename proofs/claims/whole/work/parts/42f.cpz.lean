/-! the class's parser -/
def cpS (I : mj_I) (s : tS) : Prop := I 115 2 = s.1.1 ∧ I 115 3 = s.1.2.1 ∧ I 115 4 = s.1.2.2 ∧ I 115 6 = s.2.2 ∧ I 115 8 = s.2.1.length ∧ ∀ k : Nat, k < s.2.1.length → rd I 117 k = s.2.1.getD k 0
def cK (T : Int → Int) (L key : Int) (I0 I : mj_I) : Prop := fr (fun a => a = 115 ∨ a = 117) I0 I ∧ I 115 1 = L ∧ I 115 5 = key ∧ rd I 116 = T
theorem c_nextS {d : Nat} {I : mj_I} {S : mj_S} {Q : mj_Q} (hS : mk_Sh S) {T : Int → Int} {L key : Int} {I0 : mj_I} {s : tS} (hL2 : 0 ≤ L ∧ L ≤ 96) (hK : cK T L key I0 I) (hs : cpS I s) (hb : 0 ≤ s.1.2.2 ∧ s.1.2.2 ≤ L) (hd : 0 < d)
    (h : ∀ J, cK T L key I0 J → cpS J (nxS T L s) → Q none J S) : mj_C d 71 [.inr 115] I S Q := by
  obtain ⟨k1, k2, k3, k4⟩ := hK
  obtain ⟨s1, s2, s3, s4, s5, s6⟩ := hs
  refine c_next hS k4 k2 hL2 s1 s3 hb hd (fun J hJ j0 j2 j3 j4 => ?_)
  refine h J ⟨k1.tr (hJ.mo (fun a q => Or.inl q)), by rw [j0 1 (by decide) (by decide) (by decide)]; exact k2, by rw [j0 5 (by decide) (by decide) (by decide)]; exact k3, by rw [hJ.r (by omega)]; exact k4⟩ ⟨j2, j3, j4, by rw [j0 6 (by decide) (by decide) (by decide)]; exact s4, by rw [j0 8 (by decide) (by decide) (by decide)]; exact s5, fun k hk => by rw [hJ.r (by omega)]; exact s6 k hk⟩
theorem c_putS {d : Nat} {I : mj_I} {S : mj_S} {Q : mj_Q} (hS : mk_Sh S) {T : Int → Int} {L key : Int} {I0 : mj_I} {s : tS} (u : Int) (hK : cK T L key I0 I) (hs : cpS I s) (hb : (s.2.1.length : Int) < 96)
    (h : ∀ J, cK T L key I0 J → cpS J (putS s u) → Q none J S) : mj_C d 89 [.inr 115, .inl u] I S Q := by
  obtain ⟨k1, k2, k3, k4⟩ := hK
  obtain ⟨s1, s2, s3, s4, s5, s6⟩ := hs
  refine x_C false [.inr (9, 0, 115, 0), .inl u] [] 40 hS ⟨xok_rea hS, trivial, trivial⟩ ?_
  (repeat' (first | rw [s5] | rw [up_f (by omega)] | with_reducible assumption | with_reducible exact rfl | with_reducible exact trivial | (with_reducible (show (_ : Int) ≤ _); omega) | (with_reducible (show (_ : Int) < _); omega) | (with_reducible (show (_ : Nat) < _); omega) | (with_reducible (show (_ : Nat) ≤ _); omega) | with_reducible exact Or.inl rfl | with_reducible exact Or.inr rfl | with_reducible exact Or.inl trivial | with_reducible exact Or.inr trivial | (intro hz; exact absurd hz (by decide)) | (intro hz; exfalso; omega) | refine And.intro ?_ ?_ | intro _))
  refine h _ ⟨(k1.up (Or.inr rfl) _ _).mu (Or.inl rfl) _ _, ?_, ?_, ?_⟩ ⟨?_, ?_, ?_, ?_, ?_, fun k hk => ?_⟩
  · simp (disch := omega) only [rd_up, rd_uo, rd_mu, up_f, mu_f, mj_up_s, ru_s, ru_n]; exact k2
  · simp (disch := omega) only [rd_up, rd_uo, rd_mu, up_f, mu_f, mj_up_s, ru_s, ru_n]; exact k3
  · simp (disch := omega) only [rd_up, rd_uo, rd_mu, up_f, mu_f, mj_up_s, ru_s, ru_n]; exact k4
  · simp (disch := omega) only [rd_up, rd_uo, rd_mu, up_f, mu_f, mj_up_s, ru_s, ru_n]; exact s1
  · simp (disch := omega) only [rd_up, rd_uo, rd_mu, up_f, mu_f, mj_up_s, ru_s, ru_n]; exact s2
  · simp (disch := omega) only [rd_up, rd_uo, rd_mu, up_f, mu_f, mj_up_s, ru_s, ru_n]; exact s3
  · simp (disch := omega) only [rd_up, rd_uo, rd_mu, up_f, mu_f, mj_up_s, ru_s, ru_n]; exact s4
  · show _ = ((s.2.1 ++ [u]).length : Int)
    rw [len_sn]; simp (disch := omega) only [rd_up, rd_uo, rd_mu, up_f, mu_f, mj_up_s, ru_s, ru_n]
  · have hk' : k < (s.2.1 ++ [u]).length := hk
    rw [List.length_append] at hk'
    have hk2 : k < s.2.1.length + 1 := hk'
    show _ = (s.2.1 ++ [u]).getD k 0
    by_cases e : k = s.2.1.length
    · rw [e, gd_e]; simp (disch := omega) only [rd_up, rd_uo, rd_mu, up_f, mu_f, mj_up_s, ru_s, ru_n]
    · rw [gd_a (by omega)]; simp (disch := omega) only [rd_up, rd_uo, rd_mu, up_f, mu_f, mj_up_s, ru_s, ru_n]; exact s6 k (by omega)
/-- 107 levelOf -/
theorem c_levelOf {d : Nat} {I : mj_I} {S : mj_S} {Q : mj_Q} (hS : mk_Sh S) (c : Int) (h : Q (some (.inl (lev c))) I S) : mj_C d 107 [.inl c] I S Q := by
  refine x_C false [.inl c] [] 20 hS ⟨trivial, trivial⟩ ?_
  (repeat' (first | with_reducible assumption | with_reducible exact rfl | with_reducible exact trivial | (with_reducible (show (_ : Int) ≤ _); omega) | (with_reducible (show (_ : Int) < _); omega) | (with_reducible (show (_ : Nat) < _); omega) | (with_reducible (show (_ : Nat) ≤ _); omega) | with_reducible exact Or.inl rfl | with_reducible exact Or.inr rfl | with_reducible exact Or.inl trivial | with_reducible exact Or.inr trivial | (intro hz; exact absurd hz (by decide)) | (intro hz; exfalso; omega) | refine And.intro ?_ ?_ | intro _))
  all_goals (refine Qe h ?_; unfold lev; repeat' split)
  all_goals omega
/-- 88 number -/
theorem c_number {d : Nat} {I : mj_I} {S : mj_S} {Q : mj_Q} (hS : mk_Sh S) {T : Int → Int} {L key : Int} {I0 : mj_I} {s : tS} (hL2 : 0 ≤ L ∧ L ≤ 96) (hK : cK T L key I0 I) (hs : cpS I s) (hw : wfs T L s) (h2 : s.1.1 = 2) (hb : (s.2.1.length : Int) < 96) (hp : 0 ≤ s.2.2 ∧ s.2.2 ≤ 96) (hd : 1 < d)
    (h1 : s.1.2.2 - s.1.2.1 ≤ 4 → ∀ J, cK T L key I0 J → cpS J (nxS T L (pieS s (nuV T s.1.2.1 (s.1.2.2 - s.1.2.1).toNat))) → Q (some (.inl 1)) J S) (h0 : ¬ s.1.2.2 - s.1.2.1 ≤ 4 → Q (some (.inl 0)) I S) : mj_C d 88 [.inr 115] I S Q := by
  have hK' := hK
  have hs' := hs
  obtain ⟨k1, k2, k3, k4⟩ := hK
  obtain ⟨s1, s2, s3, s4, s5, s6⟩ := hs
  have hab := hw.1
  have hdg := hw.2.2.2.2 h2
  have fin : ∀ v : Int, s.1.2.2 - s.1.2.1 ≤ 4 → v = nuV T s.1.2.1 (s.1.2.2 - s.1.2.1).toNat → xW d 88 31 [some (.inr (9, 0, 115, 0)), some (.inl v), some (.inl s.1.2.2)] [] I S Q := by
    intro v h4 hv
    have eK : cK T L key I0 (mj_up I 115 6 (s.2.2 + 1)) := ⟨k1.mu (Or.inl rfl) _ _, by simp (disch := omega) only [rd_up, rd_uo, rd_mu, up_f, mu_f, mj_up_s, ru_s, ru_n]; exact k2, by simp (disch := omega) only [rd_up, rd_uo, rd_mu, up_f, mu_f, mj_up_s, ru_s, ru_n]; exact k3, by simp (disch := omega) only [rd_up, rd_uo, rd_mu, up_f, mu_f, mj_up_s, ru_s, ru_n]; exact k4⟩
    have eS : cpS (mj_up I 115 6 (s.2.2 + 1)) (s.1, s.2.1, s.2.2 + 1) := ⟨by simp (disch := omega) only [rd_up, rd_uo, rd_mu, up_f, mu_f, mj_up_s, ru_s, ru_n]; exact s1, by simp (disch := omega) only [rd_up, rd_uo, rd_mu, up_f, mu_f, mj_up_s, ru_s, ru_n]; exact s2, by simp (disch := omega) only [rd_up, rd_uo, rd_mu, up_f, mu_f, mj_up_s, ru_s, ru_n]; exact s3, by simp (disch := omega) only [rd_up, rd_uo, rd_mu, up_f, mu_f, mj_up_s, ru_s, ru_n], by simp (disch := omega) only [rd_up, rd_uo, rd_mu, up_f, mu_f, mj_up_s, ru_s, ru_n]; exact s5, fun k hk => by simp (disch := omega) only [rd_up, rd_uo, rd_mu, up_f, mu_f, mj_up_s, ru_s, ru_n]; exact s6 k hk⟩
    refine x_hd false [] 40 ?_
    (repeat' (first | rw [s4] | refine c_putS hS _ eK eS hb (fun J j1 j2 => ?_) | refine c_nextS hS hL2 (by assumption) (by assumption) ⟨by show 0 ≤ s.1.2.2; omega, by show s.1.2.2 ≤ L; omega⟩ (by omega) (fun J j1 j2 => ?_) | with_reducible assumption | with_reducible exact rfl | with_reducible exact trivial | (with_reducible (show (_ : Int) ≤ _); omega) | (with_reducible (show (_ : Int) < _); omega) | (with_reducible (show (_ : Nat) < _); omega) | (with_reducible (show (_ : Nat) ≤ _); omega) | with_reducible exact Or.inl rfl | with_reducible exact Or.inr rfl | with_reducible exact Or.inl trivial | with_reducible exact Or.inr trivial | (intro hz; exact absurd hz (by decide)) | (intro hz; exfalso; omega) | refine And.intro ?_ ?_ | intro _))
    subst hv
    exact h1 h4 _ (by assumption) (by assumption)
  have loop : ∀ (m j : Nat), s.1.2.1 + j + m = s.1.2.2 → s.1.2.2 - s.1.2.1 ≤ 4 → ∀ v : Int, v = nuV T s.1.2.1 j → xW d 88 14 [some (.inr (9, 0, 115, 0)), some (.inl v), some (.inl (s.1.2.1 + j))] [] I S Q := by
    intro m
    induction m with
    | zero =>
      intro j hj h4 v hv
      refine x_hd false [14, 31] 40 ?_
      (repeat' (first | rw [s3] | with_reducible assumption | with_reducible exact rfl | with_reducible exact trivial | (with_reducible (show (_ : Int) ≤ _); omega) | (with_reducible (show (_ : Int) < _); omega) | (with_reducible (show (_ : Nat) < _); omega) | (with_reducible (show (_ : Nat) ≤ _); omega) | with_reducible exact Or.inl rfl | with_reducible exact Or.inr rfl | with_reducible exact Or.inl trivial | with_reducible exact Or.inr trivial | (intro hz; exact absurd hz (by decide)) | (intro hz; exfalso; omega) | refine And.intro ?_ ?_ | intro _))
      have e : s.1.2.1 + (j : Int) = s.1.2.2 := by omega
      rw [e]
      exact fin v h4 (by rw [hv, show (s.1.2.2 - s.1.2.1).toNat = j by omega])
    | succ m ih =>
      intro j hj h4 v hv
      have hvb := nuV_b (T := T) (a := s.1.2.1) j (fun i hi => hdg _ (by omega) (by omega))
      have hj3 : j ≤ 3 := by omega
      have hpw : ∀ n : Nat, n ≤ 3 → (10 : Int) ^ n ≤ 1000 := by decide
      have hv9 := hpw j hj3
      have hT := hdg (s.1.2.1 + j) (by omega) (by omega)
      refine x_hd false [14, 31] 40 ?_
      (repeat' (first | rw [s3] | rw [k4] | with_reducible assumption | with_reducible exact rfl | with_reducible exact trivial | (with_reducible (show (_ : Int) ≤ _); omega) | (with_reducible (show (_ : Int) < _); omega) | (with_reducible (show (_ : Nat) < _); omega) | (with_reducible (show (_ : Nat) ≤ _); omega) | with_reducible exact Or.inl rfl | with_reducible exact Or.inr rfl | with_reducible exact Or.inl trivial | with_reducible exact Or.inr trivial | (intro hz; exact absurd hz (by decide)) | (intro hz; exfalso; omega) | refine And.intro ?_ ?_ | intro _))
      have k5 := ih (j + 1) (by omega) h4 (v * 10 + T (s.1.2.1 + j) - 48) (by rw [hv]; show _ = 10 * nuV T s.1.2.1 j + T (s.1.2.1 + j) - 48; omega)
      rw [show s.1.2.1 + ((j + 1 : Nat) : Int) = s.1.2.1 + j + 1 by omega] at k5
      exact k5
  refine x_C false [.inr (9, 0, 115, 0)] [14] 40 hS ⟨xok_rea hS, trivial⟩ ?_
  (repeat' (first | rw [s3] | rw [s2] | with_reducible assumption | with_reducible exact rfl | with_reducible exact trivial | (with_reducible (show (_ : Int) ≤ _); omega) | (with_reducible (show (_ : Int) < _); omega) | (with_reducible (show (_ : Nat) < _); omega) | (with_reducible (show (_ : Nat) ≤ _); omega) | with_reducible exact Or.inl rfl | with_reducible exact Or.inr rfl | with_reducible exact Or.inl trivial | with_reducible exact Or.inr trivial | (intro hz; exact absurd hz (by decide)) | (intro hz; exfalso; omega) | refine And.intro ?_ ?_ | intro _))
  · rename_i z
    have k5 := loop (s.1.2.2 - s.1.2.1).toNat 0 (by omega) z 0 rfl
    rw [show s.1.2.1 + ((0 : Nat) : Int) = I 115 3 by omega] at k5
    exact k5
  · rename_i z
    exact h0 z
/-- 90 name -/
theorem nm_ix : ∀ c : Nat, c < 256 → (ixO (wrd 3) c 4 0 < 0 ↔ nmI 0 c = 0) ∧ (ixO (wrd 4) c 3 0 < 0 ↔ nmI 1 c = 0) ∧ (ixO (wrd 5) c 3 0 < 0 ↔ nmI 2 c = 0) ∧ (nmI 0 c ≠ 0 → -1 - ixO (wrd 6) c 5 0 = nmI 0 c) ∧ (nmI 1 c ≠ 0 → -1 - ixO (wrd 6) c 5 0 = nmI 1 c) ∧ (nmI 2 c ≠ 0 → -1 - ixO (wrd 6) c 5 0 = nmI 2 c) := by decide +kernel
theorem ixO_b {w : Nat → Int} {c : Int} : ∀ (m i : Nat), -1 ≤ ixO w c m i ∧ ixO w c m i ≤ i + m
  | 0, i => by unfold ixO; omega
  | m + 1, i => by
    have := ixO_b (w := w) (c := c) m (i + 1)
    unfold ixO
    split <;> omega
def nmW (key : Int) : Nat := if key = 0 then 3 else if key = 1 then 4 else 5
def nmN (key : Int) : Nat := if key = 0 then 4 else 3
theorem c_namesOf {d : Nat} {I : mj_I} {S : mj_S} {Q : mj_Q} (hS : mk_Sh S) (key : Int) (h : Q (some (.inr (3 + nmW key))) I S) : mj_C d 91 [.inl key] I S Q := by
  refine x_C false [.inl key] [] 20 hS ⟨trivial, trivial⟩ ?_
  (repeat' (first | with_reducible assumption | with_reducible exact rfl | with_reducible exact trivial | (with_reducible (show (_ : Int) ≤ _); omega) | (with_reducible (show (_ : Int) < _); omega) | (with_reducible (show (_ : Nat) < _); omega) | (with_reducible (show (_ : Nat) ≤ _); omega) | with_reducible exact Or.inl rfl | with_reducible exact Or.inr rfl | with_reducible exact Or.inl trivial | with_reducible exact Or.inr trivial | (intro hz; exact absurd hz (by decide)) | (intro hz; exfalso; omega) | refine And.intro ?_ ?_ | intro _))
  · rename_i z1 z2
    have e : 3 + nmW key = 8 := by unfold nmW; rw [if_neg z1, if_neg z2]
    rw [e] at h
    exact h
  · rename_i z1 z2
    have e : 3 + nmW key = 7 := by unfold nmW; rw [if_neg z1, if_pos z2]
    rw [e] at h
    exact h
  · rename_i z1
    have e : 3 + nmW key = 6 := by unfold nmW; rw [if_pos z1]
    rw [e] at h
    exact h
theorem c_name {d : Nat} {I : mj_I} {S : mj_S} {Q : mj_Q} (hS : mk_Sh S) {Lx : Nat} {xs : Nat → Int32} {T : Int → Int} {L key : Int} {I0 : mj_I} (hO1 : ∀ a, a < 20 → I0 a = mj_I0 xs a) (hO2 : ∀ a, a < 20 → S.1 a = (mj_S0 Lx).1 a ∧ S.2.1 a = (mj_S0 Lx).2.1 a) {s : tS} (hkey : 0 ≤ key ∧ key ≤ 2) (hL2 : 0 ≤ L ∧ L ≤ 96) (hTb : ∀ j, 0 ≤ j → j < L → 0 ≤ T j ∧ T j ≤ 255) (hK : cK T L key I0 I) (hs : cpS I s) (hw : wfs T L s) (h2 : s.1.1 = 1) (hb : (s.2.1.length : Int) < 96) (hp : 0 ≤ s.2.2 ∧ s.2.2 ≤ 96) (hd : 4 < d)
    (h1 : (s.1.2.2 - s.1.2.1 = 1 ∧ nmI key (T s.1.2.1) ≠ 0) → ∀ J, cK T L key I0 J → cpS J (nxS T L (pieS s (nmI key (T s.1.2.1)))) → Q (some (.inl 1)) J S) (h0 : ¬ (s.1.2.2 - s.1.2.1 = 1 ∧ nmI key (T s.1.2.1) ≠ 0) → Q (some (.inl 0)) I S) : mj_C d 90 [.inr 115] I S Q := by
  have hK' := hK
  have hs' := hs
  obtain ⟨k1, k2, k3, k4⟩ := hK
  obtain ⟨s1, s2, s3, s4, s5, s6⟩ := hs
  have hab := hw.1
  have hlt := hw.2.1 (by omega)
  have hc := hTb s.1.2.1 (by omega) (by omega)
  have hx := nm_ix (T s.1.2.1).toNat (by omega)
  rw [show (((T s.1.2.1).toNat : Nat) : Int) = T s.1.2.1 by omega] at hx
  have hc16 := (k_b8 (T s.1.2.1).toNat (by omega)).2
  rw [show (((T s.1.2.1).toNat : Nat) : Int) = T s.1.2.1 by omega] at hc16
  have hO1' : ∀ (J : mj_I), cK T L key I0 J → ∀ a, a < 20 → J a = mj_I0 xs a := fun J hJ a ha => by rw [hJ.1 a (by omega)]; exact hO1 a ha
  have eK : cK T L key I0 (mj_up I 115 6 (s.2.2 + 1)) := ⟨k1.mu (Or.inl rfl) _ _, by simp (disch := omega) only [rd_up, rd_uo, rd_mu, up_f, mu_f, mj_up_s, ru_s, ru_n]; exact k2, by simp (disch := omega) only [rd_up, rd_uo, rd_mu, up_f, mu_f, mj_up_s, ru_s, ru_n]; exact k3, by simp (disch := omega) only [rd_up, rd_uo, rd_mu, up_f, mu_f, mj_up_s, ru_s, ru_n]; exact k4⟩
  have eS : cpS (mj_up I 115 6 (s.2.2 + 1)) (s.1, s.2.1, s.2.2 + 1) := ⟨by simp (disch := omega) only [rd_up, rd_uo, rd_mu, up_f, mu_f, mj_up_s, ru_s, ru_n]; exact s1, by simp (disch := omega) only [rd_up, rd_uo, rd_mu, up_f, mu_f, mj_up_s, ru_s, ru_n]; exact s2, by simp (disch := omega) only [rd_up, rd_uo, rd_mu, up_f, mu_f, mj_up_s, ru_s, ru_n]; exact s3, by simp (disch := omega) only [rd_up, rd_uo, rd_mu, up_f, mu_f, mj_up_s, ru_s, ru_n], by simp (disch := omega) only [rd_up, rd_uo, rd_mu, up_f, mu_f, mj_up_s, ru_s, ru_n]; exact s5, fun k hk => by simp (disch := omega) only [rd_up, rd_uo, rd_mu, up_f, mu_f, mj_up_s, ru_s, ru_n]; exact s6 k hk⟩
  have w6 : sOK (mj_up I 115 6 (s.2.2 + 1)) S 9 5 (wrd 6) := s_ok (hO1' _ eK) hO2 6 (by decide)
  have wk : sOK I S (3 + nmW key) (nmN key) (wrd (nmW key)) := by
    have e3 : key = 0 ∨ key = 1 ∨ key = 2 := by omega
    rcases e3 with e | e | e <;> subst e
    · exact s_ok (hO1' _ hK') hO2 3 (by decide)
    · exact s_ok (hO1' _ hK') hO2 4 (by decide)
    · exact s_ok (hO1' _ hK') hO2 5 (by decide)
  have ek : (ixO (wrd (nmW key)) (T s.1.2.1) (nmN key) 0 < 0 ↔ nmI key (T s.1.2.1) = 0) ∧ (nmI key (T s.1.2.1) ≠ 0 → -1 - ixO (wrd 6) (T s.1.2.1) 5 0 = nmI key (T s.1.2.1)) := by
    have e3 : key = 0 ∨ key = 1 ∨ key = 2 := by omega
    rcases e3 with e | e | e <;> subst e
    · exact ⟨hx.1, hx.2.2.2.1⟩
    · exact ⟨hx.2.1, hx.2.2.2.2.1⟩
    · exact ⟨hx.2.2.1, hx.2.2.2.2.2⟩
  have hn0 : 0 < nmN key := by unfold nmN; split <;> omega
  have b6 := ixO_b (w := wrd 6) (c := T s.1.2.1) 5 0
  have u3 : mj_up I 115 6 (s.2.2 + 1) 115 3 = s.1.2.1 := by simp (disch := omega) only [rd_up, rd_uo, rd_mu, up_f, mu_f, mj_up_s, ru_s, ru_n]; exact s2
  have u4 : rd (mj_up I 115 6 (s.2.2 + 1)) 116 = T := by simp (disch := omega) only [rd_up, rd_uo, rd_mu, up_f, mu_f, mj_up_s, ru_s, ru_n]; exact k4
  refine x_C false [.inr (9, 0, 115, 0)] [] 60 hS ⟨xok_rea hS, trivial⟩ ?_
  (repeat' (first | exact wk.1 | exact w6.1 | rw [u3] | rw [u4] | rw [k3] | rw [s3] | rw [s2] | rw [s4] | rw [k4] | rw [hc16] | refine c_namesOf hS _ ?_ | refine ⟨(0, 0, _, 0), ⟨rfl, Or.inl rfl⟩, ?_⟩ | refine c_idx wk hn0 _ hc (by omega) ?_ | refine c_idx w6 (by decide) _ hc (by omega) ?_ | refine c_putS hS _ eK eS hb (fun J j1 j2 => ?_) | refine c_nextS hS hL2 (by assumption) (by assumption) ⟨by show 0 ≤ s.1.2.2; omega, by show s.1.2.2 ≤ L; omega⟩ (by omega) (fun J j1 j2 => ?_) | with_reducible assumption | with_reducible exact rfl | with_reducible exact trivial | (with_reducible (show (_ : Int) ≤ _); omega) | (with_reducible (show (_ : Int) < _); omega) | (with_reducible (show (_ : Nat) < _); omega) | (with_reducible (show (_ : Nat) ≤ _); omega) | with_reducible exact Or.inl rfl | with_reducible exact Or.inr rfl | with_reducible exact Or.inl trivial | with_reducible exact Or.inr trivial | (intro hz; exact absurd hz (by decide)) | (intro hz; exfalso; omega) | refine And.intro ?_ ?_ | intro _))
  · rename_i z
    exact h0 (fun q => z q.1)
  · rename_i z1 z2 _ _ _
    have ne : nmI key (T s.1.2.1) ≠ 0 := fun q => by have := ek.1.2 q; omega
    rw [ek.2 ne] at j2
    exact h1 ⟨z1, ne⟩ _ j1 j2
  · rename_i z1 z2
    exact h0 (fun q => q.2 (ek.1.1 (by omega)))
