/-! the reference's parser: its small methods -/
def rk (x : Int) : Int := if x = -1 then 1 else if x = -2 then 2 else if -5 ≤ x then 3 else if -7 ≤ x then 4 else if -9 ≤ x then 5 else 6
theorem m_rank {d : Nat} {I : mj_I} {S : mj_S} {Q : mj_Q} (hS : mk_Sh S) (x : Int) (h : Q (some (.inl (rk x))) I S) : mj_C d 244 [.inl x] I S Q := by
  refine x_C false [.inl x] [] 30 hS ⟨trivial, trivial⟩ ?_
  (repeat' (first | with_reducible assumption | with_reducible exact rfl | with_reducible exact trivial | (with_reducible (show (_ : Int) ≤ _); omega) | (with_reducible (show (_ : Int) < _); omega) | (with_reducible (show (_ : Nat) < _); omega) | (with_reducible (show (_ : Nat) ≤ _); omega) | with_reducible exact Or.inl rfl | with_reducible exact Or.inr rfl | with_reducible exact Or.inl trivial | with_reducible exact Or.inr trivial | (intro hz; exact absurd hz (by decide)) | (intro hz; exfalso; omega) | refine And.intro ?_ ?_ | intro _))
  all_goals (refine Qe h ?_; unfold rk; repeat' split)
  all_goals omega
/-- the stack, top first -/
def stk (N : Int → Int) : List Int → Prop
  | [] => True
  | x :: K => N K.length = x ∧ stk N K
theorem stk_up {N : Int → Int} {x : Int} : ∀ {K : List Int} {j : Int}, (K.length : Int) ≤ j → stk N K → stk (ru N j x) K
  | [], _, _, _ => trivial
  | y :: K, j, hj, h => by
    have hl : ((y :: K).length : Int) = K.length + 1 := rfl
    exact ⟨by rw [ru_n (by omega)]; exact h.1, stk_up (by omega) h.2⟩
/-- what is out -/
def outp (N : Int → Int) (D : List Int) : Prop := ∀ k : Nat, k < D.length → N k = D.getD k 0
theorem outp_sn {N : Int → Int} {D : List Int} {x : Int} (h : outp N D) : outp (ru N D.length x) (D ++ [x]) := by
  intro k hk
  rw [List.length_append] at hk
  have hk2 : k < D.length + 1 := hk
  by_cases e : k = D.length
  · rw [e, gd_e, ru_s]
  · rw [gd_a (by omega), ru_n (by omega)]
    exact h k (by omega)
/-- rows of the parser: what else stays -/
def mK (I0 I : mj_I) : Prop := fr (fun a => a = 150 ∨ a = 159 ∨ a = 160 ∨ a = 161) I0 I ∧ (∀ j, (j < 9 ∨ 23 ≤ j) → I 150 j = I0 150 j) ∧ I 150 14 = I0 150 14
def mS (I : mj_I) (K D : List Int) : Prop := I 150 21 = K.length ∧ stk (rd I 160) K ∧ I 150 18 = D.length ∧ outp (rd I 159) D
/-- 243 settle -/
theorem m_settle {d : Nat} {S : mj_S} {Q : mj_Q} (hS : mk_Sh S) {I0 : mj_I} (lt : Int) (hd : 0 < d) : ∀ (P H D : List Int) (I : mj_I), mK I0 I → mS I (P ++ H) D → (∀ x, x ∈ P → x ≠ -11 ∧ lt ≤ rk x) → (∀ x H', H = x :: H' → x = -11 ∨ rk x < lt) → ((P ++ H).length : Int) + D.length ≤ 96 → (∀ J, mK I0 J → mS J H (D ++ P) → (∀ j, j ≠ 18 → j ≠ 21 → J 150 j = I 150 j) → rd J 161 = rd I 161 → Q none J S) → xW d 243 0 [some (.inr (13, 0, 150, 0)), some (.inl lt)] [] I S Q
  | [], H, D, I, hK, hM, hP, hH, hb, h => by
    obtain ⟨m1, m2, m3, m4⟩ := hM
    have fin := h I hK (by rw [List.append_nil]; exact ⟨m1, m2, m3, m4⟩) (fun _ _ _ => rfl) rfl
    cases H with
    | nil =>
      have m1' : I 150 21 = 0 := m1
      refine x_hd false [0] 40 ?_
      (repeat' (first | rw [m1'] | with_reducible assumption | with_reducible exact rfl | with_reducible exact trivial | (with_reducible (show (_ : Int) ≤ _); omega) | (with_reducible (show (_ : Int) < _); omega) | (with_reducible (show (_ : Nat) < _); omega) | (with_reducible (show (_ : Nat) ≤ _); omega) | with_reducible exact Or.inl rfl | with_reducible exact Or.inr rfl | with_reducible exact Or.inl trivial | with_reducible exact Or.inr trivial | (intro hz; exact absurd hz (by decide)) | (intro hz; exfalso; omega) | refine And.intro ?_ ?_ | intro _))
      exact fin
    | cons x H' =>
      have m1' : I 150 21 = (H'.length : Int) + 1 := m1
      have hl : (([] ++ x :: H' : List Int).length : Int) = H'.length + 1 := rfl
      have m2' : rd I 160 H'.length = x := m2.1
      have hx := hH x H' rfl
      have em : rd I 160 ((H'.length : Int) + 1 - 1) = x := by rw [show (H'.length : Int) + 1 - 1 = H'.length by omega]; exact m2'
      refine x_hd false [0] 40 ?_
      (repeat' (first | rw [m1'] | rw [em] | refine m_rank hS _ ?_ | with_reducible assumption | with_reducible exact rfl | with_reducible exact trivial | (with_reducible (show (_ : Int) ≤ _); omega) | (with_reducible (show (_ : Int) < _); omega) | (with_reducible (show (_ : Nat) < _); omega) | (with_reducible (show (_ : Nat) ≤ _); omega) | with_reducible exact Or.inl rfl | with_reducible exact Or.inr rfl | with_reducible exact Or.inl trivial | with_reducible exact Or.inr trivial | (intro hz; exact absurd hz (by decide)) | (intro hz; exfalso; omega) | refine And.intro ?_ ?_ | intro _))
      all_goals first | exact fin | (exfalso; omega)
  | x :: P, H, D, I, hK, hM, hP, hH, hb, h => by
    obtain ⟨m1, m2, m3, m4⟩ := hM
    have m1' : I 150 21 = ((P ++ H).length : Int) + 1 := m1
    have hl : ((x :: P ++ H : List Int).length : Int) = (P ++ H).length + 1 := rfl
    have m2' : rd I 160 (P ++ H).length = x := m2.1
    have hx := hP x List.mem_cons_self
    have em : rd I 160 (((P ++ H).length : Int) + 1 - 1) = x := by rw [show ((P ++ H).length : Int) + 1 - 1 = (P ++ H).length by omega]; exact m2'
    have ih := m_settle (Q := Q) (S := S) (d := d) hS (I0 := I0) lt hd P H (D ++ [x])
    refine x_hd false [0] 60 ?_
    (repeat' (first | rw [m1'] | rw [em] | rw [m3] | refine m_rank hS _ ?_ | simp (disch := omega) only [rd_up, rd_uo, rd_mu, up_f, mu_f, mj_up_s, ru_s, ru_n] | with_reducible assumption | with_reducible exact rfl | with_reducible exact trivial | (with_reducible (show (_ : Int) ≤ _); omega) | (with_reducible (show (_ : Int) < _); omega) | (with_reducible (show (_ : Nat) < _); omega) | (with_reducible (show (_ : Nat) ≤ _); omega) | with_reducible exact Or.inl rfl | with_reducible exact Or.inr rfl | with_reducible exact Or.inl trivial | with_reducible exact Or.inr trivial | (intro hz; exact absurd hz (by decide)) | (intro hz; exfalso; omega) | refine And.intro ?_ ?_ | intro _))
    refine ih (mj_up (up (mj_up I 150 21 (((P ++ H).length : Int) + 1 - 1)) 159 (D.length : Int) x) 150 18 ((D.length : Int) + 1)) ⟨((hK.1.mu (Or.inl rfl) _ _).up (Or.inr (Or.inl rfl)) _ _).mu (Or.inl rfl) _ _, fun j hj => by simp (disch := omega) only [rd_up, rd_uo, rd_mu, up_f, mu_f, mj_up_s, ru_s, ru_n]; exact hK.2.1 j hj, by simp (disch := omega) only [rd_up, rd_uo, rd_mu, up_f, mu_f, mj_up_s, ru_s, ru_n]; exact hK.2.2⟩ ⟨by simp (disch := omega) only [rd_up, rd_uo, rd_mu, up_f, mu_f, mj_up_s, ru_s, ru_n]; omega, by simp (disch := omega) only [rd_up, rd_uo, rd_mu, up_f, mu_f, mj_up_s, ru_s, ru_n]; exact m2.2, by rw [len_sn]; simp (disch := omega) only [rd_up, rd_uo, rd_mu, up_f, mu_f, mj_up_s, ru_s, ru_n], by simp (disch := omega) only [rd_up, rd_uo, rd_mu, up_f, mu_f, mj_up_s, ru_s, ru_n]; exact outp_sn m4⟩ (fun y hy => hP y (List.mem_cons_of_mem _ hy)) hH (by rw [len_sn]; omega) (fun J j1 j2 j3 j4 => ?_)
    refine h J j1 (by rw [List.append_assoc] at j2; exact j2) (fun j a b => by rw [j3 j a b]; simp (disch := omega) only [rd_up, rd_uo, rd_mu, up_f, mu_f, mj_up_s, ru_s, ru_n]) (by rw [j4]; simp (disch := omega) only [rd_up, rd_uo, rd_mu, up_f, mu_f, mj_up_s, ru_s, ru_n])
theorem m_settleC {d : Nat} {S : mj_S} {Q : mj_Q} (hS : mk_Sh S) {I0 : mj_I} (lt : Int) (hd : 0 < d) (P H D : List Int) {I : mj_I} (hK : mK I0 I) (hM : mS I (P ++ H) D) (hP : ∀ x, x ∈ P → x ≠ -11 ∧ lt ≤ rk x) (hH : ∀ x H', H = x :: H' → x = -11 ∨ rk x < lt) (hb : ((P ++ H).length : Int) + D.length ≤ 96) (h : ∀ J, mK I0 J → mS J H (D ++ P) → (∀ j, j ≠ 18 → j ≠ 21 → J 150 j = I 150 j) → rd J 161 = rd I 161 → Q none J S) : mj_C d 243 [.inr 150, .inl lt] I S Q := by
  refine x_C false [.inr (13, 0, 150, 0), .inl lt] [0] 30 hS ⟨xok_m hS, trivial, trivial⟩ ?_
  exact m_settle hS lt hd P H D I hK hM hP hH hb h
def nts : List Int → Int
  | [] => 0
  | x :: K => nts K + (if x = -10 then 1 else 0)
def cnS (N : Int → Int) : Nat → Int
  | 0 => 0
  | k + 1 => cnS N k + (if N k = -10 then 1 else 0)
theorem cnS_b {N : Int → Int} : ∀ k : Nat, 0 ≤ cnS N k ∧ cnS N k ≤ k
  | 0 => ⟨Int.le_refl _, Int.le_refl _⟩
  | k + 1 => by
    have := cnS_b (N := N) k
    unfold cnS
    split <;> omega
theorem cnS_stk {N : Int → Int} : ∀ K : List Int, stk N K → cnS N K.length = nts K
  | [], _ => rfl
  | x :: K, h => by
    show cnS N K.length + (if N K.length = -10 then 1 else 0) = nts K + (if x = -10 then 1 else 0)
    rw [cnS_stk K h.2, h.1]
/-- 245 notsOpen -/
theorem m_nots {d : Nat} {I : mj_I} {S : mj_S} {Q : mj_Q} (hS : mk_Sh S) {K D : List Int} (hM : mS I K D) (hb : (K.length : Int) ≤ 96) (h : Q (some (.inl (nts K))) I S) : mj_C d 245 [.inr 150] I S Q := by
  obtain ⟨m1, m2, m3, m4⟩ := hM
  have e := cnS_stk K m2
  have loop : ∀ (m k : Nat), k + m = K.length → ∀ n : Int, n = cnS (rd I 160) k → xW d 245 4 [some (.inr (13, 0, 150, 0)), some (.inl n), some (.inl k)] [] I S Q := by
    intro m
    induction m with
    | zero =>
      intro k hk n hn
      refine x_hd false [4] 40 ?_
      (repeat' (first | rw [m1] | with_reducible assumption | with_reducible exact rfl | with_reducible exact trivial | (with_reducible (show (_ : Int) ≤ _); omega) | (with_reducible (show (_ : Int) < _); omega) | (with_reducible (show (_ : Nat) < _); omega) | (with_reducible (show (_ : Nat) ≤ _); omega) | with_reducible exact Or.inl rfl | with_reducible exact Or.inr rfl | with_reducible exact Or.inl trivial | with_reducible exact Or.inr trivial | (intro hz; exact absurd hz (by decide)) | (intro hz; exfalso; omega) | refine And.intro ?_ ?_ | intro _))
      refine Qe h ?_
      rw [← e, hn, show k = K.length by omega]
    | succ m ih =>
      intro k hk n hn
      have hcb := cnS_b (N := rd I 160) k
      have en : ∀ z : Int, z = cnS (rd I 160) (k + 1) → xW d 245 4 [some (.inr (13, 0, 150, 0)), some (.inl z), some (.inl ((k : Int) + 1))] [] I S Q := fun z hz => ih (k + 1) (by omega) z hz
      have ek : cnS (rd I 160) (k + 1) = cnS (rd I 160) k + (if rd I 160 k = -10 then 1 else 0) := rfl
      refine x_hd false [4] 40 ?_
      (repeat' (first | rw [m1] | with_reducible assumption | with_reducible exact rfl | with_reducible exact trivial | (with_reducible (show (_ : Int) ≤ _); omega) | (with_reducible (show (_ : Int) < _); omega) | (with_reducible (show (_ : Nat) < _); omega) | (with_reducible (show (_ : Nat) ≤ _); omega) | with_reducible exact Or.inl rfl | with_reducible exact Or.inr rfl | with_reducible exact Or.inl trivial | with_reducible exact Or.inr trivial | (intro hz; exact absurd hz (by decide)) | (intro hz; exfalso; omega) | refine And.intro ?_ ?_ | intro _))
      · rename_i z1 z2
        exact en _ (by rw [ek, if_neg z2, hn])
      · rename_i z1 z2
        exact en _ (by rw [ek, if_pos z2, hn])
  refine x_C false [.inr (13, 0, 150, 0)] [4] 30 hS ⟨xok_m hS, trivial⟩ ?_
  exact loop K.length 0 (by omega) 0 rfl
def sgV (c : Int) : Int := if c = 124 then -1 else if c = 38 then -2 else if c = 60 then -3 else if c = 61 then -4 else if c = 62 then -5 else if c = 43 then -6 else if c = 45 then -7 else if c = 42 then -8 else if c = 47 then -9 else 0
theorem sgV_5 {c : Int} (h : ¬ lev c ≤ 4) : sgV c = 0 := by
  have h1 : c ≠ 124 ∧ c ≠ 38 ∧ c ≠ 60 ∧ c ≠ 61 ∧ c ≠ 62 ∧ c ≠ 43 ∧ c ≠ 45 ∧ c ≠ 42 ∧ c ≠ 47 := by
    unfold lev at h
    revert h
    repeat' split
    all_goals omega
  unfold sgV
  rw [if_neg h1.1, if_neg h1.2.1, if_neg h1.2.2.1, if_neg h1.2.2.2.1, if_neg h1.2.2.2.2.1, if_neg h1.2.2.2.2.2.1, if_neg h1.2.2.2.2.2.2.1, if_neg h1.2.2.2.2.2.2.2.1, if_neg h1.2.2.2.2.2.2.2.2]
theorem sgV_4 {key c : Int} (h : lev c ≤ 4) : sgV c = cnv key (-c) ∧ rk (sgV c) = lev c + 1 ∧ sgV c < 0 ∧ -9 ≤ sgV c := by
  have hc : c = 124 ∨ c = 38 ∨ c = 60 ∨ c = 61 ∨ c = 62 ∨ c = 43 ∨ c = 45 ∨ c = 42 ∨ c = 47 := by
    unfold lev at h
    revert h
    repeat' split
    all_goals omega
  rcases hc with e | e | e | e | e | e | e | e | e <;> subst e <;> exact ⟨rfl, by decide, by decide, by decide⟩
/-- 246 signHere -/
theorem m_signHere {d : Nat} {I : mj_I} {S : mj_S} {Q : mj_Q} (hS : mk_Sh S) (h3 : I 150 11 = 3 → Q (some (.inl (sgV (I 150 12)))) I S) (h0 : ¬ I 150 11 = 3 → Q (some (.inl 0)) I S) : mj_C d 246 [.inr 150] I S Q := by
  refine x_C false [.inr (13, 0, 150, 0)] [] 30 hS ⟨xok_m hS, trivial⟩ ?_
  (repeat' (first | with_reducible assumption | with_reducible exact rfl | with_reducible exact trivial | (with_reducible (show (_ : Int) ≤ _); omega) | (with_reducible (show (_ : Int) < _); omega) | (with_reducible (show (_ : Nat) < _); omega) | (with_reducible (show (_ : Nat) ≤ _); omega) | with_reducible exact Or.inl rfl | with_reducible exact Or.inr rfl | with_reducible exact Or.inl trivial | with_reducible exact Or.inr trivial | (intro hz; exact absurd hz (by decide)) | (intro hz; exfalso; omega) | refine And.intro ?_ ?_ | intro _))
  all_goals first
    | exact h0 (by assumption)
    | (refine Qe (h3 (by assumption)) ?_
       unfold sgV
       repeat' split
       all_goals omega)
def nmO (key c : Int) : Int := if key = 0 then (if c = 107 then 0 else if c = 114 then 1 else if c = 111 then 2 else if c = 100 then 3 else -1) else if key = 1 then (if c = 114 then 0 else if c = 111 then 1 else if c = 109 then 2 else -1) else (if c = 114 then 0 else if c = 111 then 1 else if c = 100 then 2 else -1)
theorem nmO_n {key c : Int} (hk : 0 ≤ key ∧ key ≤ 2) : (nmI key c = 0 → nmO key c = -1) ∧ (nmI key c ≠ 0 → 0 ≤ nmO key c ∧ nmO key c ≤ 3 ∧ 10000 + nmO key c = cnv key (nmI key c)) := by
  by_cases hc : c = 107 ∨ c = 114 ∨ c = 111 ∨ c = 100 ∨ c = 109
  · have hk3 : key = 0 ∨ key = 1 ∨ key = 2 := by omega
    rcases hk3 with e | e | e <;> subst e <;> rcases hc with e | e | e | e | e <;> subst e <;> decide
  · have e1 : nmI key c = 0 := by
      unfold nmI
      rw [if_neg (by omega), if_neg (by omega), if_neg (by omega), if_neg (by omega), if_neg (by omega)]
    have e2 : nmO key c = -1 := by
      unfold nmO
      repeat' split
      all_goals omega
    exact ⟨fun _ => e2, fun q => absurd e1 q⟩
/-- 242 nameOf -/
theorem m_nameOf {d : Nat} {I : mj_I} {S : mj_S} {Q : mj_Q} (hS : mk_Sh S) {key : Int} (hk : I 150 14 = key) (c : Int) (h : Q (some (.inl (nmO key c))) I S) : mj_C d 242 [.inr 150, .inl c] I S Q := by
  refine x_C false [.inr (13, 0, 150, 0), .inl c] [] 40 hS ⟨xok_m hS, trivial, trivial⟩ ?_
  (repeat' (first | rw [hk] | with_reducible assumption | with_reducible exact rfl | with_reducible exact trivial | (with_reducible (show (_ : Int) ≤ _); omega) | (with_reducible (show (_ : Int) < _); omega) | (with_reducible (show (_ : Nat) < _); omega) | (with_reducible (show (_ : Nat) ≤ _); omega) | with_reducible exact Or.inl rfl | with_reducible exact Or.inr rfl | with_reducible exact Or.inl trivial | with_reducible exact Or.inr trivial | (intro hz; exact absurd hz (by decide)) | (intro hz; exfalso; omega) | refine And.intro ?_ ?_ | intro _))
  all_goals (refine Qe h ?_; unfold nmO; repeat' split)
  all_goals omega
/-- 241 takesPart -/
def pkO (T : Int → Int) (key : Int) (s : tS) : Prop := (s.1.1 = 2 ∧ s.1.2.2 - s.1.2.1 ≤ 4) ∨ (s.1.1 = 1 ∧ s.1.2.2 - s.1.2.1 = 1 ∧ nmI key (T s.1.2.1) ≠ 0)
def pkV (T : Int → Int) (key : Int) (s : tS) : Int := if s.1.1 = 2 then nuV T s.1.2.1 (s.1.2.2 - s.1.2.1).toNat else nmI key (T s.1.2.1)
/-- tokens -/
def mT (T : Int → Int) (J : mj_I) (s : tS) : Prop := tokR T J s.1.1 s.1.2.1 s.1.2.2 ∧ J 150 19 = s.2.2
theorem m_goS {d : Nat} {I : mj_I} {S : mj_S} {Q : mj_Q} (hS : mk_Sh S) {T : Int → Int} {L : Int} {I0 : mj_I} {s : tS} (hT : ∀ j, 0 ≤ j → j < L → rd I0 156 j = T j) (hL : I0 150 8 = L) (hL2 : 0 ≤ L ∧ L ≤ 96) (hK : mK I0 I) (hw : wfs T L s) (hk : s.1.1 = 1 ∨ s.1.1 = 2 ∨ s.1.1 = 3) (hd : 0 < d)
    (ht : tokR T I s.1.1 s.1.2.1 s.1.2.2) (h : ∀ J, mK I0 J → tokR T J (nxK T L s.1.1 s.1.2.2) (nxA T L s.1.2.2) (nxB T L s.1.2.2) → (∀ j, (j < 9 ∨ 13 < j) → J 150 j = I 150 j) → fr (fun a => a = 150) I J → Q none J S) : mj_C d 236 [.inr 150] I S Q := by
  obtain ⟨t1, t2, t3, t4, t5, t6, t7⟩ := ht
  have hab := hw.1
  refine m_go (T := T) (L := L) (k := s.1.1) (b := s.1.2.2) hS (fun j j0 j1 => by rw [hK.1.r (by omega)]; exact hT j j0 j1) (by rw [hK.2.1 8 (by omega)]; exact hL) hL2 t2 (by omega) t6 (fun q => t7 q (by omega)) hd (fun J hJ j0 j1 => ?_)
  exact h J ⟨hK.1.tr (hJ.mo (fun a q => Or.inl q)), fun j hj => by rw [j0 j (by omega)]; exact hK.2.1 j hj, by rw [j0 14 (by omega)]; exact hK.2.2⟩ j1 j0 hJ
theorem tokR_cg {T : Int → Int} {I J : mj_I} {k a b : Int} (h : ∀ j, 9 ≤ j → j ≤ 13 → J 150 j = I 150 j) (ht : tokR T I k a b) : tokR T J k a b := by
  unfold tokR at ht ⊢
  rw [h 9 (by omega) (by omega), h 10 (by omega) (by omega), h 11 (by omega) (by omega), h 12 (by omega) (by omega), h 13 (by omega) (by omega)]
  exact ht
theorem m_takesPart {d : Nat} {I : mj_I} {S : mj_S} {Q : mj_Q} (hS : mk_Sh S) {T : Int → Int} {L key : Int} {I0 : mj_I} {s : tS} (hkey : 0 ≤ key ∧ key ≤ 2) (hkI : I0 150 14 = key) (hT : ∀ j, 0 ≤ j → j < L → rd I0 156 j = T j) (hL : I0 150 8 = L) (hL2 : 0 ≤ L ∧ L ≤ 96) (hK : mK I0 I) (hw : wfs T L s) (ht : mT T I s) (P H D : List Int) (hM : mS I (P ++ H) D) (hP : ∀ x, x ∈ P → x ≠ -11 ∧ 6 ≤ rk x) (hH : ∀ x H', H = x :: H' → x = -11 ∨ rk x < 6) (hb : ((P ++ H).length : Int) + D.length ≤ 95) (hp : 0 ≤ s.2.2 ∧ s.2.2 ≤ 96) (hd : 1 < d)
    (h1 : pkO T key s → ∀ J, mK I0 J → mS J H (D ++ [cnv key (pkV T key s)] ++ P) → mT T J (nxS T L (pieS s (pkV T key s))) → rd J 161 = rd I 161 → Q (some (.inl 1)) J S) (h0 : ¬ pkO T key s → Q (some (.inl 0)) I S) : mj_C d 241 [.inr 150] I S Q := by
  have ht' := ht.1
  obtain ⟨t1, t2, t3o, t4, t5, t6, t7⟩ := ht'
  have hat := ht.2
  have hM' := hM
  obtain ⟨m1, m2, m3, m4⟩ := hM
  have hab := hw.1
  have hlt := hw.2.1
  have hI14 : I 150 14 = key := by rw [hK.2.2]; exact hkI
  have t3' : ∃ tok : Int, I 150 11 = tok ∧ ((tok = s.1.1 ∧ ¬ (s.1.1 = 2 ∧ 4 < s.1.2.2 - s.1.2.1)) ∨ (tok = 4 ∧ s.1.1 = 2 ∧ 4 < s.1.2.2 - s.1.2.1)) := ⟨_, t3o, by split <;> omega⟩
  obtain ⟨tok, t3, htk⟩ := t3'
  have t4' : ∃ v : Int, I 150 12 = v ∧ (s.1.1 = 1 → v = T s.1.2.1) ∧ (s.1.1 = 2 → s.1.2.2 - s.1.2.1 ≤ 4 → v = nuV T s.1.2.1 (s.1.2.2 - s.1.2.1).toNat) := ⟨_, rfl, fun q => t4 (Or.inl q), t5⟩
  obtain ⟨v, t12, hv1, hv2⟩ := t4'
  have hnm := nmO_n (c := T s.1.2.1) hkey
  have go : ∀ (u : Int) (d' : Nat) (Q' : mj_Q), 0 < d' → (∀ J, mK I0 J → mS J H (D ++ [u] ++ P) → tokR T J s.1.1 s.1.2.1 s.1.2.2 → J 150 19 = s.2.2 + 1 → rd J 161 = rd I 161 → Q' none J S) → mj_C d' 243 [.inr 150, .inl 6] (mj_up (mj_up (up I 159 (D.length : Int) u) 150 18 ((D.length : Int) + 1)) 150 19 (s.2.2 + 1)) S Q' := by
    intro u d' Q' hd' hQ
    refine m_settleC hS 6 hd' P H (D ++ [u]) ⟨((hK.1.up (Or.inr (Or.inl rfl)) _ _).mu (Or.inl rfl) _ _).mu (Or.inl rfl) _ _, fun j hj => by simp (disch := omega) only [rd_up, rd_uo, rd_mu, up_f, mu_f, mj_up_s, ru_s, ru_n]; exact hK.2.1 j hj, by simp (disch := omega) only [rd_up, rd_uo, rd_mu, up_f, mu_f, mj_up_s, ru_s, ru_n]; exact hK.2.2⟩ ⟨by simp (disch := omega) only [rd_up, rd_uo, rd_mu, up_f, mu_f, mj_up_s, ru_s, ru_n]; exact m1, by simp (disch := omega) only [rd_up, rd_uo, rd_mu, up_f, mu_f, mj_up_s, ru_s, ru_n]; exact m2, by rw [len_sn]; simp (disch := omega) only [rd_up, rd_uo, rd_mu, up_f, mu_f, mj_up_s, ru_s, ru_n], by simp (disch := omega) only [rd_up, rd_uo, rd_mu, up_f, mu_f, mj_up_s, ru_s, ru_n]; exact outp_sn m4⟩ hP hH (by rw [len_sn]; omega) (fun J j1 j2 j3 j4 => ?_)
    exact hQ J j1 j2 (tokR_cg (fun j ja jb => by rw [j3 j (by omega) (by omega)]; simp (disch := omega) only [rd_up, rd_uo, rd_mu, up_f, mu_f, mj_up_s, ru_s, ru_n]) ht.1) (by rw [j3 19 (by omega) (by omega)]; simp (disch := omega) only [rd_up, rd_uo, rd_mu, up_f, mu_f, mj_up_s, ru_s, ru_n]) (by rw [j4]; simp (disch := omega) only [rd_up, rd_uo, rd_mu, up_f, mu_f, mj_up_s, ru_s, ru_n])
  have fin : ∀ (u : Int) (J J2 : mj_I), u = cnv key (pkV T key s) → mS J H (D ++ [u] ++ P) → J 150 19 = s.2.2 + 1 → rd J 161 = rd I 161 → mK I0 J2 → tokR T J2 (nxK T L s.1.1 s.1.2.2) (nxA T L s.1.2.2) (nxB T L s.1.2.2) → (∀ j, (j < 9 ∨ 13 < j) → J2 150 j = J 150 j) → fr (fun a => a = 150) J J2 → pkO T key s → Q (some (.inl 1)) J2 S := by
    intro u J J2 hu j2 j3 j4 k1 k2 k3 k4 hpk
    refine h1 hpk J2 k1 ?_ ⟨k2, ?_⟩ (by rw [k4.r (by omega), j4])
    · obtain ⟨n1, n2, n3, n4⟩ := j2
      rw [← hu]
      exact ⟨by rw [k3 21 (by omega)]; exact n1, by rw [k4.r (by omega)]; exact n2, by rw [k3 18 (by omega)]; exact n3, by rw [k4.r (by omega)]; exact n4⟩
    · rw [k3 19 (by omega), j3]
      rfl
  have pack : ∀ _ : Unit, (s.1.1 = 1 → v = T s.1.2.1) ∧ (s.1.1 = 2 → s.1.2.2 - s.1.2.1 ≤ 4 → v = nuV T s.1.2.1 (s.1.2.2 - s.1.2.1).toNat) := fun _ => ⟨hv1, hv2⟩
  have hnb : -1 ≤ nmO key v ∧ nmO key v ≤ 3 := by unfold nmO; repeat' split
                                                  all_goals omega
  have pack2 : ∀ _ : Unit, (tok = s.1.1 ∧ ¬ (s.1.1 = 2 ∧ 4 < s.1.2.2 - s.1.2.1)) ∨ (tok = 4 ∧ s.1.1 = 2 ∧ 4 < s.1.2.2 - s.1.2.1) := fun _ => htk
  have hk12 : tok = 1 ∨ tok = 2 → s.1.1 = 1 ∨ s.1.1 = 2 ∨ s.1.1 = 3 := by omega
  clear t4 t5 t6 t7 hv1 hv2 htk hlt
  refine x_C false [.inr (13, 0, 150, 0)] [] 80 hS ⟨xok_m hS, trivial⟩ ?_
  (repeat' (first | rw [t1] | rw [t2] | rw [t3] | rw [t12] | rw [m3] | rw [hat] | refine m_nameOf hS hI14 _ ?_ | refine go _ _ _ (by omega) (fun J j1 j2 j5 j6 j7 => ?_) | refine m_goS (s := s) hS hT hL hL2 j1 hw (hk12 (by omega)) (by omega) j5 (fun J2 k1 k2 k3 k4 => ?_) | simp (disch := omega) only [rd_up, rd_uo, rd_mu, up_f, mu_f, mj_up_s, ru_s, ru_n] | with_reducible assumption | with_reducible exact rfl | with_reducible exact trivial | (with_reducible (show (_ : Int) ≤ _); omega) | (with_reducible (show (_ : Int) < _); omega) | (with_reducible (show (_ : Nat) < _); omega) | (with_reducible (show (_ : Nat) ≤ _); omega) | with_reducible exact Or.inl rfl | with_reducible exact Or.inr rfl | with_reducible exact Or.inl trivial | with_reducible exact Or.inr trivial | (intro hz; exact absurd hz (by decide)) | (intro hz; exfalso; omega) | refine And.intro ?_ ?_ | intro _))
  · have p2 := pack2 ()
    refine fin v J J2 ?_ j2 j6 j7 k1 k2 k3 k4 (Or.inl (by omega))
    have e : pkV T key s = nuV T s.1.2.1 (s.1.2.2 - s.1.2.1).toNat := if_pos (by omega)
    rw [e, (pack ()).2 (by omega) (by omega)]
    unfold cnv
    rw [if_pos]
    have hw2 := nuV_4 hw (by omega) (by omega)
    exact hw2.1
  · have p2 := pack2 ()
    exact h0 (fun q => by rcases q with q | q <;> omega)
  · have p2 := pack2 ()
    exact h0 (fun q => by rcases q with q | q <;> omega)
  · have p2 := pack2 ()
    have e : v = T s.1.2.1 := (pack ()).1 (by omega)
    refine h0 (fun q => ?_)
    rcases q with q | q
    · omega
    · have := hnm.2 q.2.2
      rw [← e] at this
      omega
  · have p2 := pack2 ()
    have e : v = T s.1.2.1 := (pack ()).1 (by omega)
    have ne : nmI key (T s.1.2.1) ≠ 0 := fun q => by have := hnm.1 q; rw [← e] at this; omega
    refine fin (10000 + nmO key v) J J2 ?_ j2 j6 j7 k1 k2 k3 k4 (Or.inr ⟨by omega, by omega, ne⟩)
    have e2 : pkV T key s = nmI key (T s.1.2.1) := if_neg (by omega)
    rw [e2, e]
    exact (hnm.2 ne).2.2
