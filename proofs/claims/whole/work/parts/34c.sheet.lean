/-! sheet, mark -/
theorem b8_k : ∀ n, n < 256 → mj_b8 ((n : Nat) - 128) = (n : Nat) - 128 := by decide +kernel
theorem b8_id {x : Int} (h : -128 ≤ x ∧ x ≤ 127) : mj_b8 x = x := by
  have := b8_k (x + 128).toNat (by omega)
  rwa [show (((x + 128).toNat : Nat) : Int) - 128 = x by omega] at this
theorem b8_8 (x : Int) : mj_b8 (mj_b8 x) = mj_b8 x := b8_id (mj_b8_8 x)
theorem ok_sh {S : mj_S} (hS : mk_Sh S) {s : Int} (h : 0 ≤ s ∧ s ≤ 3) : xok S (10, 0, 122 + 2 * s.toNat, 0) ∧ xok S (22, 0, 122 + 2 * s.toNat + 1, 24) ∧ mj_tg S (122 + 2 * s.toNat) = 9 := by
  have a1 := (x_F3 hS (r := 60) (b := 0) (a := 118) (n := 4) (j := s.toNat) (x_chq_ok hS (by decide +kernel)) (by omega) (by decide) rfl).2
  have a2 := (x_F2 hS (k := 2) a1 rfl).2
  refine ⟨a1, a2, ?_⟩
  rcases a1 with q | q
  · exact absurd (show (10 : Nat) = 0 from q) (by decide)
  · have q1 : mj_tg S (122 + 2 * s.toNat) + 1 = 10 := q.1
    omega
/-- 171 Arrays.fill of bytes, with 0 -/
theorem c_fillB {d : Nat} {I : mj_I} {S : mj_S} {Q : mj_Q} (hS : mk_Sh S) (a : Nat) (ha : xok S (22, 0, a, 24)) (h : Q none (mj_fl I a 0 24) S) : mj_C d 171 [.inr a, .inl 0] I S Q := by
  have loop : ∀ m k : Nat, k + m = 24 → ∀ (kk : Int) (J : mj_I), kk = k → J = mj_fl I a 0 k → xW d 171 5 [some (.inr (22, 0, a, 24)), some (.inl 0), some (.inl kk), some (.inl ((24 : Nat) : Int))] [] J S Q := by
    intro m
    induction m with
    | zero =>
      intro k hk kk J h1 h2
      have e : k = 24 := by omega
      subst e
      refine x_hd false [5] 20 ?_
      (repeat' (first | with_reducible assumption | with_reducible exact rfl | with_reducible exact trivial | (with_reducible (show (_ : Int) ≤ _); omega) | (with_reducible (show (_ : Int) < _); omega) | (with_reducible (show (_ : Nat) < _); omega) | (with_reducible (show (_ : Nat) ≤ _); omega) | with_reducible exact Or.inl rfl | with_reducible exact Or.inr rfl | with_reducible exact Or.inl trivial | with_reducible exact Or.inr trivial | (intro hz; exact absurd hz (by decide)) | (intro hz; exfalso; omega) | refine And.intro ?_ ?_ | intro _))
      rw [h2]
      exact h
    | succ m ih =>
      intro k hk kk J h1 h2
      subst h1
      refine x_hd false [5] 20 ?_
      (repeat' (first | with_reducible assumption | with_reducible exact rfl | with_reducible exact trivial | (with_reducible (show (_ : Int) ≤ _); omega) | (with_reducible (show (_ : Int) < _); omega) | (with_reducible (show (_ : Nat) < _); omega) | (with_reducible (show (_ : Nat) ≤ _); omega) | with_reducible exact Or.inl rfl | with_reducible exact Or.inr rfl | with_reducible exact Or.inl trivial | with_reducible exact Or.inr trivial | (intro hz; exact absurd hz (by decide)) | (intro hz; exfalso; omega) | refine And.intro ?_ ?_ | intro _))
      refine ih (k + 1) (by omega) _ _ (by omega) ?_
      rw [h2, ← mj_fl_s]
      rfl
  refine x_C false [.inr (22, 0, a, 24), .inl 0] [5] 20 hS ⟨ha, trivial, trivial⟩ ?_
  (repeat' (first | with_reducible assumption | with_reducible exact rfl | with_reducible exact trivial | (with_reducible (show (_ : Int) ≤ _); omega) | (with_reducible (show (_ : Int) < _); omega) | (with_reducible (show (_ : Nat) < _); omega) | (with_reducible (show (_ : Nat) ≤ _); omega) | with_reducible exact Or.inl rfl | with_reducible exact Or.inr rfl | with_reducible exact Or.inl trivial | with_reducible exact Or.inr trivial | (intro hz; exact absurd hz (by decide)) | (intro hz; exfalso; omega) | refine And.intro ?_ ?_ | intro _))
  exact loop 24 0 (by omega) _ _ rfl (mj_fl_0 I a 0).symm
theorem c_beginSh {d : Nat} {I : mj_I} {S : mj_S} {Q : mj_Q} (hS : mk_Sh S) {s : Int} (hs : 0 ≤ s ∧ s ≤ 3) (o p : Int) (hd : 0 < d) (h : Q none (mj_fl (mj_up (mj_up I (122 + 2 * s.toNat) 0 o) (122 + 2 * s.toNat) 1 p) (122 + 2 * s.toNat + 1) 0 24) S) : mj_C d 170 [.inr (122 + 2 * s.toNat), .inl o, .inl p] I S Q := by
  obtain ⟨o1, o2, o3⟩ := ok_sh hS hs
  refine x_C false [.inr (10, 0, 122 + 2 * s.toNat, 0), .inl o, .inl p] [] 20 hS ⟨o1, trivial, trivial, trivial⟩ ?_
  (repeat' (first | refine c_fillB hS _ o2 ?_ | with_reducible assumption | with_reducible exact rfl | with_reducible exact trivial | (with_reducible (show (_ : Int) ≤ _); omega) | (with_reducible (show (_ : Int) < _); omega) | (with_reducible (show (_ : Nat) < _); omega) | (with_reducible (show (_ : Nat) ≤ _); omega) | with_reducible exact Or.inl rfl | with_reducible exact Or.inr rfl | with_reducible exact Or.inl trivial | with_reducible exact Or.inr trivial | (intro hz; exact absurd hz (by decide)) | (intro hz; exfalso; omega) | refine And.intro ?_ ?_ | intro _))
  exact h
def shF2 (C : Int → Int) (s : Int) (k : Nat) : Int → Int := fun q => if 24 * s ≤ q ∧ q < 24 * s + k then 0 else C q
theorem shF2_s {C : Int → Int} {s : Int} {k : Nat} : ru (shF2 C s k) (24 * s + k) 0 = shF2 C s (k + 1) := by
  funext q
  by_cases e : q = 24 * s + k
  · subst e
    rw [ru_s]
    unfold shF2
    rw [if_pos (by omega)]
  · rw [ru_n e]
    unfold shF2
    by_cases e5 : 24 * s ≤ q ∧ q < 24 * s + (k : Int)
    · rw [if_pos e5, if_pos (by omega)]
    · rw [if_neg e5, if_neg (by omega)]
theorem P_sheet {L : Nat} {xs : Nat → Int32} {n : Nat} (s o p : Int) : Pair L xs n 168 282 [.inl s, .inl o, .inl p] := by
  intro I S hn hR
  have hR0 := hR
  obtain ⟨hS, hO, ⟨hN, hCb⟩, hI, hTp, hWt, hSh, hSl, hMo, hCa, hBd⟩ := hR
  have hH := hN.1
  have hCH := hCb.1
  have hb : mB 21 := Or.inl rfl
  unfold InvH at hH
  unfold CbH at hCH
  by_cases hv : (0 ≤ s ∧ s ≤ 3) ∧ (-1 ≤ o ∧ o ≤ 1) ∧ ¬ (0 ≤ o ∧ 24 < p)
  · by_cases hz : 0 ≤ o ∧ p < 0
    · refine pair_no hn hR0 (-1000000014) (fun Q h => ?_) (fun Q h => ?_)
      · refine x_C false [.inr (1, 0, 20, 0), .inl s, .inl o, .inl p] [] 40 hS ⟨xok_w hS, trivial, trivial, trivial, trivial⟩ ?_
        (repeat' (first | refine c_isSheet _ ?_ ?_ ?_ | refine c_within _ _ _ ?_ ?_ | with_reducible assumption | with_reducible exact rfl | with_reducible exact trivial | (with_reducible (show (_ : Int) ≤ _); omega) | (with_reducible (show (_ : Int) < _); omega) | (with_reducible (show (_ : Nat) < _); omega) | (with_reducible (show (_ : Nat) ≤ _); omega) | with_reducible exact Or.inl rfl | with_reducible exact Or.inr rfl | with_reducible exact Or.inl trivial | with_reducible exact Or.inr trivial | (intro hz; exact absurd hz (by decide)) | (intro hz; exfalso; omega) | refine And.intro ?_ ?_ | intro _))
        all_goals exact h
      · refine x_C false [.inr (13, 0, 150, 0), .inl s, .inl o, .inl p] [] 40 hS ⟨xok_m hS, trivial, trivial, trivial, trivial⟩ ?_
        (repeat' (first | refine m_isSheet _ ?_ ?_ ?_ | refine c_in _ _ _ ?_ ?_ | with_reducible assumption | with_reducible exact rfl | with_reducible exact trivial | (with_reducible (show (_ : Int) ≤ _); omega) | (with_reducible (show (_ : Int) < _); omega) | (with_reducible (show (_ : Nat) < _); omega) | (with_reducible (show (_ : Nat) ≤ _); omega) | with_reducible exact Or.inl rfl | with_reducible exact Or.inr rfl | with_reducible exact Or.inl trivial | with_reducible exact Or.inr trivial | (intro hz; exact absurd hz (by decide)) | (intro hz; exfalso; omega) | refine And.intro ?_ ?_ | intro _))
        all_goals exact h
    · have hx : ∃ x : Int, x = (if o < 0 then 0 else p) := ⟨_, rfl⟩
      obtain ⟨x, hx⟩ := hx
      have hx2 : 0 ≤ x ∧ x ≤ 24 := by omega
      refine pair_ot hn hR0 x (fun K => K = mj_fl (mj_up (mj_up I (122 + 2 * s.toNat) 0 o) (122 + 2 * s.toNat) 1 x) (122 + 2 * s.toNat + 1) 0 24) (fun Q h => ?_) (fun K Q hK hP h150 h151 h => ?_)
      · have hfr : fr ocl I (mj_fl (mj_up (mj_up I (122 + 2 * s.toNat) 0 o) (122 + 2 * s.toNat) 1 x) (122 + 2 * s.toNat + 1) 0 24) := (((fr.refl (X := ocl)).mu (by unfold ocl; omega) _ _).mu (by unfold ocl; omega) _ _).tr (fil_fr.mo (fun a q => by unfold ocl; omega))
        refine x_C false [.inr (1, 0, 20, 0), .inl s, .inl o, .inl p] [] 40 hS ⟨xok_w hS, trivial, trivial, trivial, trivial⟩ ?_
        (repeat' (first | refine c_isSheet _ ?_ ?_ ?_ | refine c_within _ _ _ ?_ ?_ | refine c_beginSh hS ?_ _ _ ?_ ?_ | with_reducible assumption | with_reducible exact rfl | with_reducible exact trivial | (with_reducible (show (_ : Int) ≤ _); omega) | (with_reducible (show (_ : Int) < _); omega) | (with_reducible (show (_ : Nat) < _); omega) | (with_reducible (show (_ : Nat) ≤ _); omega) | with_reducible exact Or.inl rfl | with_reducible exact Or.inr rfl | with_reducible exact Or.inl trivial | with_reducible exact Or.inr trivial | (intro hz; exact absurd hz (by decide)) | (intro hz; exfalso; omega) | refine And.intro ?_ ?_ | intro _))
        · obtain rfl : p = x := by omega
          exact h _ hfr (fun k hk => by rw [fil_fr 20 (by omega), mu_o (by omega), mu_o (by omega)]) rfl
        · obtain rfl : x = 0 := by omega
          obtain rfl : o = -1 := by omega
          exact h _ hfr (fun k hk => by rw [fil_fr 20 (by omega), mu_o (by omega), mu_o (by omega)]) rfl
      · have loop : ∀ m k : Nat, k + m = 24 → ∀ (kk : Int) (J : mj_I), kk = k → (∀ a, ¬ (172 ≤ a ∧ a ≤ 174) → J a = K a) → rd J 172 = ru (rd K 172) s o → rd J 173 = ru (rd K 173) s x → rd J 174 = shF2 (rd K 174) s k →
            xW 400 282 37 [some (.inr (13, 0, 150, 0)), some (.inl s), some (.inl o), some (.inl p), some (.inl kk)] [] J S Q := by
          intro m
          induction m with
          | zero =>
            intro k hk kk J h1 h2 h3 h4 h5
            have e : k = 24 := by omega
            subst e
            have e4 : rd J 173 s = x := by rw [h4, ru_s]
            refine x_hd false [37] 40 ?_
            (repeat' (first | rw [e4] | with_reducible assumption | with_reducible exact rfl | with_reducible exact trivial | (with_reducible (show (_ : Int) ≤ _); omega) | (with_reducible (show (_ : Int) < _); omega) | (with_reducible (show (_ : Nat) < _); omega) | (with_reducible (show (_ : Nat) ≤ _); omega) | with_reducible exact Or.inl rfl | with_reducible exact Or.inr rfl | with_reducible exact Or.inl trivial | with_reducible exact Or.inr trivial | (intro hz; exact absurd hz (by decide)) | (intro hz; exfalso; omega) | refine And.intro ?_ ?_ | intro _))
            have ek : ∀ a, ¬ (122 ≤ a ∧ a ≤ 129) → K a = I a := fun a q => by rw [hP, fil_fr a (by omega), mu_o (by omega), mu_o (by omega)]
            refine h J (fun a ha => h2 a (by unfold omd at ha; omega)) (fun k _ _ => by rw [h2 150 (by omega)]) ?_ ?_ ?_ ?_
            · exact RT_s hTp (by rw [h2 115 (by omega), ek 115 (by omega)]) (by rw [h2 150 (by omega), h150]) (rd_oo (by rw [h2 116 (by omega), ek 116 (by omega)])) (rd_oo (by rw [h2 156 (by omega), ek 156 (by omega)]))
            · exact RW_s hWt (by rw [h2 20 (by omega), ek 20 (by omega)]) (by rw [h2 150 (by omega), h150]) (rd_oo (by rw [h2 120 (by omega), ek 120 (by omega)])) (rd_oo (by rw [h2 180 (by omega), ek 180 (by omega)]))
            · intro q q0 q1
              have w2 : rd K 172 = rd I 172 := rd_oo (ek 172 (by omega))
              have w3 : rd K 173 = rd I 173 := rd_oo (ek 173 (by omega))
              have w4 : rd K 174 = rd I 174 := rd_oo (ek 174 (by omega))
              unfold RS1
              rw [h2 _ (by omega), rd_oo (h2 (122 + 2 * q.toNat + 1) (by omega)), h3, h4, h5, w2, w3, w4]
              by_cases e : q = s
              · subst e
                rw [ru_s, ru_s, hP, fil_fr (122 + 2 * q.toNat) (by omega), mu_f (by omega), mj_up_s, mj_up_s]
                refine ⟨rfl, by omega, rfl, by omega, fun k k0 k1 => ?_⟩
                rw [fil_rd (by decide) k0 (by omega)]
                unfold shF2
                rw [if_pos (by omega)]
              · have hq := hSh q q0 q1
                unfold RS1 at hq
                have z1 : K (122 + 2 * q.toNat) = I (122 + 2 * q.toNat) := by rw [hP, fil_fr _ (by omega), mu_o (by omega), mu_o (by omega)]
                have z2 : K (122 + 2 * q.toNat + 1) = I (122 + 2 * q.toNat + 1) := by rw [hP, fil_fr _ (by omega), mu_o (by omega), mu_o (by omega)]
                rw [ru_n e, ru_n e, z1, rd_oo z2]
                refine ⟨hq.1, hq.2.1, hq.2.2.1, hq.2.2.2.1, fun k k0 k1 => ?_⟩
                rw [hq.2.2.2.2 k k0 k1]
                unfold shF2
                rw [if_neg (by omega)]
            · exact RSl_s hSl (fun a q1 q2 => by rw [h2 a (by omega), ek a (by omega)]) (rd_oo (by rw [h2 175 (by omega), ek 175 (by omega)])) (rd_oo (by rw [h2 176 (by omega), ek 176 (by omega)])) (rd_oo (by rw [h2 177 (by omega), ek 177 (by omega)])) (rd_oo (by rw [h2 178 (by omega), ek 178 (by omega)]))
          | succ m ih =>
            intro k hk kk J h1 h2 h3 h4 h5
            subst h1
            refine x_hd false [37] 40 ?_
            (repeat' (first | with_reducible assumption | with_reducible exact rfl | with_reducible exact trivial | (with_reducible (show (_ : Int) ≤ _); omega) | (with_reducible (show (_ : Int) < _); omega) | (with_reducible (show (_ : Nat) < _); omega) | (with_reducible (show (_ : Nat) ≤ _); omega) | with_reducible exact Or.inl rfl | with_reducible exact Or.inr rfl | with_reducible exact Or.inl trivial | with_reducible exact Or.inr trivial | (intro hz; exact absurd hz (by decide)) | (intro hz; exfalso; omega) | refine And.intro ?_ ?_ | intro _))
            refine ih (k + 1) (by omega) _ _ (by omega) (fun a ha => by rw [up_o (by omega)]; exact h2 a ha) (by rw [rd_uo (by decide)]; exact h3) (by rw [rd_uo (by decide)]; exact h4) ?_
            rw [rd_up (by omega) (by omega), h5]
            exact shF2_s
        refine x_C false [.inr (13, 0, 150, 0), .inl s, .inl o, .inl p] [37] 60 hS ⟨xok_m hS, trivial, trivial, trivial, trivial⟩ ?_
        (repeat' (first | refine m_isSheet _ ?_ ?_ ?_ | refine c_in _ _ _ ?_ ?_ | with_reducible assumption | with_reducible exact rfl | with_reducible exact trivial | (with_reducible (show (_ : Int) ≤ _); omega) | (with_reducible (show (_ : Int) < _); omega) | (with_reducible (show (_ : Nat) < _); omega) | (with_reducible (show (_ : Nat) ≤ _); omega) | with_reducible exact Or.inl rfl | with_reducible exact Or.inr rfl | with_reducible exact Or.inl trivial | with_reducible exact Or.inr trivial | (intro hz; exact absurd hz (by decide)) | (intro hz; exfalso; omega) | refine And.intro ?_ ?_ | intro _))
        all_goals (refine loop 24 0 (by omega) _ _ rfl (fun a ha => by rw [up_o (by omega), up_o (by omega)]) (by simp (disch := omega) only [rd_uo, rd_up]) ?_ ?_)
        all_goals first
          | (simp (disch := omega) only [rd_uo, rd_up]
             congr 1
             omega)
          | (simp (disch := omega) only [rd_uo]
             funext q
             unfold shF2
             rw [if_neg (by omega)])
  · refine pair_no hn hR0 (-1000000001) (fun Q h => ?_) (fun Q h => ?_)
    · refine x_C false [.inr (1, 0, 20, 0), .inl s, .inl o, .inl p] [] 40 hS ⟨xok_w hS, trivial, trivial, trivial, trivial⟩ ?_
      (repeat' (first | refine c_isSheet _ ?_ ?_ ?_ | refine c_within _ _ _ ?_ ?_ | with_reducible assumption | with_reducible exact rfl | with_reducible exact trivial | (with_reducible (show (_ : Int) ≤ _); omega) | (with_reducible (show (_ : Int) < _); omega) | (with_reducible (show (_ : Nat) < _); omega) | (with_reducible (show (_ : Nat) ≤ _); omega) | with_reducible exact Or.inl rfl | with_reducible exact Or.inr rfl | with_reducible exact Or.inl trivial | with_reducible exact Or.inr trivial | (intro hz; exact absurd hz (by decide)) | (intro hz; exfalso; omega) | refine And.intro ?_ ?_ | intro _))
      all_goals exact h
    · refine x_C false [.inr (13, 0, 150, 0), .inl s, .inl o, .inl p] [] 40 hS ⟨xok_m hS, trivial, trivial, trivial, trivial⟩ ?_
      (repeat' (first | refine m_isSheet _ ?_ ?_ ?_ | refine c_in _ _ _ ?_ ?_ | with_reducible assumption | with_reducible exact rfl | with_reducible exact trivial | (with_reducible (show (_ : Int) ≤ _); omega) | (with_reducible (show (_ : Int) < _); omega) | (with_reducible (show (_ : Nat) < _); omega) | (with_reducible (show (_ : Nat) ≤ _); omega) | with_reducible exact Or.inl rfl | with_reducible exact Or.inr rfl | with_reducible exact Or.inl trivial | with_reducible exact Or.inr trivial | (intro hz; exact absurd hz (by decide)) | (intro hz; exfalso; omega) | refine And.intro ?_ ?_ | intro _))
      all_goals exact h
