/-! calls that change the book: over, drop -/
def ovN (N : Int → Int) : Nat → Int → Int
  | 0 => N
  | s + 1 => ru (ovN N s) (64 + 4 * (s : Int) + 3) (-1)
theorem ovN_o (N : Int → Int) : ∀ (k : Nat) (q : Int), (q < 64 ∨ 64 + 4 * (k : Int) ≤ q) → ovN N k q = N q
  | 0, _, _ => rfl
  | k + 1, q, h => by
    show ru (ovN N k) (64 + 4 * (k : Int) + 3) (-1) q = N q
    rw [ru_n (by omega)]
    exact ovN_o N k q (by omega)
theorem P_over {L : Nat} {xs : Nat → Int32} {n : Nat} : Pair L xs n 156 273 [] := by
  intro I S hn hR
  have hR0 := hR
  obtain ⟨hS, hO, ⟨hN, hCb⟩, hI, hTp, hWt, hSh, hSl, hMo, hCa, hBd⟩ := hR
  have hH := hN.1
  have hCH := hCb.1
  have hb : mB 21 := Or.inl rfl
  unfold InvH at hH
  unfold CbH at hCH
  generalize hN0 : rd I 151 = N at *
  have key : ∀ k : Nat, (k : Int) ≤ N 3 → ∀ J, Cb J S 21 (ovN N k) → Inv (ovN N k) → (k : Int) < N 3 → Inv (ovN N (k + 1)) ∧ Cb (mj_up J (21 + 22 + (k : Int).toNat) 3 (-1)) S 21 (ovN N (k + 1)) := by
    intro k hk J hC hI2 hlt
    have g2 : ovN N k 2 = N 2 := ovN_o N k 2 (by omega)
    have g3 : ovN N k 3 = N 3 := ovN_o N k 3 (by omega)
    have hSk := hI2.2.2.1 k (by omega) (by omega)
    have hCk := hC.2.2.1 k (by omega) (by omega)
    have hCH2 := hC.1
    unfold CbH at hCH2
    refine upd_S (N' := ru (ovN N k) (64 + 4 * (k : Int) + 3) (-1)) hI2 hC (p := k) (by omega) (fun q h1 h2 => by rw [ru_n (by omega)]) (Or.inl (by rw [ru_n (by omega)])) (by rw [ru_n (by omega)]; omega) ?_ (fun a h1 h2 => by simp (disch := omega) only [mu_o]) (fun j hj => by simp (disch := omega) only [mu_f]) (by simp (disch := omega) only [mu_f, ru_n]; omega) ?_
    · unfold InvS at hSk ⊢
      simp (disch := omega) only [ru_s, ru_n]
      omega
    · unfold CbS at hCk ⊢
      simp (disch := omega) only [ru_s, ru_n, mu_f, mj_up_s]
      exact ⟨hCk.1, hCk.2.1, hCk.2.2.1, trivial⟩
  have inv : ∀ k : Nat, (k : Int) ≤ N 3 → Inv (ovN N k) := by
    intro k hk
    have : ∃ J, Inv (ovN N k) ∧ Cb J S 21 (ovN N k) := by
      induction k with
      | zero => exact ⟨I, hN, hCb⟩
      | succ k ih =>
        obtain ⟨J, a, b⟩ := ih (by omega)
        exact ⟨_, key k (by omega) J b a (by omega)⟩
    exact this.elim (fun _ q => q.1)
  refine pair_mu hn hR0 (csS N) (ovN N (N 3).toNat) (inv _ (by omega)) 1 (by omega) (fun Q h => ?_) (fun K Q h151 h150 _ h => ?_)
  · have loop : ∀ m k : Nat, (k + m : Int) = N 3 → ∀ (kk : Int) (J : mj_I), kk = k → fr bk I J → Cb J S 21 (ovN N k) →
        xW 400 156 6 [some (.inr (1, 0, 20, 0)), some (.inl (csS N)), some (.inl kk)] [] J S Q := by
      intro m
      induction m with
      | zero =>
        intro k hk kk J h1 h2 h3
        have e3 : J 21 3 = N 3 := by rw [h3.1.2.2.2.1]; exact ovN_o N k 3 (by omega)
        refine x_hd false [6] 30 ?_
        (repeat' (first | with_reducible assumption | with_reducible exact rfl | with_reducible exact trivial | (with_reducible (show (_ : Int) ≤ _); omega) | (with_reducible (show (_ : Int) < _); omega) | (with_reducible (show (_ : Nat) < _); omega) | (with_reducible (show (_ : Nat) ≤ _); omega) | with_reducible exact Or.inl rfl | with_reducible exact Or.inr rfl | with_reducible exact Or.inl trivial | with_reducible exact Or.inr trivial | (intro hz; exact absurd hz (by decide)) | (intro hz; exfalso; omega) | refine And.intro ?_ ?_ | intro _))
        rw [show (N 3).toNat = k by omega] at h
        exact h J h2 h3
      | succ m ih =>
        intro k hk kk J h1 h2 h3
        subst h1
        have e3 : J 21 3 = N 3 := by rw [h3.1.2.2.2.1]; exact ovN_o N k 3 (by omega)
        refine x_hd false [6] 30 ?_
        (repeat' (first | with_reducible assumption | with_reducible exact rfl | with_reducible exact trivial | (with_reducible (show (_ : Int) ≤ _); omega) | (with_reducible (show (_ : Int) < _); omega) | (with_reducible (show (_ : Nat) < _); omega) | (with_reducible (show (_ : Nat) ≤ _); omega) | with_reducible exact Or.inl rfl | with_reducible exact Or.inr rfl | with_reducible exact Or.inl trivial | with_reducible exact Or.inr trivial | (intro hz; exact absurd hz (by decide)) | (intro hz; exfalso; omega) | refine And.intro ?_ ?_ | intro _))
        exact ih (k + 1) (by omega) _ _ (by omega) (h2.mu (by unfold bk; omega) _ _) (key k (by omega) J h3 (inv k (by omega)) (by omega)).2
    refine x_C false [.inr (1, 0, 20, 0)] [6] 30 hS ⟨xok_w hS, trivial⟩ ?_
    (repeat' (first | refine c_countSigned hS hb hN hCb ?_ ?_ | with_reducible assumption | with_reducible exact rfl | with_reducible exact trivial | (with_reducible (show (_ : Int) ≤ _); omega) | (with_reducible (show (_ : Int) < _); omega) | (with_reducible (show (_ : Nat) < _); omega) | (with_reducible (show (_ : Nat) ≤ _); omega) | with_reducible exact Or.inl rfl | with_reducible exact Or.inr rfl | with_reducible exact Or.inl trivial | with_reducible exact Or.inr trivial | (intro hz; exact absurd hz (by decide)) | (intro hz; exfalso; omega) | refine And.intro ?_ ?_ | intro _))
    exact loop (N 3).toNat 0 (by omega) _ _ rfl fr.refl hCb
  · unfold RBd at hBd
    have e150 : K 150 4 = I 150 4 := by rw [h150]
    rw [hN0] at h151
    have loop : ∀ m k : Nat, (k + m : Int) = N 3 → ∀ (kk : Int) (J : mj_I), kk = k → fr mk5 K J → J 150 = K 150 → rd J 151 = ovN N k →
        xW 400 273 5 [some (.inr (13, 0, 150, 0)), some (.inl (csS N)), some (.inl kk)] [] J S Q := by
      intro m
      induction m with
      | zero =>
        intro k hk kk J h1 h2 h4 h3
        have e3 : rd J 151 3 = N 3 := by rw [h3]; exact ovN_o N k 3 (by omega)
        have e4 : J 150 4 = K 150 4 := by rw [h4]
        refine x_hd false [5] 30 ?_
        (repeat' (first | with_reducible assumption | with_reducible exact rfl | with_reducible exact trivial | (with_reducible (show (_ : Int) ≤ _); omega) | (with_reducible (show (_ : Int) < _); omega) | (with_reducible (show (_ : Nat) < _); omega) | (with_reducible (show (_ : Nat) ≤ _); omega) | with_reducible exact Or.inl rfl | with_reducible exact Or.inr rfl | with_reducible exact Or.inl trivial | with_reducible exact Or.inr trivial | (intro hz; exact absurd hz (by decide)) | (intro hz; exfalso; omega) | refine And.intro ?_ ?_ | intro _))
        rw [show (N 3).toNat = k by omega] at h
        refine h _ (h2.mu (Or.inl rfl) _ _) (by rw [rd_mu (by decide)]; exact h3) (fun j hj => by rw [mu_f (by omega), h4]) (by rw [mj_up_s, h4])
      | succ m ih =>
        intro k hk kk J h1 h2 h4 h3
        subst h1
        have e3 : rd J 151 3 = N 3 := by rw [h3]; exact ovN_o N k 3 (by omega)
        refine x_hd false [5] 30 ?_
        (repeat' (first | with_reducible assumption | with_reducible exact rfl | with_reducible exact trivial | (with_reducible (show (_ : Int) ≤ _); omega) | (with_reducible (show (_ : Int) < _); omega) | (with_reducible (show (_ : Nat) < _); omega) | (with_reducible (show (_ : Nat) ≤ _); omega) | with_reducible exact Or.inl rfl | with_reducible exact Or.inr rfl | with_reducible exact Or.inl trivial | with_reducible exact Or.inr trivial | (intro hz; exact absurd hz (by decide)) | (intro hz; exfalso; omega) | refine And.intro ?_ ?_ | intro _))
        refine ih (k + 1) (by omega) _ _ (by omega) (h2.up (Or.inr (Or.inl rfl)) _ _) (by rw [up_o (by decide)]; exact h4) ?_
        rw [rd_up (by omega) (by omega), h3]
        rfl
    refine x_C false [.inr (13, 0, 150, 0)] [5] 30 hS ⟨xok_m hS, trivial⟩ ?_
    (repeat' (first | rw [h151] | refine m_signedMany hS (by rw [h151]; exact hN) ?_ ?_ | with_reducible assumption | with_reducible exact rfl | with_reducible exact trivial | (with_reducible (show (_ : Int) ≤ _); omega) | (with_reducible (show (_ : Int) < _); omega) | (with_reducible (show (_ : Nat) < _); omega) | (with_reducible (show (_ : Nat) ≤ _); omega) | with_reducible exact Or.inl rfl | with_reducible exact Or.inr rfl | with_reducible exact Or.inl trivial | with_reducible exact Or.inr trivial | (intro hz; exact absurd hz (by decide)) | (intro hz; exfalso; omega) | refine And.intro ?_ ?_ | intro _))
    exact loop (N 3).toNat 0 (by omega) _ _ rfl fr.refl rfl h151
def w_tkR (I : mj_I) (a c : Nat) : mj_I := mj_up (mj_up (mj_up (mj_up I a 0 (I c 0)) a 1 (I c 1)) a 2 (I c 2)) a 3 (I c 3)
theorem c_tkR {d : Nat} {I : mj_I} {S : mj_S} {Q : mj_Q} (hS : mk_Sh S) (a c : Nat) (ha : mj_tg S a = 5) (hc : mj_tg S c = 5) (hac : ¬ c = a) (h : Q none (w_tkR I a c) S) : mj_C d 64 [.inr a, .inr c] I S Q := by
  have e : mj_up (mj_up (mj_up (mj_up I a 0 (I c 0)) a 1 (mj_up I a 0 (I c 0) c 1)) a 2 (mj_up (mj_up I a 0 (I c 0)) a 1 (mj_up I a 0 (I c 0) c 1) c 2)) a 3 (mj_up (mj_up (mj_up I a 0 (I c 0)) a 1 (mj_up I a 0 (I c 0) c 1)) a 2 (mj_up (mj_up I a 0 (I c 0)) a 1 (mj_up I a 0 (I c 0) c 1) c 2) c 3) = w_tkR I a c := by
    unfold w_tkR
    simp (disch := omega) only [mu_f]
  rw [← e] at h
  refine x_C false [.inr (6, 0, a, 0), .inr (6, 0, c, 0)] [] 30 hS ⟨xok_t (by omega) (by decide) (by decide), xok_t (by omega) (by decide) (by decide), trivial⟩ ?_
  exact h
/-- the row without the rule r, j numbers moved -/
def drF (N : Int → Int) (r : Int) (j : Nat) : Int → Int := fun q => if q = 4 then N 4 - 1 else if 88 + 4 * r ≤ q ∧ q < 88 + 4 * r + j then N (q + 4) else N q
theorem drF_s {N : Int → Int} {r : Int} {j : Nat} (hr : 0 ≤ r) : ru (drF N r j) (88 + 4 * r + j) (drF N r j (88 + 4 * r + j + 4)) = drF N r (j + 1) := by
  funext q
  by_cases e : q = 88 + 4 * r + j
  · subst e
    rw [ru_s]
    unfold drF
    rw [if_neg (by omega), if_neg (by omega), if_neg (by omega), if_pos (by omega)]
  · rw [ru_n e]
    unfold drF
    by_cases e4 : q = 4
    · rw [if_pos e4, if_pos e4]
    · rw [if_neg e4, if_neg e4]
      by_cases e5 : 88 + 4 * r ≤ q ∧ q < 88 + 4 * r + j
      · rw [if_pos e5, if_pos (by omega)]
      · rw [if_neg e5, if_neg (by omega)]
theorem drF_0 {N : Int → Int} {r : Int} : drF N r 0 = ru N 4 (N 4 - 1) := by
  funext q
  unfold drF ru
  by_cases e4 : q = 4
  · rw [if_pos e4, if_pos e4]
  · rw [if_neg e4, if_neg e4, if_neg (by omega)]
theorem P_drop {L : Nat} {xs : Nat → Int32} {n : Nat} (r : Int) : Pair L xs n 62 231 [.inl r] := by
  intro I S hn hR
  have hR0 := hR
  obtain ⟨hS, hO, ⟨hN, hCb⟩, hI, hTp, hWt, hSh, hSl, hMo, hCa, hBd⟩ := hR
  have hH := hN.1
  have hCH := hCb.1
  have hb : mB 21 := Or.inl rfl
  unfold InvH at hH
  unfold CbH at hCH
  by_cases hv : 0 ≤ r ∧ r < rd I 151 4
  · generalize hN0 : rd I 151 = N at *
    have es : ∀ q, q ≠ 4 → (q < 88 ∨ 136 ≤ q) → drF N r (4 * (N 4 - 1 - r)).toNat q = N q := fun q h1 h2 => by
      unfold drF
      rw [if_neg h1, if_neg (by omega)]
    have g4 : drF N r (4 * (N 4 - 1 - r)).toNat 4 = N 4 - 1 := by unfold drF; rw [if_pos rfl]
    have ea : ∀ p k, 0 ≤ p → p < r → 0 ≤ k → k < 4 → drF N r (4 * (N 4 - 1 - r)).toNat (88 + 4 * p + k) = N (88 + 4 * p + k) := fun p k _ _ _ _ => by
      unfold drF
      rw [if_neg (by omega), if_neg (by omega)]
    have ebb : ∀ p k, r ≤ p → p < N 4 - 1 → 0 ≤ k → k < 4 → drF N r (4 * (N 4 - 1 - r)).toNat (88 + 4 * p + k) = N (88 + 4 * (p + 1) + k) := fun p k _ _ _ _ => by
      unfold drF
      rw [if_neg (by omega), if_pos (by omega)]
      congr 1
      omega
    have hIn : Inv (drF N r (4 * (N 4 - 1 - r)).toNat) := by
      refine Inv_u hN ?_ (es 5 (by omega) (by omega)) (fun q hq => es q (by omega) (by omega)) (fun q h0 h1 => ?_) (fun q h0 h1 => ?_) (fun q h0 h1 => ?_) (fun q h0 h1 => ?_) (fun q h0 h1 => ?_)
      · unfold InvH
        rw [es 1 (by omega) (by omega), es 2 (by omega) (by omega), es 3 (by omega) (by omega), g4, es 5 (by omega) (by omega), es 6 (by omega) (by omega), es 7 (by omega) (by omega)]
        omega
      · rw [es 2 (by omega) (by omega)] at h1
        exact InvP_s (hN.2.1 q h0 h1) (fun j j0 j1 => es _ (by omega) (by omega)) (by rw [es 2 (by omega) (by omega)]; omega)
      · rw [es 3 (by omega) (by omega)] at h1
        exact InvS_s (hN.2.2.1 q h0 h1) (fun j j0 j1 => es _ (by omega) (by omega)) (by rw [es 2 (by omega) (by omega)]; omega)
      · rw [g4] at h1
        by_cases e : q < r
        · exact InvR_s (hN.2.2.2.1 q h0 (by omega)) (fun j j0 j1 => ea q j h0 e j0 j1) (by rw [es 3 (by omega) (by omega)]; omega)
        · have hq := hN.2.2.2.1 (q + 1) (by omega) (by omega)
          unfold InvR at hq ⊢
          rw [ebb q 0 (by omega) h1 (by decide) (by decide), ebb q 1 (by omega) h1 (by decide) (by decide), ebb q 2 (by omega) h1 (by decide) (by decide), ebb q 3 (by omega) h1 (by decide) (by decide), es 3 (by omega) (by omega)]
          exact hq
      · rw [es 6 (by omega) (by omega)] at h1
        exact InvO_s (hN.2.2.2.2.1 q h0 h1) (es _ (by omega) (by omega)) (es _ (by omega) (by omega)) (by rw [es 2 (by omega) (by omega)]; omega)
      · rw [es 7 (by omega) (by omega)] at h1
        exact InvL_s (hN.2.2.2.2.2.1 q h0 h1) (fun j j0 j1 => es _ (by omega) (by omega)) (by rw [es 2 (by omega) (by omega)]; omega) (by rw [es 3 (by omega) (by omega)]; omega)
    refine pair_mu hn hR0 (N 4 - 1) (drF N r (4 * (N 4 - 1 - r)).toNat) hIn 1 (by omega) (fun Q h => ?_) (fun K Q h151 h150 _ h => ?_)
    · have rem : ∀ Q2 : mj_Q, (∀ J, fr bk I J → Cb J S 21 (drF N r (4 * (N 4 - 1 - r)).toNat) → Q2 none J S) → mj_C 399 63 [.inr 21, .inl r] I S Q2 := by
        intro Q2 h2
        have loop : ∀ m k : Nat, (k + m : Int) = N 4 - 1 - r → ∀ (kk : Int) (J : mj_I), kk = r + k → (∀ a, ¬ (49 ≤ a ∧ a ≤ 60) → J a = I a) → (∀ i : Int, 0 ≤ i → i < 12 → ∀ f, f < 4 → J (21 + 28 + i.toNat) f = if r ≤ i ∧ i < r + k then I (21 + 28 + (i + 1).toNat) f else I (21 + 28 + i.toNat) f) →
            xW 399 63 2 [some (.inr (2, 21, 21, 0)), some (.inl r), some (.inl kk)] [] J S Q2 := by
          intro m
          induction m with
          | zero =>
            intro k hk kk J h1 h3 h4
            have e5 : J 21 5 = N 4 := by rw [h3 21 (by omega)]; omega
            refine x_hd false [2] 30 ?_
            (repeat' (first | rw [e5] | with_reducible assumption | with_reducible exact rfl | with_reducible exact trivial | (with_reducible (show (_ : Int) ≤ _); omega) | (with_reducible (show (_ : Int) < _); omega) | (with_reducible (show (_ : Nat) < _); omega) | (with_reducible (show (_ : Nat) ≤ _); omega) | with_reducible exact Or.inl rfl | with_reducible exact Or.inr rfl | with_reducible exact Or.inl trivial | with_reducible exact Or.inr trivial | (intro hz; exact absurd hz (by decide)) | (intro hz; exfalso; omega) | refine And.intro ?_ ?_ | intro _))
            have eK : ∀ a, ¬ a = 21 → ¬ (49 ≤ a ∧ a ≤ 60) → mj_up J 21 5 (N 4 - 1) a = I a := fun a q1 q2 => by rw [mu_o q1]; exact h3 a q2
            have e21 : ∀ j, j ≠ 5 → mj_up J 21 5 (N 4 - 1) 21 j = I 21 j := fun j hj => by rw [mu_f (by omega), h3 21 (by omega)]
            refine h2 _ (fun a ha => eK a (by unfold bk at ha; omega) (by unfold bk at ha; omega)) ?_
            refine Cb_u hCb (fun a ha => eK a (by omega) (by omega)) (eK _ (by omega) (by omega)) ?_ (es 5 (by omega) (by omega)) (fun q hq => es q (by omega) (by omega)) (fun q h0 h1 => ?_) (fun q h0 h1 => ?_) (fun q h0 h1 => ?_) (fun q h0 h1 => ?_) (fun q h0 h1 => ?_)
            · unfold CbH
              rw [e21 14 (by decide), e21 13 (by decide), e21 1 (by decide), e21 3 (by decide), mj_up_s, e21 7 (by decide), e21 11 (by decide), eK (21 + 8) (by omega) (by omega), es 0 (by omega) (by omega), es 1 (by omega) (by omega), es 2 (by omega) (by omega), es 3 (by omega) (by omega), g4, es 5 (by omega) (by omega), es 6 (by omega) (by omega), es 7 (by omega) (by omega)]
              omega
            · rw [es 2 (by omega) (by omega)] at h1
              exact CbP_s (hCb.2.1 q h0 h1) (eK _ (by omega) (by omega)) (fun j j0 j1 => es _ (by omega) (by omega))
            · rw [es 3 (by omega) (by omega)] at h1
              exact CbS_s (hCb.2.2.1 q h0 h1) (eK _ (by omega) (by omega)) (fun j j0 j1 => es _ (by omega) (by omega))
            · rw [g4] at h1
              have ef : ∀ f, f < 4 → mj_up J 21 5 (N 4 - 1) (21 + 28 + q.toNat) f = if r ≤ q ∧ q < r + k then I (21 + 28 + (q + 1).toNat) f else I (21 + 28 + q.toNat) f := fun f hf => by
                rw [mu_f (by omega)]
                exact h4 q h0 (by omega) f hf
              unfold CbR
              rw [ef 0 (by decide), ef 1 (by decide), ef 2 (by decide), ef 3 (by decide)]
              by_cases e : q < r
              · rw [if_neg (by omega), if_neg (by omega), if_neg (by omega), if_neg (by omega), ea q 0 h0 e (by decide) (by decide), ea q 1 h0 e (by decide) (by decide), ea q 2 h0 e (by decide) (by decide), ea q 3 h0 e (by decide) (by decide)]
                exact hCb.2.2.2.1 q h0 (by omega)
              · rw [if_pos (by omega), if_pos (by omega), if_pos (by omega), if_pos (by omega), ebb q 0 (by omega) h1 (by decide) (by decide), ebb q 1 (by omega) h1 (by decide) (by decide), ebb q 2 (by omega) h1 (by decide) (by decide), ebb q 3 (by omega) h1 (by decide) (by decide)]
                exact hCb.2.2.2.1 (q + 1) (by omega) (by omega)
            · rw [es 6 (by omega) (by omega)] at h1
              exact CbO_s (hCb.2.2.2.2.1 q h0 h1) (by unfold rd; rw [eK _ (by omega) (by omega)]) (by unfold rd; rw [eK _ (by omega) (by omega)]) (es _ (by omega) (by omega)) (es _ (by omega) (by omega))
            · rw [es 7 (by omega) (by omega)] at h1
              exact CbL_s (hCb.2.2.2.2.2.1 q h0 h1) (by unfold rd; rw [eK _ (by omega) (by omega)]) (by unfold rd; rw [eK _ (by omega) (by omega)]) (by unfold rd; rw [eK _ (by omega) (by omega)]) (fun j j0 j1 => es _ (by omega) (by omega))
          | succ m ih =>
            intro k hk kk J h1 h3 h4
            have e5 : J 21 5 = N 4 := by rw [h3 21 (by omega)]; omega
            refine x_hd false [2] 30 ?_
            (repeat' (first | rw [e5] | refine c_tkR hS _ _ (tg_Ru hS hb (by omega) (by omega)) (tg_Ru hS hb (by omega) (by omega)) ?_ ?_ | with_reducible assumption | with_reducible exact rfl | with_reducible exact trivial | (with_reducible (show (_ : Int) ≤ _); omega) | (with_reducible (show (_ : Int) < _); omega) | (with_reducible (show (_ : Nat) < _); omega) | (with_reducible (show (_ : Nat) ≤ _); omega) | with_reducible exact Or.inl rfl | with_reducible exact Or.inr rfl | with_reducible exact Or.inl trivial | with_reducible exact Or.inr trivial | (intro hz; exact absurd hz (by decide)) | (intro hz; exfalso; omega) | refine And.intro ?_ ?_ | intro _))
            refine ih (k + 1) (by omega) _ _ (by omega) (fun a ha => ?_) (fun i i0 i1 f hf => ?_)
            · unfold w_tkR
              simp (disch := omega) only [mu_o]
              exact h3 a ha
            · by_cases e : i = kk
              · subst e
                rw [if_pos (by omega)]
                have h9 := h4 (i + 1) (by omega) (by omega) f hf
                rw [if_neg (by omega)] at h9
                rw [← h9]
                have hf4 : f = 0 ∨ f = 1 ∨ f = 2 ∨ f = 3 := by omega
                unfold w_tkR
                rcases hf4 with q | q | q | q <;> subst q <;> simp (disch := omega) only [mj_up_s, mj_up_n]
              · unfold w_tkR
                simp (disch := omega) only [mu_f]
                rw [h4 i i0 i1 f hf]
                by_cases e2 : r ≤ i ∧ i < r + k
                · rw [if_pos e2, if_pos (by omega)]
                · rw [if_neg e2, if_neg (by omega)]
        refine x_C false [.inr (2, 21, 21, 0), .inl r] [2] 30 hS ⟨xok_b hS hb, trivial, trivial⟩ ?_
        (repeat' (first | with_reducible assumption | with_reducible exact rfl | with_reducible exact trivial | (with_reducible (show (_ : Int) ≤ _); omega) | (with_reducible (show (_ : Int) < _); omega) | (with_reducible (show (_ : Nat) < _); omega) | (with_reducible (show (_ : Nat) ≤ _); omega) | with_reducible exact Or.inl rfl | with_reducible exact Or.inr rfl | with_reducible exact Or.inl trivial | with_reducible exact Or.inr trivial | (intro hz; exact absurd hz (by decide)) | (intro hz; exfalso; omega) | refine And.intro ?_ ?_ | intro _))
        exact loop (N 4 - 1 - r).toNat 0 (by omega) _ _ (by omega) (fun a _ => rfl) (fun i i0 i1 f hf => by rw [if_neg (by omega)])
      refine x_C false [.inr (1, 0, 20, 0), .inl r] [] 30 hS ⟨xok_w hS, trivial, trivial⟩ ?_
      (repeat' (first | refine c_hasRule hS hb _ ?_ ?_ ?_ ?_ | refine rem _ ?_ | with_reducible assumption | with_reducible exact rfl | with_reducible exact trivial | (with_reducible (show (_ : Int) ≤ _); omega) | (with_reducible (show (_ : Int) < _); omega) | (with_reducible (show (_ : Nat) < _); omega) | (with_reducible (show (_ : Nat) ≤ _); omega) | with_reducible exact Or.inl rfl | with_reducible exact Or.inr rfl | with_reducible exact Or.inl trivial | with_reducible exact Or.inr trivial | (intro hz; exact absurd hz (by decide)) | (intro hz; exfalso; omega) | refine And.intro ?_ ?_ | intro _))
      rename_i J hJ hCJ
      refine Qe (h J hJ hCJ) ?_
      rw [hCJ.1.2.2.2.2.1, g4]
    · unfold RBd at hBd
      have e150 : K 150 4 = I 150 4 := by rw [h150]
      rw [hN0] at h151
      have loop : ∀ m j : Nat, (j + m : Int) = 4 * (N 4 - 1 - r) → ∀ (kk : Int) (J : mj_I), kk = 88 + 4 * r + j → fr mk5 K J → J 150 = K 150 → rd J 151 = drF N r j →
          xW 400 231 20 [some (.inr (13, 0, 150, 0)), some (.inl r), some (.inl kk)] [] J S Q := by
        intro m
        induction m with
        | zero =>
          intro j hj kk J h1 h2 h4 h3
          have e3 : rd J 151 4 = N 4 - 1 := by rw [h3]; unfold drF; rw [if_pos rfl]
          have e4 : J 150 4 = K 150 4 := by rw [h4]
          refine x_hd false [20] 40 ?_
          (repeat' (first | rw [e3] | simp (disch := omega) only [rd_up, rd_uo, rd_mu, up_f, mu_f, mj_up_s, ru_s, ru_n] | with_reducible assumption | with_reducible exact rfl | with_reducible exact trivial | (with_reducible (show (_ : Int) ≤ _); omega) | (with_reducible (show (_ : Int) < _); omega) | (with_reducible (show (_ : Nat) < _); omega) | (with_reducible (show (_ : Nat) ≤ _); omega) | with_reducible exact Or.inl rfl | with_reducible exact Or.inr rfl | with_reducible exact Or.inl trivial | with_reducible exact Or.inr trivial | (intro hz; exact absurd hz (by decide)) | (intro hz; exfalso; omega) | refine And.intro ?_ ?_ | intro _))
          rw [show (4 * (N 4 - 1 - r)).toNat = j by omega] at h
          refine Qe (h _ (h2.mu (Or.inl rfl) _ _) (by rw [rd_mu (by decide)]; exact h3) (fun j hj => by rw [mu_f (by omega), h4]) (by rw [mj_up_s, h4])) rfl
        | succ m ih =>
          intro j hj kk J h1 h2 h4 h3
          subst h1
          have e3 : rd J 151 4 = N 4 - 1 := by rw [h3]; unfold drF; rw [if_pos rfl]
          refine x_hd false [20] 40 ?_
          (repeat' (first | rw [e3] | with_reducible assumption | with_reducible exact rfl | with_reducible exact trivial | (with_reducible (show (_ : Int) ≤ _); omega) | (with_reducible (show (_ : Int) < _); omega) | (with_reducible (show (_ : Nat) < _); omega) | (with_reducible (show (_ : Nat) ≤ _); omega) | with_reducible exact Or.inl rfl | with_reducible exact Or.inr rfl | with_reducible exact Or.inl trivial | with_reducible exact Or.inr trivial | (intro hz; exact absurd hz (by decide)) | (intro hz; exfalso; omega) | refine And.intro ?_ ?_ | intro _))
          refine ih (j + 1) (by omega) _ _ (by omega) (h2.up (Or.inr (Or.inl rfl)) _ _) (by rw [up_o (by decide)]; exact h4) ?_
          rw [rd_up (by omega) (by omega), h3]
          exact drF_s hv.1
      refine x_C false [.inr (13, 0, 150, 0), .inl r] [20] 60 hS ⟨xok_m hS, trivial, trivial⟩ ?_
      (repeat' (first | rw [h151] | refine m_isRule hS _ ?_ ?_ ?_ ?_ | with_reducible assumption | with_reducible exact rfl | with_reducible exact trivial | (with_reducible (show (_ : Int) ≤ _); omega) | (with_reducible (show (_ : Int) < _); omega) | (with_reducible (show (_ : Nat) < _); omega) | (with_reducible (show (_ : Nat) ≤ _); omega) | with_reducible exact Or.inl rfl | with_reducible exact Or.inr rfl | with_reducible exact Or.inl trivial | with_reducible exact Or.inr trivial | (intro hz; exact absurd hz (by decide)) | (intro hz; exfalso; omega) | refine And.intro ?_ ?_ | intro _))
      refine loop (4 * (N 4 - 1 - r)).toNat 0 (by omega) _ _ (by omega) (fr.refl.up (Or.inr (Or.inl rfl)) _ _) (by rw [up_o (by decide)]) ?_
      rw [rd_up (by omega) (by omega), h151, drF_0]
  · refine pair_no hn hR0 (-1000000001) (fun Q h => ?_) (fun Q h => ?_)
    · refine x_C false [.inr (1, 0, 20, 0), .inl r] [] 60 hS ⟨xok_w hS, trivial, trivial⟩ ?_
      (repeat' (first | refine c_hasRule hS hb _ ?_ ?_ ?_ ?_ | with_reducible assumption | with_reducible exact rfl | with_reducible exact trivial | (with_reducible (show (_ : Int) ≤ _); omega) | (with_reducible (show (_ : Int) < _); omega) | (with_reducible (show (_ : Nat) < _); omega) | (with_reducible (show (_ : Nat) ≤ _); omega) | with_reducible exact Or.inl rfl | with_reducible exact Or.inr rfl | with_reducible exact Or.inl trivial | with_reducible exact Or.inr trivial | (intro hz; exact absurd hz (by decide)) | (intro hz; exfalso; omega) | refine And.intro ?_ ?_ | intro _))
      all_goals exact h
    · refine x_C false [.inr (13, 0, 150, 0), .inl r] [] 60 hS ⟨xok_m hS, trivial, trivial⟩ ?_
      (repeat' (first | refine m_isRule hS _ ?_ ?_ ?_ ?_ | with_reducible assumption | with_reducible exact rfl | with_reducible exact trivial | (with_reducible (show (_ : Int) ≤ _); omega) | (with_reducible (show (_ : Int) < _); omega) | (with_reducible (show (_ : Nat) < _); omega) | (with_reducible (show (_ : Nat) ≤ _); omega) | with_reducible exact Or.inl rfl | with_reducible exact Or.inr rfl | with_reducible exact Or.inl trivial | with_reducible exact Or.inr trivial | (intro hz; exact absurd hz (by decide)) | (intro hz; exfalso; omega) | refine And.intro ?_ ?_ | intro _))
      all_goals exact h
