/-! calls that change the book: sign -/
theorem pair_sc {L : Nat} {xs : Nat → Int32} {n xf mf : Nat} {as : List mj_V} {I : mj_I} {S : mj_S} (hn : n < 64) (hR : Rel L xs n I S) (v : Int)
    (hc : ∀ Q : mj_Q, (∀ K, fr scr I K → Q (some (.inl v)) K S) → mj_C 400 xf (.inr 20 :: as) I S Q) (hm : ∀ (K : mj_I) (Q : mj_Q), fr scr I K → Rel L xs n K S → (∀ J, fr scr K J → Q (some (.inl v)) J S) → mj_C 400 mf (.inr 150 :: as) K S Q) :
    mj_C 400 xf (.inr 20 :: as) I S (fun r I' S' => ∃ v, r = some (.inl v) ∧ (I' 1 = I 1 ∧ S'.2.1 1 = S.2.1 1 ∧ S'.2.1 150 = S.2.1 150) ∧ mj_C 400 mf (.inr 150 :: as) I' S' (fun r' I'' S'' => r' = some (.inl v) ∧ Rel L xs (n + 1) I'' S'')) :=
  hc _ (fun K hK => ⟨v, rfl, ⟨hK 1 (by unfold scr; omega), rfl, rfl⟩, hm K _ hK (hR.fr hK) (fun J hJ => ⟨rfl, ((hR.fr hK).fr hJ).up hn⟩)⟩)
theorem upd_L {I K : mj_I} {S : mj_S} {N N' : Int → Int} (hN : Inv N) (hCb : Cb I S 21 N) (es : ∀ q, q ≠ 7 → (q < 148 ∨ 238 ≤ q) → N' q = N q) (h7 : 0 ≤ N' 7 ∧ N' 7 ≤ 30) (hi : ∀ l, 0 ≤ l → l < N' 7 → InvL N' l) (eK : ∀ a, ¬ a = 21 + 8 → ¬ (30 ≤ a ∧ a ≤ 32) → K a = I a) (e29 : K (21 + 8) 3 = N' 7) (hc : ∀ l, 0 ≤ l → l < N' 7 → CbL K 21 N' l) : Inv N' ∧ Cb K S 21 N' := by
  have hH := hN.1
  have hCH := hCb.1
  unfold InvH at hH
  unfold CbH at hCH
  have g0 : N' 0 = N 0 := es 0 (by omega) (by omega)
  have g1 : N' 1 = N 1 := es 1 (by omega) (by omega)
  have g2 : N' 2 = N 2 := es 2 (by omega) (by omega)
  have g3 : N' 3 = N 3 := es 3 (by omega) (by omega)
  have g4 : N' 4 = N 4 := es 4 (by omega) (by omega)
  have g5 : N' 5 = N 5 := es 5 (by omega) (by omega)
  have g6 : N' 6 = N 6 := es 6 (by omega) (by omega)
  refine ⟨Inv_u hN ?_ g5 (fun q hq => es q (by omega) (by omega)) (fun q h0 h1 => ?_) (fun q h0 h1 => ?_) (fun q h0 h1 => ?_) (fun q h0 h1 => ?_) hi, Cb_u hCb (fun a ha => eK a (by omega) (by omega)) (eK _ (by omega) (by omega)) ?_ g5 (fun q hq => es q (by omega) (by omega)) (fun q h0 h1 => ?_) (fun q h0 h1 => ?_) (fun q h0 h1 => ?_) (fun q h0 h1 => ?_) hc⟩
  · unfold InvH
    omega
  · exact InvP_s (hN.2.1 q h0 (by omega)) (fun j j0 j1 => es _ (by omega) (by omega)) (by omega)
  · exact InvS_s (hN.2.2.1 q h0 (by omega)) (fun j j0 j1 => es _ (by omega) (by omega)) (by omega)
  · exact InvR_s (hN.2.2.2.1 q h0 (by omega)) (fun j j0 j1 => es _ (by omega) (by omega)) (by omega)
  · exact InvO_s (hN.2.2.2.2.1 q h0 (by omega)) (es _ (by omega) (by omega)) (es _ (by omega) (by omega)) (by omega)
  · unfold CbH
    rw [eK 21 (by omega) (by omega), e29]
    omega
  · exact CbP_s (hCb.2.1 q h0 (by omega)) (eK _ (by omega) (by omega)) (fun j j0 j1 => es _ (by omega) (by omega))
  · exact CbS_s (hCb.2.2.1 q h0 (by omega)) (eK _ (by omega) (by omega)) (fun j j0 j1 => es _ (by omega) (by omega))
  · exact CbR_s (hCb.2.2.2.1 q h0 (by omega)) (eK _ (by omega) (by omega)) (fun j j0 j1 => es _ (by omega) (by omega))
  · exact CbO_s (hCb.2.2.2.2.1 q h0 (by omega)) (by unfold rd; rw [eK _ (by omega) (by omega)]) (by unfold rd; rw [eK _ (by omega) (by omega)]) (es _ (by omega) (by omega)) (es _ (by omega) (by omega))
def shF (N : Int → Int) (k : Nat) : Int → Int := fun q => if 148 ≤ q ∧ q < 148 + k then N (q + 3) else N q
theorem shF_s {N : Int → Int} {j : Nat} : ru (shF N j) (148 + j) (shF N j (148 + j + 3)) = shF N (j + 1) := by
  funext q
  by_cases e : q = 148 + j
  · subst e
    rw [ru_s]
    unfold shF
    rw [if_neg (by omega), if_pos (by omega)]
  · rw [ru_n e]
    unfold shF
    by_cases e5 : 148 ≤ q ∧ q < 148 + (j : Int)
    · rw [if_pos e5, if_pos (by omega)]
    · rw [if_neg e5, if_neg (by omega)]
/-- the log, one row longer -/
def apL (N : Int → Int) (l d s p : Int) : Int → Int := ru (ru (ru (ru N (148 + 3 * l) d) (148 + 3 * l + 1) s) (148 + 3 * l + 2) p) 7 (l + 1)
def apF (N : Int → Int) (d s p : Int) : Int → Int := if N 7 = 30 then apL (ru (shF N 87) 7 29) 29 d s p else apL N (N 7) d s p
theorem cp_rd {I : mj_I} {a : Nat} {j : Int} (h0 : 0 ≤ j) (h1 : j < 30) : rd (mj_cp I a 1 a 0 29) a j = if j < 29 then rd I a (j + 1) else rd I a j := by
  rw [rd_in h0 (by omega), rd_in (j := j + 1) (by omega) (by omega), rd_in h0 (by omega)]
  unfold mj_cp
  by_cases e : j < 29
  · rw [if_pos e, if_pos (by omega)]
    congr 1
    omega
  · rw [if_neg e, if_neg (by omega)]
theorem cp_o {I : mj_I} {a c : Nat} {n : Nat} (h : ¬ c = a) : mj_cp I a 1 a 0 n c = I c := funext (fun j => if_neg (fun (q : c = a ∧ _) => h q.1))
theorem c_removeFirst {d : Nat} {I : mj_I} {S : mj_S} {Q : mj_Q} (hS : mk_Sh S) (a : Nat) (ha : xok S (21, 0, a, 30)) (h : Q none (mj_cp I a 1 a 0 29) S) : mj_C d 154 [.inr a] I S Q := by
  refine x_C false [.inr (21, 0, a, 30)] [] 20 hS ⟨ha, trivial⟩ ?_
  (repeat' (first | with_reducible assumption | with_reducible exact rfl | with_reducible exact trivial | (with_reducible (show (_ : Int) ≤ _); omega) | (with_reducible (show (_ : Int) < _); omega) | (with_reducible (show (_ : Nat) < _); omega) | (with_reducible (show (_ : Nat) ≤ _); omega) | with_reducible exact Or.inl rfl | with_reducible exact Or.inr rfl | with_reducible exact Or.inl trivial | with_reducible exact Or.inr trivial | (intro hz; exact absurd hz (by decide)) | (intro hz; exfalso; omega) | refine And.intro ?_ ?_ | intro _))
  exact h
theorem ok_log {S : mj_S} (hS : mk_Sh S) : xok S (3, 21, 21 + 8, 0) ∧ xok S (21, 0, 21 + 9, 30) ∧ xok S (21, 0, 21 + 10, 30) ∧ xok S (21, 0, 21 + 11, 30) :=
  ⟨x_chq_ok hS (by decide +kernel), x_chq_ok hS (by decide +kernel), x_chq_ok hS (by decide +kernel), x_chq_ok hS (by decide +kernel)⟩
theorem rd_oo {I J : mj_I} {a : Nat} (h : J a = I a) : rd J a = rd I a := by
  funext k
  unfold rd
  rw [h]
/-- 153 Log.append -/
theorem c_append {d : Nat} {I : mj_I} {S : mj_S} {Q : mj_Q} (hS : mk_Sh S) {N : Int → Int} (hN : Inv N) (hCb : Cb I S 21 N) (hd : 0 < d) (dd s p : Int) (hdd : (0 ≤ dd ∧ dd ≤ 999) ∧ (0 ≤ s ∧ s < N 3) ∧ (0 ≤ p ∧ p < N 2))
    (h : ∀ J, (∀ a, ¬ a = 21 + 8 → ¬ (30 ≤ a ∧ a ≤ 32) → J a = I a) → Inv (apF N dd s p) → Cb J S 21 (apF N dd s p) → Q none J S) : mj_C d 153 [.inr (21 + 8), .inl dd, .inl s, .inl p] I S Q := by
  have hH := hN.1
  have hCH := hCb.1
  unfold InvH at hH
  unfold CbH at hCH
  obtain ⟨ok1, ok2, ok3, ok4⟩ := ok_log hS
  by_cases hf : N 7 = 30
  · have e3 : I (21 + 8) 3 = 30 := by omega
    unfold apF at h
    rw [if_pos hf] at h
    refine x_C false [.inr (3, 21, 21 + 8, 0), .inl dd, .inl s, .inl p] [] 60 hS ⟨ok1, trivial, trivial, trivial, trivial⟩ ?_
    (repeat' (first | refine c_removeFirst hS _ ok2 ?_ | refine c_removeFirst hS _ ok3 ?_ | refine c_removeFirst hS _ ok4 ?_ | rw [mj_up_s] | rw [up_f (by decide)] | with_reducible assumption | with_reducible exact rfl | with_reducible exact trivial | (with_reducible (show (_ : Int) ≤ _); omega) | (with_reducible (show (_ : Int) < _); omega) | (with_reducible (show (_ : Nat) < _); omega) | (with_reducible (show (_ : Nat) ≤ _); omega) | with_reducible exact Or.inl rfl | with_reducible exact Or.inr rfl | with_reducible exact Or.inl trivial | with_reducible exact Or.inr trivial | (intro hz; exact absurd hz (by decide)) | (intro hz; exfalso; omega) | refine And.intro ?_ ?_ | intro _))
    have eK : ∀ a, ¬ a = 21 + 8 → ¬ (30 ≤ a ∧ a ≤ 32) → (mj_up (up (up (up (mj_up (mj_cp (mj_cp (mj_cp I (21 + 9) 1 (21 + 9) 0 29) (21 + 10) 1 (21 + 10) 0 29) (21 + 11) 1 (21 + 11) 0 29) (21 + 8) 3 29) (21 + 9) 29 dd) (21 + 10) 29 s) (21 + 11) 29 p) (21 + 8) 3 (29 + 1)) a = I a := by
      intro a h1 h2
      rw [mu_o h1, up_o (by omega), up_o (by omega), up_o (by omega), mu_o h1, cp_o (by omega), cp_o (by omega), cp_o (by omega)]
    have q9 : ∀ l, 0 ≤ l → l < 30 → rd (mj_up (up (up (up (mj_up (mj_cp (mj_cp (mj_cp I (21 + 9) 1 (21 + 9) 0 29) (21 + 10) 1 (21 + 10) 0 29) (21 + 11) 1 (21 + 11) 0 29) (21 + 8) 3 29) (21 + 9) 29 dd) (21 + 10) 29 s) (21 + 11) 29 p) (21 + 8) 3 (29 + 1)) (21 + 9) l = if l < 29 then rd I (21 + 9) (l + 1) else dd := by
      intro l h0 h1
      rw [rd_mu (by omega), rd_uo (by omega), rd_uo (by omega), rd_up (by omega) (by omega), rd_mu (by omega), rd_oo (cp_o (by omega)), rd_oo (cp_o (by omega))]
      by_cases e : l = 29
      · subst e
        rw [ru_s, if_neg (by omega)]
      · rw [ru_n e, cp_rd h0 h1, if_pos (by omega), if_pos (by omega)]
    have q10 : ∀ l, 0 ≤ l → l < 30 → rd (mj_up (up (up (up (mj_up (mj_cp (mj_cp (mj_cp I (21 + 9) 1 (21 + 9) 0 29) (21 + 10) 1 (21 + 10) 0 29) (21 + 11) 1 (21 + 11) 0 29) (21 + 8) 3 29) (21 + 9) 29 dd) (21 + 10) 29 s) (21 + 11) 29 p) (21 + 8) 3 (29 + 1)) (21 + 10) l = if l < 29 then rd I (21 + 10) (l + 1) else s := by
      intro l h0 h1
      rw [rd_mu (by omega), rd_uo (by omega), rd_up (by omega) (by omega), rd_uo (by omega), rd_mu (by omega), rd_oo (cp_o (by omega))]
      by_cases e : l = 29
      · subst e
        rw [ru_s, if_neg (by omega)]
      · rw [ru_n e, cp_rd h0 h1, if_pos (by omega), if_pos (by omega), rd_oo (cp_o (by omega))]
    have q11 : ∀ l, 0 ≤ l → l < 30 → rd (mj_up (up (up (up (mj_up (mj_cp (mj_cp (mj_cp I (21 + 9) 1 (21 + 9) 0 29) (21 + 10) 1 (21 + 10) 0 29) (21 + 11) 1 (21 + 11) 0 29) (21 + 8) 3 29) (21 + 9) 29 dd) (21 + 10) 29 s) (21 + 11) 29 p) (21 + 8) 3 (29 + 1)) (21 + 11) l = if l < 29 then rd I (21 + 11) (l + 1) else p := by
      intro l h0 h1
      rw [rd_mu (by omega), rd_up (by omega) (by omega), rd_uo (by omega), rd_uo (by omega), rd_mu (by omega)]
      by_cases e : l = 29
      · subst e
        rw [ru_s, if_neg (by omega)]
      · rw [ru_n e, cp_rd h0 h1, if_pos (by omega), if_pos (by omega), rd_oo (cp_o (by omega)), rd_oo (cp_o (by omega))]
    have g7 : apL (ru (shF N 87) 7 29) 29 dd s p 7 = 30 := by unfold apL; rw [ru_s]; rfl
    have nn : ∀ l k, 0 ≤ l → l < 29 → 0 ≤ k → k < 3 → apL (ru (shF N 87) 7 29) 29 dd s p (148 + 3 * l + k) = N (148 + 3 * (l + 1) + k) := by
      intro l k _ _ _ _
      unfold apL
      rw [ru_n (by omega), ru_n (by omega), ru_n (by omega), ru_n (by omega), ru_n (by omega)]
      unfold shF
      rw [if_pos (by omega)]
      congr 1
      omega
    have n0 : apL (ru (shF N 87) 7 29) 29 dd s p (148 + 3 * 29 + 0) = dd := by unfold apL; rw [ru_n (by omega), ru_n (by omega), ru_n (by omega)]; exact ru_s
    have n1 : apL (ru (shF N 87) 7 29) 29 dd s p (148 + 3 * 29 + 1) = s := by unfold apL; rw [ru_n (by omega), ru_n (by omega)]; exact ru_s
    have n2 : apL (ru (shF N 87) 7 29) 29 dd s p (148 + 3 * 29 + 2) = p := by unfold apL; rw [ru_n (by omega)]; exact ru_s
    have es : ∀ q, q ≠ 7 → (q < 148 ∨ 238 ≤ q) → apL (ru (shF N 87) 7 29) 29 dd s p q = N q := by
      intro q h1 h2
      unfold apL
      rw [ru_n (by omega), ru_n (by omega), ru_n (by omega), ru_n (by omega), ru_n (by omega)]
      unfold shF
      rw [if_neg (by omega)]
    have key := upd_L (K := mj_up (up (up (up (mj_up (mj_cp (mj_cp (mj_cp I (21 + 9) 1 (21 + 9) 0 29) (21 + 10) 1 (21 + 10) 0 29) (21 + 11) 1 (21 + 11) 0 29) (21 + 8) 3 29) (21 + 9) 29 dd) (21 + 10) 29 s) (21 + 11) 29 p) (21 + 8) 3 (29 + 1)) hN hCb es (by omega) (fun l h0 h1 => by
      rw [g7] at h1
      unfold InvL
      by_cases e : l = 29
      · subst e
        rw [n0, n1, n2, es 2 (by omega) (by omega), es 3 (by omega) (by omega)]
        exact hdd
      · have q := hN.2.2.2.2.2.1 (l + 1) (by omega) (by omega)
        rw [nn l 0 h0 (by omega) (by decide) (by decide), nn l 1 h0 (by omega) (by decide) (by decide), nn l 2 h0 (by omega) (by decide) (by decide), es 2 (by omega) (by omega), es 3 (by omega) (by omega)]
        exact q) eK (by rw [mj_up_s, g7]; rfl) (fun l h0 h1 => by
      rw [g7] at h1
      unfold CbL
      rw [q9 l h0 h1, q10 l h0 h1, q11 l h0 h1]
      by_cases e : l = 29
      · subst e
        rw [n0, n1, n2]
        exact ⟨rfl, rfl, rfl⟩
      · have q := hCb.2.2.2.2.2.1 (l + 1) (by omega) (by omega)
        rw [if_pos (by omega), if_pos (by omega), if_pos (by omega), nn l 0 h0 (by omega) (by decide) (by decide), nn l 1 h0 (by omega) (by decide) (by decide), nn l 2 h0 (by omega) (by decide) (by decide)]
        exact q)
    exact h _ eK key.1 key.2
  · unfold apF at h
    rw [if_neg hf] at h
    generalize hl : N 7 = l at *
    have e3 : I (21 + 8) 3 = l := by omega
    refine x_C false [.inr (3, 21, 21 + 8, 0), .inl dd, .inl s, .inl p] [] 60 hS ⟨ok1, trivial, trivial, trivial, trivial⟩ ?_
    (repeat' (first | rw [e3] | rw [mj_up_s] | rw [up_f (by decide)] | with_reducible assumption | with_reducible exact rfl | with_reducible exact trivial | (with_reducible (show (_ : Int) ≤ _); omega) | (with_reducible (show (_ : Int) < _); omega) | (with_reducible (show (_ : Nat) < _); omega) | (with_reducible (show (_ : Nat) ≤ _); omega) | with_reducible exact Or.inl rfl | with_reducible exact Or.inr rfl | with_reducible exact Or.inl trivial | with_reducible exact Or.inr trivial | (intro hz; exact absurd hz (by decide)) | (intro hz; exfalso; omega) | refine And.intro ?_ ?_ | intro _))
    have eK : ∀ a, ¬ a = 21 + 8 → ¬ (30 ≤ a ∧ a ≤ 32) → (mj_up (up (up (up I (21 + 9) l dd) (21 + 10) l s) (21 + 11) l p) (21 + 8) 3 (l + 1)) a = I a := by
      intro a h1 h2
      rw [mu_o h1, up_o (by omega), up_o (by omega), up_o (by omega)]
    have g7 : apL N l dd s p 7 = l + 1 := by unfold apL; rw [ru_s]
    have nn : ∀ j k, 0 ≤ j → j < l → 0 ≤ k → k < 3 → apL N l dd s p (148 + 3 * j + k) = N (148 + 3 * j + k) := by
      intro j k _ _ _ _
      unfold apL
      rw [ru_n (by omega), ru_n (by omega), ru_n (by omega), ru_n (by omega)]
    have n0 : apL N l dd s p (148 + 3 * l + 0) = dd := by unfold apL; rw [ru_n (by omega), ru_n (by omega), ru_n (by omega), show 148 + 3 * l + 0 = 148 + 3 * l by omega]; exact ru_s
    have n1 : apL N l dd s p (148 + 3 * l + 1) = s := by unfold apL; rw [ru_n (by omega), ru_n (by omega)]; exact ru_s
    have n2 : apL N l dd s p (148 + 3 * l + 2) = p := by unfold apL; rw [ru_n (by omega)]; exact ru_s
    have es : ∀ q, q ≠ 7 → (q < 148 ∨ 238 ≤ q) → apL N l dd s p q = N q := by
      intro q h1 h2
      unfold apL
      rw [ru_n (by omega), ru_n (by omega), ru_n (by omega), ru_n (by omega)]
    have key := upd_L (K := mj_up (up (up (up I (21 + 9) l dd) (21 + 10) l s) (21 + 11) l p) (21 + 8) 3 (l + 1)) hN hCb es (by omega) (fun j h0 h1 => by
      rw [g7] at h1
      unfold InvL
      by_cases e : j = l
      · subst e
        rw [n0, n1, n2, es 2 (by omega) (by omega), es 3 (by omega) (by omega)]
        exact hdd
      · have q := hN.2.2.2.2.2.1 j h0 (by omega)
        rw [nn j 0 h0 (by omega) (by decide) (by decide), nn j 1 h0 (by omega) (by decide) (by decide), nn j 2 h0 (by omega) (by decide) (by decide), es 2 (by omega) (by omega), es 3 (by omega) (by omega)]
        exact q) eK (by rw [mj_up_s, g7]) (fun j h0 h1 => by
      rw [g7] at h1
      unfold CbL
      rw [rd_mu (by omega), rd_uo (by omega), rd_uo (by omega), rd_up (by omega) (by omega), rd_mu (by omega), rd_uo (by omega), rd_up (by omega) (by omega), rd_uo (by omega), rd_mu (by omega), rd_up (by omega) (by omega), rd_uo (by omega), rd_uo (by omega)]
      by_cases e : j = l
      · subst e
        rw [n0, n1, n2, ru_s, ru_s, ru_s]
        exact ⟨rfl, rfl, rfl⟩
      · have q := hCb.2.2.2.2.2.1 j h0 (by omega)
        rw [ru_n e, ru_n e, ru_n e, nn j 0 h0 (by omega) (by decide) (by decide), nn j 1 h0 (by omega) (by decide) (by decide), nn j 2 h0 (by omega) (by decide) (by decide)]
        exact q)
    exact h _ eK key.1 key.2
theorem Inv_L {N N' : Int → Int} (hN : Inv N) (es : ∀ q, q ≠ 7 → (q < 148 ∨ 238 ≤ q) → N' q = N q) (h7 : 0 ≤ N' 7 ∧ N' 7 ≤ 30) (hi : ∀ l, 0 ≤ l → l < N' 7 → InvL N' l) : Inv N' := by
  have hH := hN.1
  unfold InvH at hH
  have g1 : N' 1 = N 1 := es 1 (by omega) (by omega)
  have g2 : N' 2 = N 2 := es 2 (by omega) (by omega)
  have g3 : N' 3 = N 3 := es 3 (by omega) (by omega)
  have g4 : N' 4 = N 4 := es 4 (by omega) (by omega)
  have g5 : N' 5 = N 5 := es 5 (by omega) (by omega)
  have g6 : N' 6 = N 6 := es 6 (by omega) (by omega)
  refine Inv_u hN ?_ g5 (fun q hq => es q (by omega) (by omega)) (fun q h0 h1 => ?_) (fun q h0 h1 => ?_) (fun q h0 h1 => ?_) (fun q h0 h1 => ?_) hi
  · unfold InvH
    omega
  · exact InvP_s (hN.2.1 q h0 (by omega)) (fun j j0 j1 => es _ (by omega) (by omega)) (by omega)
  · exact InvS_s (hN.2.2.1 q h0 (by omega)) (fun j j0 j1 => es _ (by omega) (by omega)) (by omega)
  · exact InvR_s (hN.2.2.2.1 q h0 (by omega)) (fun j j0 j1 => es _ (by omega) (by omega)) (by omega)
  · exact InvO_s (hN.2.2.2.2.1 q h0 (by omega)) (es _ (by omega) (by omega)) (es _ (by omega) (by omega)) (by omega)
theorem apF_inv {N : Int → Int} (hN : Inv N) {dd s p : Int} (hdd : (0 ≤ dd ∧ dd ≤ 999) ∧ (0 ≤ s ∧ s < N 3) ∧ (0 ≤ p ∧ p < N 2)) : Inv (apF N dd s p) := by
  have hH := hN.1
  unfold InvH at hH
  by_cases hf : N 7 = 30
  · unfold apF
    rw [if_pos hf]
    have es : ∀ q, q ≠ 7 → (q < 148 ∨ 238 ≤ q) → apL (ru (shF N 87) 7 29) 29 dd s p q = N q := by
      intro q h1 h2
      unfold apL
      rw [ru_n (by omega), ru_n (by omega), ru_n (by omega), ru_n (by omega), ru_n (by omega)]
      unfold shF
      rw [if_neg (by omega)]
    have g7 : apL (ru (shF N 87) 7 29) 29 dd s p 7 = 30 := by unfold apL; rw [ru_s]; rfl
    have nn : ∀ l k, 0 ≤ l → l < 29 → 0 ≤ k → k < 3 → apL (ru (shF N 87) 7 29) 29 dd s p (148 + 3 * l + k) = N (148 + 3 * (l + 1) + k) := by
      intro l k _ _ _ _
      unfold apL
      rw [ru_n (by omega), ru_n (by omega), ru_n (by omega), ru_n (by omega), ru_n (by omega)]
      unfold shF
      rw [if_pos (by omega)]
      congr 1
      omega
    have n0 : apL (ru (shF N 87) 7 29) 29 dd s p (148 + 3 * 29 + 0) = dd := by unfold apL; rw [ru_n (by omega), ru_n (by omega), ru_n (by omega)]; exact ru_s
    have n1 : apL (ru (shF N 87) 7 29) 29 dd s p (148 + 3 * 29 + 1) = s := by unfold apL; rw [ru_n (by omega), ru_n (by omega)]; exact ru_s
    have n2 : apL (ru (shF N 87) 7 29) 29 dd s p (148 + 3 * 29 + 2) = p := by unfold apL; rw [ru_n (by omega)]; exact ru_s
    refine Inv_L hN es (by omega) (fun l h0 h1 => ?_)
    rw [g7] at h1
    unfold InvL
    by_cases e : l = 29
    · subst e
      rw [n0, n1, n2, es 2 (by omega) (by omega), es 3 (by omega) (by omega)]
      exact hdd
    · have q := hN.2.2.2.2.2.1 (l + 1) (by omega) (by omega)
      rw [nn l 0 h0 (by omega) (by decide) (by decide), nn l 1 h0 (by omega) (by decide) (by decide), nn l 2 h0 (by omega) (by decide) (by decide), es 2 (by omega) (by omega), es 3 (by omega) (by omega)]
      exact q
  · unfold apF
    rw [if_neg hf]
    generalize hl : N 7 = l at *
    have es : ∀ q, q ≠ 7 → (q < 148 ∨ 238 ≤ q) → apL N l dd s p q = N q := by
      intro q h1 h2
      unfold apL
      rw [ru_n (by omega), ru_n (by omega), ru_n (by omega), ru_n (by omega)]
    have g7 : apL N l dd s p 7 = l + 1 := by unfold apL; rw [ru_s]
    have nn : ∀ j k, 0 ≤ j → j < l → 0 ≤ k → k < 3 → apL N l dd s p (148 + 3 * j + k) = N (148 + 3 * j + k) := by
      intro j k _ _ _ _
      unfold apL
      rw [ru_n (by omega), ru_n (by omega), ru_n (by omega), ru_n (by omega)]
    have n0 : apL N l dd s p (148 + 3 * l + 0) = dd := by unfold apL; rw [ru_n (by omega), ru_n (by omega), ru_n (by omega), show 148 + 3 * l + 0 = 148 + 3 * l by omega]; exact ru_s
    have n1 : apL N l dd s p (148 + 3 * l + 1) = s := by unfold apL; rw [ru_n (by omega), ru_n (by omega)]; exact ru_s
    have n2 : apL N l dd s p (148 + 3 * l + 2) = p := by unfold apL; rw [ru_n (by omega)]; exact ru_s
    refine Inv_L hN es (by omega) (fun j h0 h1 => ?_)
    rw [g7] at h1
    unfold InvL
    by_cases e : j = l
    · subst e
      rw [n0, n1, n2, es 2 (by omega) (by omega), es 3 (by omega) (by omega)]
      exact hdd
    · have q := hN.2.2.2.2.2.1 j h0 (by omega)
      rw [nn j 0 h0 (by omega) (by decide) (by decide), nn j 1 h0 (by omega) (by decide) (by decide), nn j 2 h0 (by omega) (by decide) (by decide), es 2 (by omega) (by omega), es 3 (by omega) (by omega)]
      exact q
