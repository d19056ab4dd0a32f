/-! readRules, open -/
theorem FO_0 {N : Int → Int} {I J : mj_I} (hN : N 2 ≤ 7) (e4 : ∀ j, 0 ≤ j → j < 252 → rd J 104 j = -1) (h9 : J 101 9 = 0) : FOk N 0 J := by
  refine ⟨fun s t p q a1 a2 a3 a4 a5 a6 a7 a8 => ?_, by omega, fun m m0 m1 => by omega, fun i i0 i1 => by omega, fun i i0 i1 => by omega⟩
  rw [e4 _ (by omega) (by omega), mt_m1 (by omega)]
  exact ⟨fun _ i i0 i1 => by omega, fun _ => rfl⟩
/-- 116 readRules -/
theorem c_readRules {d : Nat} {I : mj_I} {S : mj_S} {Q : mj_Q} (hS : mk_Sh S) {b : Nat} (hb : mB b) {N : Int → Int} (hN : Inv N) (hC : Cb I S b N) (hd : 1 < d) (hp0 : I 101 0 = N 2)
    (h : ∀ J, fr (fun a => 101 ≤ a ∧ a ≤ 107) I J → (∀ k, k ≠ 9 → k ≠ 10 → J 101 k = I 101 k) → rd J 102 = rd I 102 → FOk N (N 4) J → Q none J S) : mj_C d 116 [.inr 101, .inr b] I S Q := by
  have hH := hN.1
  have hCH := hC.1
  unfold InvH at hH
  unfold CbH at hCH
  have hb61 : b ≤ 61 := by unfold mB at hb; omega
  have loop : ∀ (m : Nat) (r : Int), 0 ≤ r → r + m = N 4 → ∀ (J : mj_I) (w : Option xV), fr (fun a => 101 ≤ a ∧ a ≤ 107) I J → (∀ k, k ≠ 9 → k ≠ 10 → J 101 k = I 101 k) → rd J 102 = rd I 102 → FOk N r J → xW d 116 12 [some (.inr (7, 0, 101, 0)), some (.inr (2, b, b, 0)), some (.inl r), w] [] J S Q := by
    intro m
    induction m with
    | zero =>
      intro r r0 r1 J w hJ h1 h2 h3
      have e5 : J b 5 = N 4 := by rw [hJ.f (by omega)]; exact hCH.2.2.2.2.1
      refine x_hd false [12] 30 ?_
      (repeat' (first | with_reducible assumption | with_reducible exact rfl | with_reducible exact trivial | (with_reducible (show (_ : Int) ≤ _); omega) | (with_reducible (show (_ : Int) < _); omega) | (with_reducible (show (_ : Nat) < _); omega) | (with_reducible (show (_ : Nat) ≤ _); omega) | with_reducible exact Or.inl rfl | with_reducible exact Or.inr rfl | with_reducible exact Or.inl trivial | with_reducible exact Or.inr trivial | (intro hz; exact absurd hz (by decide)) | (intro hz; exfalso; omega) | refine And.intro ?_ ?_ | intro _))
      rw [show N 4 = r by omega] at h
      exact h J hJ h1 h2 h3
    | succ m ih =>
      intro r r0 r1 J w hJ h1 h2 h3
      have e5 : J b 5 = N 4 := by rw [hJ.f (by omega)]; exact hCH.2.2.2.2.1
      have hCJ := hC.fr hN.1 hJ (fun a q => by unfold bc at q; omega)
      have hCR := hCJ.2.2.2.1 r r0 (by omega)
      have e0 : J (b + 28 + r.toNat) 0 = N (88 + 4 * r + 0) := hCR.1
      have j0 : J 101 0 = N 2 := by rw [h1 0 (by omega) (by omega)]; exact hp0
      refine x_hd false [12] 40 ?_
      (repeat' (first | refine c_readMany hS hb hN hCJ _ ?_ ?_ (by omega) h3 ?_ | refine c_readPair hS hb hN hCJ _ ?_ ?_ ?_ ?_ h3 j0 ?_ | with_reducible assumption | with_reducible exact rfl | with_reducible exact trivial | (with_reducible (show (_ : Int) ≤ _); omega) | (with_reducible (show (_ : Int) < _); omega) | (with_reducible (show (_ : Nat) < _); omega) | (with_reducible (show (_ : Nat) ≤ _); omega) | with_reducible exact Or.inl rfl | with_reducible exact Or.inr rfl | with_reducible exact Or.inl trivial | with_reducible exact Or.inr trivial | (intro hz; exact absurd hz (by decide)) | (intro hz; exfalso; omega) | refine And.intro ?_ ?_ | intro _))
      · exact ih (r + 1) (by omega) (by omega) J _ hJ h1 h2 (FOk_0 h3 r0 (by omega))
      · rename_i K hK g1 g2 g3
        exact ih (r + 1) (by omega) (by omega) K _ (hJ.tr hK) (fun k k9 k10 => by rw [g1 k k10, h1 k k9 k10]) (by rw [g2, h2]) g3
      · rename_i K hK g1 g2 g3
        exact ih (r + 1) (by omega) (by omega) K _ (hJ.tr hK) (fun k k9 k10 => by rw [g1 k k9, h1 k k9 k10]) (by rw [g2, h2]) g3
  have okF : xok S (21, 0, 104, 252) := x_chq_ok hS (by decide +kernel)
  have hl : mj_tg S 104 = 20 ∧ mj_ln S 104 = 252 := by
    rcases okF with h | h
    · exact absurd (show (21 : Nat) = 0 from h) (by decide)
    · have h1 : mj_tg S 104 + 1 = 21 := h.1
      exact ⟨by omega, h.2.1 (Nat.le_refl 21)⟩
  refine x_C false [.inr (7, 0, 101, 0), .inr (2, b, b, 0)] [12] 30 hS ⟨xok_fi hS, xok_b hS hb, trivial⟩ ?_
  (repeat' (first | refine c_fill _ _ hl.1 (by omega) ?_ | with_reducible assumption | with_reducible exact rfl | with_reducible exact trivial | (with_reducible (show (_ : Int) ≤ _); omega) | (with_reducible (show (_ : Int) < _); omega) | (with_reducible (show (_ : Nat) < _); omega) | (with_reducible (show (_ : Nat) ≤ _); omega) | with_reducible exact Or.inl rfl | with_reducible exact Or.inr rfl | with_reducible exact Or.inl trivial | with_reducible exact Or.inr trivial | (intro hz; exact absurd hz (by decide)) | (intro hz; exfalso; omega) | refine And.intro ?_ ?_ | intro _))
  rw [hl.2]
  (repeat' (first | with_reducible assumption | with_reducible exact rfl | with_reducible exact trivial | (with_reducible (show (_ : Int) ≤ _); omega) | (with_reducible (show (_ : Int) < _); omega) | (with_reducible (show (_ : Nat) < _); omega) | (with_reducible (show (_ : Nat) ≤ _); omega) | with_reducible exact Or.inl rfl | with_reducible exact Or.inr rfl | with_reducible exact Or.inl trivial | with_reducible exact Or.inr trivial | (intro hz; exact absurd hz (by decide)) | (intro hz; exfalso; omega) | refine And.intro ?_ ?_ | intro _))
  have hfl : fr (fun a => 101 ≤ a ∧ a ≤ 107) I (mj_fl I 104 (-1) 252) := fil_fr.mo (fun a q => by omega)
  refine loop (N 4).toNat 0 (by omega) (by omega) _ _ ((hfl.mu (by omega) _ _).mu (by omega) _ _) (fun k k9 k10 => ?_) ?_ (FO_0 (I := I) (by omega) (fun j j0 j1 => ?_) ?_)
  · rw [mu_f (by omega), mu_f (by omega)]
    exact fil_fr.f (X := fun a => a = 104) (by omega) k
  · rw [rd_mu (by omega), rd_mu (by omega)]
    exact fil_fr.r (X := fun a => a = 104) (by omega)
  · rw [rd_mu (by omega), rd_mu (by omega)]
    exact fil_rd (by omega) j0 (by omega)
  · rw [mu_f (by omega), mj_up_s]
def cdS (N : Int → Int) (day s : Int) : Int := if 0 ≤ N (64 + 4 * s + 3) then mj_shl 1 (N (64 + 4 * s + 3)) else wmS N s day (N 2).toNat
/-- the finder is open for a day -/
def OS (N : Int → Int) (day : Int) (J : mj_I) : Prop := FO N J ∧ (∀ u, 0 ≤ u → u < N 3 → rd J 102 u = cdS N day u) ∧ ∀ u, 0 ≤ u → u < N 3 → mt (J 101 2) u.toNat = decide (N (64 + 4 * u + 3) < 0)
/-- 115 open -/
theorem c_open {d : Nat} {I : mj_I} {S : mj_S} {Q : mj_Q} (hS : mk_Sh S) {b : Nat} (hb : mB b) {N : Int → Int} (hN : Inv N) (hC : Cb I S b N) (day : Int) (hd : 4 < d)
    (hT : ∀ J, fr (fun a => (101 ≤ a ∧ a ≤ 107) ∨ a = b + 12 ∨ a = b + 13) I J → OS N day J → (∀ u, 0 ≤ u → u < N 3 → rd I 102 u = rd J 102 u) → Q (some (.inl 1)) J S) (hX : ∀ J, fr (fun a => (101 ≤ a ∧ a ≤ 107) ∨ a = b + 12 ∨ a = b + 13) I J → OS N day J → Q (some (.inl 0)) J S) : mj_C d 115 [.inr 101, .inr b, .inl day] I S Q := by
  have hH := hN.1
  have hCH := hC.1
  unfold InvH at hH
  unfold CbH at hCH
  have hb61 : 21 ≤ b ∧ b ≤ 61 := by unfold mB at hb; omega
  have loop : ∀ (m : Nat) (s : Int), 0 ≤ s → s + m = N 3 → ∀ (J : mj_I) (x : Int) (w1 w2 : Option xV), fr (fun a => (101 ≤ a ∧ a ≤ 107) ∨ a = b + 12 ∨ a = b + 13) I J → FO N J → (∀ u, 0 ≤ u → u < s → rd J 102 u = cdS N day u) → (∀ u, s ≤ u → rd J 102 u = rd I 102 u) → (∀ u, 0 ≤ u → u < 6 → mt (J 101 2) u.toNat = (decide (u < s) && decide (N (64 + 4 * u + 3) < 0))) → (x = 0 ∨ x = 1 ∧ ∀ u, 0 ≤ u → u < s → rd I 102 u = cdS N day u) →
      xW d 115 18 [some (.inr (7, 0, 101, 0)), some (.inr (2, b, b, 0)), some (.inl day), some (.inl x), some (.inl s), w1, w2] [] J S Q := by
    intro m
    induction m with
    | zero =>
      intro s s0 s1 J x w1 w2 hJ h1 h2 h3 h4 h5
      have j1 : J 101 1 = N 3 := h1.2.1
      have hOS : OS N day J := ⟨h1, fun u u0 u1 => h2 u u0 (by omega), fun u u0 u1 => by rw [h4 u u0 (by omega), decide_eq_true (show u < s by omega), Bool.true_and]⟩
      rcases h5 with h5 | ⟨h5, h6⟩
      · subst h5
        refine x_hd false [18] 30 ?_
        (repeat' (first | with_reducible assumption | with_reducible exact rfl | with_reducible exact trivial | (with_reducible (show (_ : Int) ≤ _); omega) | (with_reducible (show (_ : Int) < _); omega) | (with_reducible (show (_ : Nat) < _); omega) | (with_reducible (show (_ : Nat) ≤ _); omega) | with_reducible exact Or.inl rfl | with_reducible exact Or.inr rfl | with_reducible exact Or.inl trivial | with_reducible exact Or.inr trivial | (intro hz; exact absurd hz (by decide)) | (intro hz; exfalso; omega) | refine And.intro ?_ ?_ | intro _))
        exact hX J hJ hOS
      · subst h5
        refine x_hd false [18] 30 ?_
        (repeat' (first | with_reducible assumption | with_reducible exact rfl | with_reducible exact trivial | (with_reducible (show (_ : Int) ≤ _); omega) | (with_reducible (show (_ : Int) < _); omega) | (with_reducible (show (_ : Nat) < _); omega) | (with_reducible (show (_ : Nat) ≤ _); omega) | with_reducible exact Or.inl rfl | with_reducible exact Or.inr rfl | with_reducible exact Or.inl trivial | with_reducible exact Or.inr trivial | (intro hz; exact absurd hz (by decide)) | (intro hz; exfalso; omega) | refine And.intro ?_ ?_ | intro _))
        exact hT J hJ hOS (fun u u0 u1 => by rw [h6 u u0 (by omega), h2 u u0 (by omega)])
    | succ m ih =>
      intro s s0 s1 J x w1 w2 hJ h1 h2 h3 h4 h5
      have j1 : J 101 1 = N 3 := h1.2.1
      have hCJ := hC.fr hN.1 hJ (fun a q => by unfold bc at q; omega)
      have hCS := hCJ.2.2.1 s s0 (by omega)
      have hIS := hN.2.2.1 s s0 (by omega)
      unfold InvS at hIS
      have es : J (b + 22 + s.toNat) 3 = N (64 + 4 * s + 3) := hCS.2.2.2
      have nxt : ∀ (K : mj_I) (y : Int) (z : Int) (w1 w2 : Option xV), fr (fun a => a = b + 12 ∨ a = b + 13) J K → z = cdS N day s → (y = 0 ∨ y = 1 ∧ x = 1 ∧ rd I 102 s = z) → ∀ K2 : mj_I, (K2 = up (mj_up K 101 2 (mj_or (K 101 2) (mj_shl 1 s))) 102 s z ∧ N (64 + 4 * s + 3) < 0 ∨ K2 = up K 102 s z ∧ 0 ≤ N (64 + 4 * s + 3)) → xW d 115 18 [some (.inr (7, 0, 101, 0)), some (.inr (2, b, b, 0)), some (.inl day), some (.inl y), some (.inl (s + 1)), w1, w2] [] K2 S Q := by
        intro K y z w1 w2 hK hz hy K2 hK2
        have f2 : rd K2 102 = ru (rd J 102) s z := by
          rcases hK2 with ⟨e, _⟩ | ⟨e, _⟩
          · rw [e, rd_up (by omega) (by omega), rd_mu (by omega), hK.r (by omega)]
          · rw [e, rd_up (by omega) (by omega), hK.r (by omega)]
        have f101 : ∀ k, k ≠ 2 → K2 101 k = J 101 k := by
          intro k hk
          rcases hK2 with ⟨e, _⟩ | ⟨e, _⟩
          · rw [e, up_f (by omega), mu_f (by omega), hK.f (by omega)]
          · rw [e, up_f (by omega), hK.f (by omega)]
        have fo : fr (fun a => a = 101 ∨ a = 102 ∨ a = b + 12 ∨ a = b + 13) J K2 := by
          have hK' : fr (fun a => a = 101 ∨ a = 102 ∨ a = b + 12 ∨ a = b + 13) J K := hK.mo (fun a q => by omega)
          rcases hK2 with ⟨e, _⟩ | ⟨e, _⟩
          · rw [e]; exact (hK'.mu (by omega) _ _).up (by omega) _ _
          · rw [e]; exact hK'.up (by omega) _ _
        have fbit : ∀ u, 0 ≤ u → u < 6 → mt (K2 101 2) u.toNat = (mt (J 101 2) u.toNat || (decide (u = s) && decide (N (64 + 4 * s + 3) < 0))) := by
          intro u u0 u1
          rcases hK2 with ⟨e, g⟩ | ⟨e, g⟩
          · rw [e, up_f (by omega), mj_up_s, hK.f (by omega), mt_or, mt_one (by omega) (by omega), decide_eq_true g, Bool.and_true]
            by_cases e2 : u = s
            · rw [decide_eq_true e2, decide_eq_true (by omega)]
            · rw [decide_eq_false e2, decide_eq_false (by omega)]
          · rw [e, up_f (by omega), hK.f (by omega), decide_eq_false (show ¬ N (64 + 4 * s + 3) < 0 by omega), Bool.and_false, Bool.or_false]
        refine ih (s + 1) (by omega) (by omega) K2 y _ _ (hJ.tr (fo.mo (fun a q => by omega))) ⟨by rw [f101 0 (by omega)]; exact h1.1, by rw [f101 1 (by omega)]; exact h1.2.1, h1.2.2.e (f101 _ (by omega)) (f101 _ (by omega)) (fo.r (by omega)) (fo.r (by omega)) (fo.r (by omega)) (fo.r (by omega))⟩ (fun u u0 u1 => ?_) (fun u u0 => ?_) (fun u u0 u1 => ?_) ?_
        · rw [f2]
          by_cases e : u = s
          · rw [e, ru_s, hz]
          · rw [ru_n e]; exact h2 u u0 (by omega)
        · rw [f2, ru_n (by omega)]
          exact h3 u (by omega)
        · rw [fbit u u0 u1, h4 u u0 u1]
          by_cases e : u = s
          · subst e
            rw [decide_eq_false (show ¬ u < u by omega), decide_eq_true (show u < u + 1 by omega), decide_eq_true (show u = u from rfl)]
            simp
          · rw [decide_eq_false e, Bool.false_and, Bool.or_false]
            by_cases e2 : u < s
            · rw [decide_eq_true e2, decide_eq_true (show u < s + 1 by omega)]
            · rw [decide_eq_false e2, decide_eq_false (show ¬ u < s + 1 by omega)]
        · rcases hy with hy | ⟨hy, hx, hr⟩
          · exact Or.inl hy
          · refine Or.inr ⟨hy, fun u u0 u1 => ?_⟩
            by_cases e : u = s
            · rw [e, hr, hz]
            · rcases h5 with h5 | h5
              · omega
              · exact h5.2 u u0 (by omega)
      have ez : 0 ≤ N (64 + 4 * s + 3) → cdS N day s = mj_shl 1 (N (64 + 4 * s + 3)) := fun q => if_pos q
      have ew : N (64 + 4 * s + 3) < 0 → cdS N day s = wmS N s day (N 2).toNat := fun q => if_neg (by omega)
      have h3s : rd J 102 s = rd I 102 s := h3 s (by omega)
      refine x_hd false [18] 60 ?_
      (repeat' (first | rw [es] | refine c_whoMay hS hb hN hCJ _ _ ?_ ?_ ?_ | with_reducible assumption | with_reducible exact rfl | with_reducible exact trivial | (with_reducible (show (_ : Int) ≤ _); omega) | (with_reducible (show (_ : Int) < _); omega) | (with_reducible (show (_ : Nat) < _); omega) | (with_reducible (show (_ : Nat) ≤ _); omega) | with_reducible exact Or.inl rfl | with_reducible exact Or.inr rfl | with_reducible exact Or.inl trivial | with_reducible exact Or.inr trivial | (intro hz; exact absurd hz (by decide)) | (intro hz; exfalso; omega) | refine And.intro ?_ ?_ | intro _))
      · rename_i z K hK _ _
        exact nxt K 0 _ _ _ hK (ew z).symm (Or.inl rfl) _ (Or.inl ⟨rfl, z⟩)
      · rename_i z K hK _ _ _
        exact nxt K 0 _ _ _ hK (ew z).symm (Or.inl rfl) _ (Or.inl ⟨rfl, z⟩)
      · rename_i z K hK _ y1 y2
        rw [rd_mu (by omega), hK.r (by omega), h3s] at y2
        exact nxt K 1 _ _ _ hK (ew z).symm (Or.inr ⟨rfl, by omega, y2⟩) _ (Or.inl ⟨rfl, z⟩)
      · rename_i _ z _
        exact nxt J 0 _ _ _ fr.refl (ez z).symm (Or.inl rfl) _ (Or.inr ⟨rfl, z⟩)
      · rename_i _ z _ _
        exact nxt J 0 _ _ _ fr.refl (ez z).symm (Or.inl rfl) _ (Or.inr ⟨rfl, z⟩)
      · rename_i _ z y1 y2
        rw [h3s] at y2
        exact nxt J 1 _ _ _ fr.refl (ez z).symm (Or.inr ⟨rfl, by omega, y2⟩) _ (Or.inr ⟨rfl, z⟩)
  have f0 : fr (fun a => a = 101) I (mj_up (mj_up I 101 0 (I b 1)) 101 1 (mj_up I 101 0 (I b 1) b 3)) := ((fr.refl (X := fun a => a = 101)).mu rfl _ _).mu rfl _ _
  have hC2 := hC.fr hN.1 f0 (fun a q => by unfold bc at q; omega)
  have p0 : (mj_up (mj_up I 101 0 (I b 1)) 101 1 (mj_up I 101 0 (I b 1) b 3)) 101 0 = N 2 := by rw [mu_f (by omega), mj_up_s]; exact hCH.2.2.1
  have p1 : (mj_up (mj_up I 101 0 (I b 1)) 101 1 (mj_up I 101 0 (I b 1) b 3)) 101 1 = N 3 := by rw [mj_up_s, mu_f (by omega)]; exact hCH.2.2.2.1
  have p2 : rd (mj_up (mj_up I 101 0 (I b 1)) 101 1 (mj_up I 101 0 (I b 1) b 3)) 102 = rd I 102 := by rw [rd_mu (by omega), rd_mu (by omega)]
  generalize hI2 : mj_up (mj_up I 101 0 (I b 1)) 101 1 (mj_up I 101 0 (I b 1) b 3) = I2 at *
  refine x_C false [.inr (7, 0, 101, 0), .inr (2, b, b, 0), .inl day] [18] 30 hS ⟨xok_fi hS, xok_b hS hb, trivial, trivial⟩ ?_
  (repeat' (first | rw [hI2] | refine c_readRules hS hb hN hC2 ?_ p0 ?_ | with_reducible assumption | with_reducible exact rfl | with_reducible exact trivial | (with_reducible (show (_ : Int) ≤ _); omega) | (with_reducible (show (_ : Int) < _); omega) | (with_reducible (show (_ : Nat) < _); omega) | (with_reducible (show (_ : Nat) ≤ _); omega) | with_reducible exact Or.inl rfl | with_reducible exact Or.inr rfl | with_reducible exact Or.inl trivial | with_reducible exact Or.inr trivial | (intro hz; exact absurd hz (by decide)) | (intro hz; exfalso; omega) | refine And.intro ?_ ?_ | intro _))
  rename_i K hK g1 g2 g3
  refine loop (N 3).toNat 0 (by omega) (by omega) _ 1 _ _ (((f0.mo (fun a q => by omega)).tr (hK.mo (fun a q => by omega))).mu (by omega) _ _) ⟨by rw [mu_f (by omega), g1 0 (by omega) (by omega)]; exact p0, by rw [mu_f (by omega), g1 1 (by omega) (by omega)]; exact p1, g3.e (mu_f (by omega)) (mu_f (by omega)) (rd_mu (by omega)) (rd_mu (by omega)) (rd_mu (by omega)) (rd_mu (by omega))⟩ (fun u u0 u1 => by omega) (fun u u0 => by rw [rd_mu (by omega), g2, p2]) (fun u u0 u1 => ?_) (Or.inr ⟨rfl, fun u u0 u1 => by omega⟩)
  rw [mj_up_s, mt_0, decide_eq_false (by omega)]
  rfl
