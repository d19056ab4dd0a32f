/-! who may do what -/
abbrev z0 : Int → Int := fun _ => 0
theorem lat_b (N : Int → Int) (key : Int) : ∀ n : Nat, -1 ≤ lat N key n ∧ lat N key n < n ∧ (0 ≤ lat N key n → (N (238 + 2 * lat N key n)).tdiv 1000 = key)
  | 0 => by
    show -1 ≤ (-1 : Int) ∧ (-1 : Int) < 0 ∧ ((0 : Int) ≤ -1 → _)
    omega
  | n + 1 => by
    unfold lat
    split
    · rename_i h
      exact ⟨by omega, by omega, fun _ => h⟩
    · have ih := lat_b N key n
      exact ⟨ih.1, by omega, ih.2.2⟩
theorem latT_b {N : Int → Int} (h : 0 ≤ N 5) (key : Int) : -1 ≤ latT N key ∧ latT N key < N 5 ∧ (0 ≤ latT N key → (N (238 + 2 * latT N key)).tdiv 1000 = key) := by
  have q := lat_b N key (N 5).toNat
  unfold latT
  refine ⟨q.1, by omega, q.2.2⟩
theorem CbX.fr {X : Nat → Prop} {I J : mj_I} {S : mj_S} {x : Nat} {N : Int → Int} {t : Int} (h : CbX I S x N t) (hf : fr X I J) (hX : ∀ a, 181 ≤ a → ¬ X a) : CbX J S x N t := by
  obtain ⟨a1, a2, a3, a4, a5, a6, k, n, a7, a8, a9, a10, a11, a12⟩ := h
  refine ⟨a1, a2, a3, a4, a5, a6, k, n, a7, a8, ?_, a10, ?_, ?_⟩
  · rw [hf.f (hX _ a1)]; exact a9
  · rw [hf.f (hX _ a1)]; exact a11
  · rw [hf.r (hX _ a4)]; exact a12
theorem CbX_key {I : mj_I} {S : mj_S} {x : Nat} {N : Int → Int} {t key : Int} (h : CbX I S x N t) (hk : (N (238 + 2 * t)).tdiv 1000 = key) : I x 0 = key := by
  obtain ⟨a1, a2, a3, a4, a5, a6, k, n, a7, a8, a9, a10, a11, a12⟩ := h
  rw [a10, Int.tdiv_eq_ediv_of_nonneg (by omega)] at hk
  omega
theorem ask0 {x p : Int} (h : 0 ≤ p ∧ p < 32) : mj_and (mj_shr x p) 1 = 0 ↔ mt x p.toNat = false := by
  have := mj_ask0 x (p := p.toNat) (by omega)
  rwa [show ((p.toNat : Nat) : Int) = p by omega] at this
theorem ask1 {x p : Int} (h : 0 ≤ p ∧ p < 32) : mj_and (mj_shr x p) 1 = 1 ↔ mt x p.toNat = true := by
  have := mj_ask1 x (p := p.toNat) (by omega)
  rwa [show ((p.toNat : Nat) : Int) = p by omega] at this
theorem mayS_t {N M : Int → Int} {p s d : Int} (h1 : ¬ awy N p d) (h2 : N (64 + 4 * s + 1) ≤ N (8 + 8 * p + 1)) (h3 : N (64 + 4 * s + 0) < 0 ∨ papS N M p (N (64 + 4 * s + 0)) d) (h4 : latT N 0 < 0 ∨ evT N (latT N 0) (g4 s (N (8 + 8 * p + 1)) (N (8 + 8 * p + 0)) d) ≠ 0) : mayS N M p s d = true := decide_eq_true ⟨h1, h2, h3, h4⟩
theorem mayS_f {N M : Int → Int} {p s d : Int} (h : ¬ (¬ awy N p d ∧ N (64 + 4 * s + 1) ≤ N (8 + 8 * p + 1) ∧ (N (64 + 4 * s + 0) < 0 ∨ papS N M p (N (64 + 4 * s + 0)) d) ∧ (latT N 0 < 0 ∨ evT N (latT N 0) (g4 s (N (8 + 8 * p + 1)) (N (8 + 8 * p + 0)) d) ≠ 0))) : mayS N M p s d = false := decide_eq_false h
theorem ru_g4 {F : Int → Int} {a b c e j : Int} (h0 : 0 ≤ j) (h3 : j < 4) : ru (ru (ru (ru F 0 a) 1 b) 2 c) 3 e j = g4 a b c e j := by
  have : j = 0 ∨ j = 1 ∨ j = 2 ∨ j = 3 := by omega
  rcases this with h | h | h | h <;> subst h <;> rfl
theorem ru_g3 {F : Int → Int} {a b c e j : Int} (h0 : 0 ≤ j) (h3 : j < 3) : ru (ru (ru F 0 a) 1 b) 2 c j = g4 a b c e j := by
  have : j = 0 ∨ j = 1 ∨ j = 2 := by omega
  rcases this with h | h | h <;> subst h <;> rfl
theorem rd_g4 {I : mj_I} {x : Nat} {a b c e : Int} (j : Int) (h0 : 0 ≤ j) (h1 : j < 4) : rd (up (up (up (up I x 0 a) x 1 b) x 2 c) x 3 e) x j = g4 a b c e j := by
  rw [rd_up (by decide) (by decide), rd_up (by decide) (by decide), rd_up (by decide) (by decide), rd_up (by decide) (by decide)]
  exact ru_g4 h0 h1
theorem rd_g3 {I : mj_I} {x : Nat} {a b c e : Int} (j : Int) (h0 : 0 ≤ j) (h1 : j < 3) : rd (up (up (up I x 0 a) x 1 b) x 2 c) x j = g4 a b c e j := by
  rw [rd_up (by decide) (by decide), rd_up (by decide) (by decide), rd_up (by decide) (by decide)]
  exact ru_g3 h0 h1
/-- 216 hasPaper -/
theorem m_hasPaper {d : Nat} {I : mj_I} {S : mj_S} {Q : mj_Q} (hS : mk_Sh S) (p q day : Int) (hN : Inv (rd I 151)) (hd : 1 < d) (hp : 0 ≤ p ∧ p < rd I 151 2) (hq : 0 ≤ q ∧ q ≤ 7)
    (hT : papS (rd I 151) (rd I 154) p q day → Q (some (.inl 1)) I S) (hF : ¬ papS (rd I 151) (rd I 154) p q day → Q (some (.inl 0)) I S) : mj_C d 216 [.inr 150, .inl p, .inl q, .inl day] I S Q := by
  have hH := hN.1
  have hP := hN.2.1 p hp.1 hp.2
  unfold InvH at hH
  unfold InvP at hP
  refine x_C false [.inr (13, 0, 150, 0), .inl p, .inl q, .inl day] [] 70 hS ⟨xok_m hS, trivial, trivial, trivial, trivial⟩ ?_
  have ha1 : ∀ x, mj_and (mj_shr x q) 1 = 1 ↔ mt x q.toNat = true := fun x => ask1 (by omega)
  (repeat' (first | refine m_of8 hS _ _ ?_ ?_ ?_ | refine m_isAway hS _ _ ?_ ?_ ?_ ?_ | with_reducible assumption | with_reducible exact rfl | with_reducible exact trivial | (with_reducible (show (_ : Int) ≤ _); omega) | (with_reducible (show (_ : Int) < _); omega) | (with_reducible (show (_ : Nat) < _); omega) | (with_reducible (show (_ : Nat) ≤ _); omega) | with_reducible exact Or.inl rfl | with_reducible exact Or.inr rfl | with_reducible exact Or.inl trivial | with_reducible exact Or.inr trivial | (intro hz; exact absurd hz (by decide)) | (intro hz; exfalso; omega) | refine And.intro ?_ ?_ | intro _))
  all_goals (simp only [ha1] at *)
  all_goals first
    | (refine hT ?_; first | exact Or.inl (by assumption) | exact Or.inr ⟨by omega, by omega, by assumption, by assumption⟩)
    | (refine hF ?_; rintro (z | ⟨z1, z2, z3, z4⟩) <;> first | omega | (unfold pap1 at *; simp_all))
/-- 215 mayDo -/
theorem m_mayDo {d : Nat} {I : mj_I} {S : mj_S} {Q : mj_Q} (hS : mk_Sh S) (p s day : Int) (hN : Inv (rd I 151)) (hd : 2 < d) (hp : 0 ≤ p ∧ p < rd I 151 2) (hs : 0 ≤ s ∧ s < rd I 151 3)
    (hT : mayS (rd I 151) (rd I 154) p s day = true → ∀ I', fr (fun a => a = 162 ∨ a = 163) I I' → Q (some (.inl 1)) I' S) (hF : mayS (rd I 151) (rd I 154) p s day = false → ∀ I', fr (fun a => a = 162 ∨ a = 163) I I' → Q (some (.inl 0)) I' S) : mj_C d 215 [.inr 150, .inl p, .inl s, .inl day] I S Q := by
  have hH := hN.1
  have hSt := hN.2.2.1 s hs.1 hs.2
  have hTx := hN.2.2.2.2.2.2
  have hl := latT_b (N := rd I 151) hN.1.2.2.2.2.1.1 0
  unfold InvH at hH
  unfold InvS at hSt
  refine x_C false [.inr (13, 0, 150, 0), .inl p, .inl s, .inl day] [] 100 hS ⟨xok_m hS, trivial, trivial, trivial, trivial⟩ ?_
  (repeat' (first | refine m_of8 hS _ _ ?_ ?_ ?_ | refine m_of4 hS _ _ ?_ ?_ ?_ | refine m_isAway hS _ _ ?_ ?_ ?_ ?_ | refine m_hasPaper hS _ _ _ hN ?_ ?_ ?_ ?_ ?_ | refine m_counts hS _ ?_ hTx ?_ | with_reducible assumption | with_reducible exact rfl | with_reducible exact trivial | (with_reducible (show (_ : Int) ≤ _); omega) | (with_reducible (show (_ : Int) < _); omega) | (with_reducible (show (_ : Nat) < _); omega) | (with_reducible (show (_ : Nat) ≤ _); omega) | with_reducible exact Or.inl rfl | with_reducible exact Or.inr rfl | with_reducible exact Or.inl trivial | with_reducible exact Or.inr trivial | (intro hz; exact absurd hz (by decide)) | (intro hz; exfalso; omega) | refine And.intro ?_ ?_ | intro _))
  all_goals first
    | (refine hF (mayS_f ?_) I fr.refl; rintro ⟨z1, z2, z3, z4⟩; first | exact z1 (by assumption) | omega | (rcases z3 with z | z <;> first | omega | contradiction))
    | (refine hT (mayS_t (by assumption) (by omega) (by first | exact Or.inl (by assumption) | exact Or.inr (by assumption)) (Or.inl (by assumption))) _ ?_; exact (((fr.refl.up (Or.inr rfl) _ _).up (Or.inr rfl) _ _).up (Or.inr rfl) _ _).up (Or.inr rfl) _ _)
    | (simp only [rd_uo (show ¬ (151 : Nat) = 163 by decide)]
       have ht := hl.2.2 (by omega)
       refine m_worksOut hS _ (g4 s (rd I 151 (8 + 8 * p + 1)) (rd I 151 (8 + 8 * p + 0)) day) (by omega) (by omega) ?_ (fun j h0 h1 => rd_g4 j h0 (by omega)) (fun _ => rd_g4 3 (by decide) (by decide)) (fun K hK => ?_)
       · simp only [rd_uo (show ¬ (151 : Nat) = 163 by decide)]
         exact hTx _ (by omega) (by omega)
       · simp only [rd_uo (show ¬ (151 : Nat) = 163 by decide)]
         have hf : fr (fun a => a = 162 ∨ a = 163) I K := fr.tr ((((fr.refl.up (Or.inr rfl) _ _).up (Or.inr rfl) _ _).up (Or.inr rfl) _ _).up (Or.inr rfl) _ _) (hK.mo (fun a q => Or.inl q))
         (repeat' (first | with_reducible assumption | with_reducible exact rfl | with_reducible exact trivial | (with_reducible (show (_ : Int) ≤ _); omega) | (with_reducible (show (_ : Int) < _); omega) | (with_reducible (show (_ : Nat) < _); omega) | (with_reducible (show (_ : Nat) ≤ _); omega) | with_reducible exact Or.inl rfl | with_reducible exact Or.inr rfl | with_reducible exact Or.inl trivial | with_reducible exact Or.inr trivial | (intro hz; exact absurd hz (by decide)) | (intro hz; exfalso; omega) | refine And.intro ?_ ?_ | intro _))
         · rename_i q
           refine hF (mayS_f ?_) K hf
           rintro ⟨z1, z2, z3, z4⟩
           rcases z4 with z | z
           · omega
           · exact z q
         · rename_i q
           refine hT (mayS_t (by assumption) (by omega) (by first | exact Or.inl (by assumption) | exact Or.inr (by assumption)) (Or.inr q)) K hf)
/-- 202 waitOf -/
theorem m_waitOf {d : Nat} {I : mj_I} {S : mj_S} {Q : mj_Q} (hS : mk_Sh S) (p : Int) (hN : Inv (rd I 151)) (hd : 2 < d) (hp : 0 ≤ p ∧ p < rd I 151 2)
    (h : ∀ I', fr (fun a => a = 162 ∨ a = 163) I I' → Q (some (.inl (waitS (rd I 151) p))) I' S) : mj_C d 202 [.inr 150, .inl p] I S Q := by
  have hH := hN.1
  have hP := hN.2.1 p hp.1 hp.2
  have hTx := hN.2.2.2.2.2.2
  have hl := latT_b (N := rd I 151) hN.1.2.2.2.2.1.1 2
  unfold InvH at hH
  unfold InvP at hP
  unfold waitS at h
  refine x_C false [.inr (13, 0, 150, 0), .inl p] [] 100 hS ⟨xok_m hS, trivial, trivial⟩ ?_
  (repeat' (first | simp only [rd_uo (show ¬ (151 : Nat) = 163 by decide)] | refine m_of8 hS _ _ ?_ ?_ ?_ | refine m_counts hS _ ?_ hTx ?_ | with_reducible assumption | with_reducible exact rfl | with_reducible exact trivial | (with_reducible (show (_ : Int) ≤ _); omega) | (with_reducible (show (_ : Int) < _); omega) | (with_reducible (show (_ : Nat) < _); omega) | (with_reducible (show (_ : Nat) ≤ _); omega) | with_reducible exact Or.inl rfl | with_reducible exact Or.inr rfl | with_reducible exact Or.inl trivial | with_reducible exact Or.inr trivial | (intro hz; exact absurd hz (by decide)) | (intro hz; exfalso; omega) | refine And.intro ?_ ?_ | intro _))
  · have ht := hl.2.2 (by omega)
    rw [if_neg (by omega)] at h
    refine m_worksOut hS _ (g4 (rd I 151 (8 + 8 * p + 1)) (rd I 151 (8 + 8 * p + 0)) (rd I 151 1) 0) (by omega) (by omega) ?_ (fun j h0 h1 => rd_g3 j h0 (by omega)) (fun z => ?_) (fun K hK => ?_)
    · simp only [rd_uo (show ¬ (151 : Nat) = 163 by decide)]
      exact hTx _ (by omega) (by omega)
    · exfalso
      simp only [rd_uo (show ¬ (151 : Nat) = 163 by decide)] at z
      obtain ⟨k, n, hk, hv, hw, -⟩ := hTx (latT (rd I 151) 2) (by omega) (by omega)
      rw [hv, Int.tdiv_eq_ediv_of_nonneg (by omega)] at ht
      omega
    · simp only [rd_uo (show ¬ (151 : Nat) = 163 by decide)]
      have hf : fr (fun a => a = 162 ∨ a = 163) I K := fr.tr (((fr.refl.up (Or.inr rfl) _ _).up (Or.inr rfl) _ _).up (Or.inr rfl) _ _) (hK.mo (fun a q => Or.inl q))
      (repeat' (first | with_reducible assumption | with_reducible exact rfl | with_reducible exact trivial | (with_reducible (show (_ : Int) ≤ _); omega) | (with_reducible (show (_ : Int) < _); omega) | (with_reducible (show (_ : Nat) < _); omega) | (with_reducible (show (_ : Nat) ≤ _); omega) | with_reducible exact Or.inl rfl | with_reducible exact Or.inr rfl | with_reducible exact Or.inl trivial | with_reducible exact Or.inr trivial | (intro hz; exact absurd hz (by decide)) | (intro hz; exfalso; omega) | refine And.intro ?_ ?_ | intro _))
      exact h K hf
  · rw [if_pos (by omega)] at h
    refine h _ ?_
    exact ((fr.refl.up (Or.inr rfl) _ _).up (Or.inr rfl) _ _).up (Or.inr rfl) _ _
theorem mul_b {a b : Int} (ha : 1 ≤ a ∧ a ≤ 60) (hb : 0 ≤ b ∧ b ≤ 9) : 0 ≤ a * (b + 1) ∧ a * (b + 1) ≤ 600 := by
  have : b = 0 ∨ b = 1 ∨ b = 2 ∨ b = 3 ∨ b = 4 ∨ b = 5 ∨ b = 6 ∨ b = 7 ∨ b = 8 ∨ b = 9 := by omega
  rcases this with q | q | q | q | q | q | q | q | q | q <;> subst q <;> omega
/-- 220 costOf -/
theorem m_costOf {d : Nat} {I : mj_I} {S : mj_S} {Q : mj_Q} (hS : mk_Sh S) (p s : Int) (hN : Inv (rd I 151)) (hd : 2 < d) (hp : 0 ≤ p ∧ p < rd I 151 2) (hs : 0 ≤ s ∧ s < rd I 151 3)
    (h : ∀ I', fr (fun a => a = 162 ∨ a = 163) I I' → Q (some (.inl (costS (rd I 151) p s))) I' S) : mj_C d 220 [.inr 150, .inl p, .inl s] I S Q := by
  have hH := hN.1
  have hP := hN.2.1 p hp.1 hp.2
  have hSt := hN.2.2.1 s hs.1 hs.2
  have hTx := hN.2.2.2.2.2.2
  have hl := latT_b (N := rd I 151) hN.1.2.2.2.2.1.1 1
  unfold InvH at hH
  unfold InvP at hP
  unfold InvS at hSt
  have hmb := mul_b (a := rd I 151 (64 + 4 * s + 2)) (b := rd I 151 (8 + 8 * p + 1)) (by omega) (by omega)
  refine x_C false [.inr (13, 0, 150, 0), .inl p, .inl s] [] 100 hS ⟨xok_m hS, trivial, trivial, trivial⟩ ?_
  (repeat' (first | simp only [rd_uo (show ¬ (151 : Nat) = 163 by decide)] | refine m_of8 hS _ _ ?_ ?_ ?_ | refine m_of4 hS _ _ ?_ ?_ ?_ | refine m_counts hS _ ?_ hTx ?_ | with_reducible assumption | with_reducible exact rfl | with_reducible exact trivial | (with_reducible (show (_ : Int) ≤ _); omega) | (with_reducible (show (_ : Int) < _); omega) | (with_reducible (show (_ : Nat) < _); omega) | (with_reducible (show (_ : Nat) ≤ _); omega) | with_reducible exact Or.inl rfl | with_reducible exact Or.inr rfl | with_reducible exact Or.inl trivial | with_reducible exact Or.inr trivial | (intro hz; exact absurd hz (by decide)) | (intro hz; exfalso; omega) | refine And.intro ?_ ?_ | intro _))
  · have ht := hl.2.2 (by omega)
    refine m_worksOut hS _ (g4 (rd I 151 (8 + 8 * p + 1)) (rd I 151 (8 + 8 * p + 0)) (rd I 151 (64 + 4 * s + 2)) 0) (by omega) (by omega) ?_ (fun j h0 h1 => rd_g3 j h0 (by omega)) (fun z => ?_) (fun K hK => ?_)
    · simp only [rd_uo (show ¬ (151 : Nat) = 163 by decide)]
      exact hTx _ (by omega) (by omega)
    · exfalso
      simp only [rd_uo (show ¬ (151 : Nat) = 163 by decide)] at z
      obtain ⟨k, n, hk, hv, hw, -⟩ := hTx (latT (rd I 151) 1) (by omega) (by omega)
      rw [hv, Int.tdiv_eq_ediv_of_nonneg (by omega)] at ht
      omega
    · simp only [rd_uo (show ¬ (151 : Nat) = 163 by decide)]
      have hf : fr (fun a => a = 162 ∨ a = 163) I K := fr.tr (((fr.refl.up (Or.inr rfl) _ _).up (Or.inr rfl) _ _).up (Or.inr rfl) _ _) (hK.mo (fun a q => Or.inl q))
      have e : costV (rd I 151) p s = evT (rd I 151) (latT (rd I 151) 1) (g4 (rd I 151 (8 + 8 * p + 1)) (rd I 151 (8 + 8 * p + 0)) (rd I 151 (64 + 4 * s + 2)) 0) := if_neg (by omega)
      have h := h K hf
      unfold costS at h
      rw [e] at h
      (repeat' (first | with_reducible assumption | with_reducible exact rfl | with_reducible exact trivial | (with_reducible (show (_ : Int) ≤ _); omega) | (with_reducible (show (_ : Int) < _); omega) | (with_reducible (show (_ : Nat) < _); omega) | (with_reducible (show (_ : Nat) ≤ _); omega) | with_reducible exact Or.inl rfl | with_reducible exact Or.inr rfl | with_reducible exact Or.inl trivial | with_reducible exact Or.inr trivial | (intro hz; exact absurd hz (by decide)) | (intro hz; exfalso; omega) | refine And.intro ?_ ?_ | intro _))
      · rw [if_neg (by omega), if_neg (by omega)] at h
        exact h
      · rw [if_neg (by omega), if_pos (by omega)] at h
        exact h
      · rw [if_pos (by omega)] at h
        exact h
  · have e : costV (rd I 151) p s = rd I 151 (64 + 4 * s + 2) * (rd I 151 (8 + 8 * p + 1) + 1) := if_pos (by omega)
    unfold costS at h
    rw [e, if_neg (by omega), if_neg (by omega)] at h
    refine h _ ?_
    exact ((fr.refl.up (Or.inr rfl) _ _).up (Or.inr rfl) _ _).up (Or.inr rfl) _ _
