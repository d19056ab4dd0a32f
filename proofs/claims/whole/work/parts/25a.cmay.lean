/-! who may do what, in the class -/
theorem c_textAt {d : Nat} {I : mj_I} {S : mj_S} {Q : mj_Q} (hS : mk_Sh S) {b : Nat} (hb : mB b) (v : Int) (hd : 0 < d) (hn : 0 ≤ I b 7 ∧ I b 7 ≤ 14) (hT : 0 ≤ v → v < I b 7 → Q (some (.inr (mj_rf S (b + 4) v.toNat))) I S) (hF : ¬ (0 ≤ v ∧ v < I b 7) → Q (some (.inr 0)) I S) : mj_C d 20 [.inr b, .inl v] I S Q := by
  refine x_C false [.inr (2, b, b, 0), .inl v] [] 30 hS ⟨xok_b hS hb, trivial, trivial⟩ ?_
  (repeat' (first | refine c_within _ _ _ ?_ ?_ | with_reducible assumption | with_reducible exact rfl | with_reducible exact trivial | (with_reducible (show (_ : Int) ≤ _); omega) | (with_reducible (show (_ : Int) < _); omega) | (with_reducible (show (_ : Nat) < _); omega) | (with_reducible (show (_ : Nat) ≤ _); omega) | with_reducible exact Or.inl rfl | with_reducible exact Or.inr rfl | with_reducible exact Or.inl trivial | with_reducible exact Or.inr trivial | (intro hz; exact absurd hz (by decide)) | (intro hz; exfalso; omega) | refine And.intro ?_ ?_ | intro _))
  all_goals first | exact hT (by omega) (by omega) | exact hF (by omega)
theorem c_names {d : Nat} {I : mj_I} {S : mj_S} {Q : mj_Q} (hS : mk_Sh S) {b : Nat} (hb : mB b) (q : Nat) (s day m : Int) (hq : mj_tg S q = 3) (hqb : q ≠ b + 12)
    (h : ∀ I', fr (fun a => a = b + 12) I I' → rd I' (b + 12) 0 = s → rd I' (b + 12) 1 = I q 1 → rd I' (b + 12) 2 = I q 0 → rd I' (b + 12) 3 = day → rd I' (b + 12) 4 = m → Q (some (.inr (b + 12))) I' S) : mj_C d 21 [.inr b, .inr q, .inl s, .inl day, .inl m] I S Q := by
  refine x_C false [.inr (2, b, b, 0), .inr (4, 0, q, 0), .inl s, .inl day, .inl m] [] 40 hS ⟨xok_b hS hb, xok_t (by omega) (by decide) (by decide), trivial, trivial, trivial, trivial⟩ ?_
  (repeat' (first | with_reducible assumption | with_reducible exact rfl | with_reducible exact trivial | (with_reducible (show (_ : Int) ≤ _); omega) | (with_reducible (show (_ : Int) < _); omega) | (with_reducible (show (_ : Nat) < _); omega) | (with_reducible (show (_ : Nat) ≤ _); omega) | with_reducible exact Or.inl rfl | with_reducible exact Or.inr rfl | with_reducible exact Or.inl trivial | with_reducible exact Or.inr trivial | (intro hz; exact absurd hz (by decide)) | (intro hz; exfalso; omega) | refine And.intro ?_ ?_ | intro _))
  refine h _ ?_ ?_ ?_ ?_ ?_ ?_
  · exact (((((fr.refl (X := fun a => a = b + 12)).up rfl _ _).up rfl _ _).up rfl _ _).up rfl _ _).up rfl _ _
  all_goals (simp (disch := omega) only [rd_up, up_f, ru_s, ru_n])
theorem c_owns {d : Nat} {I : mj_I} {S : mj_S} {Q : mj_Q} (hS : mk_Sh S) (q : Nat) (k : Int) (hq : mj_tg S q = 3) (hk : 0 ≤ k ∧ k < 32) (hT : mt (I q 3) k.toNat = true → Q (some (.inl 1)) I S) (hF : mt (I q 3) k.toNat = false → Q (some (.inl 0)) I S) : mj_C d 37 [.inr q, .inl k] I S Q := by
  refine x_C false [.inr (4, 0, q, 0), .inl k] [] 40 hS ⟨xok_t (by omega) (by decide) (by decide), trivial, trivial⟩ ?_
  have ha : ∀ x, mj_and (mj_shr x k) 1 = 0 ↔ mt x k.toNat = false := fun x => ask0 hk
  (repeat' (first | with_reducible assumption | with_reducible exact rfl | with_reducible exact trivial | (with_reducible (show (_ : Int) ≤ _); omega) | (with_reducible (show (_ : Int) < _); omega) | (with_reducible (show (_ : Nat) < _); omega) | (with_reducible (show (_ : Nat) ≤ _); omega) | with_reducible exact Or.inl rfl | with_reducible exact Or.inr rfl | with_reducible exact Or.inl trivial | with_reducible exact Or.inr trivial | (intro hz; exact absurd hz (by decide)) | (intro hz; exfalso; omega) | refine And.intro ?_ ?_ | intro _))
  · rename_i z
    exact hF ((ha _).mp z)
  · rename_i z
    refine hT ?_
    cases e : mt (I q 3) k.toNat with
    | true => rfl
    | false => exact absurd ((ha _).mpr e) z
theorem pap0 {N : Int → Int} {p q : Int} : pap1 N z0 p q = mt (N (8 + 8 * p + 3)) q.toNat := by
  unfold pap1
  rw [mt_or, mt_0, Bool.or_false]
theorem tg_P {S : mj_S} (hS : mk_Sh S) {b : Nat} (hb : mB b) {p : Int} (h0 : 0 ≤ p) (h1 : p < 7) : mj_tg S (b + 15 + p.toNat) = 3 := by
  rcases xok_P hS hb h0 h1 with h | h
  · exact absurd (show (4 : Nat) = 0 from h) (by decide)
  · have : mj_tg S (b + 15 + p.toNat) + 1 = 4 := h.1
    omega
/-- 36 hasPaper -/
theorem c_hasPaper {d : Nat} {I : mj_I} {S : mj_S} {Q : mj_Q} (hS : mk_Sh S) {b : Nat} (hb : mB b) {N : Int → Int} (hN : Inv N) (hC : Cb I S b N) (p q day : Int) (hd : 0 < d) (hp : 0 ≤ p ∧ p < N 2) (hq : 0 ≤ q ∧ q ≤ 7)
    (hT : papS N z0 p q day → Q (some (.inl 1)) I S) (hF : ¬ papS N z0 p q day → Q (some (.inl 0)) I S) : mj_C d 36 [.inr b, .inr (b + 15 + p.toNat), .inl q, .inl day] I S Q := by
  have hH := hN.1
  have hP := hN.2.1 p hp.1 hp.2
  have hCP := hC.2.1 p hp.1 hp.2
  have hCH := hC.1
  unfold InvH at hH
  unfold InvP at hP
  unfold CbP at hCP
  unfold CbH at hCH
  simp only [papS, pap0] at hT hF
  by_cases hsf : 0 ≤ N (8 + 8 * p + 6)
  · have hCP2 := hC.2.1 (N (8 + 8 * p + 6)) hsf (by omega)
    unfold CbP at hCP2
    have e6 : I (b + 15 + p.toNat) 6 = N (8 + 8 * p + 6) := hCP.2.2.2.2.2.2.1
    refine x_C false [.inr (2, b, b, 0), .inr (4, b, b + 15 + p.toNat, 0), .inl q, .inl day] [] 70 hS ⟨xok_b hS hb, xok_P hS hb (by omega) (by omega), trivial, trivial, trivial⟩ ?_
    (repeat' (first | rw [e6] | exact tg_P hS hb (by omega) (by omega) | refine c_owns hS _ _ ?_ ?_ ?_ ?_ | refine c_isAway _ _ ?_ ?_ ?_ | with_reducible assumption | with_reducible exact rfl | with_reducible exact trivial | (with_reducible (show (_ : Int) ≤ _); omega) | (with_reducible (show (_ : Int) < _); omega) | (with_reducible (show (_ : Nat) < _); omega) | (with_reducible (show (_ : Nat) ≤ _); omega) | with_reducible exact Or.inl rfl | with_reducible exact Or.inr rfl | with_reducible exact Or.inl trivial | with_reducible exact Or.inr trivial | (intro hz; exact absurd hz (by decide)) | (intro hz; exfalso; omega) | refine And.intro ?_ ?_ | intro _))
    all_goals first
      | (refine hT ?_; first | exact Or.inl (by rw [← hCP.2.2.2.1]; assumption) | exact Or.inr ⟨by omega, by omega, by omega, by rw [← hCP2.2.2.2.1]; assumption⟩)
      | (refine hF ?_; rw [← hCP.2.2.2.1, ← hCP2.2.2.2.1]; rintro (z | ⟨z1, z2, z3, z4⟩) <;> first | omega | (simp_all))
  · refine x_C false [.inr (2, b, b, 0), .inr (4, b, b + 15 + p.toNat, 0), .inl q, .inl day] [] 70 hS ⟨xok_b hS hb, xok_P hS hb (by omega) (by omega), trivial, trivial, trivial⟩ ?_
    (repeat' (first | exact tg_P hS hb (by omega) (by omega) | refine c_owns hS _ _ ?_ ?_ ?_ ?_ | with_reducible assumption | with_reducible exact rfl | with_reducible exact trivial | (with_reducible (show (_ : Int) ≤ _); omega) | (with_reducible (show (_ : Int) < _); omega) | (with_reducible (show (_ : Nat) < _); omega) | (with_reducible (show (_ : Nat) ≤ _); omega) | with_reducible exact Or.inl rfl | with_reducible exact Or.inr rfl | with_reducible exact Or.inl trivial | with_reducible exact Or.inr trivial | (intro hz; exact absurd hz (by decide)) | (intro hz; exfalso; omega) | refine And.intro ?_ ?_ | intro _))
    all_goals first
      | (refine hT ?_; exact Or.inl (by rw [← hCP.2.2.2.1]; assumption))
      | (refine hF ?_; rw [← hCP.2.2.2.1]; rintro (z | ⟨z1, z2, z3, z4⟩) <;> first | omega | (simp_all))
/-- 35 mayDo -/
theorem c_mayDo {d : Nat} {I : mj_I} {S : mj_S} {Q : mj_Q} (hS : mk_Sh S) {b : Nat} (hb : mB b) {N : Int → Int} (hN : Inv N) (hC : Cb I S b N) (p s day : Int) (hd : 2 < d) (hp : 0 ≤ p ∧ p < N 2) (hs : 0 ≤ s ∧ s < N 3)
    (hT : mayS N z0 p s day = true → ∀ I', fr (fun a => a = b + 12 ∨ a = b + 13) I I' → Q (some (.inl 1)) I' S) (hF : mayS N z0 p s day = false → ∀ I', fr (fun a => a = b + 12 ∨ a = b + 13) I I' → Q (some (.inl 0)) I' S) : mj_C d 35 [.inr b, .inl p, .inl s, .inl day] I S Q := by
  have hb61 : b ≤ 61 := by unfold mB at hb; omega
  have hH := hN.1
  have hSt := hN.2.2.1 s hs.1 hs.2
  have hTx := hN.2.2.2.2.2.2
  have hl := latT_b (N := N) hN.1.2.2.2.2.1.1 0
  have hCP := hC.2.1 p hp.1 hp.2
  have hCS := hC.2.2.1 s hs.1 hs.2
  have hCH := hC.1
  obtain ⟨hCX, hL0, -⟩ := hC.2.2.2.2.2.2
  unfold InvH at hH
  unfold InvS at hSt
  unfold CbP at hCP
  unfold CbS at hCS
  unfold CbH at hCH
  have e0 : I (b + 22 + s.toNat) 0 = N (64 + 4 * s + 0) := hCS.1
  have okg : xok S (21, 0, b + 12, 5) := (x_F2 hS (xok_b hS hb) (show x_fld 2 b b 15 = some (21, 0, b + 12, 5) from rfl)).2
  have oks : xok S (21, 0, b + 13, 96) := (x_F2 hS (xok_b hS hb) (show x_fld 2 b b 16 = some (21, 0, b + 13, 96) from rfl)).2
  refine x_C false [.inr (2, b, b, 0), .inl p, .inl s, .inl day] [] 80 hS ⟨xok_b hS hb, trivial, trivial, trivial, trivial⟩ ?_
  (repeat' (first | rw [e0] | rw [hL0] | exact tg_P hS hb (by omega) (by omega) | refine c_isAway _ _ ?_ ?_ ?_ | refine c_hasPaper hS hb hN hC _ _ _ ?_ ?_ ?_ ?_ ?_ | refine c_textAt hS hb _ ?_ ?_ ?_ ?_ | refine ⟨(0, 0, 0, 0), ⟨rfl, Or.inl rfl⟩, ?_⟩ | with_reducible assumption | with_reducible exact rfl | with_reducible exact trivial | (with_reducible (show (_ : Int) ≤ _); omega) | (with_reducible (show (_ : Int) < _); omega) | (with_reducible (show (_ : Nat) < _); omega) | (with_reducible (show (_ : Nat) ≤ _); omega) | with_reducible exact Or.inl rfl | with_reducible exact Or.inr rfl | with_reducible exact Or.inl trivial | with_reducible exact Or.inr trivial | (intro hz; exact absurd hz (by decide)) | (intro hz; exfalso; omega) | refine And.intro ?_ ?_ | intro _))
  all_goals first
    | (refine hF (mayS_f ?_) I fr.refl; rintro ⟨z1, z2, z3, z4⟩; first | omega | (rcases z3 with z | z <;> first | omega | contradiction))
    | (refine hT (mayS_t (by omega) (by omega) (by first | exact Or.inl (by assumption) | exact Or.inr (by assumption)) (Or.inl (by omega))) I fr.refl)
    | (have hX := hCX (latT N 0) (by omega) (by omega)
       have ht := hl.2.2 (by omega)
       refine ⟨(12, 0, mj_rf S (b + 4) (latT N 0).toNat, 0), ⟨rfl, xok_t (by have := hX.2.2.1; omega) (by decide) (by decide)⟩, ?_⟩
       have hx181 := hX.1
       (repeat' (first | exact tg_P hS hb (by omega) (by omega) | refine c_names hS hb _ _ _ _ ?_ ?_ ?_ | refine ⟨(21, 0, b + 12, 5), ⟨rfl, okg⟩, ?_⟩ | with_reducible assumption | with_reducible exact rfl | with_reducible exact trivial | (with_reducible (show (_ : Int) ≤ _); omega) | (with_reducible (show (_ : Int) < _); omega) | (with_reducible (show (_ : Nat) < _); omega) | (with_reducible (show (_ : Nat) ≤ _); omega) | with_reducible exact Or.inl rfl | with_reducible exact Or.inr rfl | with_reducible exact Or.inl trivial | with_reducible exact Or.inr trivial | (intro hz; exact absurd hz (by decide)) | (intro hz; exfalso; omega) | refine And.intro ?_ ?_ | intro _))
       rename_i J hJ g0 g1 g2 g3 _
       refine c_worth hS hb N (latT N 0) (g4 s (N (8 + 8 * p + 1)) (N (8 + 8 * p + 0)) day) (by omega) (hTx _ (by omega) (by omega)) (hX.fr hJ (fun a ha => by omega)) ?_ ?_ ?_ (fun K hK => ?_)
       · intro _ j hj0 hj1
         have : j = 0 ∨ j = 1 ∨ j = 2 ∨ j = 3 := by omega
         rcases this with e | e | e | e <;> subst e
         · exact g0
         · exact g1.trans hCP.2.1
         · exact g2.trans hCP.1
         · exact g3
       · intro e
         have := CbX_key (hX.fr hJ (fun a ha => by omega)) ht
         omega
       · intro e
         have := CbX_key (hX.fr hJ (fun a ha => by omega)) ht
         omega
       · have hf : fr (fun a => a = b + 12 ∨ a = b + 13) I K := fr.tr (hJ.mo (fun a q => Or.inl q)) (hK.mo (fun a q => Or.inr q))
         (repeat' (first | with_reducible assumption | with_reducible exact rfl | with_reducible exact trivial | (with_reducible (show (_ : Int) ≤ _); omega) | (with_reducible (show (_ : Int) < _); omega) | (with_reducible (show (_ : Nat) < _); omega) | (with_reducible (show (_ : Nat) ≤ _); omega) | with_reducible exact Or.inl rfl | with_reducible exact Or.inr rfl | with_reducible exact Or.inl trivial | with_reducible exact Or.inr trivial | (intro hz; exact absurd hz (by decide)) | (intro hz; exfalso; omega) | refine And.intro ?_ ?_ | intro _))
         · rename_i q
           refine hF (mayS_f ?_) K hf
           rintro ⟨z1, z2, z3, z4⟩
           rcases z4 with z | z
           · omega
           · exact z q
         · rename_i q
           refine hT (mayS_t (by omega) (by omega) (by first | exact Or.inl (by assumption) | exact Or.inr (by assumption)) (Or.inr q)) K hf)
/-- 19 waitOf -/
theorem c_waitOf {d : Nat} {I : mj_I} {S : mj_S} {Q : mj_Q} (hS : mk_Sh S) {b : Nat} (hb : mB b) {N : Int → Int} (hN : Inv N) (hC : Cb I S b N) (p : Int) (hd : 2 < d) (hp : 0 ≤ p ∧ p < N 2)
    (h : ∀ I', fr (fun a => a = b + 12 ∨ a = b + 13) I I' → Q (some (.inl (waitS N p))) I' S) : mj_C d 19 [.inr b, .inl p] I S Q := by
  have hb61 : b ≤ 61 := by unfold mB at hb; omega
  have hH := hN.1
  have hP := hN.2.1 p hp.1 hp.2
  have hTx := hN.2.2.2.2.2.2
  have hl := latT_b (N := N) hN.1.2.2.2.2.1.1 2
  have hCP := hC.2.1 p hp.1 hp.2
  have hCH := hC.1
  obtain ⟨hCX, -, -, hL0⟩ := hC.2.2.2.2.2.2
  unfold InvH at hH
  unfold InvP at hP
  unfold CbP at hCP
  unfold CbH at hCH
  have okg : xok S (21, 0, b + 12, 5) := (x_F2 hS (xok_b hS hb) (show x_fld 2 b b 15 = some (21, 0, b + 12, 5) from rfl)).2
  unfold waitS at h
  refine x_C false [.inr (2, b, b, 0), .inl p] [] 80 hS ⟨xok_b hS hb, trivial, trivial⟩ ?_
  (repeat' (first | rw [hL0] | exact tg_P hS hb (by omega) (by omega) | refine c_textAt hS hb _ ?_ ?_ ?_ ?_ | refine ⟨(0, 0, 0, 0), ⟨rfl, Or.inl rfl⟩, ?_⟩ | with_reducible assumption | with_reducible exact rfl | with_reducible exact trivial | (with_reducible (show (_ : Int) ≤ _); omega) | (with_reducible (show (_ : Int) < _); omega) | (with_reducible (show (_ : Nat) < _); omega) | (with_reducible (show (_ : Nat) ≤ _); omega) | with_reducible exact Or.inl rfl | with_reducible exact Or.inr rfl | with_reducible exact Or.inl trivial | with_reducible exact Or.inr trivial | (intro hz; exact absurd hz (by decide)) | (intro hz; exfalso; omega) | refine And.intro ?_ ?_ | intro _))
  · have hX := hCX (latT N 2) (by omega) (by omega)
    have ht := hl.2.2 (by omega)
    rw [if_neg (by omega)] at h
    refine ⟨(12, 0, mj_rf S (b + 4) (latT N 2).toNat, 0), ⟨rfl, xok_t (by have := hX.2.2.1; omega) (by decide) (by decide)⟩, ?_⟩
    have hx181 := hX.1
    (repeat' (first | exact tg_P hS hb (by omega) (by omega) | refine c_names hS hb _ _ _ _ ?_ ?_ ?_ | refine ⟨(21, 0, b + 12, 5), ⟨rfl, okg⟩, ?_⟩ | with_reducible assumption | with_reducible exact rfl | with_reducible exact trivial | (with_reducible (show (_ : Int) ≤ _); omega) | (with_reducible (show (_ : Int) < _); omega) | (with_reducible (show (_ : Nat) < _); omega) | (with_reducible (show (_ : Nat) ≤ _); omega) | with_reducible exact Or.inl rfl | with_reducible exact Or.inr rfl | with_reducible exact Or.inl trivial | with_reducible exact Or.inr trivial | (intro hz; exact absurd hz (by decide)) | (intro hz; exfalso; omega) | refine And.intro ?_ ?_ | intro _))
    rename_i J hJ g0 g1 g2 g3 _
    refine c_worth hS hb N (latT N 2) (g4 (N (8 + 8 * p + 1)) (N (8 + 8 * p + 0)) (N 1) 0) (by omega) (hTx _ (by omega) (by omega)) (hX.fr hJ (fun a ha => by omega)) ?_ ?_ ?_ (fun K hK => ?_)
    · intro e
      have := CbX_key (hX.fr hJ (fun a ha => by omega)) ht
      omega
    · intro e
      have := CbX_key (hX.fr hJ (fun a ha => by omega)) ht
      omega
    · exact fun _ => ⟨g1.trans hCP.2.1, g2.trans hCP.1, g3.trans hCH.2.1⟩
    · have hf : fr (fun a => a = b + 12 ∨ a = b + 13) I K := fr.tr (hJ.mo (fun a q => Or.inl q)) (hK.mo (fun a q => Or.inr q))
      (repeat' (first | with_reducible assumption | with_reducible exact rfl | with_reducible exact trivial | (with_reducible (show (_ : Int) ≤ _); omega) | (with_reducible (show (_ : Int) < _); omega) | (with_reducible (show (_ : Nat) < _); omega) | (with_reducible (show (_ : Nat) ≤ _); omega) | with_reducible exact Or.inl rfl | with_reducible exact Or.inr rfl | with_reducible exact Or.inl trivial | with_reducible exact Or.inr trivial | (intro hz; exact absurd hz (by decide)) | (intro hz; exfalso; omega) | refine And.intro ?_ ?_ | intro _))
      exact h K hf
  · rw [if_pos (by omega), ← hCP.2.1] at h
    exact h I fr.refl
/-- 42 costOf -/
theorem c_costOf {d : Nat} {I : mj_I} {S : mj_S} {Q : mj_Q} (hS : mk_Sh S) {b : Nat} (hb : mB b) {N : Int → Int} (hN : Inv N) (hC : Cb I S b N) (p s : Int) (hd : 2 < d) (hp : 0 ≤ p ∧ p < N 2) (hs : 0 ≤ s ∧ s < N 3)
    (h : ∀ I', fr (fun a => a = b + 12 ∨ a = b + 13) I I' → Q (some (.inl (costS N p s))) I' S) : mj_C d 42 [.inr b, .inl p, .inl s] I S Q := by
  have hb61 : b ≤ 61 := by unfold mB at hb; omega
  have hH := hN.1
  have hP := hN.2.1 p hp.1 hp.2
  have hSt := hN.2.2.1 s hs.1 hs.2
  have hTx := hN.2.2.2.2.2.2
  have hl := latT_b (N := N) hN.1.2.2.2.2.1.1 1
  have hCP := hC.2.1 p hp.1 hp.2
  have hCS := hC.2.2.1 s hs.1 hs.2
  have hCH := hC.1
  obtain ⟨hCX, -, hL0, -⟩ := hC.2.2.2.2.2.2
  unfold InvH at hH
  unfold InvP at hP
  unfold InvS at hSt
  unfold CbP at hCP
  unfold CbS at hCS
  unfold CbH at hCH
  have hmb := mul_b (a := N (64 + 4 * s + 2)) (b := N (8 + 8 * p + 1)) (by omega) (by omega)
  have e1 : I (b + 15 + p.toNat) 1 = N (8 + 8 * p + 1) := hCP.2.1
  have e2 : I (b + 22 + s.toNat) 2 = N (64 + 4 * s + 2) := hCS.2.2.1
  have okg : xok S (21, 0, b + 12, 5) := (x_F2 hS (xok_b hS hb) (show x_fld 2 b b 15 = some (21, 0, b + 12, 5) from rfl)).2
  refine x_C false [.inr (2, b, b, 0), .inl p, .inl s] [] 80 hS ⟨xok_b hS hb, trivial, trivial, trivial⟩ ?_
  (repeat' (first | rw [hL0] | rw [e1] | rw [e2] | exact tg_P hS hb (by omega) (by omega) | refine c_textAt hS hb _ ?_ ?_ ?_ ?_ | refine ⟨(0, 0, 0, 0), ⟨rfl, Or.inl rfl⟩, ?_⟩ | with_reducible assumption | with_reducible exact rfl | with_reducible exact trivial | (with_reducible (show (_ : Int) ≤ _); omega) | (with_reducible (show (_ : Int) < _); omega) | (with_reducible (show (_ : Nat) < _); omega) | (with_reducible (show (_ : Nat) ≤ _); omega) | with_reducible exact Or.inl rfl | with_reducible exact Or.inr rfl | with_reducible exact Or.inl trivial | with_reducible exact Or.inr trivial | (intro hz; exact absurd hz (by decide)) | (intro hz; exfalso; omega) | refine And.intro ?_ ?_ | intro _))
  · have hX := hCX (latT N 1) (by omega) (by omega)
    have ht := hl.2.2 (by omega)
    refine ⟨(12, 0, mj_rf S (b + 4) (latT N 1).toNat, 0), ⟨rfl, xok_t (by have := hX.2.2.1; omega) (by decide) (by decide)⟩, ?_⟩
    have hx181 := hX.1
    (repeat' (first | rw [e2] | exact tg_P hS hb (by omega) (by omega) | refine c_names hS hb _ _ _ _ ?_ ?_ ?_ | refine ⟨(21, 0, b + 12, 5), ⟨rfl, okg⟩, ?_⟩ | with_reducible assumption | with_reducible exact rfl | with_reducible exact trivial | (with_reducible (show (_ : Int) ≤ _); omega) | (with_reducible (show (_ : Int) < _); omega) | (with_reducible (show (_ : Nat) < _); omega) | (with_reducible (show (_ : Nat) ≤ _); omega) | with_reducible exact Or.inl rfl | with_reducible exact Or.inr rfl | with_reducible exact Or.inl trivial | with_reducible exact Or.inr trivial | (intro hz; exact absurd hz (by decide)) | (intro hz; exfalso; omega) | refine And.intro ?_ ?_ | intro _))
    rename_i J hJ g0 g1 g2 g3 g5
    refine c_worth hS hb N (latT N 1) (g4 (N (8 + 8 * p + 1)) (N (8 + 8 * p + 0)) (N (64 + 4 * s + 2)) 0) (by omega) (hTx _ (by omega) (by omega)) (hX.fr hJ (fun a ha => by omega)) ?_ ?_ ?_ (fun K hK => ?_)
    · intro e
      have := CbX_key (hX.fr hJ (fun a ha => by omega)) ht
      omega
    · exact fun _ => ⟨g1.trans hCP.2.1, g2.trans hCP.1, g5⟩
    · intro e
      have := CbX_key (hX.fr hJ (fun a ha => by omega)) ht
      omega
    · have hf : fr (fun a => a = b + 12 ∨ a = b + 13) I K := fr.tr (hJ.mo (fun a q => Or.inl q)) (hK.mo (fun a q => Or.inr q))
      have e : costV N p s = evT N (latT N 1) (g4 (N (8 + 8 * p + 1)) (N (8 + 8 * p + 0)) (N (64 + 4 * s + 2)) 0) := if_neg (by omega)
      have h := h K hf
      unfold costS at h
      rw [e] at h
      have e9 : (if evT N (latT N 1) (g4 (N (8 + 8 * p + 1)) (N (8 + 8 * p + 0)) (N (64 + 4 * s + 2)) 0) < 0 then 0 else if 9999 < evT N (latT N 1) (g4 (N (8 + 8 * p + 1)) (N (8 + 8 * p + 0)) (N (64 + 4 * s + 2)) 0) then 9999 else evT N (latT N 1) (g4 (N (8 + 8 * p + 1)) (N (8 + 8 * p + 0)) (N (64 + 4 * s + 2)) 0)) = max 0 (min 9999 (evT N (latT N 1) (g4 (N (8 + 8 * p + 1)) (N (8 + 8 * p + 0)) (N (64 + 4 * s + 2)) 0))) := by
        split
        · omega
        · split <;> omega
      rw [e9] at h
      (repeat' (first | with_reducible assumption | with_reducible exact rfl | with_reducible exact trivial | (with_reducible (show (_ : Int) ≤ _); omega) | (with_reducible (show (_ : Int) < _); omega) | (with_reducible (show (_ : Nat) < _); omega) | (with_reducible (show (_ : Nat) ≤ _); omega) | with_reducible exact Or.inl rfl | with_reducible exact Or.inr rfl | with_reducible exact Or.inl trivial | with_reducible exact Or.inr trivial | (intro hz; exact absurd hz (by decide)) | (intro hz; exfalso; omega) | refine And.intro ?_ ?_ | intro _))
      exact h
  · have e : costV N p s = N (64 + 4 * s + 2) * (N (8 + 8 * p + 1) + 1) := if_pos (by omega)
    unfold costS at h
    rw [e, if_neg (by omega), if_neg (by omega)] at h
    exact h I fr.refl
