/-! rows and books behind a change -/
theorem InvP_s {N N' : Int → Int} {p : Int} (h : InvP N p) (e : ∀ k, 0 ≤ k → k < 8 → N' (8 + 8 * p + k) = N (8 + 8 * p + k)) (h2 : N 2 ≤ N' 2) : InvP N' p := by
  unfold InvP at h ⊢
  rw [e 0 (by decide) (by decide), e 1 (by decide) (by decide), e 2 (by decide) (by decide), e 3 (by decide) (by decide), e 4 (by decide) (by decide), e 5 (by decide) (by decide), e 6 (by decide) (by decide), e 7 (by decide) (by decide)]
  omega
theorem InvS_s {N N' : Int → Int} {p : Int} (h : InvS N p) (e : ∀ k, 0 ≤ k → k < 4 → N' (64 + 4 * p + k) = N (64 + 4 * p + k)) (h2 : N 2 ≤ N' 2) : InvS N' p := by
  unfold InvS at h ⊢
  rw [e 0 (by decide) (by decide), e 1 (by decide) (by decide), e 2 (by decide) (by decide), e 3 (by decide) (by decide)]
  omega
theorem InvR_s {N N' : Int → Int} {p : Int} (h : InvR N p) (e : ∀ k, 0 ≤ k → k < 4 → N' (88 + 4 * p + k) = N (88 + 4 * p + k)) (h2 : N 3 ≤ N' 3) : InvR N' p := by
  unfold InvR at h ⊢
  rw [e 0 (by decide) (by decide), e 1 (by decide) (by decide), e 2 (by decide) (by decide), e 3 (by decide) (by decide)]
  omega
theorem InvO_s {N N' : Int → Int} {p : Int} (h : InvO N p) (e0 : N' (136 + 2 * p) = N (136 + 2 * p)) (e1 : N' (136 + 2 * p + 1) = N (136 + 2 * p + 1)) (h2 : N 2 ≤ N' 2) : InvO N' p := by
  unfold InvO at h ⊢
  rw [e0, e1]
  omega
theorem InvL_s {N N' : Int → Int} {p : Int} (h : InvL N p) (e : ∀ k, 0 ≤ k → k < 3 → N' (148 + 3 * p + k) = N (148 + 3 * p + k)) (h2 : N 2 ≤ N' 2) (h3 : N 3 ≤ N' 3) : InvL N' p := by
  unfold InvL at h ⊢
  rw [e 0 (by decide) (by decide), e 1 (by decide) (by decide), e 2 (by decide) (by decide)]
  omega
theorem InvT_s {N N' : Int → Int} {t : Int} (h : InvT N t) (ht : 0 ≤ t) (e : ∀ k, 238 ≤ k → N' k = N k) : InvT N' t := by
  obtain ⟨k, n, h1, h2, h3, h4, h5⟩ := h
  have hw : ∀ j : Nat, wds N' t j = wds N t j := fun j => e _ (by omega)
  have hd : ∀ j : Nat, dpt (wds N' t) j = dpt (wds N t) j := by
    intro j
    induction j with
    | zero => rfl
    | succ j ih => unfold dpt; rw [ih, hw j]
  refine ⟨k, n, h1, by rw [e _ (by omega)]; exact h2, ⟨h3.1, h3.2.1, by rw [hd]; exact h3.2.2.1, fun j hj => by rw [hw, hd]; exact h3.2.2.2 j hj⟩, by rw [e _ (by omega)]; exact h4, fun q j hj => by rw [hw]; exact h5 q j hj⟩
theorem latT_s {N N' : Int → Int} (h5 : N' 5 = N 5) (e : ∀ k, 238 ≤ k → N' k = N k) (key : Int) : latT N' key = latT N key := by
  have : ∀ n : Nat, lat N' key n = lat N key n := by
    intro n
    induction n with
    | zero => rfl
    | succ n ih => unfold lat; rw [ih, e _ (by omega)]
  unfold latT
  rw [h5, this]
theorem CbP_s {I J : mj_I} {b : Nat} {N N' : Int → Int} {p : Int} (h : CbP I b N p) (ej : J (b + 15 + p.toNat) = I (b + 15 + p.toNat)) (e : ∀ k, 0 ≤ k → k < 8 → N' (8 + 8 * p + k) = N (8 + 8 * p + k)) : CbP J b N' p := by
  unfold CbP at h ⊢
  rw [ej, e 0 (by decide) (by decide), e 1 (by decide) (by decide), e 2 (by decide) (by decide), e 3 (by decide) (by decide), e 4 (by decide) (by decide), e 5 (by decide) (by decide), e 6 (by decide) (by decide), e 7 (by decide) (by decide)]
  exact h
theorem CbS_s {I J : mj_I} {b : Nat} {N N' : Int → Int} {p : Int} (h : CbS I b N p) (ej : J (b + 22 + p.toNat) = I (b + 22 + p.toNat)) (e : ∀ k, 0 ≤ k → k < 4 → N' (64 + 4 * p + k) = N (64 + 4 * p + k)) : CbS J b N' p := by
  unfold CbS at h ⊢
  rw [ej, e 0 (by decide) (by decide), e 1 (by decide) (by decide), e 2 (by decide) (by decide), e 3 (by decide) (by decide)]
  exact h
theorem CbR_s {I J : mj_I} {b : Nat} {N N' : Int → Int} {p : Int} (h : CbR I b N p) (ej : J (b + 28 + p.toNat) = I (b + 28 + p.toNat)) (e : ∀ k, 0 ≤ k → k < 4 → N' (88 + 4 * p + k) = N (88 + 4 * p + k)) : CbR J b N' p := by
  unfold CbR at h ⊢
  rw [ej, e 0 (by decide) (by decide), e 1 (by decide) (by decide), e 2 (by decide) (by decide), e 3 (by decide) (by decide)]
  exact h
theorem CbO_s {I J : mj_I} {b : Nat} {N N' : Int → Int} {p : Int} (h : CbO I b N p) (e6 : rd J (b + 6) p = rd I (b + 6) p) (e7 : rd J (b + 7) p = rd I (b + 7) p) (e0 : N' (136 + 2 * p) = N (136 + 2 * p)) (e1 : N' (136 + 2 * p + 1) = N (136 + 2 * p + 1)) : CbO J b N' p := by
  unfold CbO at h ⊢
  rw [e6, e7, e0, e1]
  exact h
theorem CbL_s {I J : mj_I} {b : Nat} {N N' : Int → Int} {p : Int} (h : CbL I b N p) (e9 : rd J (b + 9) p = rd I (b + 9) p) (e10 : rd J (b + 10) p = rd I (b + 10) p) (e11 : rd J (b + 11) p = rd I (b + 11) p) (e : ∀ k, 0 ≤ k → k < 3 → N' (148 + 3 * p + k) = N (148 + 3 * p + k)) : CbL J b N' p := by
  unfold CbL at h ⊢
  rw [e9, e10, e11, e 0 (by decide) (by decide), e 1 (by decide) (by decide), e 2 (by decide) (by decide)]
  exact h
theorem CbX_s {I J : mj_I} {S : mj_S} {x : Nat} {N N' : Int → Int} {t : Int} (h : CbX I S x N t) (ht : 0 ≤ t) (ej : ∀ a, 181 ≤ a → J a = I a) (e : ∀ k, 238 ≤ k → N' k = N k) : CbX J S x N' t := by
  obtain ⟨a1, a2, a3, a4, a5, a6, k, n, a7, a8, a9, a10, a11, a12⟩ := h
  refine ⟨a1, a2, a3, a4, a5, a6, k, n, a7, a8, by rw [ej _ a1]; exact a9, by rw [e _ (by omega)]; exact a10, by rw [ej _ a1, e _ (by omega)]; exact a11, fun j h0 h1 => ?_⟩
  rw [e _ (by omega), show rd J (mj_rf S x 2) j = rd I (mj_rf S x 2) j by unfold rd; rw [ej _ a4]]
  exact a12 j h0 h1
/-- all but the texts may have changed -/
theorem Inv_u {N N' : Int → Int} (h : Inv N) (hH : InvH N') (h5 : N' 5 = N 5) (e : ∀ k, 238 ≤ k → N' k = N k) (hP : ∀ p, 0 ≤ p → p < N' 2 → InvP N' p) (hS : ∀ p, 0 ≤ p → p < N' 3 → InvS N' p) (hR : ∀ p, 0 ≤ p → p < N' 4 → InvR N' p) (hO : ∀ p, 0 ≤ p → p < N' 6 → InvO N' p) (hL : ∀ p, 0 ≤ p → p < N' 7 → InvL N' p) : Inv N' :=
  ⟨hH, hP, hS, hR, hO, hL, fun t h0 h1 => InvT_s (h.2.2.2.2.2.2 t h0 (by omega)) h0 e⟩
theorem Cb_u {I J : mj_I} {S : mj_S} {b : Nat} {N N' : Int → Int} (h : Cb I S b N) (ej : ∀ a, 181 ≤ a → J a = I a) (e5 : J (b + 5) = I (b + 5)) (hH : CbH J b N') (h5 : N' 5 = N 5) (e : ∀ k, 238 ≤ k → N' k = N k) (hP : ∀ p, 0 ≤ p → p < N' 2 → CbP J b N' p) (hS : ∀ p, 0 ≤ p → p < N' 3 → CbS J b N' p) (hR : ∀ p, 0 ≤ p → p < N' 4 → CbR J b N' p) (hO : ∀ p, 0 ≤ p → p < N' 6 → CbO J b N' p) (hL : ∀ p, 0 ≤ p → p < N' 7 → CbL J b N' p) : Cb J S b N' := by
  have er : rd J (b + 5) = rd I (b + 5) := by funext k; unfold rd; rw [e5]
  refine ⟨hH, hP, hS, hR, hO, hL, fun t h0 h1 => CbX_s (h.2.2.2.2.2.2.1 t h0 (by omega)) h0 ej e, ?_⟩
  rw [er, latT_s h5 e, latT_s h5 e, latT_s h5 e]
  exact h.2.2.2.2.2.2.2
/-- the cells of the first book, its row, the reference's counters -/
def mtb (a : Nat) : Prop := (21 ≤ a ∧ a ≤ 60) ∨ a = 150 ∨ a = 151 ∨ scr a
theorem Rel_mut {L : Nat} {xs : Nat → Int32} {n : Nat} {I J : mj_I} {S : mj_S} (hn : n < 64) (h : Rel L xs n I S) (hf : fr mtb I J) (h150 : ∀ k, k ≠ 4 → J 150 k = I 150 k) (hch : I 150 4 ≤ J 150 4 ∧ J 150 4 ≤ I 150 4 + 10) (hA : Inv (rd J 151)) (hB : Cb J S 21 (rd J 151))
    (hc : J 150 4 = I 150 4 → allW (rd J 151) (abB (rd J 151) z0 (I 150 26) 0) = allW (rd I 151) (abB (rd I 151) z0 (I 150 26) 0) ∧ ∀ M, CaOK (rd I 151) (allW (rd I 151) (abB (rd I 151) z0 (I 150 26) 0)) M → CaOK (rd J 151) (allW (rd I 151) (abB (rd I 151) z0 (I 150 26) 0)) M) : Rel L xs (n + 1) J S := by
  obtain ⟨hS, hO, hAA, hI, hT, hW, hSh, hSl, hM, hC, hBd⟩ := h
  have e : ∀ {a : Nat}, ¬ mtb a → J a = I a := fun q => hf _ q
  have er : ∀ {a : Nat}, ¬ mtb a → rd J a = rd I a := fun q => hf.r q
  have e20 : J 20 = I 20 := e (by unfold mtb scr; omega)
  have e115 : J 115 = I 115 := e (by unfold mtb scr; omega)
  have r152 : rd J 152 = rd I 152 := er (by unfold mtb scr; omega)
  refine ⟨hS, ⟨fun a ha => ?_, hO.2.1, ?_⟩, ⟨hA, hB⟩, ⟨?_, ?_, fun q => ?_⟩, ?_, ?_, fun s h0 h4 => ?_, fun k h0 h5 => ?_, ?_, ?_, ?_⟩
  · rw [e (by unfold mtb scr; omega)]; exact hO.1 a ha
  · rw [er (a := 157) (by unfold mtb scr; omega), er (a := 158) (by unfold mtb scr; omega)]; exact hO.2.2
  · rw [e20]; exact hI.1
  · rw [e20, h150 3 (by decide)]; exact hI.2.1
  · rw [e20] at q
    rw [r152]
    exact ⟨(hI.2.2 q).1, (hI.2.2 q).2.fr (hI.2.2 q).1.1 hf (fun a q => by unfold bc at q; unfold mtb scr; omega)⟩
  · unfold RT at hT ⊢
    rw [e115, h150 8 (by decide), er (a := 116) (by unfold mtb scr; omega), er (a := 156) (by unfold mtb scr; omega)]
    exact hT
  · unfold RW at hW ⊢
    rw [e20, h150 47 (by decide), er (a := 120) (by unfold mtb scr; omega), er (a := 180) (by unfold mtb scr; omega)]
    exact hW
  · have q := hSh s h0 h4
    unfold RS1 at q ⊢
    rw [e (a := 122 + 2 * s.toNat) (by unfold mtb scr; omega), er (a := 122 + 2 * s.toNat + 1) (by unfold mtb scr; omega), er (a := 172) (by unfold mtb scr; omega), er (a := 173) (by unfold mtb scr; omega), er (a := 174) (by unfold mtb scr; omega)]
    exact q
  · have q := hSl k h0 h5
    unfold RL1 at q ⊢
    rw [e (a := 130 + 4 * k.toNat) (by unfold mtb scr; omega), e (a := 130 + 4 * k.toNat + 1) (by unfold mtb scr; omega), e (a := 130 + 4 * k.toNat + 2) (by unfold mtb scr; omega), er (a := 130 + 4 * k.toNat + 2 + 1) (by unfold mtb scr; omega), er (a := 175) (by unfold mtb scr; omega), er (a := 176) (by unfold mtb scr; omega), er (a := 177) (by unfold mtb scr; omega), er (a := 178) (by unfold mtb scr; omega)]
    exact q
  · unfold RM at hM ⊢
    rw [er (a := 154) (by unfold mtb scr; omega)]
    exact hM
  · intro q
    unfold RBd at hBd
    rw [h150 27 (by decide)] at q
    have q2 : J 150 4 = I 150 4 := by omega
    obtain ⟨c1, c2⟩ := hc q2
    rw [h150 26 (by decide), c1]
    exact (c2 I (hC (by omega))).fr (h150 28 (by decide)) (h150 31 (by decide)) (h150 32 (by decide)) (er (by unfold mtb scr; omega)) (er (by unfold mtb scr; omega)) (er (by unfold mtb scr; omega)) (er (by unfold mtb scr; omega))
  · unfold RBd at hBd ⊢
    rw [h150 27 (by decide)]
    omega
theorem mu_o {I : mj_I} {a b k : Nat} {x : Int} (h : ¬ a = b) : mj_up I b k x a = I a := funext (fun j => if_neg (fun (q : a = b ∧ j = k) => h q.1))
theorem up_o {I : mj_I} {a b : Nat} {j x : Int} (h : ¬ a = b) : up I b j x a = I a := funext (fun i => if_neg (fun (q : a = b ∧ i = j.toNat) => h q.1))
def bk (a : Nat) : Prop := (21 ≤ a ∧ a ≤ 60) ∨ scr a
def mk5 (a : Nat) : Prop := a = 150 ∨ a = 151 ∨ scr a
/-- calls that change the book, and are counted -/
theorem pair_mu {L : Nat} {xs : Nat → Int32} {n xf mf : Nat} {as : List mj_V} {I : mj_I} {S : mj_S} (hn : n < 64) (hR : Rel L xs n I S) (v : Int) (N' : Int → Int) (hI : Inv N') (c : Int) (hc0 : 1 ≤ c ∧ c ≤ 10)
    (hc : ∀ Q : mj_Q, (∀ K, fr bk I K → Cb K S 21 N' → Q (some (.inl v)) K S) → mj_C 400 xf (.inr 20 :: as) I S Q)
    (hm : ∀ (K : mj_I) (Q : mj_Q), rd K 151 = rd I 151 → K 150 = I 150 → (∀ a, 61 ≤ a → ¬ scr a → K a = I a) → (∀ J, fr mk5 K J → rd J 151 = N' → (∀ k, k ≠ 4 → J 150 k = K 150 k) → J 150 4 = K 150 4 + c → Q (some (.inl v)) J S) → mj_C 400 mf (.inr 150 :: as) K S Q) :
    mj_C 400 xf (.inr 20 :: as) I S (fun r I' S' => ∃ v, r = some (.inl v) ∧ (I' 1 = I 1 ∧ S'.2.1 1 = S.2.1 1 ∧ S'.2.1 150 = S.2.1 150) ∧ mj_C 400 mf (.inr 150 :: as) I' S' (fun r' I'' S'' => r' = some (.inl v) ∧ Rel L xs (n + 1) I'' S'')) := by
  refine hc _ (fun K hK hCK => ⟨v, rfl, ⟨hK 1 (by unfold bk scr; omega), rfl, rfl⟩, ?_⟩)
  refine hm K _ (hK.r (by unfold bk scr; omega)) (hK 150 (by unfold bk scr; omega)) (fun a h1 h2 => hK a (by unfold scr at h2; unfold bk scr; omega)) (fun J hJ h1 h2 h3 => ⟨rfl, ?_⟩)
  have hf : fr mtb I J := (hK.mo (fun a q => by unfold bk scr at q; unfold mtb scr; omega)).tr (hJ.mo (fun a q => by unfold mk5 scr at q; unfold mtb scr; omega))
  have e150 : K 150 = I 150 := hK 150 (by unfold bk scr; omega)
  refine Rel_mut hn hR hf (fun k hk => by rw [h2 k hk, e150]) (by rw [h3, e150]; omega) (by rw [h1]; exact hI) ?_ (fun q => by rw [h3, e150] at q; omega)
  rw [h1]
  exact hCK.fr hI.1 hJ (fun a q => by unfold bc at q; unfold mk5 scr; omega)
/-- a call that changes nothing -/
theorem pair_no {L : Nat} {xs : Nat → Int32} {n xf mf : Nat} {as : List mj_V} {I : mj_I} {S : mj_S} (hn : n < 64) (hR : Rel L xs n I S) (v : Int)
    (hc : ∀ Q : mj_Q, Q (some (.inl v)) I S → mj_C 400 xf (.inr 20 :: as) I S Q) (hm : ∀ Q : mj_Q, Q (some (.inl v)) I S → mj_C 400 mf (.inr 150 :: as) I S Q) :
    mj_C 400 xf (.inr 20 :: as) I S (fun r I' S' => ∃ v, r = some (.inl v) ∧ (I' 1 = I 1 ∧ S'.2.1 1 = S.2.1 1 ∧ S'.2.1 150 = S.2.1 150) ∧ mj_C 400 mf (.inr 150 :: as) I' S' (fun r' I'' S'' => r' = some (.inl v) ∧ Rel L xs (n + 1) I'' S'')) :=
  hc _ ⟨v, rfl, ⟨rfl, rfl, rfl⟩, hm _ ⟨rfl, hR.up hn⟩⟩
