/-! teach: the pure side -/
/-- rows that agree on all that rules depend on -/
def agk (N N' : Int → Int) : Prop := N' 2 = N 2 ∧ N' 3 = N 3 ∧ N' 4 = N 4 ∧ (∀ k, 88 ≤ k → k < 136 → N' k = N k) ∧ ∀ p, 0 ≤ p → p < 7 → N' (8 + 8 * p + 1) = N (8 + 8 * p + 1) ∧ N' (8 + 8 * p + 2) = N (8 + 8 * p + 2)
theorem agk_kept {N N' W : Int → Int} (hN : Inv N) (h : agk N N') {r : Int} (hr : 0 ≤ r ∧ r < N 4) (hW : ∀ q, -1 ≤ W q ∧ W q < N 2) : keptB N' W r = keptB N W r := by
  have hH := hN.1
  unfold InvH at hH
  have k0 := h.2.2.2.1 (88 + 4 * r + 0) (by omega) (by omega)
  have k1 := h.2.2.2.1 (88 + 4 * r + 1) (by omega) (by omega)
  have k2 := h.2.2.2.1 (88 + 4 * r + 2) (by omega) (by omega)
  have k3 := h.2.2.2.1 (88 + 4 * r + 3) (by omega) (by omega)
  unfold keptB lo1 hi1
  rw [k0, k1, k2, k3]
  have q1 := hW (N (88 + 4 * r + 1))
  have q2 := hW (N (88 + 4 * r + 2))
  split
  · rfl
  · rw [decide_eq_decide]
    by_cases z1 : W (N (88 + 4 * r + 1)) < 0
    · simp only [z1, true_or, or_true]
    · by_cases z2 : W (N (88 + 4 * r + 2)) < 0
      · simp only [z2, true_or, or_true]
      · have a := h.2.2.2.2 (W (N (88 + 4 * r + 1))) (by omega) (by omega)
        have b := h.2.2.2.2 (W (N (88 + 4 * r + 2))) (by omega) (by omega)
        unfold okP
        rw [a.1, a.2, b.1, b.2]
theorem agk_fit {N N' W : Int → Int} (hN : Inv N) (h : agk N N') (hW : ∀ q, -1 ≤ W q ∧ W q < N 2) (s : Int) : fitB N' W s = fitB N W s := by
  have hH := hN.1
  unfold InvH at hH
  have key : ∀ r : Nat, (r : Int) ≤ N 4 → fitN N' W s r = fitN N W s r := by
    intro r
    induction r with
    | zero => exact fun _ => rfl
    | succ r ih =>
      intro hr
      unfold fitN
      rw [ih (by omega), agk_kept hN h (by omega) hW]
      unfold hi1
      rw [h.2.2.2.1 _ (by omega) (by omega), h.2.2.2.1 _ (by omega) (by omega)]
  unfold fitB
  rw [h.2.2.1]
  exact key _ (by omega)
theorem agk_wl {N N' : Int → Int} {B B' : Int → Int → Bool} (hN : Inv N) (h : agk N N') (hB : ∀ s p, 0 ≤ s → s < N 3 → 0 ≤ p → p < N 2 → B' s p = B s p) : ∀ (k : Nat) (s : Int) (W : Int → Int), 0 ≤ s → s + k ≤ N 3 → (∀ q, -1 ≤ W q ∧ W q < N 2) → wl N' B' k s W = wl N B k s W
  | 0, _, _, _, _, _ => rfl
  | k + 1, s, W, h0, h1, hW => by
    have hH := hN.1
    unfold InvH at hH
    unfold wl
    rw [h.1]
    refine wlp_c (fun q q0 q1 => ?_)
    rw [hB s q h0 (by omega) q0 (by omega), agk_fit hN h (ru_b hW (by omega)) s, agk_wl hN h hB k (s + 1) _ (by omega) (by omega) (ru_b hW (by omega))]
/-- the papers that the offers of a set add -/
def moN (N : Int → Int) (x : Int) : Nat → Int → Int
  | 0 => fun _ => 0
  | k + 1 => if mt x k = true then ru (moN N x k) (N (136 + 2 * (k : Int))) (mj_or (moN N x k (N (136 + 2 * (k : Int)))) (mj_shl 1 (N (136 + 2 * (k : Int) + 1)))) else moN N x k
/-- the row with these papers -/
def teN (N : Int → Int) (x : Int) : Nat → Int → Int
  | 0 => N
  | k + 1 => if mt x k = true then ru (teN N x k) (8 + 8 * N (136 + 2 * (k : Int)) + 3) (pset (teN N x k (8 + 8 * N (136 + 2 * (k : Int)) + 3)) (N (136 + 2 * (k : Int) + 1)) 1) else teN N x k
theorem teN_o {N : Int → Int} (hN : Inv N) {x : Int} : ∀ (k : Nat) (j : Int), (k : Int) ≤ N 6 → (∀ p, 0 ≤ p → p < 7 → j ≠ 8 + 8 * p + 3) → teN N x k j = N j
  | 0, _, _, _ => rfl
  | k + 1, j, hk, h => by
    have hO := hN.2.2.2.2.1 k (by omega) (by omega)
    have hH := hN.1
    unfold InvH at hH
    unfold InvO at hO
    unfold teN
    split
    · rw [ru_n (h _ (by omega) (by omega))]; exact teN_o hN k j (by omega) h
    · exact teN_o hN k j (by omega) h
theorem teN_m {N : Int → Int} {x : Int} : ∀ (k : Nat) (p : Int) (i : Nat), mt (teN N x k (8 + 8 * p + 3)) i = (mt (N (8 + 8 * p + 3)) i || mt (moN N x k p) i)
  | 0, p, i => by
    show mt (N (8 + 8 * p + 3)) i = (mt (N (8 + 8 * p + 3)) i || mt 0 i)
    rw [mt_0, Bool.or_false]
  | k + 1, p, i => by
    have ih := teN_m (N := N) (x := x) k p i
    unfold teN moN
    split
    · by_cases e : p = N (136 + 2 * (k : Int))
      · rw [← e, ru_s, ru_s]
        unfold pset
        rw [if_neg (by decide), mt_or, mt_or, ih, Bool.or_assoc]
      · rw [ru_n (by omega), ru_n e]
        exact ih
    · exact ih
theorem te_may {N : Int → Int} (hN : Inv N) {x : Int} {k : Nat} (hk : (k : Int) ≤ N 6) {p s d : Int} (hp : 0 ≤ p ∧ p < N 2) (hs : 0 ≤ s ∧ s < N 3) : mayS (teN N x k) z0 p s d = mayS N (moN N x k) p s d := by
  have hH := hN.1
  have hP := hN.2.1 p hp.1 hp.2
  unfold InvH at hH
  unfold InvP at hP
  have e : ∀ j, (∀ p, 0 ≤ p → p < 7 → j ≠ 8 + 8 * p + 3) → teN N x k j = N j := fun j hj => teN_o hN k j hk hj
  have hl : latT (teN N x k) 0 = latT N 0 := latT_s (e 5 (by omega)) (fun k q => e k (by omega)) 0
  have ep : ∀ r q, pap1 (teN N x k) z0 r q = pap1 N (moN N x k) r q := by
    intro r q
    rw [pap0, teN_m]
    unfold pap1
    rw [mt_or]
  have e6 := e (8 + 8 * p + 6) (by omega)
  have ea : ∀ r, awy (teN N x k) r d ↔ awy N r d := by intro r; unfold awy; rw [e (8 + 8 * r + 4) (by omega), e (8 + 8 * r + 5) (by omega)]
  have epp : ∀ q, papS (teN N x k) z0 p q d ↔ papS N (moN N x k) p q d := by
    intro q
    unfold papS
    rw [ep, e6, e (8 + 8 * p + 7) (by omega), ea, ep]
  unfold mayS
  rw [decide_eq_decide, ea, e (64 + 4 * s + 1) (by omega), e (8 + 8 * p + 1) (by omega), e (64 + 4 * s + 0) (by omega), e (8 + 8 * p + 0) (by omega), hl, epp]
  by_cases hl0 : latT N 0 < 0
  · simp only [hl0, true_or]
  · rw [evT_s (by omega) (fun k q => e k (by omega))]
theorem te_all {N : Int → Int} (hN : Inv N) {x : Int} {k : Nat} (hk : (k : Int) ≤ N 6) (day mis : Int) : allW (teN N x k) (abB (teN N x k) z0 day mis) = allW N (abB N (moN N x k) day mis) := by
  have hH := hN.1
  unfold InvH at hH
  have e : ∀ j, (∀ p, 0 ≤ p → p < 7 → j ≠ 8 + 8 * p + 3) → teN N x k j = N j := fun j hj => teN_o hN k j hk hj
  unfold allW
  rw [e 3 (by omega)]
  refine agk_wl hN ⟨e 2 (by omega), e 3 (by omega), e 4 (by omega), fun k h0 h1 => e k (by omega), fun p p0 p1 => ⟨e _ (by omega), e _ (by omega)⟩⟩ (fun s p s0 s1 p0 p1 => ?_) _ 0 nb (by omega) (by omega) (nb_b (by omega))
  unfold abB
  rw [e (64 + 4 * s + 3) (by omega), te_may hN hk ⟨p0, p1⟩ ⟨s0, s1⟩]
theorem te_fbr {N : Int → Int} (hN : Inv N) {x : Int} {k : Nat} (hk : (k : Int) ≤ N 6) {day n : Int} : ∀ (m j : Nat), fbr (teN N x k) z0 day n m j = fbr N (moN N x k) day n m j
  | 0, _ => rfl
  | m + 1, j => by
    unfold fbr
    rw [te_all hN hk, te_fbr hN hk m (j + 1)]
/-- rows of further papers that agree -/
theorem mayS_MM {N M M' : Int → Int} (hN : Inv N) (hM : ∀ p, 0 ≤ p → p < 7 → M p = M' p) {p s d : Int} (hp : 0 ≤ p ∧ p < N 2) : mayS N M p s d = mayS N M' p s d := by
  have hH := hN.1
  have hP := hN.2.1 p hp.1 hp.2
  unfold InvH at hH
  unfold InvP at hP
  have e1 : ∀ q, pap1 N M p q = pap1 N M' p q := fun q => by unfold pap1; rw [hM p (by omega) (by omega)]
  have e2 : ∀ q, papS N M p q d ↔ papS N M' p q d := by
    intro q
    by_cases hs : 0 ≤ N (8 + 8 * p + 6)
    · have e3 : pap1 N M (N (8 + 8 * p + 6)) q = pap1 N M' (N (8 + 8 * p + 6)) q := by unfold pap1; rw [hM _ hs (by omega)]
      unfold papS
      rw [e1, e3]
    · unfold papS
      rw [e1]
      exact ⟨fun z => z.elim Or.inl (fun z => absurd z.1 hs), fun z => z.elim Or.inl (fun z => absurd z.1 hs)⟩
  unfold mayS
  rw [decide_eq_decide, e2]
theorem fbr_MM {N M M' : Int → Int} (hN : Inv N) (hM : ∀ p, 0 ≤ p → p < 7 → M p = M' p) {day n : Int} : ∀ (m k : Nat), fbr N M day n m k = fbr N M' day n m k
  | 0, _ => rfl
  | m + 1, k => by
    have hH := hN.1
    unfold InvH at hH
    have ea : allW N (abB N M day k) = allW N (abB N M' day k) := by
      unfold allW
      refine agr_wl hN (fun _ _ => rfl) (fun s p s0 s1 p0 p1 => ?_) _ 0 nb (by omega) (by omega) (nb_b (by omega))
      unfold abB
      rw [mayS_MM hN hM ⟨p0, p1⟩]
    unfold fbr
    rw [ea, fbr_MM hN hM m (k + 1)]
theorem moN_R {N : Int → Int} {x : Int} : ∀ (k : Nat) (p : Int), mj_R (moN N x k p)
  | 0, _ => by show mj_R 0; unfold mj_R; omega
  | k + 1, p => by
    unfold moN
    split
    · by_cases e : p = N (136 + 2 * (k : Int))
      · rw [e, ru_s]; exact mj_or_R _ _
      · rw [ru_n e]; exact moN_R k p
    · exact moN_R k p
/-- the offers of a set are enough -/
abbrev tpP (N : Int → Int) (x : Nat) : Prop := fbr N (moN N x (N 6).toNat) (N 1) 1 (sets N) 0 < 0
def teR (N : Int → Int) : Nat → Nat → Int → Int
  | 0, _, b => b
  | m + 1, k, b => teR N m (k + 1) (if (b < 0 ∨ pc7 k < pc7 b) ∧ tpP N k then (k : Int) else b)
theorem teR_MB {N : Int → Int} : ∀ (m k : Nat) (b : Int), MB (tpP N) 0 k b → MB (tpP N) 0 (k + m) (teR N m k b)
  | 0, k, b, h => h
  | m + 1, k, b, h => by
    unfold teR
    rw [show k + (m + 1) = (k + 1) + m by omega]
    refine teR_MB m (k + 1) _ ?_
    split
    · rename_i z
      exact MB_t h (by omega) z.2 z.1
    · rename_i z
      refine MB_n h ?_
      by_cases e : tpP N k
      · right
        by_cases e2 : b < 0
        · exact absurd ⟨Or.inl e2, e⟩ z
        · refine ⟨by omega, ?_⟩
          by_cases e3 : pc7 (k : Int) < pc7 b
          · exact absurd ⟨Or.inr e3, e⟩ z
          · omega
      · exact Or.inl e
/-! more offers never take a way away -/
theorem moN_n {N : Int → Int} {x : Int} {k : Nat} {p : Int} (e : p ≠ N (136 + 2 * (k : Int))) : moN N x (k + 1) p = moN N x k p := by
  show (if mt x k = true then ru (moN N x k) (N (136 + 2 * (k : Int))) (mj_or (moN N x k (N (136 + 2 * (k : Int)))) (mj_shl 1 (N (136 + 2 * (k : Int) + 1)))) else moN N x k) p = moN N x k p
  split
  · rw [ru_n e]
  · rfl
theorem moN_t {N : Int → Int} {x : Int} {k : Nat} (h : mt x k = true) : moN N x (k + 1) (N (136 + 2 * (k : Int))) = mj_or (moN N x k (N (136 + 2 * (k : Int)))) (mj_shl 1 (N (136 + 2 * (k : Int) + 1))) := by
  show (if mt x k = true then ru (moN N x k) (N (136 + 2 * (k : Int))) (mj_or (moN N x k (N (136 + 2 * (k : Int)))) (mj_shl 1 (N (136 + 2 * (k : Int) + 1)))) else moN N x k) _ = _
  rw [if_pos h, ru_s]
theorem moN_f {N : Int → Int} {x : Int} {k : Nat} (h : ¬ mt x k = true) : moN N x (k + 1) = moN N x k := if_neg h
theorem moN_mono {N : Int → Int} {x y : Int} : ∀ (k : Nat), (∀ j, j < k → mt x j = true → mt y j = true) → ∀ (p : Int) (i : Nat), mt (moN N x k p) i = true → mt (moN N y k p) i = true
  | 0, _, _, _, h => h
  | k + 1, hxy, p, i, h => by
    have ih := moN_mono (N := N) k (fun j hj => hxy j (by omega)) p i
    by_cases e : p = N (136 + 2 * (k : Int))
    · subst e
      by_cases hx : mt x k = true
      · rw [moN_t hx, mt_or, Bool.or_eq_true] at h
        rw [moN_t (hxy k (by omega) hx), mt_or, Bool.or_eq_true]
        exact h.elim (fun z => Or.inl (ih z)) Or.inr
      · rw [moN_f hx] at h
        by_cases hy : mt y k = true
        · rw [moN_t hy, mt_or, Bool.or_eq_true]
          exact Or.inl (ih h)
        · rw [moN_f hy]
          exact ih h
    · rw [moN_n e] at h ⊢
      exact ih h
theorem pap1_mono {N M M' : Int → Int} (hM : ∀ (p : Int) (i : Nat), mt (M p) i = true → mt (M' p) i = true) {p q : Int} (h : pap1 N M p q = true) : pap1 N M' p q = true := by
  unfold pap1 at h ⊢
  rw [mt_or, Bool.or_eq_true] at h ⊢
  exact h.elim Or.inl (fun z => Or.inr (hM p _ z))
theorem papS_mono {N M M' : Int → Int} (hM : ∀ (p : Int) (i : Nat), mt (M p) i = true → mt (M' p) i = true) {p q d : Int} (h : papS N M p q d) : papS N M' p q d :=
  h.elim (fun z => Or.inl (pap1_mono hM z)) (fun z => Or.inr ⟨z.1, z.2.1, z.2.2.1, pap1_mono hM z.2.2.2⟩)
theorem mayS_mono {N M M' : Int → Int} (hM : ∀ (p : Int) (i : Nat), mt (M p) i = true → mt (M' p) i = true) {p s d : Int} (h : mayS N M p s d = true) : mayS N M' p s d = true := by
  unfold mayS at h ⊢
  rw [decide_eq_true_eq] at h ⊢
  exact ⟨h.1, h.2.1, h.2.2.1.elim Or.inl (fun z => Or.inr (papS_mono hM z)), h.2.2.2⟩
theorem abB_mono {N M M' : Int → Int} (hM : ∀ (p : Int) (i : Nat), mt (M p) i = true → mt (M' p) i = true) {day mis s p : Int} (h : abB N M day mis s p = true) : abB N M' day mis s p = true := by
  unfold abB at h ⊢
  by_cases z : 0 ≤ N (64 + 4 * s + 3)
  · rw [if_pos z] at h ⊢
    exact h
  · rw [if_neg z, Bool.and_eq_true] at h ⊢
    exact ⟨h.1, mayS_mono hM h.2⟩
theorem fbr_mono {N M M' : Int → Int} (hM : ∀ (p : Int) (i : Nat), mt (M p) i = true → mt (M' p) i = true) {day n : Int} : ∀ (m k : Nat), fbr N M day n m k < 0 → fbr N M' day n m k < 0
  | 0, _, h => h
  | m + 1, k, h => by
    have ih := fbr_mono (N := N) hM (day := day) (n := n) m (k + 1)
    unfold fbr at h ⊢
    by_cases z : pc7 (k : Int) = n ∧ (allW N (abB N M day k)).isEmpty = true
    · rw [if_pos z] at h
      omega
    · rw [if_neg z] at h
      by_cases y : pc7 (k : Int) = n ∧ (allW N (abB N M' day k)).isEmpty = true
      · refine absurd ⟨y.1, ?_⟩ z
        have y2 := List.isEmpty_iff.mp y.2
        refine List.isEmpty_iff.mpr (List.eq_nil_iff_forall_not_mem.mpr (fun w hw => ?_))
        have hw2 : w ∈ allW N (abB N M' day k) := wl_mono (fun s p q => abB_mono hM q) _ _ _ w hw
        rw [y2] at hw2
        cases hw2
      · rw [if_neg y]
        exact ih h
theorem tp_bits : ∀ k, k < 7 → ∀ j, j < k → mt ((2 ^ k - 1 : Nat) : Int) j = true := by decide +kernel
/-- what some of the offers do, all of them do -/
theorem tpP_top {N : Int → Int} (h : 0 ≤ N 6 ∧ N 6 ≤ 6) {x : Nat} (hx : tpP N x) : tpP N (2 ^ (N 6).toNat - 1) :=
  fbr_mono (fun p i => moN_mono _ (fun j hj _ => tp_bits _ (by omega) j hj) p i) _ _ hx
