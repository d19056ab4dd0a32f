/-! a row with one more text -/
def tR (N N' : Int → Int) (key pc : Int) (c : List Int) : Prop := N' 5 = N 5 + 1 ∧ N' (238 + 2 * N 5) = 1000 * key + c.length ∧ N' (238 + 2 * N 5 + 1) = pc ∧ (∀ j : Int, 0 ≤ j → j < c.length → N' (266 + 96 * N 5 + j) = lf key c j) ∧ ∀ k, k ≠ 5 → k ≠ 238 + 2 * N 5 → k ≠ 238 + 2 * N 5 + 1 → ¬ (266 + 96 * N 5 ≤ k ∧ k < 266 + 96 * N 5 + c.length) → N' k = N k
theorem InvT_w {N N' : Int → Int} {t : Int} (h : InvT N t) (e0 : N' (238 + 2 * t) = N (238 + 2 * t)) (e1 : N' (238 + 2 * t + 1) = N (238 + 2 * t + 1)) (e : ∀ j : Int, 0 ≤ j → j < 96 → N' (266 + 96 * t + j) = N (266 + 96 * t + j)) : InvT N' t := by
  obtain ⟨k, n, h1, h2, h3, h4, h5⟩ := h
  have hw : ∀ j : Nat, j < 96 → wds N' t j = wds N t j := fun j hj => e _ (by omega) (by omega)
  have hn := h3.2.1
  have hd : ∀ j : Nat, j ≤ 96 → dpt (wds N' t) j = dpt (wds N t) j := fun j hj => dpt_cg j (fun k hk => hw k (by omega))
  refine ⟨k, n, h1, by rw [e0]; exact h2, ⟨h3.1, h3.2.1, by rw [hd _ (by omega)]; exact h3.2.2.1, fun j hj => by rw [hw _ (by omega), hd _ (by omega)]; exact h3.2.2.2 j hj⟩, by rw [e1]; exact h4, fun q j hj => by rw [hw _ (by omega)]; exact h5 q j hj⟩
theorem tR_lo {N N' : Int → Int} {key pc : Int} {c : List Int} (h : tR N N' key pc c) (h5 : 0 ≤ N 5) : ∀ k, k ≠ 5 → k < 238 → N' k = N k := fun k a b => h.2.2.2.2 k a (by omega) (by omega) (by omega)
theorem tR_t {N N' : Int → Int} {key pc : Int} {c : List Int} (h : tR N N' key pc c) (h5 : 0 ≤ N 5 ∧ N 5 ≤ 13) {t : Int} (ht : 0 ≤ t ∧ t < N 5) : N' (238 + 2 * t) = N (238 + 2 * t) ∧ N' (238 + 2 * t + 1) = N (238 + 2 * t + 1) ∧ ∀ j : Int, 0 ≤ j → j < 96 → N' (266 + 96 * t + j) = N (266 + 96 * t + j) := by
  refine ⟨h.2.2.2.2 _ (by omega) (by omega) (by omega) (by omega), h.2.2.2.2 _ (by omega) (by omega) (by omega) (by omega), fun j j0 j1 => h.2.2.2.2 _ (by omega) (by omega) (by omega) (by omega)⟩
theorem tk_b {key u v : Int} (h : tk key u v) : -10 ≤ v ∧ v ≤ 10003 ∧ (1 ≤ key → v ≤ 10002) := by
  unfold tk at h
  omega
theorem Inv_t {N N' : Int → Int} {key pc : Int} {c : List Int} (hN : Inv N) (h : tR N N' key pc c) (h5 : N 5 ≤ 13) (hk : 0 ≤ key ∧ key ≤ 2) (hc : okC key c 1) (hl : 1 ≤ c.length ∧ c.length ≤ 95) (hp : 0 ≤ pc ∧ pc ≤ 100) : Inv N' := by
  obtain ⟨hH, hP, hS, hR, hO, hL, hT⟩ := hN
  have hH' := hH
  unfold InvH at hH'
  have lo := tR_lo h (by omega)
  have h51 := h.1
  have e2 := lo 2 (by omega) (by omega)
  have e3 := lo 3 (by omega) (by omega)
  have e4 := lo 4 (by omega) (by omega)
  have e6 := lo 6 (by omega) (by omega)
  have e7 := lo 7 (by omega) (by omega)
  refine ⟨?_, fun p a b => InvP_s (hP p a (by omega)) (fun k k0 k1 => lo _ (by omega) (by omega)) (by omega), fun p a b => InvS_s (hS p a (by omega)) (fun k k0 k1 => lo _ (by omega) (by omega)) (by omega), fun p a b => InvR_s (hR p a (by omega)) (fun k k0 k1 => lo _ (by omega) (by omega)) (by omega), fun p a b => InvO_s (hO p a (by omega)) (lo _ (by omega) (by omega)) (lo _ (by omega) (by omega)) (by omega), fun p a b => InvL_s (hL p a (by omega)) (fun k k0 k1 => lo _ (by omega) (by omega)) (by omega) (by omega), fun t a b => ?_⟩
  · unfold InvH
    rw [lo 1 (by omega) (by omega), e2, e3, e4, e6, e7, h.1]
    omega
  · by_cases e : t = N 5
    · subst e
      have hw : ∀ j : Nat, j < c.length → wds N' (N 5) j = lf key c j := fun j hj => h.2.2.2.1 j (by omega) (by omega)
      have hd : ∀ j : Nat, j ≤ c.length → dpt (wds N' (N 5)) j = dpt (lf key c) j := fun j hj => dpt_cg j (fun k hk => hw k (by omega))
      refine ⟨key.toNat, c.length, by omega, by rw [h.2.1]; omega, ⟨hl.1, hl.2, by rw [hd _ (Nat.le_refl _)]; exact hc.1, fun k hk => ?_⟩, by rw [h.2.2.1]; exact hp, fun q j hj => ?_⟩
      · have q := hc.2 k hk
        have q2 := tk_b q.1
        rw [hw k hk, hd k (by omega)]
        exact ⟨⟨q2.1, q2.2.1⟩, q.2⟩
      · have q1 := tk_b (hc.2 j hj).1
        rw [hw j hj]
        exact q1.2.2 (by omega)
    · have q := tR_t h (by omega) (t := t) (by omega)
      exact InvT_w (hT t a (by omega)) q.1 q.2.1 q.2.2
theorem lat_t {N N' : Int → Int} {key pc : Int} {c : List Int} (h : tR N N' key pc c) (h5 : 0 ≤ N 5 ∧ N 5 ≤ 13) (hk : 0 ≤ key ∧ key ≤ 2) (hl : c.length ≤ 95) (q : Int) : latT N' q = if q = key then N 5 else latT N q := by
  have e : ∀ n : Nat, (n : Int) ≤ N 5 → lat N' q n = lat N q n := by
    intro n
    induction n with
    | zero => intro _; rfl
    | succ n ih =>
      intro hn
      unfold lat
      rw [ih (by omega), (tR_t h h5 (t := n) (by omega)).1]
  unfold latT
  rw [h.1, show (N 5 + 1).toNat = (N 5).toNat + 1 by omega]
  show (if (N' (238 + 2 * (((N 5).toNat : Nat) : Int))).tdiv 1000 = q then (((N 5).toNat : Nat) : Int) else lat N' q (N 5).toNat) = _
  rw [e _ (by omega), show (((N 5).toNat : Nat) : Int) = N 5 by omega, h.2.1]
  have ed : (1000 * key + (c.length : Int)).tdiv 1000 = key := by
    rw [Int.tdiv_eq_ediv_of_nonneg (by omega)]
    omega
  rw [ed]
  by_cases z : q = key
  · rw [if_pos z, if_pos z.symm]
  · rw [if_neg z, if_neg (fun w => z w.symm)]
/-- the first book -/
theorem Cb_t {N N' : Int → Int} {key pc : Int} {c : List Int} {I J : mj_I} {S T : mj_S} (hN : Inv N) (hC : Cb I S 21 N) (hn : 181 ≤ mj_nx S) (h : tR N N' key pc c) (h5 : N 5 ≤ 13) (hk : 0 ≤ key ∧ key ≤ 2) (hl : c.length ≤ 95) (hc : okC key c 1)
    (hT : sT S T (N 5).toNat c.length) (hf : fr (fun a => a = 21 ∨ a = 26 ∨ mj_nx S ≤ a ∨ (61 ≤ a ∧ a < 181)) I J) (h21 : ∀ k, k ≠ 7 → J 21 k = I 21 k) (h217 : J 21 7 = N 5 + 1) (h26 : rd J 26 = ru (rd I 26) key (N 5))
    (hx0 : J (mj_nx S) 0 = key) (hx1 : J (mj_nx S) 1 = pc) (hxc : ∀ j : Int, 0 ≤ j → j < c.length → rd J (mj_nx S + 1) j = c.getD j.toNat 0) : Cb J T 21 N' := by
  obtain ⟨cH, cP, cS, cR, cO, cL, cX, c0, c1, c2⟩ := hC
  have hH' := hN.1
  unfold InvH at hH'
  have lo := tR_lo h (by omega)
  have h51 := h.1
  have e2 := lo 2 (by omega) (by omega)
  have e3 := lo 3 (by omega) (by omega)
  have e4 := lo 4 (by omega) (by omega)
  have e6 := lo 6 (by omega) (by omega)
  have e7 := lo 7 (by omega) (by omega)
  have lt := lat_t h (by omega) hk hl
  have ha : ∀ {a : Nat}, 27 ≤ a → a ≤ 60 → J a = I a := fun a0 a1 => hf _ (by omega)
  have hr : ∀ {a : Nat}, 27 ≤ a → a ≤ 60 → rd J a = rd I a := fun a0 a1 => hf.r (by omega)
  refine ⟨?_, fun p a b => CbP_s (cP p a (by omega)) (ha (by omega) (by omega)) (fun k k0 k1 => lo _ (by omega) (by omega)), fun p a b => CbS_s (cS p a (by omega)) (ha (by omega) (by omega)) (fun k k0 k1 => lo _ (by omega) (by omega)), fun p a b => CbR_s (cR p a (by omega)) (ha (by omega) (by omega)) (fun k k0 k1 => lo _ (by omega) (by omega)), fun p a b => CbO_s (cO p a (by omega)) (by rw [hr (by omega) (by omega)]) (by rw [hr (by omega) (by omega)]) (lo _ (by omega) (by omega)) (lo _ (by omega) (by omega)), fun p a b => CbL_s (cL p a (by omega)) (by rw [hr (by omega) (by omega)]) (by rw [hr (by omega) (by omega)]) (by rw [hr (by omega) (by omega)]) (fun k k0 k1 => lo _ (by omega) (by omega)), fun t a b => ?_, ?_, ?_, ?_⟩
  · unfold CbH at cH ⊢
    rw [h21 14 (by decide), h21 13 (by decide), h21 1 (by decide), h21 3 (by decide), h21 5 (by decide), h217, h21 11 (by decide), ha (a := 21 + 8) (by omega) (by omega), lo 0 (by omega) (by omega), lo 1 (by omega) (by omega), e2, e3, e4, e6, e7, h.1]
    exact ⟨cH.1, cH.2.1, cH.2.2.1, cH.2.2.2.1, cH.2.2.2.2.1, rfl, cH.2.2.2.2.2.2.1, cH.2.2.2.2.2.2.2⟩
  · by_cases e : t = N 5
    · subst e
      obtain ⟨t1, t2, t3, t4, t5, t6, t7, t8⟩ := hT
      have ex : mj_rf T (21 + 4) (N 5).toNat = mj_nx S := t7
      have ec : mj_rf T (mj_nx S) 2 = mj_nx S + 1 := t8
      rw [ex]
      refine ⟨hn, by omega, by unfold mj_tg; rw [t4], by rw [ec]; omega, by rw [ec]; omega, by rw [ec]; unfold mj_tg; rw [t5], key.toNat, c.length, by rw [ec]; unfold mj_ln; rw [t5], ⟨by omega, hl⟩, by rw [hx0]; omega, by rw [h.2.1]; omega, by rw [hx1, h.2.2.1], fun j j0 j1 => ?_⟩
      rw [ec, hxc j j0 j1, h.2.2.2.1 j j0 j1]
      have q := (hc.2 j.toNat (by omega)).1
      rw [show ((key.toNat : Nat) : Int) = key by omega]
      rw [show ((j.toNat : Nat) : Int) = j by omega] at q
      exact q
    · have q := tR_t h (by omega) (t := t) (by omega)
      have ex : mj_rf T (21 + 4) t.toNat = mj_rf S (21 + 4) t.toNat := hT.2.2.2.2.2.1 _ _ (by omega) (by omega)
      rw [ex]
      exact CbX_T hT hn (fun a a0 a1 => hf a (by omega)) q (cX t a (by omega))
  · show rd J 26 0 = _
    rw [h26, lt 0]
    unfold ru
    split
    · rfl
    · exact c0
  · show rd J 26 1 = _
    rw [h26, lt 1]
    unfold ru
    split
    · rfl
    · exact c1
  · show rd J 26 2 = _
    rw [h26, lt 2]
    unfold ru
    split
    · rfl
    · exact c2
/-- the second book -/
theorem Cb_61 {N : Int → Int} {I J : mj_I} {S T : mj_S} {t n : Nat} (hN : Inv N) (hC : Cb I S 61 N) (hn : 181 ≤ mj_nx S) (hT : sT S T t n) (hf : ∀ a, 61 ≤ a → a ≤ 100 → J a = I a) (hf2 : ∀ a, 181 ≤ a → a < mj_nx S → J a = I a) : Cb J T 61 N := by
  obtain ⟨cH, cP, cS, cR, cO, cL, cX, c0, c1, c2⟩ := hC
  have hH' := hN.1
  unfold InvH at hH'
  have hr : ∀ {a : Nat}, 61 ≤ a → a ≤ 100 → rd J a = rd I a := fun a0 a1 => by funext k; unfold rd; rw [hf _ a0 a1]
  refine ⟨?_, fun p a b => CbP_s (cP p a b) (hf _ (by omega) (by omega)) (fun _ _ _ => rfl), fun p a b => CbS_s (cS p a b) (hf _ (by omega) (by omega)) (fun _ _ _ => rfl), fun p a b => CbR_s (cR p a b) (hf _ (by omega) (by omega)) (fun _ _ _ => rfl), fun p a b => CbO_s (cO p a b) (by rw [hr (by omega) (by omega)]) (by rw [hr (by omega) (by omega)]) rfl rfl, fun p a b => CbL_s (cL p a b) (by rw [hr (by omega) (by omega)]) (by rw [hr (by omega) (by omega)]) (by rw [hr (by omega) (by omega)]) (fun _ _ _ => rfl), fun t a b => ?_, by rw [hr (by omega) (by omega)]; exact c0, by rw [hr (by omega) (by omega)]; exact c1, by rw [hr (by omega) (by omega)]; exact c2⟩
  · unfold CbH at cH ⊢
    rw [hf 61 (by omega) (by omega), hf (61 + 8) (by omega) (by omega)]
    exact cH
  · have ex : mj_rf T (61 + 4) t.toNat = mj_rf S (61 + 4) t.toNat := hT.2.2.2.2.2.1 _ _ (by omega) (by omega)
    rw [ex]
    exact CbX_T hT hn hf2 ⟨rfl, rfl, fun _ _ _ => rfl⟩ (cX t a b)
