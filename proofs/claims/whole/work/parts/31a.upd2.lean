/-! one person, one step, one rule changed, or new (wip/whole/mk31a.py) -/
theorem upd_P {I K : mj_I} {S : mj_S} {N N' : Int → Int} (hN : Inv N) (hCb : Cb I S 21 N) {p : Int} (hp : 0 ≤ p ∧ p < 7) (es : ∀ q, q ≠ 2 → ¬ (8 + 8 * p ≤ q ∧ q < 16 + 8 * p) → N' q = N q) (h2 : N' 2 = N 2 ∨ (N' 2 = N 2 + 1 ∧ N 2 = p)) (hb : p < N' 2) (hi : InvP N' p) (eK : ∀ a, ¬ a = 21 → ¬ a = 21 + 15 + p.toNat → K a = I a) (e21 : ∀ j, j ≠ 1 → K 21 j = I 21 j) (e211 : K 21 1 = N' 2) (hcp : CbP K 21 N' p) : Inv N' ∧ Cb K S 21 N' := by
  have hH := hN.1
  have hCH := hCb.1
  unfold InvH at hH
  unfold CbH at hCH
  have g0 : N' 0 = N 0 := es 0 (by omega) (by omega)
  have g1 : N' 1 = N 1 := es 1 (by omega) (by omega)
  have g3 : N' 3 = N 3 := es 3 (by omega) (by omega)
  have g4 : N' 4 = N 4 := es 4 (by omega) (by omega)
  have g5 : N' 5 = N 5 := es 5 (by omega) (by omega)
  have g6 : N' 6 = N 6 := es 6 (by omega) (by omega)
  have g7 : N' 7 = N 7 := es 7 (by omega) (by omega)
  refine ⟨Inv_u hN ?_ g5 (fun q hq => es q (by omega) (by omega)) (fun q h0 h1 => ?_) (fun q h0 h1 => ?_) (fun q h0 h1 => ?_) (fun q h0 h1 => ?_) (fun q h0 h1 => ?_), Cb_u hCb (fun a ha => eK a (by omega) (by omega)) (eK _ (by omega) (by omega)) ?_ g5 (fun q hq => es q (by omega) (by omega)) (fun q h0 h1 => ?_) (fun q h0 h1 => ?_) (fun q h0 h1 => ?_) (fun q h0 h1 => ?_) (fun q h0 h1 => ?_)⟩
  · unfold InvH
    omega
  · by_cases e : q = p
    · subst e
      exact hi
    · exact InvP_s (hN.2.1 q h0 (by omega)) (fun j j0 j1 => es _ (by omega) (by omega)) (by omega)
  · exact InvS_s (hN.2.2.1 q h0 (by omega)) (fun j j0 j1 => es _ (by omega) (by omega)) (by omega)
  · exact InvR_s (hN.2.2.2.1 q h0 (by omega)) (fun j j0 j1 => es _ (by omega) (by omega)) (by omega)
  · exact InvO_s (hN.2.2.2.2.1 q h0 (by omega)) (es _ (by omega) (by omega)) (es _ (by omega) (by omega)) (by omega)
  · exact InvL_s (hN.2.2.2.2.2.1 q h0 (by omega)) (fun j j0 j1 => es _ (by omega) (by omega)) (by omega) (by omega)
  · unfold CbH
    rw [e21 14 (by decide), e21 13 (by decide), e21 3 (by decide), e21 5 (by decide), e21 7 (by decide), e21 11 (by decide), e211, eK (21 + 8) (by omega) (by omega)]
    omega
  · by_cases e : q = p
    · subst e
      exact hcp
    · exact CbP_s (hCb.2.1 q h0 (by omega)) (eK _ (by omega) (by omega)) (fun j j0 j1 => es _ (by omega) (by omega))
  · exact CbS_s (hCb.2.2.1 q h0 (by omega)) (eK _ (by omega) (by omega)) (fun j j0 j1 => es _ (by omega) (by omega))
  · exact CbR_s (hCb.2.2.2.1 q h0 (by omega)) (eK _ (by omega) (by omega)) (fun j j0 j1 => es _ (by omega) (by omega))
  · exact CbO_s (hCb.2.2.2.2.1 q h0 (by omega)) (by unfold rd; rw [eK _ (by omega) (by omega)]) (by unfold rd; rw [eK _ (by omega) (by omega)]) (es _ (by omega) (by omega)) (es _ (by omega) (by omega))
  · exact CbL_s (hCb.2.2.2.2.2.1 q h0 (by omega)) (by unfold rd; rw [eK _ (by omega) (by omega)]) (by unfold rd; rw [eK _ (by omega) (by omega)]) (by unfold rd; rw [eK _ (by omega) (by omega)]) (fun j j0 j1 => es _ (by omega) (by omega))
theorem upd_S {I K : mj_I} {S : mj_S} {N N' : Int → Int} (hN : Inv N) (hCb : Cb I S 21 N) {p : Int} (hp : 0 ≤ p ∧ p < 6) (es : ∀ q, q ≠ 3 → ¬ (64 + 4 * p ≤ q ∧ q < 68 + 4 * p) → N' q = N q) (h2 : N' 3 = N 3 ∨ (N' 3 = N 3 + 1 ∧ N 3 = p)) (hb : p < N' 3) (hi : InvS N' p) (eK : ∀ a, ¬ a = 21 → ¬ a = 21 + 22 + p.toNat → K a = I a) (e21 : ∀ j, j ≠ 3 → K 21 j = I 21 j) (e211 : K 21 3 = N' 3) (hcp : CbS K 21 N' p) : Inv N' ∧ Cb K S 21 N' := by
  have hH := hN.1
  have hCH := hCb.1
  unfold InvH at hH
  unfold CbH at hCH
  have g0 : N' 0 = N 0 := es 0 (by omega) (by omega)
  have g1 : N' 1 = N 1 := es 1 (by omega) (by omega)
  have g2 : N' 2 = N 2 := es 2 (by omega) (by omega)
  have g4 : N' 4 = N 4 := es 4 (by omega) (by omega)
  have g5 : N' 5 = N 5 := es 5 (by omega) (by omega)
  have g6 : N' 6 = N 6 := es 6 (by omega) (by omega)
  have g7 : N' 7 = N 7 := es 7 (by omega) (by omega)
  refine ⟨Inv_u hN ?_ g5 (fun q hq => es q (by omega) (by omega)) (fun q h0 h1 => ?_) (fun q h0 h1 => ?_) (fun q h0 h1 => ?_) (fun q h0 h1 => ?_) (fun q h0 h1 => ?_), Cb_u hCb (fun a ha => eK a (by omega) (by omega)) (eK _ (by omega) (by omega)) ?_ g5 (fun q hq => es q (by omega) (by omega)) (fun q h0 h1 => ?_) (fun q h0 h1 => ?_) (fun q h0 h1 => ?_) (fun q h0 h1 => ?_) (fun q h0 h1 => ?_)⟩
  · unfold InvH
    omega
  · exact InvP_s (hN.2.1 q h0 (by omega)) (fun j j0 j1 => es _ (by omega) (by omega)) (by omega)
  · by_cases e : q = p
    · subst e
      exact hi
    · exact InvS_s (hN.2.2.1 q h0 (by omega)) (fun j j0 j1 => es _ (by omega) (by omega)) (by omega)
  · exact InvR_s (hN.2.2.2.1 q h0 (by omega)) (fun j j0 j1 => es _ (by omega) (by omega)) (by omega)
  · exact InvO_s (hN.2.2.2.2.1 q h0 (by omega)) (es _ (by omega) (by omega)) (es _ (by omega) (by omega)) (by omega)
  · exact InvL_s (hN.2.2.2.2.2.1 q h0 (by omega)) (fun j j0 j1 => es _ (by omega) (by omega)) (by omega) (by omega)
  · unfold CbH
    rw [e21 14 (by decide), e21 13 (by decide), e21 1 (by decide), e21 5 (by decide), e21 7 (by decide), e21 11 (by decide), e211, eK (21 + 8) (by omega) (by omega)]
    omega
  · exact CbP_s (hCb.2.1 q h0 (by omega)) (eK _ (by omega) (by omega)) (fun j j0 j1 => es _ (by omega) (by omega))
  · by_cases e : q = p
    · subst e
      exact hcp
    · exact CbS_s (hCb.2.2.1 q h0 (by omega)) (eK _ (by omega) (by omega)) (fun j j0 j1 => es _ (by omega) (by omega))
  · exact CbR_s (hCb.2.2.2.1 q h0 (by omega)) (eK _ (by omega) (by omega)) (fun j j0 j1 => es _ (by omega) (by omega))
  · exact CbO_s (hCb.2.2.2.2.1 q h0 (by omega)) (by unfold rd; rw [eK _ (by omega) (by omega)]) (by unfold rd; rw [eK _ (by omega) (by omega)]) (es _ (by omega) (by omega)) (es _ (by omega) (by omega))
  · exact CbL_s (hCb.2.2.2.2.2.1 q h0 (by omega)) (by unfold rd; rw [eK _ (by omega) (by omega)]) (by unfold rd; rw [eK _ (by omega) (by omega)]) (by unfold rd; rw [eK _ (by omega) (by omega)]) (fun j j0 j1 => es _ (by omega) (by omega))
theorem upd_R {I K : mj_I} {S : mj_S} {N N' : Int → Int} (hN : Inv N) (hCb : Cb I S 21 N) {p : Int} (hp : 0 ≤ p ∧ p < 12) (es : ∀ q, q ≠ 4 → ¬ (88 + 4 * p ≤ q ∧ q < 92 + 4 * p) → N' q = N q) (h2 : N' 4 = N 4 ∨ (N' 4 = N 4 + 1 ∧ N 4 = p)) (hb : p < N' 4) (hi : InvR N' p) (eK : ∀ a, ¬ a = 21 → ¬ a = 21 + 28 + p.toNat → K a = I a) (e21 : ∀ j, j ≠ 5 → K 21 j = I 21 j) (e211 : K 21 5 = N' 4) (hcp : CbR K 21 N' p) : Inv N' ∧ Cb K S 21 N' := by
  have hH := hN.1
  have hCH := hCb.1
  unfold InvH at hH
  unfold CbH at hCH
  have g0 : N' 0 = N 0 := es 0 (by omega) (by omega)
  have g1 : N' 1 = N 1 := es 1 (by omega) (by omega)
  have g2 : N' 2 = N 2 := es 2 (by omega) (by omega)
  have g3 : N' 3 = N 3 := es 3 (by omega) (by omega)
  have g5 : N' 5 = N 5 := es 5 (by omega) (by omega)
  have g6 : N' 6 = N 6 := es 6 (by omega) (by omega)
  have g7 : N' 7 = N 7 := es 7 (by omega) (by omega)
  refine ⟨Inv_u hN ?_ g5 (fun q hq => es q (by omega) (by omega)) (fun q h0 h1 => ?_) (fun q h0 h1 => ?_) (fun q h0 h1 => ?_) (fun q h0 h1 => ?_) (fun q h0 h1 => ?_), Cb_u hCb (fun a ha => eK a (by omega) (by omega)) (eK _ (by omega) (by omega)) ?_ g5 (fun q hq => es q (by omega) (by omega)) (fun q h0 h1 => ?_) (fun q h0 h1 => ?_) (fun q h0 h1 => ?_) (fun q h0 h1 => ?_) (fun q h0 h1 => ?_)⟩
  · unfold InvH
    omega
  · exact InvP_s (hN.2.1 q h0 (by omega)) (fun j j0 j1 => es _ (by omega) (by omega)) (by omega)
  · exact InvS_s (hN.2.2.1 q h0 (by omega)) (fun j j0 j1 => es _ (by omega) (by omega)) (by omega)
  · by_cases e : q = p
    · subst e
      exact hi
    · exact InvR_s (hN.2.2.2.1 q h0 (by omega)) (fun j j0 j1 => es _ (by omega) (by omega)) (by omega)
  · exact InvO_s (hN.2.2.2.2.1 q h0 (by omega)) (es _ (by omega) (by omega)) (es _ (by omega) (by omega)) (by omega)
  · exact InvL_s (hN.2.2.2.2.2.1 q h0 (by omega)) (fun j j0 j1 => es _ (by omega) (by omega)) (by omega) (by omega)
  · unfold CbH
    rw [e21 14 (by decide), e21 13 (by decide), e21 1 (by decide), e21 3 (by decide), e21 7 (by decide), e21 11 (by decide), e211, eK (21 + 8) (by omega) (by omega)]
    omega
  · exact CbP_s (hCb.2.1 q h0 (by omega)) (eK _ (by omega) (by omega)) (fun j j0 j1 => es _ (by omega) (by omega))
  · exact CbS_s (hCb.2.2.1 q h0 (by omega)) (eK _ (by omega) (by omega)) (fun j j0 j1 => es _ (by omega) (by omega))
  · by_cases e : q = p
    · subst e
      exact hcp
    · exact CbR_s (hCb.2.2.2.1 q h0 (by omega)) (eK _ (by omega) (by omega)) (fun j j0 j1 => es _ (by omega) (by omega))
  · exact CbO_s (hCb.2.2.2.2.1 q h0 (by omega)) (by unfold rd; rw [eK _ (by omega) (by omega)]) (by unfold rd; rw [eK _ (by omega) (by omega)]) (es _ (by omega) (by omega)) (es _ (by omega) (by omega))
  · exact CbL_s (hCb.2.2.2.2.2.1 q h0 (by omega)) (by unfold rd; rw [eK _ (by omega) (by omega)]) (by unfold rd; rw [eK _ (by omega) (by omega)]) (by unfold rd; rw [eK _ (by omega) (by omega)]) (fun j j0 j1 => es _ (by omega) (by omega))
