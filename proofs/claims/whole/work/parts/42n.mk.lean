/-! a text is made -/
theorem nw_o {S : mj_S} {t n a : Nat} (h : a ≠ mj_nx S) : (mj_nw S t n).2.1 a = S.2.1 a := if_neg h
theorem nw_s {S : mj_S} {t n : Nat} : (mj_nw S t n).2.1 (mj_nx S) = (t, n) := if_pos rfl
theorem nw_r {S : mj_S} {t n a j : Nat} (h : a ≠ mj_nx S) : (mj_nw S t n).1 a j = S.1 a j := if_neg h
theorem z_o {I : mj_I} {n a j : Nat} (h : a ≠ n) : mj_z I n a j = I a j := if_neg h
theorem nw_tg {S : mj_S} {t n a : Nat} (h : a ≠ mj_nx S) : mj_tg (mj_nw S t n) a = mj_tg S a := by unfold mj_tg; rw [nw_o h]
theorem nw_ln {S : mj_S} {t n a : Nat} (h : a ≠ mj_nx S) : mj_ln (mj_nw S t n) a = mj_ln S a := by unfold mj_ln; rw [nw_o h]
theorem nw_tgs {S : mj_S} {t n : Nat} : mj_tg (mj_nw S t n) (mj_nx S) = t := by unfold mj_tg; rw [nw_s]
theorem nw_lns {S : mj_S} {t n : Nat} : mj_ln (mj_nw S t n) (mj_nx S) = n := by unfold mj_ln; rw [nw_s]
theorem nw_rf {S : mj_S} {t n a j : Nat} (h : a ≠ mj_nx S) : mj_rf (mj_nw S t n) a j = mj_rf S a j := nw_r h
theorem nw_nx {S : mj_S} {t n : Nat} : mj_nx (mj_nw S t n) = mj_nx S + 1 := rfl
/-- 109 copyOf -/
theorem c_copyOf {d : Nat} {I : mj_I} {S : mj_S} {Q : mj_Q} {a : Nat} (ta : mj_tg S a = 20) (la : mj_ln S a = 96) (ha : a < mj_nx S) (sz : Int) (hz : 0 ≤ sz ∧ sz ≤ 95) (hd : 1 < d) (h : Q (some (.inr (mj_nx S))) (mj_cp (mj_z I (mj_nx S)) a 0 (mj_nx S) 0 sz.toNat) (mj_nw S 20 sz.toNat)) : mj_C d 109 [.inr a, .inl sz] I S Q := by
  have e1 : mj_tg (mj_nw S 20 sz.toNat) a = 20 := by rw [nw_tg (by omega)]; exact ta
  have e2 : mj_ln (mj_nw S 20 sz.toNat) a = 96 := by rw [nw_ln (by omega)]; exact la
  have e3 : mj_tg (mj_nw S 20 sz.toNat) (mj_nx S) = 20 := nw_tgs
  have e4 : mj_ln (mj_nw S 20 sz.toNat) (mj_nx S) = sz.toNat := nw_lns
  refine mj_C_of 40 ?_
  (repeat' (first | assumption | exact Or.inl rfl | exact Or.inr rfl | (intro hz; exact absurd hz (by decide)) | refine And.intro ?_ ?_ | intro _))
  all_goals first
    | omega
    | (rw [ta]; omega)
    | (rename_i z; exact absurd (ta.symm.trans z) (by decide))
    | exact (by rw [e1]; omega : 20 ≤ mj_tg (mj_nw S 20 sz.toNat) a)
    | (rename_i z0 z; exact absurd (e1.symm.trans z) (by decide))
    | exact e1.trans e3.symm
    | exact Or.inl e3
    | exact (by rw [e2]; omega : (0 : Int) ≤ min (↑(mj_ln (mj_nw S 20 sz.toNat) a) : Int) sz)
    | exact (by rw [e2]; omega : (0 : Int) + min (↑(mj_ln (mj_nw S 20 sz.toNat) a) : Int) sz ≤ ((mj_ln (mj_nw S 20 sz.toNat) a : Nat) : Int))
    | exact (by rw [e2, e4]; omega : (0 : Int) + min (↑(mj_ln (mj_nw S 20 sz.toNat) a) : Int) sz ≤ ((mj_ln (mj_nw S 20 sz.toNat) (mj_nx S) : Nat) : Int))
    | (have hm : (min (↑(mj_ln (mj_nw S 20 sz.toNat) a) : Int) sz).toNat = sz.toNat := by rw [e2]; omega
       have h' : Q (some (.inr (mj_nx S))) (mj_cp (mj_z I (mj_nx S)) a 0 (mj_nx S) 0 (min (↑(mj_ln (mj_nw S 20 sz.toNat) a) : Int) sz).toNat) (mj_nw S 20 sz.toNat) := by rw [hm]; exact h
       exact h')
    | (rename_i z; exfalso; rw [la] at z; omega)
/-- 110 Text.<init> -/
theorem c_tinit {d : Nat} {I : mj_I} {S : mj_S} {Q : mj_Q} {a c : Nat} (ta : mj_tg S a = 11) (ha : 20 ≤ a) (k p : Int) (h : Q none (mj_up (mj_up I a 0 k) a 1 p) (mj_ur S a 2 c)) : mj_C d 110 [.inr a, .inl k, .inl p, .inr c] I S Q := by
  refine mj_C_of 40 ?_
  (repeat' (first | assumption | exact Or.inl rfl | exact Or.inr rfl | (intro hz; exact absurd hz (by decide)) | refine And.intro ?_ ?_ | intro _))
def tI (I : mj_I) (x : Nat) (key pc sz : Int) : mj_I := mj_up (mj_up (mj_cp (mj_z (mj_z I x) (x + 1)) 117 0 (x + 1) 0 sz.toNat) x 0 key) x 1 pc
def tSt (S : mj_S) (sz : Int) : mj_S := mj_ur (mj_nw (mj_nw S 11 3) 20 sz.toNat) (mj_nx S) 2 (mj_nx S + 1)
/-- 108 makeText -/
theorem c_makeText {d : Nat} {I : mj_I} {S : mj_S} {Q : mj_Q} (hS : mk_Sh S) {key pc sz : Int} (h5 : I 115 5 = key) (h6 : I 115 6 = pc) (h8 : I 115 8 = sz) (hz : 0 ≤ sz ∧ sz ≤ 95) (hd : 3 < d) (h : Q (some (.inr (mj_nx S))) (tI I (mj_nx S) key pc sz) (tSt S sz)) : mj_C d 108 [.inr 115] I S Q := by
  have hn := hS.1
  have t115 : mj_tg S 115 = 8 := hS.t 115 (t := 8) (n := 9) (by decide +kernel)
  have t117 : mj_tg S 117 = 20 := hS.t 117 (t := 20) (n := 96) (by decide +kernel)
  have l117 : mj_ln S 117 = 96 := hS.l 117 (t := 20) (n := 96) (by decide +kernel)
  have r117 : mj_rf S 115 7 = 117 := hS.r 115 7 (by decide +kernel)
  have T115 : mj_tg (mj_nw S 11 3) 115 = 8 := by rw [nw_tg (by omega)]; exact t115
  have T117 : mj_tg (mj_nw S 11 3) 117 = 20 := by rw [nw_tg (by omega)]; exact t117
  have L117 : mj_ln (mj_nw S 11 3) 117 = 96 := by rw [nw_ln (by omega)]; exact l117
  have R117 : mj_rf (mj_nw S 11 3) 115 7 = 117 := by rw [nw_rf (by omega)]; exact r117
  have i5 : mj_z I (mj_nx S) 115 5 = key := by rw [z_o (by omega)]; exact h5
  have i6 : mj_z I (mj_nx S) 115 6 = pc := by rw [z_o (by omega)]; exact h6
  have i8 : mj_z I (mj_nx S) 115 8 = sz := by rw [z_o (by omega)]; exact h8
  have tx : mj_tg (mj_nw (mj_nw S 11 3) 20 sz.toNat) (mj_nx S) = 11 := by rw [nw_tg (by rw [nw_nx]; omega)]; exact nw_tgs
  refine mj_C_of 40 ?_
  refine ⟨T115, T115, T115, T115, by omega, ?_⟩
  show mj_C (d - 1) 109 [.inr (mj_rf (mj_nw S 11 3) 115 7), .inl (mj_z I (mj_nx S) 115 8)] (mj_z I (mj_nx S)) (mj_nw S 11 3) _
  rw [R117, i8, i6, i5]
  refine c_copyOf T117 L117 (by rw [nw_nx]; omega) sz hz (by omega) ?_
  refine ⟨tx, by omega, c_tinit tx (by omega) _ _ ?_⟩
  exact h
theorem tx_f {t : Nat} (ht : t < 14) : (¬ (14 : Int) ≤ t) ∧ (0 : Int) ≤ t ∧ (t : Int) < ((14 : Nat) : Int) ∧ Int.toNat (t : Int) = t ∧ mj_wr ((t : Int) + 1) = (t : Int) + 1 := ⟨by omega, by omega, by omega, by omega, mj_wr_s (by omega) (by omega)⟩
/-- 111 addText -/
theorem c_addText {d : Nat} {I : mj_I} {S : mj_S} {Q : mj_Q} (hS : mk_Sh S) {x t : Nat} {key : Int} (hx : 20 ≤ x ∧ x < mj_nx S) (tx : mj_tg S x = 11) (hk : I x 0 = key) (hk2 : 0 ≤ key ∧ key ≤ 2) (h7 : I 21 7 = (t : Int)) (ht : t < 14) (h : Q none (mj_up (up I 26 key (t : Int)) 21 7 ((t : Int) + 1)) (mj_ur S 25 t x)) : mj_C d 111 [.inr 21, .inr x] I S Q := by
  have t21 : mj_tg S 21 = 1 := hS.t 21 (t := 1) (n := 18) (by decide +kernel)
  have t25 : mj_tg S 25 = 61 := hS.t 25 (t := 61) (n := 14) (by decide +kernel)
  have l25 : mj_ln S 25 = 14 := hS.l 25 (t := 61) (n := 14) (by decide +kernel)
  have t26 : mj_tg S 26 = 20 := hS.t 26 (t := 20) (n := 3) (by decide +kernel)
  have l26 : mj_ln S 26 = 3 := hS.l 26 (t := 20) (n := 3) (by decide +kernel)
  have r25 : mj_rf S 21 6 = 25 := hS.r 21 6 (by decide +kernel)
  have r26 : mj_rf S 21 8 = 26 := hS.r 21 8 (by decide +kernel)
  have tf := tx_f ht
  refine mj_C_of 40 ?_
  have er : mj_rf (mj_ur S (mj_rf S 21 6) (I 21 7).toNat x) 21 8 = 26 := by
    rw [r25]
    show (if 21 = 25 ∧ 8 = (I 21 7).toNat then x else S.1 21 8) = 26
    rw [if_neg (fun q => absurd q.1 (by decide))]
    exact r26
  refine ⟨t21, fun z => absurd z (by rw [h7]; exact tf.1), fun _ => ⟨t21, t21, ⟨?_, Or.inr ⟨hx.1, hx.2, ?_⟩⟩, t21, tx, t21, ?_, t21, t21, ?_⟩⟩
  · rw [r25, h7]
    exact ⟨by rw [t25]; decide, tf.2.1, by rw [l25]; exact tf.2.2.1⟩
  · rw [r25, t25, tx]
  · rw [er, hk]
    exact ⟨Or.inl t26, by omega, by show _ < ((mj_ln S 26 : Nat) : Int); rw [l26]; omega⟩
  · show Q none (mj_up (mj_up I (mj_rf (mj_ur S (mj_rf S 21 6) (I 21 7).toNat x) 21 8) (I x 0).toNat (I 21 7)) 21 7 (mj_wr (mj_up I (mj_rf (mj_ur S (mj_rf S 21 6) (I 21 7).toNat x) 21 8) (I x 0).toNat (I 21 7) 21 7 + 1))) (mj_ur S (mj_rf S 21 6) (I 21 7).toNat x)
    rw [er, hk, r25, mj_up_n (fun q => absurd q.1 (by decide)), h7, tf.2.2.2.2, tf.2.2.2.1]
    exact h
/-! what the making of a text changes -/
def sT (S T : mj_S) (t n : Nat) : Prop := mj_nx T = mj_nx S + 2 ∧ mj_sl T = mj_sl S + 3 + n ∧ (∀ a, a < mj_nx S → T.2.1 a = S.2.1 a) ∧ T.2.1 (mj_nx S) = (11, 3) ∧ T.2.1 (mj_nx S + 1) = (20, n) ∧ (∀ a j, a < mj_nx S → ¬ (a = 25 ∧ j = t) → T.1 a j = S.1 a j) ∧ T.1 25 t = mj_nx S ∧ T.1 (mj_nx S) 2 = mj_nx S + 1
theorem sT_ok {S : mj_S} (hn : 181 ≤ mj_nx S) {t : Nat} {sz : Int} : sT S (mj_ur (tSt S sz) 25 t (mj_nx S)) t sz.toNat := by
  refine ⟨rfl, rfl, fun a ha => ?_, ?_, ?_, fun a j ha hj => ?_, if_pos ⟨rfl, rfl⟩, ?_⟩
  · show (mj_nw (mj_nw S 11 3) 20 sz.toNat).2.1 a = _
    rw [nw_o (by rw [nw_nx]; omega), nw_o (by omega)]
  · show (mj_nw (mj_nw S 11 3) 20 sz.toNat).2.1 (mj_nx S) = _
    rw [nw_o (by rw [nw_nx]; omega), nw_s]
  · exact nw_s (S := mj_nw S 11 3)
  · show (if a = 25 ∧ j = t then mj_nx S else if a = mj_nx S ∧ j = 2 then mj_nx S + 1 else (mj_nw (mj_nw S 11 3) 20 sz.toNat).1 a j) = _
    rw [if_neg hj, if_neg (by omega), nw_r (by rw [nw_nx]; omega), nw_r (by omega)]
  · show (if mj_nx S = 25 ∧ 2 = t then mj_nx S else if mj_nx S = mj_nx S ∧ 2 = 2 then mj_nx S + 1 else (mj_nw (mj_nw S 11 3) 20 sz.toNat).1 (mj_nx S) 2) = _
    rw [if_neg (by omega), if_pos ⟨rfl, rfl⟩]
theorem sT_Sh {S T : mj_S} {t n : Nat} (h : sT S T t n) (hS : mk_Sh S) : mk_Sh T := by
  have hn := hS.1
  refine ⟨by rw [h.1]; omega, fun a a0 a1 => ⟨by rw [h.2.2.1 a (by omega)]; exact (hS.2 a a0 a1).1, fun q1 q2 k => ?_⟩⟩
  rw [h.2.2.2.2.2.1 a k (by omega) (by omega)]
  exact (hS.2 a a0 a1).2 q1 q2 k
theorem sT_X {S T : mj_S} {t n : Nat} (h : sT S T t n) (hn : 181 ≤ mj_nx S) (hX : RX S) : RX T := by
  obtain ⟨h1, h2, h3, h4, h5, h6, h7, h8⟩ := h
  intro b t' hb ht'
  by_cases e : b = 21 ∧ t' = t
  · obtain ⟨e1, e2⟩ := e
    subst e1 e2
    refine Or.inr ?_
    have e : mj_rf T (21 + 4) t' = mj_nx S := h7
    rw [e]
    exact ⟨hn, by omega, by unfold mj_tg; rw [h4]⟩
  · have e' : mj_rf T (b + 4) t' = mj_rf S (b + 4) t' := h6 (b + 4) t' (by unfold mB at hb; omega) (by omega)
    rw [e']
    rcases hX b t' hb ht' with q | q
    · exact Or.inl q
    · exact Or.inr ⟨q.1, by omega, by unfold mj_tg; rw [h3 _ q.2.1]; exact q.2.2⟩
theorem CbX_T {S T : mj_S} {t n : Nat} (h : sT S T t n) {I J : mj_I} {x : Nat} {N N' : Int → Int} {u : Int} (hn : 181 ≤ mj_nx S) (hJ : ∀ a, 181 ≤ a → a < mj_nx S → J a = I a) (hN : N' (238 + 2 * u) = N (238 + 2 * u) ∧ N' (238 + 2 * u + 1) = N (238 + 2 * u + 1) ∧ ∀ j, 0 ≤ j → j < 96 → N' (266 + 96 * u + j) = N (266 + 96 * u + j)) (hC : CbX I S x N u) : CbX J T x N' u := by
  obtain ⟨h1, h2, h3, h4, h5, h6, h7, h8⟩ := h
  obtain ⟨c1, c2, c3, c4, c5, c6, k, n, c7, c8, c9, c10, c11, c12⟩ := hC
  have er : mj_rf T x 2 = mj_rf S x 2 := h6 x 2 c2 (by omega)
  have ej : rd J (mj_rf S x 2) = rd I (mj_rf S x 2) := by
    funext j
    unfold rd
    rw [hJ _ c4 c5]
  refine ⟨c1, by omega, by unfold mj_tg; rw [h3 x c2]; exact c3, ?_⟩
  rw [er]
  refine ⟨c4, by omega, by unfold mj_tg; rw [h3 _ c5]; exact c6, k, n, by unfold mj_ln; rw [h3 _ c5]; exact c7, c8, by rw [hJ x c1 c2]; exact c9, by rw [hN.1]; exact c10, by rw [hJ x c1 c2, hN.2.1]; exact c11, fun j j0 j1 => ?_⟩
  rw [ej, hN.2.2 j j0 (by omega)]
  exact c12 j j0 j1
