/-! the law's loop -/
theorem w_paper {L k : Nat} {xs : Nat → Int32} {I : mj_I} {S : mj_S} {Q : mj_Q} {i : Int} (hi : 0 ≤ i ∧ i + 6 ≤ L) (hL : L ≤ 384) (hk : k < 64) (hR : Rel L xs k I S) (hn : ∀ I' S', Rel L xs (k + 1) I' S' → mj_W 500 299 1254 [some (.inr 1), some (.inr 20), some (.inr 150), some (.inl i)] [] I' S' Q) : mj_W 500 299 86 [some (.inr 1), some (.inr 20), some (.inr 150), some (.inl i)] [] I S Q := by
  have hs := law_S hR
  refine mj_W_of 80 ?_
  refine ⟨law_ai hL hs (by omega) (by omega), ?_⟩
  refine ⟨law_ai hL hs (by omega) (by omega), ?_⟩
  refine ⟨law_ai hL hs (by omega) (by omega), ?_⟩
  refine ⟨fun hz => ?_, fun hz => ?_⟩
  · refine ⟨hR.1.t 20 (t := 0) (n := 11) (by decide +kernel), by decide, mj_C_mono (mj_C_d (show 400 ≤ 500 - 1 by decide) (P_paper (I 1 (mj_wr (i + 1)).toNat) (I 1 (mj_wr (i + 2)).toNat) 0 I S hk hR)) ?_⟩
    intro r I' S' ⟨v, hv, ⟨e1, e2, e3⟩, hm⟩
    subst hv
    rw [← e2] at hs
    rw [← e1] at hm hz
    refine ⟨law_ai hL hs (by omega) (by omega), ?_⟩
    refine ⟨law_ai hL hs (by omega) (by omega), ?_⟩
    refine ⟨law_ai hL hs (by omega) (by omega), ?_⟩
    refine ⟨fun _ => ?_, fun hq => absurd hz hq⟩
    refine ⟨law_150 hR e3, by decide, mj_C_mono (mj_C_d (show 400 ≤ 500 - 1 by decide) hm) ?_⟩
    intro r' I'' S'' ⟨hv', hR'⟩
    subst hv'
    exact ⟨fun _ => mj_vc_of (hn I'' S'' hR'), fun q => absurd rfl q⟩
  · refine ⟨hR.1.t 20 (t := 0) (n := 11) (by decide +kernel), by decide, mj_C_mono (mj_C_d (show 400 ≤ 500 - 1 by decide) (P_paper (I 1 (mj_wr (i + 1)).toNat) (I 1 (mj_wr (i + 2)).toNat) 1 I S hk hR)) ?_⟩
    intro r I' S' ⟨v, hv, ⟨e1, e2, e3⟩, hm⟩
    subst hv
    rw [← e2] at hs
    rw [← e1] at hm hz
    refine ⟨law_ai hL hs (by omega) (by omega), ?_⟩
    refine ⟨law_ai hL hs (by omega) (by omega), ?_⟩
    refine ⟨law_ai hL hs (by omega) (by omega), ?_⟩
    refine ⟨fun hq => absurd hq hz, fun _ => ?_⟩
    refine ⟨law_150 hR e3, by decide, mj_C_mono (mj_C_d (show 400 ≤ 500 - 1 by decide) hm) ?_⟩
    intro r' I'' S'' ⟨hv', hR'⟩
    subst hv'
    exact ⟨fun _ => mj_vc_of (hn I'' S'' hR'), fun q => absurd rfl q⟩
theorem w_text (PT : ∀ (L : Nat) (xs : Nat → Int32) (n : Nat), Pair L xs n 69 235 []) {L k : Nat} {xs : Nat → Int32} {I : mj_I} {S : mj_S} {Q : mj_Q} {i : Int} (hk : k < 64) (hR : Rel L xs k I S) (hn : ∀ I' S', Rel L xs (k + 1) I' S' → mj_W 500 299 1254 [some (.inr 1), some (.inr 20), some (.inr 150), some (.inl i)] [] I' S' Q) : mj_W 500 299 576 [some (.inr 1), some (.inr 20), some (.inr 150), some (.inl i)] [] I S Q := by
  refine mj_W_of 60 ?_
  refine ⟨hR.1.t 20 (t := 0) (n := 11) (by decide +kernel), by decide, mj_C_mono (mj_C_d (show 400 ≤ 500 - 1 by decide) (PT L xs k I S hk hR)) ?_⟩
  intro r I' S' ⟨v, hv, ⟨e1, e2, e3⟩, hm⟩
  subst hv
  refine ⟨law_150 hR e3, by decide, mj_C_mono (mj_C_d (show 400 ≤ 500 - 1 by decide) hm) ?_⟩
  intro r' I'' S'' ⟨hv', hR'⟩
  subst hv'
  exact ⟨fun _ => mj_vc_of (hn I'' S'' hR'), fun q => absurd rfl q⟩
theorem mj_vs_of {hs : List Nat} {k d m i : Nat} {ls : mj_L} {st : List mj_V} {I : mj_I} {S : mj_S} {Q : mj_Q} (h : mj_W d m i ls st I S Q) : mj_vs hs k d m i ls st I S Q := by
  induction k generalizing i ls st I S with
  | zero => exact h
  | succ k ih =>
    unfold mj_vs
    split
    · exact h
    · exact mj_sem_mono (fun i ls st I S q => ih q) (fun y as a b hab q => ⟨q.1, mj_W_mono q.2 hab⟩) (fun v q => q) (mj_W_un h)
def lawQ : mj_Q := fun r _ S' => r = some (.inl 1) ∧ mj_nx S' ≤ 600000 ∧ mj_sl S' ≤ 7000000
theorem law_end {L k : Nat} {xs : Nat → Int32} {I : mj_I} {S : mj_S} (hR : Rel L xs k I S) : lawQ (some (.inl 1)) I S := by
  have h := hR.2.2.2.2.2.2.2.2.2.2
  unfold RBd at h
  exact ⟨rfl, by omega, by omega⟩
theorem law_loop (PT : ∀ (L : Nat) (xs : Nat → Int32) (n : Nat), Pair L xs n 69 235 []) {L : Nat} {xs : Nat → Int32} (hL : L ≤ 384) : ∀ (m k : Nat), k + m = 64 → ∀ (I : mj_I) (S : mj_S) (i : Int), i = 6 * (k : Int) → Rel L xs k I S → mj_W 500 299 10 [some (.inr 1), some (.inr 20), some (.inr 150), some (.inl i)] [] I S lawQ := by
  intro m
  induction m with
  | zero =>
    intro k hk I S i hi hR
    have hs := law_S hR
    have t1 : mj_tg S 1 = 40 := by unfold mj_tg; rw [hs]
    have l1 : mj_ln S 1 = L := by unfold mj_ln; rw [hs]
    have hw : mj_wr (((mj_ln S 1 : Nat) : Int) - 6) = (L : Int) - 6 := by rw [l1, mj_wr_s (by omega) (by omega)]
    refine mj_W_hd [] 12 ?_
    refine And.intro ⟨by rw [t1]; decide, by rw [t1]; decide⟩ ?_
    refine And.intro (fun q => ?_) (fun q => ?_)
    · exact ⟨Or.inr rfl, law_end hR⟩
    · exact absurd (show mj_wr (((mj_ln S 1 : Nat) : Int) - 6) < i by rw [hw]; omega) q
  | succ m ih =>
    intro k hk I S i hi hR
    have hs := law_S hR
    have t1 : mj_tg S 1 = 40 := by unfold mj_tg; rw [hs]
    have l1 : mj_ln S 1 = L := by unfold mj_ln; rw [hs]
    have hw : mj_wr (((mj_ln S 1 : Nat) : Int) - 6) = (L : Int) - 6 := by rw [l1, mj_wr_s (by omega) (by omega)]
    have hn : ∀ I' S', Rel L xs (k + 1) I' S' → mj_W 500 299 1254 [some (.inr 1), some (.inr 20), some (.inr 150), some (.inl i)] [] I' S' lawQ := by
      intro I' S' hR'
      have h1 := ih (k + 1) (by omega) I' S' (mj_wr (i + 6)) (by rw [mj_wr_s (by omega) (by omega)]; omega) hR'
      exact mj_W_of 2 h1
    refine mj_W_hd [] 12 ?_
    refine And.intro ⟨by rw [t1]; decide, by rw [t1]; decide⟩ ?_
    refine And.intro (fun q => ?_) (fun q => ?_)
    · exact ⟨Or.inr rfl, law_end hR⟩
    · have hb : i + 6 ≤ L := by
        have : ¬ mj_wr (((mj_ln S 1 : Nat) : Int) - 6) < i := q
        rw [hw] at this
        omega
      have hi0 : 0 ≤ i ∧ i + 6 ≤ L := by omega
      refine And.intro ⟨Or.inr t1, by omega, by rw [l1]; omega⟩ ?_
      refine ⟨fun _ => mj_vs_of (w_person hi0 hL (by omega) hR hn), fun _ => ?_⟩
      refine ⟨fun _ => mj_vs_of (w_personTold hi0 hL (by omega) hR hn), fun _ => ?_⟩
      refine ⟨fun _ => mj_vs_of (w_paper hi0 hL (by omega) hR hn), fun _ => ?_⟩
      refine ⟨fun _ => mj_vs_of (w_away hi0 hL (by omega) hR hn), fun _ => ?_⟩
      refine ⟨fun _ => mj_vs_of (w_stand hi0 hL (by omega) hR hn), fun _ => ?_⟩
      refine ⟨fun _ => mj_vs_of (w_step hi0 hL (by omega) hR hn), fun _ => ?_⟩
      refine ⟨fun _ => mj_vs_of (w_stepTold hi0 hL (by omega) hR hn), fun _ => ?_⟩
      refine ⟨fun _ => mj_vs_of (w_days hi0 hL (by omega) hR hn), fun _ => ?_⟩
      refine ⟨fun _ => mj_vs_of (w_may hi0 hL (by omega) hR hn), fun _ => ?_⟩
      refine ⟨fun _ => mj_vs_of (w_cost hi0 hL (by omega) hR hn), fun _ => ?_⟩
      refine ⟨fun _ => mj_vs_of (w_rule hi0 hL (by omega) hR hn), fun _ => ?_⟩
      refine ⟨fun _ => mj_vs_of (w_told hi0 hL (by omega) hR hn), fun _ => ?_⟩
      refine ⟨fun _ => mj_vs_of (w_as hi0 hL (by omega) hR hn), fun _ => ?_⟩
      refine ⟨fun _ => mj_vs_of (w_turns hi0 hL (by omega) hR hn), fun _ => ?_⟩
      refine ⟨fun _ => mj_vs_of (w_drop hi0 hL (by omega) hR hn), fun _ => ?_⟩
      refine ⟨fun _ => mj_vs_of (w_keeps hi0 hL (by omega) hR hn), fun _ => ?_⟩
      refine ⟨fun _ => mj_vs_of (w_feed hi0 hL (by omega) hR hn), fun _ => ?_⟩
      refine ⟨fun _ => mj_vs_of (w_trim hi0 hL (by omega) hR hn), fun _ => ?_⟩
      refine ⟨fun _ => mj_vs_of (w_text PT (by omega) hR hn), fun _ => ?_⟩
      refine ⟨fun _ => mj_vs_of (w_textTold hi0 hL (by omega) hR hn), fun _ => ?_⟩
      refine ⟨fun _ => mj_vs_of (w_why hi0 hL (by omega) hR hn), fun _ => ?_⟩
      refine ⟨fun _ => mj_vs_of (w_ways hi0 hL (by omega) hR hn), fun _ => ?_⟩
      refine ⟨fun _ => mj_vs_of (w_way hi0 hL (by omega) hR hn), fun _ => ?_⟩
      refine ⟨fun _ => mj_vs_of (w_must hi0 hL (by omega) hR hn), fun _ => ?_⟩
      refine ⟨fun _ => mj_vs_of (w_sly hi0 hL (by omega) hR hn), fun _ => ?_⟩
      refine ⟨fun _ => mj_vs_of (w_missing hi0 hL (by omega) hR hn), fun _ => ?_⟩
      refine ⟨fun _ => mj_vs_of (w_bears hi0 hL (by omega) hR hn), fun _ => ?_⟩
      refine ⟨fun _ => mj_vs_of (w_offer hi0 hL (by omega) hR hn), fun _ => ?_⟩
      refine ⟨fun _ => mj_vs_of (w_clear hi0 hL (by omega) hR hn), fun _ => ?_⟩
      refine ⟨fun _ => mj_vs_of (w_teach hi0 hL (by omega) hR hn), fun _ => ?_⟩
      refine ⟨fun _ => mj_vs_of (w_soon hi0 hL (by omega) hR hn), fun _ => ?_⟩
      refine ⟨fun _ => mj_vs_of (w_sign hi0 hL (by omega) hR hn), fun _ => ?_⟩
      refine ⟨fun _ => mj_vs_of (w_over hi0 hL (by omega) hR hn), fun _ => ?_⟩
      refine ⟨fun _ => mj_vs_of (w_judge hi0 hL (by omega) hR hn), fun _ => ?_⟩
      refine ⟨fun _ => mj_vs_of (w_queue hi0 hL (by omega) hR hn), fun _ => ?_⟩
      refine ⟨fun _ => mj_vs_of (w_log hi0 hL (by omega) hR hn), fun _ => ?_⟩
      refine ⟨fun _ => mj_vs_of (w_audit hi0 hL (by omega) hR hn), fun _ => ?_⟩
      refine ⟨fun _ => mj_vs_of (w_seed hi0 hL (by omega) hR hn), fun _ => ?_⟩
      refine ⟨fun _ => mj_vs_of (w_luck hi0 hL (by omega) hR hn), fun _ => ?_⟩
      refine ⟨fun _ => mj_vs_of (w_sheet hi0 hL (by omega) hR hn), fun _ => ?_⟩
      refine ⟨fun _ => mj_vs_of (w_mark hi0 hL (by omega) hR hn), fun _ => ?_⟩
      refine ⟨fun _ => mj_vs_of (w_papers hi0 hL (by omega) hR hn), fun _ => ?_⟩
      refine ⟨fun _ => mj_vs_of (w_copy hi0 hL (by omega) hR hn), fun _ => ?_⟩
      refine ⟨fun _ => mj_vs_of (w_lay hi0 hL (by omega) hR hn), fun _ => ?_⟩
      refine ⟨fun _ => mj_vs_of (w_ask hi0 hL (by omega) hR hn), fun _ => ?_⟩
      refine ⟨fun _ => mj_vs_of (w_item hi0 hL (by omega) hR hn), fun _ => ?_⟩
      refine ⟨fun _ => mj_vs_of (w_rest hi0 hL (by omega) hR hn), fun _ => ?_⟩
      refine ⟨fun _ => mj_vs_of (w_tell hi0 hL (by omega) hR hn), fun _ => ?_⟩
      refine ⟨fun _ => mj_vs_of (w_check hi0 hL (by omega) hR hn), fun _ => ?_⟩
      refine ⟨fun _ => mj_vs_of (w_keep hi0 hL (by omega) hR hn), fun _ => ?_⟩
      refine ⟨fun _ => mj_vs_of (w_back hi0 hL (by omega) hR hn), fun _ => ?_⟩
      refine ⟨fun _ => mj_vs_of (w_count hi0 hL (by omega) hR hn), fun _ => ?_⟩
      exact mj_vs_of (hn I S (hR.up (by omega)))
theorem tg_nw {S : mj_S} {t : Nat} (n : Nat) : mj_tg (mj_nw S t n) (mj_nx S) = t := by
  unfold mj_tg mj_nw mj_nx
  simp only [if_true, ite_true]
theorem mkI_nil {xs : Nat → Int32} : mk_I [] (mj_I0 xs) = mj_I0 xs := by
  funext a k
  show (if a < 20 then mj_I0 xs a k else ([] : List Int).getD k 0) = mj_I0 xs a k
  split
  · rfl
  · rename_i h
    unfold mj_I0
    rw [if_neg (by omega), if_neg (by omega), if_neg (by omega)]
    rfl
theorem mkS_nil {L : Nat} : mk_S [] (mj_S0 L) = mj_S0 L := by
  refine Prod.ext ?_ (Prod.ext ?_ (Prod.ext rfl rfl))
  · funext a k
    show (if a < 20 then (mj_S0 L).1 a k else ([] : List Nat).getD k 0) = (mj_S0 L).1 a k
    split
    · rfl
    · rename_i h
      show 0 = if 3 ≤ a ∧ a < 10 ∧ k = 0 then a + 7 else 0
      rw [if_neg (by omega)]
  · funext a
    show (if a < 20 then (mj_S0 L).2.1 a else (19, 0)) = (mj_S0 L).2.1 a
    split
    · rfl
    · rename_i h
      show (19, 0) = (mj_otg a, _)
      unfold mj_otg
      rw [if_neg (by omega), if_neg (by omega), if_neg (by omega), if_neg (by omega), if_neg (by omega), if_neg (by omega)]
theorem mj_goal_of (PT : ∀ (L : Nat) (xs : Nat → Int32) (n : Nat), Pair L xs n 69 235 []) : mj_goal := by
  intro L xs hL
  have hl := law_loop PT hL 64 0 (by omega) (mk_I mk_DB (mj_I0 xs)) (mk_S mk_DB (mj_S0 L)) 0 rfl rel0
  have e1 : mj_z (mj_I0 xs) 20 = mk_I [(0, List.replicate 11 0, List.replicate 11 0)] (mj_I0 xs) := by
    have h := mk_I_new (D := []) (t := 0) (n := 11) (is := List.replicate 11 0) (rs := List.replicate 11 0) (I0 := mj_I0 xs) (mk_rep0 11)
    rw [mkI_nil] at h
    exact h.symm
  have e2 : mj_nw (mj_S0 L) 0 11 = mk_S [(0, List.replicate 11 0, List.replicate 11 0)] (mj_S0 L) := by
    have h := mk_S_new (D := []) (t := 0) (n := 11) (is := List.replicate 11 0) (rs := List.replicate 11 0) (S0 := mj_S0 L) (mk_rep0n 11) (by decide)
    rw [mkS_nil] at h
    exact h.symm
  have nA : 20 + mk_DA.length = 150 := by decide +kernel
  have e3 : mj_z (mk_I mk_DA (mj_I0 xs)) 150 = mk_I (mk_DA ++ [(12, List.replicate 48 0, List.replicate 48 0)]) (mj_I0 xs) := by
    have h := mk_I_new (D := mk_DA) (t := 12) (n := 48) (is := List.replicate 48 0) (rs := List.replicate 48 0) (I0 := mj_I0 xs) (mk_rep0 48)
    rw [nA] at h
    exact h.symm
  have e4 : mj_nw (mk_S mk_DA (mj_S0 L)) 12 48 = mk_S (mk_DA ++ [(12, List.replicate 48 0, List.replicate 48 0)]) (mj_S0 L) :=
    (mk_S_new (D := mk_DA) (t := 12) (n := 48) (is := List.replicate 48 0) (rs := List.replicate 48 0) (S0 := mj_S0 L) (mk_rep0n 48) (by decide)).symm
  have cA : mj_C (500 - 1) 0 [.inr 20] (mj_z (mj_I0 xs) 20) (mj_nw (mj_S0 L) 0 11) (fun a b c => a = none ∧ b = mk_I mk_DA (mj_I0 xs) ∧ c = mk_S mk_DA (mj_S0 L)) := by
    rw [e1, e2]
    exact mj_C_d (show 10 ≤ 500 - 1 by decide) ⟨3000, mk_sound _ _ _ _ _ _ _ _ _ mk_runA⟩
  have cB : mj_C (500 - 1) 194 [.inr 150] (mj_z (mk_I mk_DA (mj_I0 xs)) 150) (mj_nw (mk_S mk_DA (mj_S0 L)) 12 48) (fun a b c => a = none ∧ b = mk_I mk_DB (mj_I0 xs) ∧ c = mk_S mk_DB (mj_S0 L)) := by
    rw [e3, e4]
    exact mj_C_d (show 10 ≤ 500 - 1 by decide) ⟨3000, mk_sound _ _ _ _ _ _ _ _ _ mk_runB⟩
  refine mj_C_of 10 ?_
  refine ⟨?_, by decide, mj_C_mono cA ?_⟩
  · rfl
  intro r I' S' ⟨q1, q2, q3⟩
  subst q1; subst q2; subst q3
  have nx : mj_nx (mk_S mk_DA (mj_S0 L)) = 150 := nA
  have cB' : mj_C (500 - 1) 194 [.inr (mj_nx (mk_S mk_DA (mj_S0 L)))] (mj_z (mk_I mk_DA (mj_I0 xs)) (mj_nx (mk_S mk_DA (mj_S0 L)))) (mj_nw (mk_S mk_DA (mj_S0 L)) 12 48) (fun a b c => a = none ∧ b = mk_I mk_DB (mj_I0 xs) ∧ c = mk_S mk_DB (mj_S0 L)) := by
    rw [nx]
    exact cB
  refine ⟨tg_nw _, by decide, mj_C_mono cB' ?_⟩
  intro r I' S' ⟨q1, q2, q3⟩
  subst q1; subst q2; subst q3
  show mj_W 500 299 10 [some (.inr 1), some (.inr 20), some (.inr (mj_nx (mk_S mk_DA (mj_S0 L)))), some (.inl 0)] [] (mk_I mk_DB (mj_I0 xs)) (mk_S mk_DB (mj_S0 L)) lawQ
  rw [nx]
  exact hl
