/-! the law's loop -/
theorem w_paper {L k : Nat} {xs : Nat → Int32} {I : mj_I} {S : mj_S} {Q : mj_Q} {i : Int} (hi : 0 ≤ i ∧ i + 6 ≤ L) (hL : L ≤ 384) (hk : k < 64) (hR : Rel L xs k I S) (hn : ∀ I' S', Rel L xs (k + 1) I' S' → mj_W 500 299 1254 [some (.inr 1), some (.inr 20), some (.inr 150), some (.inl i)] [] I' S' Q) : mj_W 500 299 86 [some (.inr 1), some (.inr 20), some (.inr 150), some (.inl i)] [] I S Q := by
  have hs := law_S hR
  refine mj_W_of 80 ?_
  refine ⟨law_ai hL hs (by omega) (by omega), ?_⟩
  refine ⟨law_ai hL hs (by omega) (by omega), ?_⟩
  refine ⟨law_ai hL hs (by omega) (by omega), ?_⟩
  refine ⟨fun hz => ?_, fun hz => ?_⟩
  · refine ⟨hR.1.t 20 (t := 0) (n := 11) (by decide +kernel), by decide, mj_C_mono (mj_C_d (show 400 ≤ 500 - 1 by decide) (P_paper (I 1 (mj_wr (i + 1)).toNat) (I 1 (mj_wr (i + 2)).toNat) 0 I S hk hR)) ?_⟩
    intro r I' S' ⟨v, hv, ⟨e1, e2, e3⟩, hm⟩
    subst hv
    rw [← e2] at hs
    rw [← e1] at hm hz
    refine ⟨law_ai hL hs (by omega) (by omega), ?_⟩
    refine ⟨law_ai hL hs (by omega) (by omega), ?_⟩
    refine ⟨law_ai hL hs (by omega) (by omega), ?_⟩
    refine ⟨fun _ => ?_, fun hq => absurd hz hq⟩
    refine ⟨law_150 hR e3, by decide, mj_C_mono (mj_C_d (show 400 ≤ 500 - 1 by decide) hm) ?_⟩
    intro r' I'' S'' ⟨hv', hR'⟩
    subst hv'
    exact ⟨fun _ => mj_vc_of (hn I'' S'' hR'), fun q => absurd rfl q⟩
  · refine ⟨hR.1.t 20 (t := 0) (n := 11) (by decide +kernel), by decide, mj_C_mono (mj_C_d (show 400 ≤ 500 - 1 by decide) (P_paper (I 1 (mj_wr (i + 1)).toNat) (I 1 (mj_wr (i + 2)).toNat) 1 I S hk hR)) ?_⟩
    intro r I' S' ⟨v, hv, ⟨e1, e2, e3⟩, hm⟩
    subst hv
    rw [← e2] at hs
    rw [← e1] at hm hz
    refine ⟨law_ai hL hs (by omega) (by omega), ?_⟩
    refine ⟨law_ai hL hs (by omega) (by omega), ?_⟩
    refine ⟨law_ai hL hs (by omega) (by omega), ?_⟩
    refine ⟨fun hq => absurd hq hz, fun _ => ?_⟩
    refine ⟨law_150 hR e3, by decide, mj_C_mono (mj_C_d (show 400 ≤ 500 - 1 by decide) hm) ?_⟩
    intro r' I'' S'' ⟨hv', hR'⟩
    subst hv'
    exact ⟨fun _ => mj_vc_of (hn I'' S'' hR'), fun q => absurd rfl q⟩
theorem w_text (PT : ∀ (L : Nat) (xs : Nat → Int32) (n : Nat), Pair L xs n 69 235 []) {L k : Nat} {xs : Nat → Int32} {I : mj_I} {S : mj_S} {Q : mj_Q} {i : Int} (hk : k < 64) (hR : Rel L xs k I S) (hn : ∀ I' S', Rel L xs (k + 1) I' S' → mj_W 500 299 1254 [some (.inr 1), some (.inr 20), some (.inr 150), some (.inl i)] [] I' S' Q) : mj_W 500 299 576 [some (.inr 1), some (.inr 20), some (.inr 150), some (.inl i)] [] I S Q := by
  refine mj_W_of 60 ?_
  refine ⟨hR.1.t 20 (t := 0) (n := 11) (by decide +kernel), by decide, mj_C_mono (mj_C_d (show 400 ≤ 500 - 1 by decide) (PT L xs k I S hk hR)) ?_⟩
  intro r I' S' ⟨v, hv, ⟨e1, e2, e3⟩, hm⟩
  subst hv
  refine ⟨law_150 hR e3, by decide, mj_C_mono (mj_C_d (show 400 ≤ 500 - 1 by decide) hm) ?_⟩
  intro r' I'' S'' ⟨hv', hR'⟩
  subst hv'
  exact ⟨fun _ => mj_vc_of (hn I'' S'' hR'), fun q => absurd rfl q⟩
def lawQ : mj_Q := fun r _ S' => r = some (.inl 1) ∧ mj_nx S' ≤ 600000 ∧ mj_sl S' ≤ 7000000
theorem law_end {L k : Nat} {xs : Nat → Int32} {I : mj_I} {S : mj_S} (hR : Rel L xs k I S) : lawQ (some (.inl 1)) I S := by
  have h := hR.2.2.2.2.2.2.2.2.2.2
  unfold RBd at h
  exact ⟨rfl, by omega, by omega⟩
theorem law_loop (PT : ∀ (L : Nat) (xs : Nat → Int32) (n : Nat), Pair L xs n 69 235 []) {L : Nat} {xs : Nat → Int32} (hL : L ≤ 384) : ∀ (m k : Nat), k + m = 64 → ∀ (I : mj_I) (S : mj_S) (i : Int), i = 6 * (k : Int) → Rel L xs k I S → mj_W 500 299 10 [some (.inr 1), some (.inr 20), some (.inr 150), some (.inl i)] [] I S lawQ := by
  intro m
  induction m with
  | zero =>
    intro k hk I S i hi hR
    have hs := law_S hR
    have t1 : mj_tg S 1 = 40 := by unfold mj_tg; rw [hs]
    have l1 : mj_ln S 1 = L := by unfold mj_ln; rw [hs]
    have hw : mj_wr (((mj_ln S 1 : Nat) : Int) - 6) = (L : Int) - 6 := by rw [l1, mj_wr_s (by omega) (by omega)]
    refine mj_W_hd [] 12 ?_
    refine And.intro ⟨by rw [t1]; decide, by rw [t1]; decide⟩ ?_
    refine And.intro (fun q => ?_) (fun q => ?_)
    · exact ⟨Or.inr rfl, law_end hR⟩
    · exact absurd (show mj_wr (((mj_ln S 1 : Nat) : Int) - 6) < i by rw [hw]; omega) q
  | succ m ih =>
    intro k hk I S i hi hR
    have hs := law_S hR
    have t1 : mj_tg S 1 = 40 := by unfold mj_tg; rw [hs]
    have l1 : mj_ln S 1 = L := by unfold mj_ln; rw [hs]
    have hw : mj_wr (((mj_ln S 1 : Nat) : Int) - 6) = (L : Int) - 6 := by rw [l1, mj_wr_s (by omega) (by omega)]
    have hn : ∀ I' S', Rel L xs (k + 1) I' S' → mj_W 500 299 1254 [some (.inr 1), some (.inr 20), some (.inr 150), some (.inl i)] [] I' S' lawQ := by
      intro I' S' hR'
      have h1 := ih (k + 1) (by omega) I' S' (mj_wr (i + 6)) (by rw [mj_wr_s (by omega) (by omega)]; omega) hR'
      exact mj_W_of 2 h1
    refine mj_W_hd [] 12 ?_
    refine And.intro ⟨by rw [t1]; decide, by rw [t1]; decide⟩ ?_
    refine And.intro (fun q => ?_) (fun q => ?_)
    · exact ⟨Or.inr rfl, law_end hR⟩
    · have hb : i + 6 ≤ L := by
        have : ¬ mj_wr (((mj_ln S 1 : Nat) : Int) - 6) < i := q
        rw [hw] at this
        omega
      have hi0 : 0 ≤ i ∧ i + 6 ≤ L := by omega
      refine And.intro ⟨Or.inr t1, by omega, by rw [l1]; omega⟩ ?_
      refine ⟨fun _ => w_person hi0 hL (by omega) hR hn, fun _ => ?_⟩
      refine ⟨fun _ => w_personTold hi0 hL (by omega) hR hn, fun _ => ?_⟩
      refine ⟨fun _ => w_paper hi0 hL (by omega) hR hn, fun _ => ?_⟩
      refine ⟨fun _ => w_away hi0 hL (by omega) hR hn, fun _ => ?_⟩
      refine ⟨fun _ => w_stand hi0 hL (by omega) hR hn, fun _ => ?_⟩
      refine ⟨fun _ => w_step hi0 hL (by omega) hR hn, fun _ => ?_⟩
      refine ⟨fun _ => w_stepTold hi0 hL (by omega) hR hn, fun _ => ?_⟩
      refine ⟨fun _ => w_days hi0 hL (by omega) hR hn, fun _ => ?_⟩
      refine ⟨fun _ => w_may hi0 hL (by omega) hR hn, fun _ => ?_⟩
      refine ⟨fun _ => w_cost hi0 hL (by omega) hR hn, fun _ => ?_⟩
      refine ⟨fun _ => w_rule hi0 hL (by omega) hR hn, fun _ => ?_⟩
      refine ⟨fun _ => w_told hi0 hL (by omega) hR hn, fun _ => ?_⟩
      refine ⟨fun _ => w_as hi0 hL (by omega) hR hn, fun _ => ?_⟩
      refine ⟨fun _ => w_turns hi0 hL (by omega) hR hn, fun _ => ?_⟩
      refine ⟨fun _ => w_drop hi0 hL (by omega) hR hn, fun _ => ?_⟩
      refine ⟨fun _ => w_keeps hi0 hL (by omega) hR hn, fun _ => ?_⟩
      refine ⟨fun _ => w_feed hi0 hL (by omega) hR hn, fun _ => ?_⟩
      refine ⟨fun _ => w_trim hi0 hL (by omega) hR hn, fun _ => ?_⟩
      refine ⟨fun _ => w_text PT (by omega) hR hn, fun _ => ?_⟩
      refine ⟨fun _ => w_textTold hi0 hL (by omega) hR hn, fun _ => ?_⟩
      refine ⟨fun _ => w_why hi0 hL (by omega) hR hn, fun _ => ?_⟩
      refine ⟨fun _ => w_ways hi0 hL (by omega) hR hn, fun _ => ?_⟩
      refine ⟨fun _ => w_way hi0 hL (by omega) hR hn, fun _ => ?_⟩
      refine ⟨fun _ => w_must hi0 hL (by omega) hR hn, fun _ => ?_⟩
      refine ⟨fun _ => w_sly hi0 hL (by omega) hR hn, fun _ => ?_⟩
      refine ⟨fun _ => w_missing hi0 hL (by omega) hR hn, fun _ => ?_⟩
      refine ⟨fun _ => w_bears hi0 hL (by omega) hR hn, fun _ => ?_⟩
      refine ⟨fun _ => w_offer hi0 hL (by omega) hR hn, fun _ => ?_⟩
      refine ⟨fun _ => w_clear hi0 hL (by omega) hR hn, fun _ => ?_⟩
      refine ⟨fun _ => w_teach hi0 hL (by omega) hR hn, fun _ => ?_⟩
      refine ⟨fun _ => w_soon hi0 hL (by omega) hR hn, fun _ => ?_⟩
      refine ⟨fun _ => w_sign hi0 hL (by omega) hR hn, fun _ => ?_⟩
      refine ⟨fun _ => w_over hi0 hL (by omega) hR hn, fun _ => ?_⟩
      refine ⟨fun _ => w_judge hi0 hL (by omega) hR hn, fun _ => ?_⟩
      refine ⟨fun _ => w_queue hi0 hL (by omega) hR hn, fun _ => ?_⟩
      refine ⟨fun _ => w_log hi0 hL (by omega) hR hn, fun _ => ?_⟩
      refine ⟨fun _ => w_audit hi0 hL (by omega) hR hn, fun _ => ?_⟩
      refine ⟨fun _ => w_seed hi0 hL (by omega) hR hn, fun _ => ?_⟩
      refine ⟨fun _ => w_luck hi0 hL (by omega) hR hn, fun _ => ?_⟩
      refine ⟨fun _ => w_sheet hi0 hL (by omega) hR hn, fun _ => ?_⟩
      refine ⟨fun _ => w_mark hi0 hL (by omega) hR hn, fun _ => ?_⟩
      refine ⟨fun _ => w_papers hi0 hL (by omega) hR hn, fun _ => ?_⟩
      refine ⟨fun _ => w_copy hi0 hL (by omega) hR hn, fun _ => ?_⟩
      refine ⟨fun _ => w_lay hi0 hL (by omega) hR hn, fun _ => ?_⟩
      refine ⟨fun _ => w_ask hi0 hL (by omega) hR hn, fun _ => ?_⟩
      refine ⟨fun _ => w_item hi0 hL (by omega) hR hn, fun _ => ?_⟩
      refine ⟨fun _ => w_rest hi0 hL (by omega) hR hn, fun _ => ?_⟩
      refine ⟨fun _ => w_tell hi0 hL (by omega) hR hn, fun _ => ?_⟩
      refine ⟨fun _ => w_check hi0 hL (by omega) hR hn, fun _ => ?_⟩
      refine ⟨fun _ => w_keep hi0 hL (by omega) hR hn, fun _ => ?_⟩
      refine ⟨fun _ => w_back hi0 hL (by omega) hR hn, fun _ => ?_⟩
      refine ⟨fun _ => w_count hi0 hL (by omega) hR hn, fun _ => ?_⟩
      exact hn I S (hR.up (by omega))
theorem mj_goal_of (PT : ∀ (L : Nat) (xs : Nat → Int32) (n : Nat), Pair L xs n 69 235 []) : mj_goal := by
  intro L xs hL
  have hl := law_loop PT hL 64 0 (by omega) (mk_I mk_DB (mj_I0 xs)) (mk_S mk_DB (mj_S0 L)) 0 rfl rel0
  refine mj_C_of 10 ?_
  all_goals skip
