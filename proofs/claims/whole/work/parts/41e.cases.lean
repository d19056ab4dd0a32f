/-! the law's cases (wip/whole/mk43.py) -/
theorem law_ai {L : Nat} {S : mj_S} {i j : Int} (hL : L ≤ 384) (h : S.2.1 1 = (40, L)) (h0 : 0 ≤ i + j) (h1 : i + j < L) : mj_ai S 1 (mj_wr (i + j)) 20 40 := by
  rw [mj_wr_s (by omega) (by omega)]
  unfold mj_ai mj_tg mj_ln
  rw [h]
  exact ⟨Or.inr rfl, h0, h1⟩
theorem law_S {L k : Nat} {xs : Nat → Int32} {I : mj_I} {S : mj_S} (hR : Rel L xs k I S) : S.2.1 1 = (40, L) := by
  rw [(hR.2.1.2.1.1 1 (by decide)).2]
  rfl
theorem law_150 {L k : Nat} {xs : Nat → Int32} {I : mj_I} {S S' : mj_S} (hR : Rel L xs k I S) (e : S'.2.1 150 = S.2.1 150) : mj_tg S' 150 = 12 := by
  have h := hR.1.t 150 (t := 12) (n := 48) (by decide +kernel)
  unfold mj_tg at h ⊢
  rw [e]
  exact h
theorem law_v {L k : Nat} {xs : Nat → Int32} {I : mj_I} {S : mj_S} (hR : Rel L xs k I S) (j : Nat) : I 1 j ≤ 2147483647 := by
  rw [hR.2.1.1 1 (by decide)]
  exact (mj_toR (xs j)).2
theorem w_person {L k : Nat} {xs : Nat → Int32} {I : mj_I} {S : mj_S} {Q : mj_Q} {i : Int} (hi : 0 ≤ i ∧ i + 6 ≤ L) (hL : L ≤ 384) (hk : k < 64) (hR : Rel L xs k I S) (hn : ∀ I' S', Rel L xs (k + 1) I' S' → mj_W 500 299 1254 [some (.inr 1), some (.inr 20), some (.inr 150), some (.inl i)] [] I' S' Q) : mj_W 500 299 22 [some (.inr 1), some (.inr 20), some (.inr 150), some (.inl i)] [] I S Q := by
  have hs := law_S hR
  refine mj_W_of 60 ?_
  refine ⟨law_ai hL hs (by omega) (by omega), ?_⟩
  refine ⟨law_ai hL hs (by omega) (by omega), ?_⟩
  refine ⟨law_ai hL hs (by omega) (by omega), ?_⟩
  refine ⟨hR.1.t 20 (t := 0) (n := 11) (by decide +kernel), by decide, mj_C_mono (mj_C_d (show 400 ≤ 500 - 1 by decide) (P_person (I 1 (mj_wr (i + 1)).toNat) (I 1 (mj_wr (i + 2)).toNat) (I 1 (mj_wr (i + 3)).toNat) I S hk hR)) ?_⟩
  intro r I' S' ⟨v, hv, ⟨e1, e2, e3⟩, hm⟩
  subst hv
  rw [← e2] at hs
  rw [← e1] at hm
  refine ⟨law_ai hL hs (by omega) (by omega), ?_⟩
  refine ⟨law_ai hL hs (by omega) (by omega), ?_⟩
  refine ⟨law_ai hL hs (by omega) (by omega), ?_⟩
  refine ⟨law_150 hR e3, by decide, mj_C_mono (mj_C_d (show 400 ≤ 500 - 1 by decide) hm) ?_⟩
  intro r' I'' S'' ⟨hv', hR'⟩
  subst hv'
  exact ⟨fun _ => mj_vc_of (hn I'' S'' hR'), fun q => absurd rfl q⟩
theorem w_personTold {L k : Nat} {xs : Nat → Int32} {I : mj_I} {S : mj_S} {Q : mj_Q} {i : Int} (hi : 0 ≤ i ∧ i + 6 ≤ L) (hL : L ≤ 384) (hk : k < 64) (hR : Rel L xs k I S) (hn : ∀ I' S', Rel L xs (k + 1) I' S' → mj_W 500 299 1254 [some (.inr 1), some (.inr 20), some (.inr 150), some (.inl i)] [] I' S' Q) : mj_W 500 299 59 [some (.inr 1), some (.inr 20), some (.inr 150), some (.inl i)] [] I S Q := by
  have hs := law_S hR
  refine mj_W_of 60 ?_
  refine ⟨law_ai hL hs (by omega) (by omega), ?_⟩
  refine ⟨law_ai hL hs (by omega) (by omega), ?_⟩
  refine ⟨hR.1.t 20 (t := 0) (n := 11) (by decide +kernel), by decide, mj_C_mono (mj_C_d (show 400 ≤ 500 - 1 by decide) (P_personTold (I 1 (mj_wr (i + 1)).toNat) (I 1 (mj_wr (i + 2)).toNat) I S hk hR)) ?_⟩
  intro r I' S' ⟨v, hv, ⟨e1, e2, e3⟩, hm⟩
  subst hv
  rw [← e2] at hs
  rw [← e1] at hm
  refine ⟨law_ai hL hs (by omega) (by omega), ?_⟩
  refine ⟨law_ai hL hs (by omega) (by omega), ?_⟩
  refine ⟨law_150 hR e3, by decide, mj_C_mono (mj_C_d (show 400 ≤ 500 - 1 by decide) hm) ?_⟩
  intro r' I'' S'' ⟨hv', hR'⟩
  subst hv'
  exact ⟨fun _ => mj_vc_of (hn I'' S'' hR'), fun q => absurd rfl q⟩
theorem w_away {L k : Nat} {xs : Nat → Int32} {I : mj_I} {S : mj_S} {Q : mj_Q} {i : Int} (hi : 0 ≤ i ∧ i + 6 ≤ L) (hL : L ≤ 384) (hk : k < 64) (hR : Rel L xs k I S) (hn : ∀ I' S', Rel L xs (k + 1) I' S' → mj_W 500 299 1254 [some (.inr 1), some (.inr 20), some (.inr 150), some (.inl i)] [] I' S' Q) : mj_W 500 299 131 [some (.inr 1), some (.inr 20), some (.inr 150), some (.inl i)] [] I S Q := by
  have hs := law_S hR
  refine mj_W_of 60 ?_
  refine ⟨law_ai hL hs (by omega) (by omega), ?_⟩
  refine ⟨law_ai hL hs (by omega) (by omega), ?_⟩
  refine ⟨law_ai hL hs (by omega) (by omega), ?_⟩
  refine ⟨hR.1.t 20 (t := 0) (n := 11) (by decide +kernel), by decide, mj_C_mono (mj_C_d (show 400 ≤ 500 - 1 by decide) (P_away (I 1 (mj_wr (i + 1)).toNat) (I 1 (mj_wr (i + 2)).toNat) (I 1 (mj_wr (i + 3)).toNat) I S hk hR)) ?_⟩
  intro r I' S' ⟨v, hv, ⟨e1, e2, e3⟩, hm⟩
  subst hv
  rw [← e2] at hs
  rw [← e1] at hm
  refine ⟨law_ai hL hs (by omega) (by omega), ?_⟩
  refine ⟨law_ai hL hs (by omega) (by omega), ?_⟩
  refine ⟨law_ai hL hs (by omega) (by omega), ?_⟩
  refine ⟨law_150 hR e3, by decide, mj_C_mono (mj_C_d (show 400 ≤ 500 - 1 by decide) hm) ?_⟩
  intro r' I'' S'' ⟨hv', hR'⟩
  subst hv'
  exact ⟨fun _ => mj_vc_of (hn I'' S'' hR'), fun q => absurd rfl q⟩
theorem w_stand {L k : Nat} {xs : Nat → Int32} {I : mj_I} {S : mj_S} {Q : mj_Q} {i : Int} (hi : 0 ≤ i ∧ i + 6 ≤ L) (hL : L ≤ 384) (hk : k < 64) (hR : Rel L xs k I S) (hn : ∀ I' S', Rel L xs (k + 1) I' S' → mj_W 500 299 1254 [some (.inr 1), some (.inr 20), some (.inr 150), some (.inl i)] [] I' S' Q) : mj_W 500 299 168 [some (.inr 1), some (.inr 20), some (.inr 150), some (.inl i)] [] I S Q := by
  have hs := law_S hR
  refine mj_W_of 60 ?_
  refine ⟨law_ai hL hs (by omega) (by omega), ?_⟩
  refine ⟨law_ai hL hs (by omega) (by omega), ?_⟩
  refine ⟨law_ai hL hs (by omega) (by omega), ?_⟩
  refine ⟨hR.1.t 20 (t := 0) (n := 11) (by decide +kernel), by decide, mj_C_mono (mj_C_d (show 400 ≤ 500 - 1 by decide) (P_stand (I 1 (mj_wr (i + 1)).toNat) (I 1 (mj_wr (i + 2)).toNat) (I 1 (mj_wr (i + 3)).toNat) I S hk hR)) ?_⟩
  intro r I' S' ⟨v, hv, ⟨e1, e2, e3⟩, hm⟩
  subst hv
  rw [← e2] at hs
  rw [← e1] at hm
  refine ⟨law_ai hL hs (by omega) (by omega), ?_⟩
  refine ⟨law_ai hL hs (by omega) (by omega), ?_⟩
  refine ⟨law_ai hL hs (by omega) (by omega), ?_⟩
  refine ⟨law_150 hR e3, by decide, mj_C_mono (mj_C_d (show 400 ≤ 500 - 1 by decide) hm) ?_⟩
  intro r' I'' S'' ⟨hv', hR'⟩
  subst hv'
  exact ⟨fun _ => mj_vc_of (hn I'' S'' hR'), fun q => absurd rfl q⟩
theorem w_step {L k : Nat} {xs : Nat → Int32} {I : mj_I} {S : mj_S} {Q : mj_Q} {i : Int} (hi : 0 ≤ i ∧ i + 6 ≤ L) (hL : L ≤ 384) (hk : k < 64) (hR : Rel L xs k I S) (hn : ∀ I' S', Rel L xs (k + 1) I' S' → mj_W 500 299 1254 [some (.inr 1), some (.inr 20), some (.inr 150), some (.inl i)] [] I' S' Q) : mj_W 500 299 205 [some (.inr 1), some (.inr 20), some (.inr 150), some (.inl i)] [] I S Q := by
  have hs := law_S hR
  refine mj_W_of 60 ?_
  refine ⟨law_ai hL hs (by omega) (by omega), ?_⟩
  refine ⟨law_ai hL hs (by omega) (by omega), ?_⟩
  refine ⟨law_ai hL hs (by omega) (by omega), ?_⟩
  refine ⟨hR.1.t 20 (t := 0) (n := 11) (by decide +kernel), by decide, mj_C_mono (mj_C_d (show 400 ≤ 500 - 1 by decide) (P_step (I 1 (mj_wr (i + 1)).toNat) (I 1 (mj_wr (i + 2)).toNat) (I 1 (mj_wr (i + 3)).toNat) I S hk hR)) ?_⟩
  intro r I' S' ⟨v, hv, ⟨e1, e2, e3⟩, hm⟩
  subst hv
  rw [← e2] at hs
  rw [← e1] at hm
  refine ⟨law_ai hL hs (by omega) (by omega), ?_⟩
  refine ⟨law_ai hL hs (by omega) (by omega), ?_⟩
  refine ⟨law_ai hL hs (by omega) (by omega), ?_⟩
  refine ⟨law_150 hR e3, by decide, mj_C_mono (mj_C_d (show 400 ≤ 500 - 1 by decide) hm) ?_⟩
  intro r' I'' S'' ⟨hv', hR'⟩
  subst hv'
  exact ⟨fun _ => mj_vc_of (hn I'' S'' hR'), fun q => absurd rfl q⟩
theorem w_stepTold {L k : Nat} {xs : Nat → Int32} {I : mj_I} {S : mj_S} {Q : mj_Q} {i : Int} (hi : 0 ≤ i ∧ i + 6 ≤ L) (hL : L ≤ 384) (hk : k < 64) (hR : Rel L xs k I S) (hn : ∀ I' S', Rel L xs (k + 1) I' S' → mj_W 500 299 1254 [some (.inr 1), some (.inr 20), some (.inr 150), some (.inl i)] [] I' S' Q) : mj_W 500 299 242 [some (.inr 1), some (.inr 20), some (.inr 150), some (.inl i)] [] I S Q := by
  have hs := law_S hR
  refine mj_W_of 60 ?_
  refine ⟨law_ai hL hs (by omega) (by omega), ?_⟩
  refine ⟨law_ai hL hs (by omega) (by omega), ?_⟩
  refine ⟨hR.1.t 20 (t := 0) (n := 11) (by decide +kernel), by decide, mj_C_mono (mj_C_d (show 400 ≤ 500 - 1 by decide) (P_stepTold (I 1 (mj_wr (i + 1)).toNat) (I 1 (mj_wr (i + 2)).toNat) I S hk hR)) ?_⟩
  intro r I' S' ⟨v, hv, ⟨e1, e2, e3⟩, hm⟩
  subst hv
  rw [← e2] at hs
  rw [← e1] at hm
  refine ⟨law_ai hL hs (by omega) (by omega), ?_⟩
  refine ⟨law_ai hL hs (by omega) (by omega), ?_⟩
  refine ⟨law_150 hR e3, by decide, mj_C_mono (mj_C_d (show 400 ≤ 500 - 1 by decide) hm) ?_⟩
  intro r' I'' S'' ⟨hv', hR'⟩
  subst hv'
  exact ⟨fun _ => mj_vc_of (hn I'' S'' hR'), fun q => absurd rfl q⟩
theorem w_days {L k : Nat} {xs : Nat → Int32} {I : mj_I} {S : mj_S} {Q : mj_Q} {i : Int} (hi : 0 ≤ i ∧ i + 6 ≤ L) (hL : L ≤ 384) (hk : k < 64) (hR : Rel L xs k I S) (hn : ∀ I' S', Rel L xs (k + 1) I' S' → mj_W 500 299 1254 [some (.inr 1), some (.inr 20), some (.inr 150), some (.inl i)] [] I' S' Q) : mj_W 500 299 269 [some (.inr 1), some (.inr 20), some (.inr 150), some (.inl i)] [] I S Q := by
  have hs := law_S hR
  refine mj_W_of 60 ?_
  refine ⟨law_ai hL hs (by omega) (by omega), ?_⟩
  refine ⟨hR.1.t 20 (t := 0) (n := 11) (by decide +kernel), by decide, mj_C_mono (mj_C_d (show 400 ≤ 500 - 1 by decide) (P_days (I 1 (mj_wr (i + 1)).toNat) I S hk hR)) ?_⟩
  intro r I' S' ⟨v, hv, ⟨e1, e2, e3⟩, hm⟩
  subst hv
  rw [← e2] at hs
  rw [← e1] at hm
  refine ⟨law_ai hL hs (by omega) (by omega), ?_⟩
  refine ⟨law_150 hR e3, by decide, mj_C_mono (mj_C_d (show 400 ≤ 500 - 1 by decide) hm) ?_⟩
  intro r' I'' S'' ⟨hv', hR'⟩
  subst hv'
  exact ⟨fun _ => mj_vc_of (hn I'' S'' hR'), fun q => absurd rfl q⟩
theorem w_may {L k : Nat} {xs : Nat → Int32} {I : mj_I} {S : mj_S} {Q : mj_Q} {i : Int} (hi : 0 ≤ i ∧ i + 6 ≤ L) (hL : L ≤ 384) (hk : k < 64) (hR : Rel L xs k I S) (hn : ∀ I' S', Rel L xs (k + 1) I' S' → mj_W 500 299 1254 [some (.inr 1), some (.inr 20), some (.inr 150), some (.inl i)] [] I' S' Q) : mj_W 500 299 286 [some (.inr 1), some (.inr 20), some (.inr 150), some (.inl i)] [] I S Q := by
  have hs := law_S hR
  refine mj_W_of 60 ?_
  refine ⟨law_ai hL hs (by omega) (by omega), ?_⟩
  refine ⟨law_ai hL hs (by omega) (by omega), ?_⟩
  refine ⟨law_ai hL hs (by omega) (by omega), ?_⟩
  refine ⟨hR.1.t 20 (t := 0) (n := 11) (by decide +kernel), by decide, mj_C_mono (mj_C_d (show 400 ≤ 500 - 1 by decide) (P_may (I 1 (mj_wr (i + 1)).toNat) (I 1 (mj_wr (i + 2)).toNat) (I 1 (mj_wr (i + 3)).toNat) I S hk hR)) ?_⟩
  intro r I' S' ⟨v, hv, ⟨e1, e2, e3⟩, hm⟩
  subst hv
  rw [← e2] at hs
  rw [← e1] at hm
  refine ⟨law_ai hL hs (by omega) (by omega), ?_⟩
  refine ⟨law_ai hL hs (by omega) (by omega), ?_⟩
  refine ⟨law_ai hL hs (by omega) (by omega), ?_⟩
  refine ⟨law_150 hR e3, by decide, mj_C_mono (mj_C_d (show 400 ≤ 500 - 1 by decide) hm) ?_⟩
  intro r' I'' S'' ⟨hv', hR'⟩
  subst hv'
  exact ⟨fun _ => mj_vc_of (hn I'' S'' hR'), fun q => absurd rfl q⟩
theorem w_cost {L k : Nat} {xs : Nat → Int32} {I : mj_I} {S : mj_S} {Q : mj_Q} {i : Int} (hi : 0 ≤ i ∧ i + 6 ≤ L) (hL : L ≤ 384) (hk : k < 64) (hR : Rel L xs k I S) (hn : ∀ I' S', Rel L xs (k + 1) I' S' → mj_W 500 299 1254 [some (.inr 1), some (.inr 20), some (.inr 150), some (.inl i)] [] I' S' Q) : mj_W 500 299 323 [some (.inr 1), some (.inr 20), some (.inr 150), some (.inl i)] [] I S Q := by
  have hs := law_S hR
  refine mj_W_of 60 ?_
  refine ⟨law_ai hL hs (by omega) (by omega), ?_⟩
  refine ⟨law_ai hL hs (by omega) (by omega), ?_⟩
  refine ⟨hR.1.t 20 (t := 0) (n := 11) (by decide +kernel), by decide, mj_C_mono (mj_C_d (show 400 ≤ 500 - 1 by decide) (P_cost (I 1 (mj_wr (i + 1)).toNat) (I 1 (mj_wr (i + 2)).toNat) I S hk hR)) ?_⟩
  intro r I' S' ⟨v, hv, ⟨e1, e2, e3⟩, hm⟩
  subst hv
  rw [← e2] at hs
  rw [← e1] at hm
  refine ⟨law_ai hL hs (by omega) (by omega), ?_⟩
  refine ⟨law_ai hL hs (by omega) (by omega), ?_⟩
  refine ⟨law_150 hR e3, by decide, mj_C_mono (mj_C_d (show 400 ≤ 500 - 1 by decide) hm) ?_⟩
  intro r' I'' S'' ⟨hv', hR'⟩
  subst hv'
  exact ⟨fun _ => mj_vc_of (hn I'' S'' hR'), fun q => absurd rfl q⟩
theorem w_rule {L k : Nat} {xs : Nat → Int32} {I : mj_I} {S : mj_S} {Q : mj_Q} {i : Int} (hi : 0 ≤ i ∧ i + 6 ≤ L) (hL : L ≤ 384) (hk : k < 64) (hR : Rel L xs k I S) (hn : ∀ I' S', Rel L xs (k + 1) I' S' → mj_W 500 299 1254 [some (.inr 1), some (.inr 20), some (.inr 150), some (.inl i)] [] I' S' Q) : mj_W 500 299 350 [some (.inr 1), some (.inr 20), some (.inr 150), some (.inl i)] [] I S Q := by
  have hs := law_S hR
  refine mj_W_of 60 ?_
  refine ⟨law_ai hL hs (by omega) (by omega), ?_⟩
  refine ⟨law_ai hL hs (by omega) (by omega), ?_⟩
  refine ⟨law_ai hL hs (by omega) (by omega), ?_⟩
  refine ⟨hR.1.t 20 (t := 0) (n := 11) (by decide +kernel), by decide, mj_C_mono (mj_C_d (show 400 ≤ 500 - 1 by decide) (P_rule (I 1 (mj_wr (i + 1)).toNat) (I 1 (mj_wr (i + 2)).toNat) (I 1 (mj_wr (i + 3)).toNat) (law_v hR _) I S hk hR)) ?_⟩
  intro r I' S' ⟨v, hv, ⟨e1, e2, e3⟩, hm⟩
  subst hv
  rw [← e2] at hs
  rw [← e1] at hm
  refine ⟨law_ai hL hs (by omega) (by omega), ?_⟩
  refine ⟨law_ai hL hs (by omega) (by omega), ?_⟩
  refine ⟨law_ai hL hs (by omega) (by omega), ?_⟩
  refine ⟨law_150 hR e3, by decide, mj_C_mono (mj_C_d (show 400 ≤ 500 - 1 by decide) hm) ?_⟩
  intro r' I'' S'' ⟨hv', hR'⟩
  subst hv'
  exact ⟨fun _ => mj_vc_of (hn I'' S'' hR'), fun q => absurd rfl q⟩
theorem w_told {L k : Nat} {xs : Nat → Int32} {I : mj_I} {S : mj_S} {Q : mj_Q} {i : Int} (hi : 0 ≤ i ∧ i + 6 ≤ L) (hL : L ≤ 384) (hk : k < 64) (hR : Rel L xs k I S) (hn : ∀ I' S', Rel L xs (k + 1) I' S' → mj_W 500 299 1254 [some (.inr 1), some (.inr 20), some (.inr 150), some (.inl i)] [] I' S' Q) : mj_W 500 299 387 [some (.inr 1), some (.inr 20), some (.inr 150), some (.inl i)] [] I S Q := by
  have hs := law_S hR
  refine mj_W_of 60 ?_
  refine ⟨law_ai hL hs (by omega) (by omega), ?_⟩
  refine ⟨law_ai hL hs (by omega) (by omega), ?_⟩
  refine ⟨hR.1.t 20 (t := 0) (n := 11) (by decide +kernel), by decide, mj_C_mono (mj_C_d (show 400 ≤ 500 - 1 by decide) (P_told (I 1 (mj_wr (i + 1)).toNat) (I 1 (mj_wr (i + 2)).toNat) I S hk hR)) ?_⟩
  intro r I' S' ⟨v, hv, ⟨e1, e2, e3⟩, hm⟩
  subst hv
  rw [← e2] at hs
  rw [← e1] at hm
  refine ⟨law_ai hL hs (by omega) (by omega), ?_⟩
  refine ⟨law_ai hL hs (by omega) (by omega), ?_⟩
  refine ⟨law_150 hR e3, by decide, mj_C_mono (mj_C_d (show 400 ≤ 500 - 1 by decide) hm) ?_⟩
  intro r' I'' S'' ⟨hv', hR'⟩
  subst hv'
  exact ⟨fun _ => mj_vc_of (hn I'' S'' hR'), fun q => absurd rfl q⟩
theorem w_as {L k : Nat} {xs : Nat → Int32} {I : mj_I} {S : mj_S} {Q : mj_Q} {i : Int} (hi : 0 ≤ i ∧ i + 6 ≤ L) (hL : L ≤ 384) (hk : k < 64) (hR : Rel L xs k I S) (hn : ∀ I' S', Rel L xs (k + 1) I' S' → mj_W 500 299 1254 [some (.inr 1), some (.inr 20), some (.inr 150), some (.inl i)] [] I' S' Q) : mj_W 500 299 414 [some (.inr 1), some (.inr 20), some (.inr 150), some (.inl i)] [] I S Q := by
  have hs := law_S hR
  refine mj_W_of 60 ?_
  refine ⟨law_ai hL hs (by omega) (by omega), ?_⟩
  refine ⟨law_ai hL hs (by omega) (by omega), ?_⟩
  refine ⟨hR.1.t 20 (t := 0) (n := 11) (by decide +kernel), by decide, mj_C_mono (mj_C_d (show 400 ≤ 500 - 1 by decide) (P_as (I 1 (mj_wr (i + 1)).toNat) (I 1 (mj_wr (i + 2)).toNat) I S hk hR)) ?_⟩
  intro r I' S' ⟨v, hv, ⟨e1, e2, e3⟩, hm⟩
  subst hv
  rw [← e2] at hs
  rw [← e1] at hm
  refine ⟨law_ai hL hs (by omega) (by omega), ?_⟩
  refine ⟨law_ai hL hs (by omega) (by omega), ?_⟩
  refine ⟨law_150 hR e3, by decide, mj_C_mono (mj_C_d (show 400 ≤ 500 - 1 by decide) hm) ?_⟩
  intro r' I'' S'' ⟨hv', hR'⟩
  subst hv'
  exact ⟨fun _ => mj_vc_of (hn I'' S'' hR'), fun q => absurd rfl q⟩
theorem w_turns {L k : Nat} {xs : Nat → Int32} {I : mj_I} {S : mj_S} {Q : mj_Q} {i : Int} (hi : 0 ≤ i ∧ i + 6 ≤ L) (hL : L ≤ 384) (hk : k < 64) (hR : Rel L xs k I S) (hn : ∀ I' S', Rel L xs (k + 1) I' S' → mj_W 500 299 1254 [some (.inr 1), some (.inr 20), some (.inr 150), some (.inl i)] [] I' S' Q) : mj_W 500 299 441 [some (.inr 1), some (.inr 20), some (.inr 150), some (.inl i)] [] I S Q := by
  have hs := law_S hR
  refine mj_W_of 60 ?_
  refine ⟨law_ai hL hs (by omega) (by omega), ?_⟩
  refine ⟨law_ai hL hs (by omega) (by omega), ?_⟩
  refine ⟨hR.1.t 20 (t := 0) (n := 11) (by decide +kernel), by decide, mj_C_mono (mj_C_d (show 400 ≤ 500 - 1 by decide) (P_turns (I 1 (mj_wr (i + 1)).toNat) (I 1 (mj_wr (i + 2)).toNat) I S hk hR)) ?_⟩
  intro r I' S' ⟨v, hv, ⟨e1, e2, e3⟩, hm⟩
  subst hv
  rw [← e2] at hs
  rw [← e1] at hm
  refine ⟨law_ai hL hs (by omega) (by omega), ?_⟩
  refine ⟨law_ai hL hs (by omega) (by omega), ?_⟩
  refine ⟨law_150 hR e3, by decide, mj_C_mono (mj_C_d (show 400 ≤ 500 - 1 by decide) hm) ?_⟩
  intro r' I'' S'' ⟨hv', hR'⟩
  subst hv'
  exact ⟨fun _ => mj_vc_of (hn I'' S'' hR'), fun q => absurd rfl q⟩
theorem w_drop {L k : Nat} {xs : Nat → Int32} {I : mj_I} {S : mj_S} {Q : mj_Q} {i : Int} (hi : 0 ≤ i ∧ i + 6 ≤ L) (hL : L ≤ 384) (hk : k < 64) (hR : Rel L xs k I S) (hn : ∀ I' S', Rel L xs (k + 1) I' S' → mj_W 500 299 1254 [some (.inr 1), some (.inr 20), some (.inr 150), some (.inl i)] [] I' S' Q) : mj_W 500 299 468 [some (.inr 1), some (.inr 20), some (.inr 150), some (.inl i)] [] I S Q := by
  have hs := law_S hR
  refine mj_W_of 60 ?_
  refine ⟨law_ai hL hs (by omega) (by omega), ?_⟩
  refine ⟨hR.1.t 20 (t := 0) (n := 11) (by decide +kernel), by decide, mj_C_mono (mj_C_d (show 400 ≤ 500 - 1 by decide) (P_drop (I 1 (mj_wr (i + 1)).toNat) I S hk hR)) ?_⟩
  intro r I' S' ⟨v, hv, ⟨e1, e2, e3⟩, hm⟩
  subst hv
  rw [← e2] at hs
  rw [← e1] at hm
  refine ⟨law_ai hL hs (by omega) (by omega), ?_⟩
  refine ⟨law_150 hR e3, by decide, mj_C_mono (mj_C_d (show 400 ≤ 500 - 1 by decide) hm) ?_⟩
  intro r' I'' S'' ⟨hv', hR'⟩
  subst hv'
  exact ⟨fun _ => mj_vc_of (hn I'' S'' hR'), fun q => absurd rfl q⟩
theorem w_keeps {L k : Nat} {xs : Nat → Int32} {I : mj_I} {S : mj_S} {Q : mj_Q} {i : Int} (hi : 0 ≤ i ∧ i + 6 ≤ L) (hL : L ≤ 384) (hk : k < 64) (hR : Rel L xs k I S) (hn : ∀ I' S', Rel L xs (k + 1) I' S' → mj_W 500 299 1254 [some (.inr 1), some (.inr 20), some (.inr 150), some (.inl i)] [] I' S' Q) : mj_W 500 299 485 [some (.inr 1), some (.inr 20), some (.inr 150), some (.inl i)] [] I S Q := by
  have hs := law_S hR
  refine mj_W_of 60 ?_
  refine ⟨law_ai hL hs (by omega) (by omega), ?_⟩
  refine ⟨law_ai hL hs (by omega) (by omega), ?_⟩
  refine ⟨law_ai hL hs (by omega) (by omega), ?_⟩
  refine ⟨hR.1.t 20 (t := 0) (n := 11) (by decide +kernel), by decide, mj_C_mono (mj_C_d (show 400 ≤ 500 - 1 by decide) (P_keeps (I 1 (mj_wr (i + 1)).toNat) (I 1 (mj_wr (i + 2)).toNat) (I 1 (mj_wr (i + 3)).toNat) I S hk hR)) ?_⟩
  intro r I' S' ⟨v, hv, ⟨e1, e2, e3⟩, hm⟩
  subst hv
  rw [← e2] at hs
  rw [← e1] at hm
  refine ⟨law_ai hL hs (by omega) (by omega), ?_⟩
  refine ⟨law_ai hL hs (by omega) (by omega), ?_⟩
  refine ⟨law_ai hL hs (by omega) (by omega), ?_⟩
  refine ⟨law_150 hR e3, by decide, mj_C_mono (mj_C_d (show 400 ≤ 500 - 1 by decide) hm) ?_⟩
  intro r' I'' S'' ⟨hv', hR'⟩
  subst hv'
  exact ⟨fun _ => mj_vc_of (hn I'' S'' hR'), fun q => absurd rfl q⟩
theorem w_feed {L k : Nat} {xs : Nat → Int32} {I : mj_I} {S : mj_S} {Q : mj_Q} {i : Int} (hi : 0 ≤ i ∧ i + 6 ≤ L) (hL : L ≤ 384) (hk : k < 64) (hR : Rel L xs k I S) (hn : ∀ I' S', Rel L xs (k + 1) I' S' → mj_W 500 299 1254 [some (.inr 1), some (.inr 20), some (.inr 150), some (.inl i)] [] I' S' Q) : mj_W 500 299 522 [some (.inr 1), some (.inr 20), some (.inr 150), some (.inl i)] [] I S Q := by
  have hs := law_S hR
  refine mj_W_of 60 ?_
  refine ⟨law_ai hL hs (by omega) (by omega), ?_⟩
  refine ⟨law_ai hL hs (by omega) (by omega), ?_⟩
  refine ⟨law_ai hL hs (by omega) (by omega), ?_⟩
  refine ⟨hR.1.t 20 (t := 0) (n := 11) (by decide +kernel), by decide, mj_C_mono (mj_C_d (show 400 ≤ 500 - 1 by decide) (P_feed (I 1 (mj_wr (i + 1)).toNat) (I 1 (mj_wr (i + 2)).toNat) (I 1 (mj_wr (i + 3)).toNat) I S hk hR)) ?_⟩
  intro r I' S' ⟨v, hv, ⟨e1, e2, e3⟩, hm⟩
  subst hv
  rw [← e2] at hs
  rw [← e1] at hm
  refine ⟨law_ai hL hs (by omega) (by omega), ?_⟩
  refine ⟨law_ai hL hs (by omega) (by omega), ?_⟩
  refine ⟨law_ai hL hs (by omega) (by omega), ?_⟩
  refine ⟨law_150 hR e3, by decide, mj_C_mono (mj_C_d (show 400 ≤ 500 - 1 by decide) hm) ?_⟩
  intro r' I'' S'' ⟨hv', hR'⟩
  subst hv'
  exact ⟨fun _ => mj_vc_of (hn I'' S'' hR'), fun q => absurd rfl q⟩
theorem w_trim {L k : Nat} {xs : Nat → Int32} {I : mj_I} {S : mj_S} {Q : mj_Q} {i : Int} (hi : 0 ≤ i ∧ i + 6 ≤ L) (hL : L ≤ 384) (hk : k < 64) (hR : Rel L xs k I S) (hn : ∀ I' S', Rel L xs (k + 1) I' S' → mj_W 500 299 1254 [some (.inr 1), some (.inr 20), some (.inr 150), some (.inl i)] [] I' S' Q) : mj_W 500 299 559 [some (.inr 1), some (.inr 20), some (.inr 150), some (.inl i)] [] I S Q := by
  have hs := law_S hR
  refine mj_W_of 60 ?_
  refine ⟨law_ai hL hs (by omega) (by omega), ?_⟩
  refine ⟨hR.1.t 20 (t := 0) (n := 11) (by decide +kernel), by decide, mj_C_mono (mj_C_d (show 400 ≤ 500 - 1 by decide) (P_trim (I 1 (mj_wr (i + 1)).toNat) I S hk hR)) ?_⟩
  intro r I' S' ⟨v, hv, ⟨e1, e2, e3⟩, hm⟩
  subst hv
  rw [← e2] at hs
  rw [← e1] at hm
  refine ⟨law_ai hL hs (by omega) (by omega), ?_⟩
  refine ⟨law_150 hR e3, by decide, mj_C_mono (mj_C_d (show 400 ≤ 500 - 1 by decide) hm) ?_⟩
  intro r' I'' S'' ⟨hv', hR'⟩
  subst hv'
  exact ⟨fun _ => mj_vc_of (hn I'' S'' hR'), fun q => absurd rfl q⟩
theorem w_textTold {L k : Nat} {xs : Nat → Int32} {I : mj_I} {S : mj_S} {Q : mj_Q} {i : Int} (hi : 0 ≤ i ∧ i + 6 ≤ L) (hL : L ≤ 384) (hk : k < 64) (hR : Rel L xs k I S) (hn : ∀ I' S', Rel L xs (k + 1) I' S' → mj_W 500 299 1254 [some (.inr 1), some (.inr 20), some (.inr 150), some (.inl i)] [] I' S' Q) : mj_W 500 299 583 [some (.inr 1), some (.inr 20), some (.inr 150), some (.inl i)] [] I S Q := by
  have hs := law_S hR
  refine mj_W_of 60 ?_
  refine ⟨law_ai hL hs (by omega) (by omega), ?_⟩
  refine ⟨law_ai hL hs (by omega) (by omega), ?_⟩
  refine ⟨hR.1.t 20 (t := 0) (n := 11) (by decide +kernel), by decide, mj_C_mono (mj_C_d (show 400 ≤ 500 - 1 by decide) (P_textTold (I 1 (mj_wr (i + 1)).toNat) (I 1 (mj_wr (i + 2)).toNat) I S hk hR)) ?_⟩
  intro r I' S' ⟨v, hv, ⟨e1, e2, e3⟩, hm⟩
  subst hv
  rw [← e2] at hs
  rw [← e1] at hm
  refine ⟨law_ai hL hs (by omega) (by omega), ?_⟩
  refine ⟨law_ai hL hs (by omega) (by omega), ?_⟩
  refine ⟨law_150 hR e3, by decide, mj_C_mono (mj_C_d (show 400 ≤ 500 - 1 by decide) hm) ?_⟩
  intro r' I'' S'' ⟨hv', hR'⟩
  subst hv'
  exact ⟨fun _ => mj_vc_of (hn I'' S'' hR'), fun q => absurd rfl q⟩
theorem w_why {L k : Nat} {xs : Nat → Int32} {I : mj_I} {S : mj_S} {Q : mj_Q} {i : Int} (hi : 0 ≤ i ∧ i + 6 ≤ L) (hL : L ≤ 384) (hk : k < 64) (hR : Rel L xs k I S) (hn : ∀ I' S', Rel L xs (k + 1) I' S' → mj_W 500 299 1254 [some (.inr 1), some (.inr 20), some (.inr 150), some (.inl i)] [] I' S' Q) : mj_W 500 299 610 [some (.inr 1), some (.inr 20), some (.inr 150), some (.inl i)] [] I S Q := by
  have hs := law_S hR
  refine mj_W_of 60 ?_
  refine ⟨law_ai hL hs (by omega) (by omega), ?_⟩
  refine ⟨hR.1.t 20 (t := 0) (n := 11) (by decide +kernel), by decide, mj_C_mono (mj_C_d (show 400 ≤ 500 - 1 by decide) (P_why (I 1 (mj_wr (i + 1)).toNat) I S hk hR)) ?_⟩
  intro r I' S' ⟨v, hv, ⟨e1, e2, e3⟩, hm⟩
  subst hv
  rw [← e2] at hs
  rw [← e1] at hm
  refine ⟨law_ai hL hs (by omega) (by omega), ?_⟩
  refine ⟨law_150 hR e3, by decide, mj_C_mono (mj_C_d (show 400 ≤ 500 - 1 by decide) hm) ?_⟩
  intro r' I'' S'' ⟨hv', hR'⟩
  subst hv'
  exact ⟨fun _ => mj_vc_of (hn I'' S'' hR'), fun q => absurd rfl q⟩
theorem w_ways {L k : Nat} {xs : Nat → Int32} {I : mj_I} {S : mj_S} {Q : mj_Q} {i : Int} (hi : 0 ≤ i ∧ i + 6 ≤ L) (hL : L ≤ 384) (hk : k < 64) (hR : Rel L xs k I S) (hn : ∀ I' S', Rel L xs (k + 1) I' S' → mj_W 500 299 1254 [some (.inr 1), some (.inr 20), some (.inr 150), some (.inl i)] [] I' S' Q) : mj_W 500 299 627 [some (.inr 1), some (.inr 20), some (.inr 150), some (.inl i)] [] I S Q := by
  have hs := law_S hR
  refine mj_W_of 60 ?_
  refine ⟨law_ai hL hs (by omega) (by omega), ?_⟩
  refine ⟨hR.1.t 20 (t := 0) (n := 11) (by decide +kernel), by decide, mj_C_mono (mj_C_d (show 400 ≤ 500 - 1 by decide) (P_ways (I 1 (mj_wr (i + 1)).toNat) I S hk hR)) ?_⟩
  intro r I' S' ⟨v, hv, ⟨e1, e2, e3⟩, hm⟩
  subst hv
  rw [← e2] at hs
  rw [← e1] at hm
  refine ⟨law_ai hL hs (by omega) (by omega), ?_⟩
  refine ⟨law_150 hR e3, by decide, mj_C_mono (mj_C_d (show 400 ≤ 500 - 1 by decide) hm) ?_⟩
  intro r' I'' S'' ⟨hv', hR'⟩
  subst hv'
  exact ⟨fun _ => mj_vc_of (hn I'' S'' hR'), fun q => absurd rfl q⟩
theorem w_way {L k : Nat} {xs : Nat → Int32} {I : mj_I} {S : mj_S} {Q : mj_Q} {i : Int} (hi : 0 ≤ i ∧ i + 6 ≤ L) (hL : L ≤ 384) (hk : k < 64) (hR : Rel L xs k I S) (hn : ∀ I' S', Rel L xs (k + 1) I' S' → mj_W 500 299 1254 [some (.inr 1), some (.inr 20), some (.inr 150), some (.inl i)] [] I' S' Q) : mj_W 500 299 644 [some (.inr 1), some (.inr 20), some (.inr 150), some (.inl i)] [] I S Q := by
  have hs := law_S hR
  refine mj_W_of 60 ?_
  refine ⟨law_ai hL hs (by omega) (by omega), ?_⟩
  refine ⟨law_ai hL hs (by omega) (by omega), ?_⟩
  refine ⟨hR.1.t 20 (t := 0) (n := 11) (by decide +kernel), by decide, mj_C_mono (mj_C_d (show 400 ≤ 500 - 1 by decide) (P_way (I 1 (mj_wr (i + 1)).toNat) (I 1 (mj_wr (i + 2)).toNat) I S hk hR)) ?_⟩
  intro r I' S' ⟨v, hv, ⟨e1, e2, e3⟩, hm⟩
  subst hv
  rw [← e2] at hs
  rw [← e1] at hm
  refine ⟨law_ai hL hs (by omega) (by omega), ?_⟩
  refine ⟨law_ai hL hs (by omega) (by omega), ?_⟩
  refine ⟨law_150 hR e3, by decide, mj_C_mono (mj_C_d (show 400 ≤ 500 - 1 by decide) hm) ?_⟩
  intro r' I'' S'' ⟨hv', hR'⟩
  subst hv'
  exact ⟨fun _ => mj_vc_of (hn I'' S'' hR'), fun q => absurd rfl q⟩
theorem w_must {L k : Nat} {xs : Nat → Int32} {I : mj_I} {S : mj_S} {Q : mj_Q} {i : Int} (hi : 0 ≤ i ∧ i + 6 ≤ L) (hL : L ≤ 384) (hk : k < 64) (hR : Rel L xs k I S) (hn : ∀ I' S', Rel L xs (k + 1) I' S' → mj_W 500 299 1254 [some (.inr 1), some (.inr 20), some (.inr 150), some (.inl i)] [] I' S' Q) : mj_W 500 299 671 [some (.inr 1), some (.inr 20), some (.inr 150), some (.inl i)] [] I S Q := by
  have hs := law_S hR
  refine mj_W_of 60 ?_
  refine ⟨law_ai hL hs (by omega) (by omega), ?_⟩
  refine ⟨hR.1.t 20 (t := 0) (n := 11) (by decide +kernel), by decide, mj_C_mono (mj_C_d (show 400 ≤ 500 - 1 by decide) (P_must (I 1 (mj_wr (i + 1)).toNat) I S hk hR)) ?_⟩
  intro r I' S' ⟨v, hv, ⟨e1, e2, e3⟩, hm⟩
  subst hv
  rw [← e2] at hs
  rw [← e1] at hm
  refine ⟨law_ai hL hs (by omega) (by omega), ?_⟩
  refine ⟨law_150 hR e3, by decide, mj_C_mono (mj_C_d (show 400 ≤ 500 - 1 by decide) hm) ?_⟩
  intro r' I'' S'' ⟨hv', hR'⟩
  subst hv'
  exact ⟨fun _ => mj_vc_of (hn I'' S'' hR'), fun q => absurd rfl q⟩
theorem w_sly {L k : Nat} {xs : Nat → Int32} {I : mj_I} {S : mj_S} {Q : mj_Q} {i : Int} (hi : 0 ≤ i ∧ i + 6 ≤ L) (hL : L ≤ 384) (hk : k < 64) (hR : Rel L xs k I S) (hn : ∀ I' S', Rel L xs (k + 1) I' S' → mj_W 500 299 1254 [some (.inr 1), some (.inr 20), some (.inr 150), some (.inl i)] [] I' S' Q) : mj_W 500 299 688 [some (.inr 1), some (.inr 20), some (.inr 150), some (.inl i)] [] I S Q := by
  have hs := law_S hR
  refine mj_W_of 60 ?_
  refine ⟨law_ai hL hs (by omega) (by omega), ?_⟩
  refine ⟨hR.1.t 20 (t := 0) (n := 11) (by decide +kernel), by decide, mj_C_mono (mj_C_d (show 400 ≤ 500 - 1 by decide) (P_sly (I 1 (mj_wr (i + 1)).toNat) I S hk hR)) ?_⟩
  intro r I' S' ⟨v, hv, ⟨e1, e2, e3⟩, hm⟩
  subst hv
  rw [← e2] at hs
  rw [← e1] at hm
  refine ⟨law_ai hL hs (by omega) (by omega), ?_⟩
  refine ⟨law_150 hR e3, by decide, mj_C_mono (mj_C_d (show 400 ≤ 500 - 1 by decide) hm) ?_⟩
  intro r' I'' S'' ⟨hv', hR'⟩
  subst hv'
  exact ⟨fun _ => mj_vc_of (hn I'' S'' hR'), fun q => absurd rfl q⟩
theorem w_missing {L k : Nat} {xs : Nat → Int32} {I : mj_I} {S : mj_S} {Q : mj_Q} {i : Int} (hi : 0 ≤ i ∧ i + 6 ≤ L) (hL : L ≤ 384) (hk : k < 64) (hR : Rel L xs k I S) (hn : ∀ I' S', Rel L xs (k + 1) I' S' → mj_W 500 299 1254 [some (.inr 1), some (.inr 20), some (.inr 150), some (.inl i)] [] I' S' Q) : mj_W 500 299 705 [some (.inr 1), some (.inr 20), some (.inr 150), some (.inl i)] [] I S Q := by
  have hs := law_S hR
  refine mj_W_of 60 ?_
  refine ⟨hR.1.t 20 (t := 0) (n := 11) (by decide +kernel), by decide, mj_C_mono (mj_C_d (show 400 ≤ 500 - 1 by decide) (P_missing  I S hk hR)) ?_⟩
  intro r I' S' ⟨v, hv, ⟨e1, e2, e3⟩, hm⟩
  subst hv
  rw [← e2] at hs
  refine ⟨law_150 hR e3, by decide, mj_C_mono (mj_C_d (show 400 ≤ 500 - 1 by decide) hm) ?_⟩
  intro r' I'' S'' ⟨hv', hR'⟩
  subst hv'
  exact ⟨fun _ => mj_vc_of (hn I'' S'' hR'), fun q => absurd rfl q⟩
theorem w_bears {L k : Nat} {xs : Nat → Int32} {I : mj_I} {S : mj_S} {Q : mj_Q} {i : Int} (hi : 0 ≤ i ∧ i + 6 ≤ L) (hL : L ≤ 384) (hk : k < 64) (hR : Rel L xs k I S) (hn : ∀ I' S', Rel L xs (k + 1) I' S' → mj_W 500 299 1254 [some (.inr 1), some (.inr 20), some (.inr 150), some (.inl i)] [] I' S' Q) : mj_W 500 299 712 [some (.inr 1), some (.inr 20), some (.inr 150), some (.inl i)] [] I S Q := by
  have hs := law_S hR
  refine mj_W_of 60 ?_
  refine ⟨law_ai hL hs (by omega) (by omega), ?_⟩
  refine ⟨hR.1.t 20 (t := 0) (n := 11) (by decide +kernel), by decide, mj_C_mono (mj_C_d (show 400 ≤ 500 - 1 by decide) (P_bears (I 1 (mj_wr (i + 1)).toNat) I S hk hR)) ?_⟩
  intro r I' S' ⟨v, hv, ⟨e1, e2, e3⟩, hm⟩
  subst hv
  rw [← e2] at hs
  rw [← e1] at hm
  refine ⟨law_ai hL hs (by omega) (by omega), ?_⟩
  refine ⟨law_150 hR e3, by decide, mj_C_mono (mj_C_d (show 400 ≤ 500 - 1 by decide) hm) ?_⟩
  intro r' I'' S'' ⟨hv', hR'⟩
  subst hv'
  exact ⟨fun _ => mj_vc_of (hn I'' S'' hR'), fun q => absurd rfl q⟩
theorem w_offer {L k : Nat} {xs : Nat → Int32} {I : mj_I} {S : mj_S} {Q : mj_Q} {i : Int} (hi : 0 ≤ i ∧ i + 6 ≤ L) (hL : L ≤ 384) (hk : k < 64) (hR : Rel L xs k I S) (hn : ∀ I' S', Rel L xs (k + 1) I' S' → mj_W 500 299 1254 [some (.inr 1), some (.inr 20), some (.inr 150), some (.inl i)] [] I' S' Q) : mj_W 500 299 729 [some (.inr 1), some (.inr 20), some (.inr 150), some (.inl i)] [] I S Q := by
  have hs := law_S hR
  refine mj_W_of 60 ?_
  refine ⟨law_ai hL hs (by omega) (by omega), ?_⟩
  refine ⟨law_ai hL hs (by omega) (by omega), ?_⟩
  refine ⟨hR.1.t 20 (t := 0) (n := 11) (by decide +kernel), by decide, mj_C_mono (mj_C_d (show 400 ≤ 500 - 1 by decide) (P_offer (I 1 (mj_wr (i + 1)).toNat) (I 1 (mj_wr (i + 2)).toNat) I S hk hR)) ?_⟩
  intro r I' S' ⟨v, hv, ⟨e1, e2, e3⟩, hm⟩
  subst hv
  rw [← e2] at hs
  rw [← e1] at hm
  refine ⟨law_ai hL hs (by omega) (by omega), ?_⟩
  refine ⟨law_ai hL hs (by omega) (by omega), ?_⟩
  refine ⟨law_150 hR e3, by decide, mj_C_mono (mj_C_d (show 400 ≤ 500 - 1 by decide) hm) ?_⟩
  intro r' I'' S'' ⟨hv', hR'⟩
  subst hv'
  exact ⟨fun _ => mj_vc_of (hn I'' S'' hR'), fun q => absurd rfl q⟩
theorem w_clear {L k : Nat} {xs : Nat → Int32} {I : mj_I} {S : mj_S} {Q : mj_Q} {i : Int} (hi : 0 ≤ i ∧ i + 6 ≤ L) (hL : L ≤ 384) (hk : k < 64) (hR : Rel L xs k I S) (hn : ∀ I' S', Rel L xs (k + 1) I' S' → mj_W 500 299 1254 [some (.inr 1), some (.inr 20), some (.inr 150), some (.inl i)] [] I' S' Q) : mj_W 500 299 756 [some (.inr 1), some (.inr 20), some (.inr 150), some (.inl i)] [] I S Q := by
  have hs := law_S hR
  refine mj_W_of 60 ?_
  refine ⟨hR.1.t 20 (t := 0) (n := 11) (by decide +kernel), by decide, mj_C_mono (mj_C_d (show 400 ≤ 500 - 1 by decide) (P_clear  I S hk hR)) ?_⟩
  intro r I' S' ⟨v, hv, ⟨e1, e2, e3⟩, hm⟩
  subst hv
  rw [← e2] at hs
  refine ⟨law_150 hR e3, by decide, mj_C_mono (mj_C_d (show 400 ≤ 500 - 1 by decide) hm) ?_⟩
  intro r' I'' S'' ⟨hv', hR'⟩
  subst hv'
  exact ⟨fun _ => mj_vc_of (hn I'' S'' hR'), fun q => absurd rfl q⟩
theorem w_teach {L k : Nat} {xs : Nat → Int32} {I : mj_I} {S : mj_S} {Q : mj_Q} {i : Int} (hi : 0 ≤ i ∧ i + 6 ≤ L) (hL : L ≤ 384) (hk : k < 64) (hR : Rel L xs k I S) (hn : ∀ I' S', Rel L xs (k + 1) I' S' → mj_W 500 299 1254 [some (.inr 1), some (.inr 20), some (.inr 150), some (.inl i)] [] I' S' Q) : mj_W 500 299 763 [some (.inr 1), some (.inr 20), some (.inr 150), some (.inl i)] [] I S Q := by
  have hs := law_S hR
  refine mj_W_of 60 ?_
  refine ⟨hR.1.t 20 (t := 0) (n := 11) (by decide +kernel), by decide, mj_C_mono (mj_C_d (show 400 ≤ 500 - 1 by decide) (P_teach  I S hk hR)) ?_⟩
  intro r I' S' ⟨v, hv, ⟨e1, e2, e3⟩, hm⟩
  subst hv
  rw [← e2] at hs
  refine ⟨law_150 hR e3, by decide, mj_C_mono (mj_C_d (show 400 ≤ 500 - 1 by decide) hm) ?_⟩
  intro r' I'' S'' ⟨hv', hR'⟩
  subst hv'
  exact ⟨fun _ => mj_vc_of (hn I'' S'' hR'), fun q => absurd rfl q⟩
theorem w_soon {L k : Nat} {xs : Nat → Int32} {I : mj_I} {S : mj_S} {Q : mj_Q} {i : Int} (hi : 0 ≤ i ∧ i + 6 ≤ L) (hL : L ≤ 384) (hk : k < 64) (hR : Rel L xs k I S) (hn : ∀ I' S', Rel L xs (k + 1) I' S' → mj_W 500 299 1254 [some (.inr 1), some (.inr 20), some (.inr 150), some (.inl i)] [] I' S' Q) : mj_W 500 299 770 [some (.inr 1), some (.inr 20), some (.inr 150), some (.inl i)] [] I S Q := by
  have hs := law_S hR
  refine mj_W_of 60 ?_
  refine ⟨hR.1.t 20 (t := 0) (n := 11) (by decide +kernel), by decide, mj_C_mono (mj_C_d (show 400 ≤ 500 - 1 by decide) (P_soon  I S hk hR)) ?_⟩
  intro r I' S' ⟨v, hv, ⟨e1, e2, e3⟩, hm⟩
  subst hv
  rw [← e2] at hs
  refine ⟨law_150 hR e3, by decide, mj_C_mono (mj_C_d (show 400 ≤ 500 - 1 by decide) hm) ?_⟩
  intro r' I'' S'' ⟨hv', hR'⟩
  subst hv'
  exact ⟨fun _ => mj_vc_of (hn I'' S'' hR'), fun q => absurd rfl q⟩
theorem w_sign {L k : Nat} {xs : Nat → Int32} {I : mj_I} {S : mj_S} {Q : mj_Q} {i : Int} (hi : 0 ≤ i ∧ i + 6 ≤ L) (hL : L ≤ 384) (hk : k < 64) (hR : Rel L xs k I S) (hn : ∀ I' S', Rel L xs (k + 1) I' S' → mj_W 500 299 1254 [some (.inr 1), some (.inr 20), some (.inr 150), some (.inl i)] [] I' S' Q) : mj_W 500 299 777 [some (.inr 1), some (.inr 20), some (.inr 150), some (.inl i)] [] I S Q := by
  have hs := law_S hR
  refine mj_W_of 60 ?_
  refine ⟨law_ai hL hs (by omega) (by omega), ?_⟩
  refine ⟨law_ai hL hs (by omega) (by omega), ?_⟩
  refine ⟨hR.1.t 20 (t := 0) (n := 11) (by decide +kernel), by decide, mj_C_mono (mj_C_d (show 400 ≤ 500 - 1 by decide) (P_sign (I 1 (mj_wr (i + 1)).toNat) (I 1 (mj_wr (i + 2)).toNat) I S hk hR)) ?_⟩
  intro r I' S' ⟨v, hv, ⟨e1, e2, e3⟩, hm⟩
  subst hv
  rw [← e2] at hs
  rw [← e1] at hm
  refine ⟨law_ai hL hs (by omega) (by omega), ?_⟩
  refine ⟨law_ai hL hs (by omega) (by omega), ?_⟩
  refine ⟨law_150 hR e3, by decide, mj_C_mono (mj_C_d (show 400 ≤ 500 - 1 by decide) hm) ?_⟩
  intro r' I'' S'' ⟨hv', hR'⟩
  subst hv'
  exact ⟨fun _ => mj_vc_of (hn I'' S'' hR'), fun q => absurd rfl q⟩
theorem w_over {L k : Nat} {xs : Nat → Int32} {I : mj_I} {S : mj_S} {Q : mj_Q} {i : Int} (hi : 0 ≤ i ∧ i + 6 ≤ L) (hL : L ≤ 384) (hk : k < 64) (hR : Rel L xs k I S) (hn : ∀ I' S', Rel L xs (k + 1) I' S' → mj_W 500 299 1254 [some (.inr 1), some (.inr 20), some (.inr 150), some (.inl i)] [] I' S' Q) : mj_W 500 299 804 [some (.inr 1), some (.inr 20), some (.inr 150), some (.inl i)] [] I S Q := by
  have hs := law_S hR
  refine mj_W_of 60 ?_
  refine ⟨hR.1.t 20 (t := 0) (n := 11) (by decide +kernel), by decide, mj_C_mono (mj_C_d (show 400 ≤ 500 - 1 by decide) (P_over  I S hk hR)) ?_⟩
  intro r I' S' ⟨v, hv, ⟨e1, e2, e3⟩, hm⟩
  subst hv
  rw [← e2] at hs
  refine ⟨law_150 hR e3, by decide, mj_C_mono (mj_C_d (show 400 ≤ 500 - 1 by decide) hm) ?_⟩
  intro r' I'' S'' ⟨hv', hR'⟩
  subst hv'
  exact ⟨fun _ => mj_vc_of (hn I'' S'' hR'), fun q => absurd rfl q⟩
theorem w_judge {L k : Nat} {xs : Nat → Int32} {I : mj_I} {S : mj_S} {Q : mj_Q} {i : Int} (hi : 0 ≤ i ∧ i + 6 ≤ L) (hL : L ≤ 384) (hk : k < 64) (hR : Rel L xs k I S) (hn : ∀ I' S', Rel L xs (k + 1) I' S' → mj_W 500 299 1254 [some (.inr 1), some (.inr 20), some (.inr 150), some (.inl i)] [] I' S' Q) : mj_W 500 299 811 [some (.inr 1), some (.inr 20), some (.inr 150), some (.inl i)] [] I S Q := by
  have hs := law_S hR
  refine mj_W_of 60 ?_
  refine ⟨hR.1.t 20 (t := 0) (n := 11) (by decide +kernel), by decide, mj_C_mono (mj_C_d (show 400 ≤ 500 - 1 by decide) (P_judge  I S hk hR)) ?_⟩
  intro r I' S' ⟨v, hv, ⟨e1, e2, e3⟩, hm⟩
  subst hv
  rw [← e2] at hs
  refine ⟨law_150 hR e3, by decide, mj_C_mono (mj_C_d (show 400 ≤ 500 - 1 by decide) hm) ?_⟩
  intro r' I'' S'' ⟨hv', hR'⟩
  subst hv'
  exact ⟨fun _ => mj_vc_of (hn I'' S'' hR'), fun q => absurd rfl q⟩
theorem w_queue {L k : Nat} {xs : Nat → Int32} {I : mj_I} {S : mj_S} {Q : mj_Q} {i : Int} (hi : 0 ≤ i ∧ i + 6 ≤ L) (hL : L ≤ 384) (hk : k < 64) (hR : Rel L xs k I S) (hn : ∀ I' S', Rel L xs (k + 1) I' S' → mj_W 500 299 1254 [some (.inr 1), some (.inr 20), some (.inr 150), some (.inl i)] [] I' S' Q) : mj_W 500 299 818 [some (.inr 1), some (.inr 20), some (.inr 150), some (.inl i)] [] I S Q := by
  have hs := law_S hR
  refine mj_W_of 60 ?_
  refine ⟨law_ai hL hs (by omega) (by omega), ?_⟩
  refine ⟨hR.1.t 20 (t := 0) (n := 11) (by decide +kernel), by decide, mj_C_mono (mj_C_d (show 400 ≤ 500 - 1 by decide) (P_queue (I 1 (mj_wr (i + 1)).toNat) I S hk hR)) ?_⟩
  intro r I' S' ⟨v, hv, ⟨e1, e2, e3⟩, hm⟩
  subst hv
  rw [← e2] at hs
  rw [← e1] at hm
  refine ⟨law_ai hL hs (by omega) (by omega), ?_⟩
  refine ⟨law_150 hR e3, by decide, mj_C_mono (mj_C_d (show 400 ≤ 500 - 1 by decide) hm) ?_⟩
  intro r' I'' S'' ⟨hv', hR'⟩
  subst hv'
  exact ⟨fun _ => mj_vc_of (hn I'' S'' hR'), fun q => absurd rfl q⟩
theorem w_log {L k : Nat} {xs : Nat → Int32} {I : mj_I} {S : mj_S} {Q : mj_Q} {i : Int} (hi : 0 ≤ i ∧ i + 6 ≤ L) (hL : L ≤ 384) (hk : k < 64) (hR : Rel L xs k I S) (hn : ∀ I' S', Rel L xs (k + 1) I' S' → mj_W 500 299 1254 [some (.inr 1), some (.inr 20), some (.inr 150), some (.inl i)] [] I' S' Q) : mj_W 500 299 835 [some (.inr 1), some (.inr 20), some (.inr 150), some (.inl i)] [] I S Q := by
  have hs := law_S hR
  refine mj_W_of 60 ?_
  refine ⟨law_ai hL hs (by omega) (by omega), ?_⟩
  refine ⟨law_ai hL hs (by omega) (by omega), ?_⟩
  refine ⟨hR.1.t 20 (t := 0) (n := 11) (by decide +kernel), by decide, mj_C_mono (mj_C_d (show 400 ≤ 500 - 1 by decide) (P_log (I 1 (mj_wr (i + 1)).toNat) (I 1 (mj_wr (i + 2)).toNat) I S hk hR)) ?_⟩
  intro r I' S' ⟨v, hv, ⟨e1, e2, e3⟩, hm⟩
  subst hv
  rw [← e2] at hs
  rw [← e1] at hm
  refine ⟨law_ai hL hs (by omega) (by omega), ?_⟩
  refine ⟨law_ai hL hs (by omega) (by omega), ?_⟩
  refine ⟨law_150 hR e3, by decide, mj_C_mono (mj_C_d (show 400 ≤ 500 - 1 by decide) hm) ?_⟩
  intro r' I'' S'' ⟨hv', hR'⟩
  subst hv'
  exact ⟨fun _ => mj_vc_of (hn I'' S'' hR'), fun q => absurd rfl q⟩
theorem w_audit {L k : Nat} {xs : Nat → Int32} {I : mj_I} {S : mj_S} {Q : mj_Q} {i : Int} (hi : 0 ≤ i ∧ i + 6 ≤ L) (hL : L ≤ 384) (hk : k < 64) (hR : Rel L xs k I S) (hn : ∀ I' S', Rel L xs (k + 1) I' S' → mj_W 500 299 1254 [some (.inr 1), some (.inr 20), some (.inr 150), some (.inl i)] [] I' S' Q) : mj_W 500 299 862 [some (.inr 1), some (.inr 20), some (.inr 150), some (.inl i)] [] I S Q := by
  have hs := law_S hR
  refine mj_W_of 60 ?_
  refine ⟨law_ai hL hs (by omega) (by omega), ?_⟩
  refine ⟨hR.1.t 20 (t := 0) (n := 11) (by decide +kernel), by decide, mj_C_mono (mj_C_d (show 400 ≤ 500 - 1 by decide) (P_audit (I 1 (mj_wr (i + 1)).toNat) I S hk hR)) ?_⟩
  intro r I' S' ⟨v, hv, ⟨e1, e2, e3⟩, hm⟩
  subst hv
  rw [← e2] at hs
  rw [← e1] at hm
  refine ⟨law_ai hL hs (by omega) (by omega), ?_⟩
  refine ⟨law_150 hR e3, by decide, mj_C_mono (mj_C_d (show 400 ≤ 500 - 1 by decide) hm) ?_⟩
  intro r' I'' S'' ⟨hv', hR'⟩
  subst hv'
  exact ⟨fun _ => mj_vc_of (hn I'' S'' hR'), fun q => absurd rfl q⟩
theorem w_seed {L k : Nat} {xs : Nat → Int32} {I : mj_I} {S : mj_S} {Q : mj_Q} {i : Int} (hi : 0 ≤ i ∧ i + 6 ≤ L) (hL : L ≤ 384) (hk : k < 64) (hR : Rel L xs k I S) (hn : ∀ I' S', Rel L xs (k + 1) I' S' → mj_W 500 299 1254 [some (.inr 1), some (.inr 20), some (.inr 150), some (.inl i)] [] I' S' Q) : mj_W 500 299 879 [some (.inr 1), some (.inr 20), some (.inr 150), some (.inl i)] [] I S Q := by
  have hs := law_S hR
  refine mj_W_of 60 ?_
  refine ⟨law_ai hL hs (by omega) (by omega), ?_⟩
  refine ⟨hR.1.t 20 (t := 0) (n := 11) (by decide +kernel), by decide, mj_C_mono (mj_C_d (show 400 ≤ 500 - 1 by decide) (P_seed (I 1 (mj_wr (i + 1)).toNat) I S hk hR)) ?_⟩
  intro r I' S' ⟨v, hv, ⟨e1, e2, e3⟩, hm⟩
  subst hv
  rw [← e2] at hs
  rw [← e1] at hm
  refine ⟨law_ai hL hs (by omega) (by omega), ?_⟩
  refine ⟨law_150 hR e3, by decide, mj_C_mono (mj_C_d (show 400 ≤ 500 - 1 by decide) hm) ?_⟩
  intro r' I'' S'' ⟨hv', hR'⟩
  subst hv'
  exact ⟨fun _ => mj_vc_of (hn I'' S'' hR'), fun q => absurd rfl q⟩
theorem w_luck {L k : Nat} {xs : Nat → Int32} {I : mj_I} {S : mj_S} {Q : mj_Q} {i : Int} (hi : 0 ≤ i ∧ i + 6 ≤ L) (hL : L ≤ 384) (hk : k < 64) (hR : Rel L xs k I S) (hn : ∀ I' S', Rel L xs (k + 1) I' S' → mj_W 500 299 1254 [some (.inr 1), some (.inr 20), some (.inr 150), some (.inl i)] [] I' S' Q) : mj_W 500 299 896 [some (.inr 1), some (.inr 20), some (.inr 150), some (.inl i)] [] I S Q := by
  have hs := law_S hR
  refine mj_W_of 60 ?_
  refine ⟨law_ai hL hs (by omega) (by omega), ?_⟩
  refine ⟨hR.1.t 20 (t := 0) (n := 11) (by decide +kernel), by decide, mj_C_mono (mj_C_d (show 400 ≤ 500 - 1 by decide) (P_luck (I 1 (mj_wr (i + 1)).toNat) I S hk hR)) ?_⟩
  intro r I' S' ⟨v, hv, ⟨e1, e2, e3⟩, hm⟩
  subst hv
  rw [← e2] at hs
  rw [← e1] at hm
  refine ⟨law_ai hL hs (by omega) (by omega), ?_⟩
  refine ⟨law_150 hR e3, by decide, mj_C_mono (mj_C_d (show 400 ≤ 500 - 1 by decide) hm) ?_⟩
  intro r' I'' S'' ⟨hv', hR'⟩
  subst hv'
  exact ⟨fun _ => mj_vc_of (hn I'' S'' hR'), fun q => absurd rfl q⟩
theorem w_sheet {L k : Nat} {xs : Nat → Int32} {I : mj_I} {S : mj_S} {Q : mj_Q} {i : Int} (hi : 0 ≤ i ∧ i + 6 ≤ L) (hL : L ≤ 384) (hk : k < 64) (hR : Rel L xs k I S) (hn : ∀ I' S', Rel L xs (k + 1) I' S' → mj_W 500 299 1254 [some (.inr 1), some (.inr 20), some (.inr 150), some (.inl i)] [] I' S' Q) : mj_W 500 299 913 [some (.inr 1), some (.inr 20), some (.inr 150), some (.inl i)] [] I S Q := by
  have hs := law_S hR
  refine mj_W_of 60 ?_
  refine ⟨law_ai hL hs (by omega) (by omega), ?_⟩
  refine ⟨law_ai hL hs (by omega) (by omega), ?_⟩
  refine ⟨law_ai hL hs (by omega) (by omega), ?_⟩
  refine ⟨hR.1.t 20 (t := 0) (n := 11) (by decide +kernel), by decide, mj_C_mono (mj_C_d (show 400 ≤ 500 - 1 by decide) (P_sheet (I 1 (mj_wr (i + 1)).toNat) (I 1 (mj_wr (i + 2)).toNat) (I 1 (mj_wr (i + 3)).toNat) I S hk hR)) ?_⟩
  intro r I' S' ⟨v, hv, ⟨e1, e2, e3⟩, hm⟩
  subst hv
  rw [← e2] at hs
  rw [← e1] at hm
  refine ⟨law_ai hL hs (by omega) (by omega), ?_⟩
  refine ⟨law_ai hL hs (by omega) (by omega), ?_⟩
  refine ⟨law_ai hL hs (by omega) (by omega), ?_⟩
  refine ⟨law_150 hR e3, by decide, mj_C_mono (mj_C_d (show 400 ≤ 500 - 1 by decide) hm) ?_⟩
  intro r' I'' S'' ⟨hv', hR'⟩
  subst hv'
  exact ⟨fun _ => mj_vc_of (hn I'' S'' hR'), fun q => absurd rfl q⟩
theorem w_mark {L k : Nat} {xs : Nat → Int32} {I : mj_I} {S : mj_S} {Q : mj_Q} {i : Int} (hi : 0 ≤ i ∧ i + 6 ≤ L) (hL : L ≤ 384) (hk : k < 64) (hR : Rel L xs k I S) (hn : ∀ I' S', Rel L xs (k + 1) I' S' → mj_W 500 299 1254 [some (.inr 1), some (.inr 20), some (.inr 150), some (.inl i)] [] I' S' Q) : mj_W 500 299 950 [some (.inr 1), some (.inr 20), some (.inr 150), some (.inl i)] [] I S Q := by
  have hs := law_S hR
  refine mj_W_of 60 ?_
  refine ⟨law_ai hL hs (by omega) (by omega), ?_⟩
  refine ⟨law_ai hL hs (by omega) (by omega), ?_⟩
  refine ⟨law_ai hL hs (by omega) (by omega), ?_⟩
  refine ⟨hR.1.t 20 (t := 0) (n := 11) (by decide +kernel), by decide, mj_C_mono (mj_C_d (show 400 ≤ 500 - 1 by decide) (P_mark (I 1 (mj_wr (i + 1)).toNat) (I 1 (mj_wr (i + 2)).toNat) (I 1 (mj_wr (i + 3)).toNat) I S hk hR)) ?_⟩
  intro r I' S' ⟨v, hv, ⟨e1, e2, e3⟩, hm⟩
  subst hv
  rw [← e2] at hs
  rw [← e1] at hm
  refine ⟨law_ai hL hs (by omega) (by omega), ?_⟩
  refine ⟨law_ai hL hs (by omega) (by omega), ?_⟩
  refine ⟨law_ai hL hs (by omega) (by omega), ?_⟩
  refine ⟨law_150 hR e3, by decide, mj_C_mono (mj_C_d (show 400 ≤ 500 - 1 by decide) hm) ?_⟩
  intro r' I'' S'' ⟨hv', hR'⟩
  subst hv'
  exact ⟨fun _ => mj_vc_of (hn I'' S'' hR'), fun q => absurd rfl q⟩
theorem w_papers {L k : Nat} {xs : Nat → Int32} {I : mj_I} {S : mj_S} {Q : mj_Q} {i : Int} (hi : 0 ≤ i ∧ i + 6 ≤ L) (hL : L ≤ 384) (hk : k < 64) (hR : Rel L xs k I S) (hn : ∀ I' S', Rel L xs (k + 1) I' S' → mj_W 500 299 1254 [some (.inr 1), some (.inr 20), some (.inr 150), some (.inl i)] [] I' S' Q) : mj_W 500 299 987 [some (.inr 1), some (.inr 20), some (.inr 150), some (.inl i)] [] I S Q := by
  have hs := law_S hR
  refine mj_W_of 60 ?_
  refine ⟨law_ai hL hs (by omega) (by omega), ?_⟩
  refine ⟨law_ai hL hs (by omega) (by omega), ?_⟩
  refine ⟨hR.1.t 20 (t := 0) (n := 11) (by decide +kernel), by decide, mj_C_mono (mj_C_d (show 400 ≤ 500 - 1 by decide) (P_papers (I 1 (mj_wr (i + 1)).toNat) (I 1 (mj_wr (i + 2)).toNat) I S hk hR)) ?_⟩
  intro r I' S' ⟨v, hv, ⟨e1, e2, e3⟩, hm⟩
  subst hv
  rw [← e2] at hs
  rw [← e1] at hm
  refine ⟨law_ai hL hs (by omega) (by omega), ?_⟩
  refine ⟨law_ai hL hs (by omega) (by omega), ?_⟩
  refine ⟨law_150 hR e3, by decide, mj_C_mono (mj_C_d (show 400 ≤ 500 - 1 by decide) hm) ?_⟩
  intro r' I'' S'' ⟨hv', hR'⟩
  subst hv'
  exact ⟨fun _ => mj_vc_of (hn I'' S'' hR'), fun q => absurd rfl q⟩
theorem w_copy {L k : Nat} {xs : Nat → Int32} {I : mj_I} {S : mj_S} {Q : mj_Q} {i : Int} (hi : 0 ≤ i ∧ i + 6 ≤ L) (hL : L ≤ 384) (hk : k < 64) (hR : Rel L xs k I S) (hn : ∀ I' S', Rel L xs (k + 1) I' S' → mj_W 500 299 1254 [some (.inr 1), some (.inr 20), some (.inr 150), some (.inl i)] [] I' S' Q) : mj_W 500 299 1014 [some (.inr 1), some (.inr 20), some (.inr 150), some (.inl i)] [] I S Q := by
  have hs := law_S hR
  refine mj_W_of 60 ?_
  refine ⟨law_ai hL hs (by omega) (by omega), ?_⟩
  refine ⟨law_ai hL hs (by omega) (by omega), ?_⟩
  refine ⟨law_ai hL hs (by omega) (by omega), ?_⟩
  refine ⟨law_ai hL hs (by omega) (by omega), ?_⟩
  refine ⟨law_ai hL hs (by omega) (by omega), ?_⟩
  refine ⟨hR.1.t 20 (t := 0) (n := 11) (by decide +kernel), by decide, mj_C_mono (mj_C_d (show 400 ≤ 500 - 1 by decide) (P_copy (I 1 (mj_wr (i + 1)).toNat) (I 1 (mj_wr (i + 2)).toNat) (I 1 (mj_wr (i + 3)).toNat) (I 1 (mj_wr (i + 4)).toNat) (I 1 (mj_wr (i + 5)).toNat) (law_v hR _) I S hk hR)) ?_⟩
  intro r I' S' ⟨v, hv, ⟨e1, e2, e3⟩, hm⟩
  subst hv
  rw [← e2] at hs
  rw [← e1] at hm
  refine ⟨law_ai hL hs (by omega) (by omega), ?_⟩
  refine ⟨law_ai hL hs (by omega) (by omega), ?_⟩
  refine ⟨law_ai hL hs (by omega) (by omega), ?_⟩
  refine ⟨law_ai hL hs (by omega) (by omega), ?_⟩
  refine ⟨law_ai hL hs (by omega) (by omega), ?_⟩
  refine ⟨law_150 hR e3, by decide, mj_C_mono (mj_C_d (show 400 ≤ 500 - 1 by decide) hm) ?_⟩
  intro r' I'' S'' ⟨hv', hR'⟩
  subst hv'
  exact ⟨fun _ => mj_vc_of (hn I'' S'' hR'), fun q => absurd rfl q⟩
theorem w_lay {L k : Nat} {xs : Nat → Int32} {I : mj_I} {S : mj_S} {Q : mj_Q} {i : Int} (hi : 0 ≤ i ∧ i + 6 ≤ L) (hL : L ≤ 384) (hk : k < 64) (hR : Rel L xs k I S) (hn : ∀ I' S', Rel L xs (k + 1) I' S' → mj_W 500 299 1254 [some (.inr 1), some (.inr 20), some (.inr 150), some (.inl i)] [] I' S' Q) : mj_W 500 299 1071 [some (.inr 1), some (.inr 20), some (.inr 150), some (.inl i)] [] I S Q := by
  have hs := law_S hR
  refine mj_W_of 60 ?_
  refine ⟨law_ai hL hs (by omega) (by omega), ?_⟩
  refine ⟨law_ai hL hs (by omega) (by omega), ?_⟩
  refine ⟨law_ai hL hs (by omega) (by omega), ?_⟩
  refine ⟨hR.1.t 20 (t := 0) (n := 11) (by decide +kernel), by decide, mj_C_mono (mj_C_d (show 400 ≤ 500 - 1 by decide) (P_lay (I 1 (mj_wr (i + 1)).toNat) (I 1 (mj_wr (i + 2)).toNat) (I 1 (mj_wr (i + 3)).toNat) I S hk hR)) ?_⟩
  intro r I' S' ⟨v, hv, ⟨e1, e2, e3⟩, hm⟩
  subst hv
  rw [← e2] at hs
  rw [← e1] at hm
  refine ⟨law_ai hL hs (by omega) (by omega), ?_⟩
  refine ⟨law_ai hL hs (by omega) (by omega), ?_⟩
  refine ⟨law_ai hL hs (by omega) (by omega), ?_⟩
  refine ⟨law_150 hR e3, by decide, mj_C_mono (mj_C_d (show 400 ≤ 500 - 1 by decide) hm) ?_⟩
  intro r' I'' S'' ⟨hv', hR'⟩
  subst hv'
  exact ⟨fun _ => mj_vc_of (hn I'' S'' hR'), fun q => absurd rfl q⟩
theorem w_ask {L k : Nat} {xs : Nat → Int32} {I : mj_I} {S : mj_S} {Q : mj_Q} {i : Int} (hi : 0 ≤ i ∧ i + 6 ≤ L) (hL : L ≤ 384) (hk : k < 64) (hR : Rel L xs k I S) (hn : ∀ I' S', Rel L xs (k + 1) I' S' → mj_W 500 299 1254 [some (.inr 1), some (.inr 20), some (.inr 150), some (.inl i)] [] I' S' Q) : mj_W 500 299 1108 [some (.inr 1), some (.inr 20), some (.inr 150), some (.inl i)] [] I S Q := by
  have hs := law_S hR
  refine mj_W_of 60 ?_
  refine ⟨law_ai hL hs (by omega) (by omega), ?_⟩
  refine ⟨law_ai hL hs (by omega) (by omega), ?_⟩
  refine ⟨hR.1.t 20 (t := 0) (n := 11) (by decide +kernel), by decide, mj_C_mono (mj_C_d (show 400 ≤ 500 - 1 by decide) (P_ask (I 1 (mj_wr (i + 1)).toNat) (I 1 (mj_wr (i + 2)).toNat) I S hk hR)) ?_⟩
  intro r I' S' ⟨v, hv, ⟨e1, e2, e3⟩, hm⟩
  subst hv
  rw [← e2] at hs
  rw [← e1] at hm
  refine ⟨law_ai hL hs (by omega) (by omega), ?_⟩
  refine ⟨law_ai hL hs (by omega) (by omega), ?_⟩
  refine ⟨law_150 hR e3, by decide, mj_C_mono (mj_C_d (show 400 ≤ 500 - 1 by decide) hm) ?_⟩
  intro r' I'' S'' ⟨hv', hR'⟩
  subst hv'
  exact ⟨fun _ => mj_vc_of (hn I'' S'' hR'), fun q => absurd rfl q⟩
theorem w_item {L k : Nat} {xs : Nat → Int32} {I : mj_I} {S : mj_S} {Q : mj_Q} {i : Int} (hi : 0 ≤ i ∧ i + 6 ≤ L) (hL : L ≤ 384) (hk : k < 64) (hR : Rel L xs k I S) (hn : ∀ I' S', Rel L xs (k + 1) I' S' → mj_W 500 299 1254 [some (.inr 1), some (.inr 20), some (.inr 150), some (.inl i)] [] I' S' Q) : mj_W 500 299 1135 [some (.inr 1), some (.inr 20), some (.inr 150), some (.inl i)] [] I S Q := by
  have hs := law_S hR
  refine mj_W_of 60 ?_
  refine ⟨law_ai hL hs (by omega) (by omega), ?_⟩
  refine ⟨law_ai hL hs (by omega) (by omega), ?_⟩
  refine ⟨hR.1.t 20 (t := 0) (n := 11) (by decide +kernel), by decide, mj_C_mono (mj_C_d (show 400 ≤ 500 - 1 by decide) (P_item (I 1 (mj_wr (i + 1)).toNat) (I 1 (mj_wr (i + 2)).toNat) I S hk hR)) ?_⟩
  intro r I' S' ⟨v, hv, ⟨e1, e2, e3⟩, hm⟩
  subst hv
  rw [← e2] at hs
  rw [← e1] at hm
  refine ⟨law_ai hL hs (by omega) (by omega), ?_⟩
  refine ⟨law_ai hL hs (by omega) (by omega), ?_⟩
  refine ⟨law_150 hR e3, by decide, mj_C_mono (mj_C_d (show 400 ≤ 500 - 1 by decide) hm) ?_⟩
  intro r' I'' S'' ⟨hv', hR'⟩
  subst hv'
  exact ⟨fun _ => mj_vc_of (hn I'' S'' hR'), fun q => absurd rfl q⟩
theorem w_rest {L k : Nat} {xs : Nat → Int32} {I : mj_I} {S : mj_S} {Q : mj_Q} {i : Int} (hi : 0 ≤ i ∧ i + 6 ≤ L) (hL : L ≤ 384) (hk : k < 64) (hR : Rel L xs k I S) (hn : ∀ I' S', Rel L xs (k + 1) I' S' → mj_W 500 299 1254 [some (.inr 1), some (.inr 20), some (.inr 150), some (.inl i)] [] I' S' Q) : mj_W 500 299 1162 [some (.inr 1), some (.inr 20), some (.inr 150), some (.inl i)] [] I S Q := by
  have hs := law_S hR
  refine mj_W_of 60 ?_
  refine ⟨law_ai hL hs (by omega) (by omega), ?_⟩
  refine ⟨law_ai hL hs (by omega) (by omega), ?_⟩
  refine ⟨hR.1.t 20 (t := 0) (n := 11) (by decide +kernel), by decide, mj_C_mono (mj_C_d (show 400 ≤ 500 - 1 by decide) (P_rest (I 1 (mj_wr (i + 1)).toNat) (I 1 (mj_wr (i + 2)).toNat) I S hk hR)) ?_⟩
  intro r I' S' ⟨v, hv, ⟨e1, e2, e3⟩, hm⟩
  subst hv
  rw [← e2] at hs
  rw [← e1] at hm
  refine ⟨law_ai hL hs (by omega) (by omega), ?_⟩
  refine ⟨law_ai hL hs (by omega) (by omega), ?_⟩
  refine ⟨law_150 hR e3, by decide, mj_C_mono (mj_C_d (show 400 ≤ 500 - 1 by decide) hm) ?_⟩
  intro r' I'' S'' ⟨hv', hR'⟩
  subst hv'
  exact ⟨fun _ => mj_vc_of (hn I'' S'' hR'), fun q => absurd rfl q⟩
theorem w_tell {L k : Nat} {xs : Nat → Int32} {I : mj_I} {S : mj_S} {Q : mj_Q} {i : Int} (hi : 0 ≤ i ∧ i + 6 ≤ L) (hL : L ≤ 384) (hk : k < 64) (hR : Rel L xs k I S) (hn : ∀ I' S', Rel L xs (k + 1) I' S' → mj_W 500 299 1254 [some (.inr 1), some (.inr 20), some (.inr 150), some (.inl i)] [] I' S' Q) : mj_W 500 299 1189 [some (.inr 1), some (.inr 20), some (.inr 150), some (.inl i)] [] I S Q := by
  have hs := law_S hR
  refine mj_W_of 60 ?_
  refine ⟨law_ai hL hs (by omega) (by omega), ?_⟩
  refine ⟨hR.1.t 20 (t := 0) (n := 11) (by decide +kernel), by decide, mj_C_mono (mj_C_d (show 400 ≤ 500 - 1 by decide) (P_tell (I 1 (mj_wr (i + 1)).toNat) I S hk hR)) ?_⟩
  intro r I' S' ⟨v, hv, ⟨e1, e2, e3⟩, hm⟩
  subst hv
  rw [← e2] at hs
  rw [← e1] at hm
  refine ⟨law_ai hL hs (by omega) (by omega), ?_⟩
  refine ⟨law_150 hR e3, by decide, mj_C_mono (mj_C_d (show 400 ≤ 500 - 1 by decide) hm) ?_⟩
  intro r' I'' S'' ⟨hv', hR'⟩
  subst hv'
  exact ⟨fun _ => mj_vc_of (hn I'' S'' hR'), fun q => absurd rfl q⟩
theorem w_check {L k : Nat} {xs : Nat → Int32} {I : mj_I} {S : mj_S} {Q : mj_Q} {i : Int} (hi : 0 ≤ i ∧ i + 6 ≤ L) (hL : L ≤ 384) (hk : k < 64) (hR : Rel L xs k I S) (hn : ∀ I' S', Rel L xs (k + 1) I' S' → mj_W 500 299 1254 [some (.inr 1), some (.inr 20), some (.inr 150), some (.inl i)] [] I' S' Q) : mj_W 500 299 1206 [some (.inr 1), some (.inr 20), some (.inr 150), some (.inl i)] [] I S Q := by
  have hs := law_S hR
  refine mj_W_of 60 ?_
  refine ⟨law_ai hL hs (by omega) (by omega), ?_⟩
  refine ⟨hR.1.t 20 (t := 0) (n := 11) (by decide +kernel), by decide, mj_C_mono (mj_C_d (show 400 ≤ 500 - 1 by decide) (P_check (I 1 (mj_wr (i + 1)).toNat) I S hk hR)) ?_⟩
  intro r I' S' ⟨v, hv, ⟨e1, e2, e3⟩, hm⟩
  subst hv
  rw [← e2] at hs
  rw [← e1] at hm
  refine ⟨law_ai hL hs (by omega) (by omega), ?_⟩
  refine ⟨law_150 hR e3, by decide, mj_C_mono (mj_C_d (show 400 ≤ 500 - 1 by decide) hm) ?_⟩
  intro r' I'' S'' ⟨hv', hR'⟩
  subst hv'
  exact ⟨fun _ => mj_vc_of (hn I'' S'' hR'), fun q => absurd rfl q⟩
theorem w_keep {L k : Nat} {xs : Nat → Int32} {I : mj_I} {S : mj_S} {Q : mj_Q} {i : Int} (hi : 0 ≤ i ∧ i + 6 ≤ L) (hL : L ≤ 384) (hk : k < 64) (hR : Rel L xs k I S) (hn : ∀ I' S', Rel L xs (k + 1) I' S' → mj_W 500 299 1254 [some (.inr 1), some (.inr 20), some (.inr 150), some (.inl i)] [] I' S' Q) : mj_W 500 299 1223 [some (.inr 1), some (.inr 20), some (.inr 150), some (.inl i)] [] I S Q := by
  have hs := law_S hR
  refine mj_W_of 60 ?_
  refine ⟨hR.1.t 20 (t := 0) (n := 11) (by decide +kernel), by decide, mj_C_mono (mj_C_d (show 400 ≤ 500 - 1 by decide) (P_keep  I S hk hR)) ?_⟩
  intro r I' S' ⟨v, hv, ⟨e1, e2, e3⟩, hm⟩
  subst hv
  rw [← e2] at hs
  refine ⟨law_150 hR e3, by decide, mj_C_mono (mj_C_d (show 400 ≤ 500 - 1 by decide) hm) ?_⟩
  intro r' I'' S'' ⟨hv', hR'⟩
  subst hv'
  exact ⟨fun _ => mj_vc_of (hn I'' S'' hR'), fun q => absurd rfl q⟩
theorem w_back {L k : Nat} {xs : Nat → Int32} {I : mj_I} {S : mj_S} {Q : mj_Q} {i : Int} (hi : 0 ≤ i ∧ i + 6 ≤ L) (hL : L ≤ 384) (hk : k < 64) (hR : Rel L xs k I S) (hn : ∀ I' S', Rel L xs (k + 1) I' S' → mj_W 500 299 1254 [some (.inr 1), some (.inr 20), some (.inr 150), some (.inl i)] [] I' S' Q) : mj_W 500 299 1230 [some (.inr 1), some (.inr 20), some (.inr 150), some (.inl i)] [] I S Q := by
  have hs := law_S hR
  refine mj_W_of 60 ?_
  refine ⟨hR.1.t 20 (t := 0) (n := 11) (by decide +kernel), by decide, mj_C_mono (mj_C_d (show 400 ≤ 500 - 1 by decide) (P_back  I S hk hR)) ?_⟩
  intro r I' S' ⟨v, hv, ⟨e1, e2, e3⟩, hm⟩
  subst hv
  rw [← e2] at hs
  refine ⟨law_150 hR e3, by decide, mj_C_mono (mj_C_d (show 400 ≤ 500 - 1 by decide) hm) ?_⟩
  intro r' I'' S'' ⟨hv', hR'⟩
  subst hv'
  exact ⟨fun _ => mj_vc_of (hn I'' S'' hR'), fun q => absurd rfl q⟩
theorem w_count {L k : Nat} {xs : Nat → Int32} {I : mj_I} {S : mj_S} {Q : mj_Q} {i : Int} (hi : 0 ≤ i ∧ i + 6 ≤ L) (hL : L ≤ 384) (hk : k < 64) (hR : Rel L xs k I S) (hn : ∀ I' S', Rel L xs (k + 1) I' S' → mj_W 500 299 1254 [some (.inr 1), some (.inr 20), some (.inr 150), some (.inl i)] [] I' S' Q) : mj_W 500 299 1237 [some (.inr 1), some (.inr 20), some (.inr 150), some (.inl i)] [] I S Q := by
  have hs := law_S hR
  refine mj_W_of 60 ?_
  refine ⟨law_ai hL hs (by omega) (by omega), ?_⟩
  refine ⟨hR.1.t 20 (t := 0) (n := 11) (by decide +kernel), by decide, mj_C_mono (mj_C_d (show 400 ≤ 500 - 1 by decide) (P_count (I 1 (mj_wr (i + 1)).toNat) I S hk hR)) ?_⟩
  intro r I' S' ⟨v, hv, ⟨e1, e2, e3⟩, hm⟩
  subst hv
  rw [← e2] at hs
  rw [← e1] at hm
  refine ⟨law_ai hL hs (by omega) (by omega), ?_⟩
  refine ⟨law_150 hR e3, by decide, mj_C_mono (mj_C_d (show 400 ≤ 500 - 1 by decide) hm) ?_⟩
  intro r' I'' S'' ⟨hv', hR'⟩
  subst hv'
  exact ⟨fun _ => mj_vc_of (hn I'' S'' hR'), fun q => absurd rfl q⟩
