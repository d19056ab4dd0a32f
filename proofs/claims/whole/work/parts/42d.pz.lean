/-! the parser, as a relation -/
abbrev tS : Type := (Int × Int × Int) × List Int × Int
def lev (c : Int) : Int := if c = 124 then 0 else if c = 38 then 1 else if c = 60 ∨ c = 61 ∨ c = 62 then 2 else if c = 43 ∨ c = 45 then 3 else if c = 42 ∨ c = 47 then 4 else 5
/-- the word of a name, 0: no name of this key -/
def nmI (key c : Int) : Int := if c = 107 ∧ key = 0 then -1 else if c = 114 then -2 else if c = 111 then -3 else if c = 100 ∧ key ≠ 1 then -4 else if c = 109 ∧ key = 1 then -5 else 0
def nxS (T : Int → Int) (L : Int) (s : tS) : tS := ((nxK T L s.1.1 s.1.2.2, nxA T L s.1.2.2, nxB T L s.1.2.2), s.2.1, s.2.2)
def putS (s : tS) (u : Int) : tS := (s.1, s.2.1 ++ [u], s.2.2)
def pieS (s : tS) (u : Int) : tS := (s.1, s.2.1 ++ [u], s.2.2 + 1)
/-- big steps: md 0-4 a part of this level, 10-14 its joins, 5 a piece -/
def PZ (T : Int → Int) (L key : Int) : Nat → Int → Int → Int → tS → Bool → tS → Prop
  | 0, _, _, _, _, _, _ => False
  | f + 1, md, o, m, s, r, s' =>
    (0 ≤ md ∧ md ≤ 4 ∧ (PZ T L key f (md + 1) o m s false s' ∧ r = false ∨ ∃ s1, PZ T L key f (md + 1) o m s true s1 ∧ PZ T L key f (md + 10) o m s1 r s'))
    ∨ (10 ≤ md ∧ md ≤ 14 ∧ ¬ (s.1.1 = 3 ∧ lev (T s.1.2.1) = md - 10) ∧ r = true ∧ s' = s)
    ∨ (10 ≤ md ∧ md ≤ 14 ∧ (s.1.1 = 3 ∧ lev (T s.1.2.1) = md - 10) ∧ (PZ T L key f (md - 9) o m (nxS T L s) false s' ∧ r = false ∨ ∃ s1, PZ T L key f (md - 9) o m (nxS T L s) true s1 ∧ ((md = 12 ∧ r = true ∧ s' = putS s1 (-(T s.1.2.1))) ∨ (md ≠ 12 ∧ PZ T L key f md o m (putS s1 (-(T s.1.2.1))) r s'))))
    ∨ (md = 5 ∧ s.1.1 = 2 ∧ ((s.1.2.2 - s.1.2.1 ≤ 4 ∧ r = true ∧ s' = nxS T L (pieS s (nuV T s.1.2.1 (s.1.2.2 - s.1.2.1).toNat))) ∨ (¬ s.1.2.2 - s.1.2.1 ≤ 4 ∧ r = false ∧ s' = s)))
    ∨ (md = 5 ∧ s.1.1 = 1 ∧ (((s.1.2.2 - s.1.2.1 = 1 ∧ nmI key (T s.1.2.1) ≠ 0) ∧ r = true ∧ s' = nxS T L (pieS s (nmI key (T s.1.2.1)))) ∨ (¬ (s.1.2.2 - s.1.2.1 = 1 ∧ nmI key (T s.1.2.1) ≠ 0) ∧ r = false ∧ s' = s)))
    ∨ (md = 5 ∧ s.1.1 ≠ 1 ∧ s.1.1 ≠ 2 ∧ s.1.1 ≠ 3 ∧ r = false ∧ s' = s)
    ∨ (md = 5 ∧ s.1.1 = 3 ∧ (T s.1.2.1 = 33 ∧ m < 8) ∧ (PZ T L key f 5 o (m + 1) (nxS T L s) false s' ∧ r = false ∨ ∃ s1, PZ T L key f 5 o (m + 1) (nxS T L s) true s1 ∧ r = true ∧ s' = putS s1 (-33)))
    ∨ (md = 5 ∧ s.1.1 = 3 ∧ (T s.1.2.1 = 40 ∧ o < 8) ∧ (PZ T L key f 0 (o + 1) m (nxS T L s) false s' ∧ r = false ∨ ∃ s1, PZ T L key f 0 (o + 1) m (nxS T L s) true s1 ∧ (((s1.1.1 = 3 ∧ T s1.1.2.1 = 41) ∧ r = true ∧ s' = nxS T L s1) ∨ (¬ (s1.1.1 = 3 ∧ T s1.1.2.1 = 41) ∧ r = false ∧ s' = s1))))
    ∨ (md = 5 ∧ s.1.1 = 3 ∧ ¬ (T s.1.2.1 = 33 ∧ m < 8) ∧ ¬ (T s.1.2.1 = 40 ∧ o < 8) ∧ r = false ∧ s' = s)
/-- the reference's word of a word -/
def cnv (key u : Int) : Int := if 0 ≤ u then u else if u = -33 then -10 else if u = -124 then -1 else if u = -38 then -2 else if u = -60 then -3 else if u = -61 then -4 else if u = -62 then -5 else if u = -43 then -6 else if u = -45 then -7 else if u = -42 then -8 else if u = -47 then -9 else if key = 0 then 9999 - u else if u = -2 then 10000 else if u = -3 then 10001 else 10002
/-- a state of the parser -/
def wfs (T : Int → Int) (L : Int) (s : tS) : Prop := (0 ≤ s.1.2.1 ∧ s.1.2.1 ≤ s.1.2.2 ∧ s.1.2.2 ≤ L) ∧ (s.1.1 ≠ 0 → s.1.2.1 < s.1.2.2) ∧ (s.1.1 = 0 → s.1.2.1 = L) ∧ (0 ≤ s.1.1 ∧ s.1.1 ≤ 4) ∧ (s.1.1 = 2 → ∀ j, s.1.2.1 ≤ j → j < s.1.2.2 → 48 ≤ T j ∧ T j ≤ 57)
theorem wfs_nx {T : Int → Int} {L : Int} (s : tS) (h : 0 ≤ s.1.2.2 ∧ s.1.2.2 ≤ L) : wfs T L (nxS T L s) ∧ s.1.2.2 ≤ (nxS T L s).1.2.1 := by
  have hAb := skp_b (T := T) (L := L) 100 s.1.2.2
  have hA : s.1.2.2 ≤ nxA T L s.1.2.2 ∧ nxA T L s.1.2.2 ≤ L := ⟨hAb.1, hAb.2 h.2⟩
  show ((0 ≤ nxA T L s.1.2.2 ∧ nxA T L s.1.2.2 ≤ nxB T L s.1.2.2 ∧ nxB T L s.1.2.2 ≤ L) ∧ (nxK T L s.1.1 s.1.2.2 ≠ 0 → nxA T L s.1.2.2 < nxB T L s.1.2.2) ∧ (nxK T L s.1.1 s.1.2.2 = 0 → nxA T L s.1.2.2 = L) ∧ (0 ≤ nxK T L s.1.1 s.1.2.2 ∧ nxK T L s.1.1 s.1.2.2 ≤ 4) ∧ (nxK T L s.1.1 s.1.2.2 = 2 → ∀ j, nxA T L s.1.2.2 ≤ j → j < nxB T L s.1.2.2 → 48 ≤ T j ∧ T j ≤ 57)) ∧ s.1.2.2 ≤ nxA T L s.1.2.2
  generalize s.1.2.2 = b at *
  generalize s.1.1 = k at *
  unfold nxB nxK
  generalize nxA T L b = A at *
  have hs := srt_b (T A)
  have hr := rnn_b (T := T) (L := L) (k := srt (T A)) 100 (A + 1)
  by_cases c1 : L ≤ A
  · simp only [if_pos c1]
    refine ⟨⟨by omega, by omega, by omega, by omega, fun q => by omega⟩, by omega⟩
  · by_cases c2 : srt (T A) = 3
    · simp only [if_neg c1, if_pos c2]
      refine ⟨⟨by omega, by omega, by omega, by omega, fun q => by omega⟩, by omega⟩
    · simp only [if_neg c1, if_neg c2]
      have hdg : srt (T A) = 2 → ∀ j, A ≤ j → j < rnn T L (srt (T A)) 100 (A + 1) → 48 ≤ T j ∧ T j ≤ 57 := by
        intro q j j0 j1
        by_cases e : j = A
        · rw [e]; exact srt_2.1 q
        · have := rnn_s 100 (A + 1) j (by omega) j1
          rw [q] at this
          exact srt_2.1 this
      by_cases c3 : (k = 1 ∨ k = 2) ∧ A = b
      · simp only [if_pos c3]
        refine ⟨⟨by omega, by omega, by omega, by omega, fun q => by omega⟩, by omega⟩
      · simp only [if_neg c3]
        refine ⟨⟨by omega, by omega, by omega, by omega, hdg⟩, by omega⟩
def lf (key : Int) (c : List Int) : Int → Int := fun j => cnv key (c.getD j.toNat 0)
def okC (key : Int) (c : List Int) (d : Int) : Prop := dpt (lf key c) c.length = d ∧ ∀ k : Nat, k < c.length → tk key (c.getD k 0) (lf key c k) ∧ (lf key c k = -10 → 1 ≤ dpt (lf key c) k) ∧ (lf key c k < 0 → lf key c k ≠ -10 → 2 ≤ dpt (lf key c) k)
theorem dpt_cg {f g : Int → Int} : ∀ n : Nat, (∀ k : Nat, k < n → f k = g k) → dpt f n = dpt g n
  | 0, _ => rfl
  | n + 1, h => by
    unfold dpt
    rw [dpt_cg n (fun k hk => h k (by omega)), h n (by omega)]
theorem lf_a {key : Int} {c : List Int} {u : Int} {k : Nat} (h : k < c.length) : lf key (c ++ [u]) k = lf key c k := by
  unfold lf
  rw [show Int.toNat (k : Int) = k by omega, List.getD_eq_getElem?_getD, List.getD_eq_getElem?_getD, List.getElem?_append_left h]
theorem lf_e {key : Int} {c : List Int} {u : Int} : lf key (c ++ [u]) c.length = cnv key u := by
  unfold lf
  rw [show Int.toNat (c.length : Int) = c.length by omega, List.getD_eq_getElem?_getD, List.getElem?_append_right (Nat.le_refl _), Nat.sub_self]
  rfl
theorem gd_a {c : List Int} {u : Int} {k : Nat} (h : k < c.length) : (c ++ [u]).getD k 0 = c.getD k 0 := by
  rw [List.getD_eq_getElem?_getD, List.getD_eq_getElem?_getD, List.getElem?_append_left h]
theorem gd_e {c : List Int} {u : Int} : (c ++ [u]).getD c.length 0 = u := by
  rw [List.getD_eq_getElem?_getD, List.getElem?_append_right (Nat.le_refl _), Nat.sub_self]
  rfl
theorem okC_sn {key : Int} {c : List Int} {d u : Int} (h : okC key c d) (hu : tk key u (cnv key u)) (h1 : cnv key u = -10 → 1 ≤ d) (h2 : cnv key u < 0 → cnv key u ≠ -10 → 2 ≤ d) : okC key (c ++ [u]) (d + (if 0 ≤ cnv key u then 1 else if cnv key u = -10 then 0 else -1)) := by
  have ed : ∀ k, k ≤ c.length → dpt (lf key (c ++ [u])) k = dpt (lf key c) k := fun k hk => dpt_cg k (fun j hj => lf_a (by omega))
  refine ⟨?_, fun k hk => ?_⟩
  · rw [List.length_append]
    show dpt (lf key (c ++ [u])) c.length + (if 0 ≤ lf key (c ++ [u]) c.length then 1 else if lf key (c ++ [u]) c.length = -10 then 0 else -1) = _
    rw [ed _ (Nat.le_refl _), lf_e, h.1]
  · rw [List.length_append] at hk
    have hk' : k < c.length + 1 := hk
    by_cases e : k = c.length
    · rw [e, ed _ (Nat.le_refl _), lf_e, gd_e, h.1]
      exact ⟨hu, h1, h2⟩
    · rw [ed k (by omega), lf_a (by omega), gd_a (by omega)]
      exact h.2 k (by omega)
theorem cnv_num {key u : Int} (h : 0 ≤ u ∧ u ≤ 9999) : tk key u (cnv key u) ∧ 0 ≤ cnv key u := by
  unfold cnv
  rw [if_pos h.1]
  exact ⟨Or.inl ⟨h.1, h.2, rfl⟩, h.1⟩
theorem cnv_nm {key c : Int} (hk : 0 ≤ key ∧ key ≤ 2) (h : nmI key c ≠ 0) : tk key (nmI key c) (cnv key (nmI key c)) ∧ 0 ≤ cnv key (nmI key c) := by
  have hn : nmI key c = -1 ∧ key = 0 ∨ nmI key c = -2 ∨ nmI key c = -3 ∨ nmI key c = -4 ∧ key ≠ 1 ∨ nmI key c = -5 ∧ key = 1 := by
    unfold nmI at h ⊢
    repeat' (first | split | omega)
    all_goals (revert h; repeat' split)
    all_goals omega
  generalize nmI key c = u at *
  have hk3 : key = 0 ∨ key = 1 ∨ key = 2 := by omega
  rcases hk3 with e | e | e <;> subst e <;> rcases hn with q | q | q | q | q <;> first | (exfalso; omega) | (first | subst q | (obtain ⟨q, -⟩ := q; subst q)) <;> (unfold tk cnv; decide)
theorem cnv_not {key : Int} : tk key (-33) (cnv key (-33)) ∧ cnv key (-33) = -10 := by
  have : cnv key (-33) = -10 := by unfold cnv; rw [if_neg (by omega), if_pos rfl]
  rw [this]
  exact ⟨Or.inr (Or.inr (Or.inr (Or.inr (Or.inl ⟨rfl, rfl⟩)))), rfl⟩
theorem cnv_sg {key c : Int} (h : lev c ≤ 4) : tk key (-c) (cnv key (-c)) ∧ cnv key (-c) < 0 ∧ cnv key (-c) ≠ -10 := by
  have hc : c = 124 ∨ c = 38 ∨ c = 60 ∨ c = 61 ∨ c = 62 ∨ c = 43 ∨ c = 45 ∨ c = 42 ∨ c = 47 := by
    unfold lev at h
    revert h
    repeat' split
    all_goals omega
  have e0 : ∀ v : Int, cnv key (-c) = v → v < 0 ∧ v ≠ -10 → (tk key (-c) v) → tk key (-c) (cnv key (-c)) ∧ cnv key (-c) < 0 ∧ cnv key (-c) ≠ -10 := fun v e q z => by rw [e]; exact ⟨z, q⟩
  unfold tk at e0
  rcases hc with e | e | e | e | e | e | e | e | e <;> subst e
  · exact e0 (-1) rfl (by omega) (by omega)
  · exact e0 (-2) rfl (by omega) (by omega)
  · exact e0 (-3) rfl (by omega) (by omega)
  · exact e0 (-4) rfl (by omega) (by omega)
  · exact e0 (-5) rfl (by omega) (by omega)
  · exact e0 (-6) rfl (by omega) (by omega)
  · exact e0 (-7) rfl (by omega) (by omega)
  · exact e0 (-8) rfl (by omega) (by omega)
  · exact e0 (-9) rfl (by omega) (by omega)
