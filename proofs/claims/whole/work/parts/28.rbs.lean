/-! RB behind the small calls (wip/whole/mk28.py) -/
theorem RB_clear {I : mj_I} {S : mj_S}  (h : RB I S 21 151) : RB (mj_up (mj_up I 21 11 0) 151 6 0) S 21 151 := by
  obtain ⟨hh, hP, hs, hr, ho, hl, ht⟩ := h
  unfold RBh at hh
  refine ⟨?_, fun q hq => ?_, fun q hq => ?_, fun q hq => ?_, ?_, ?_, ?_⟩
  · unfold RBh
    simp (disch := omega) only [mj_up_s, mj_up_n]
    repeat' (first | trivial | omega | refine And.intro ?_ ?_ | (intro _))
  · simp (disch := omega) only [mj_up_s, mj_up_n] at hq
    refine (hP q (by omega)).fr (fun j => ?_) (fun j hj => ?_) ?_
    · (try simp (disch := omega) only [mj_up_s, mj_up_n])
    · (try simp (disch := omega) only [mj_up_s, mj_up_n])
    · (try simp (disch := omega) only [mj_up_s, mj_up_n]) <;> omega
  · simp (disch := omega) only [mj_up_s, mj_up_n] at hq
    refine (hs q (by omega)).fr (fun j => ?_) (fun j hj => ?_) ?_
    · (try simp (disch := omega) only [mj_up_s, mj_up_n])
    · (try simp (disch := omega) only [mj_up_s, mj_up_n])
    · (try simp (disch := omega) only [mj_up_s, mj_up_n]) <;> omega
  · simp (disch := omega) only [mj_up_s, mj_up_n] at hq
    refine (hr q (by omega)).fr (fun j => ?_) (fun j hj => ?_) ?_
    · (try simp (disch := omega) only [mj_up_s, mj_up_n])
    · (try simp (disch := omega) only [mj_up_s, mj_up_n])
    · (try simp (disch := omega) only [mj_up_s, mj_up_n]) <;> omega
  · refine ho.fr (fun j => ?_) (fun j => ?_) (fun j _ _ => ?_) ?_ ?_ (by omega)
    all_goals ((try simp (disch := omega) only [mj_up_s, mj_up_n]) <;> try omega)
  · refine hl.fr (fun a j _ _ => ?_) (fun j _ _ => ?_) ?_ ?_ (by omega) ?_
    all_goals ((try simp (disch := omega) only [mj_up_s, mj_up_n]) <;> try omega)
  · refine ht.fr (fun a j _ => ?_) (fun j => ?_) (fun j _ => ?_) ?_
    all_goals (try simp (disch := omega) only [mj_up_s, mj_up_n])
theorem RB_seed {I : mj_I} {S : mj_S} {v : Int} (h : RB I S 21 151) : RB (mj_up (mj_up I 21 14 v) 151 0 v) S 21 151 := by
  obtain ⟨hh, hP, hs, hr, ho, hl, ht⟩ := h
  unfold RBh at hh
  refine ⟨?_, fun q hq => ?_, fun q hq => ?_, fun q hq => ?_, ?_, ?_, ?_⟩
  · unfold RBh
    simp (disch := omega) only [mj_up_s, mj_up_n]
    repeat' (first | trivial | omega | refine And.intro ?_ ?_ | (intro _))
  · simp (disch := omega) only [mj_up_s, mj_up_n] at hq
    refine (hP q (by omega)).fr (fun j => ?_) (fun j hj => ?_) ?_
    · (try simp (disch := omega) only [mj_up_s, mj_up_n])
    · (try simp (disch := omega) only [mj_up_s, mj_up_n])
    · (try simp (disch := omega) only [mj_up_s, mj_up_n]) <;> omega
  · simp (disch := omega) only [mj_up_s, mj_up_n] at hq
    refine (hs q (by omega)).fr (fun j => ?_) (fun j hj => ?_) ?_
    · (try simp (disch := omega) only [mj_up_s, mj_up_n])
    · (try simp (disch := omega) only [mj_up_s, mj_up_n])
    · (try simp (disch := omega) only [mj_up_s, mj_up_n]) <;> omega
  · simp (disch := omega) only [mj_up_s, mj_up_n] at hq
    refine (hr q (by omega)).fr (fun j => ?_) (fun j hj => ?_) ?_
    · (try simp (disch := omega) only [mj_up_s, mj_up_n])
    · (try simp (disch := omega) only [mj_up_s, mj_up_n])
    · (try simp (disch := omega) only [mj_up_s, mj_up_n]) <;> omega
  · refine ho.fr (fun j => ?_) (fun j => ?_) (fun j _ _ => ?_) ?_ ?_ (by omega)
    all_goals ((try simp (disch := omega) only [mj_up_s, mj_up_n]) <;> try omega)
  · refine hl.fr (fun a j _ _ => ?_) (fun j _ _ => ?_) ?_ ?_ (by omega) ?_
    all_goals ((try simp (disch := omega) only [mj_up_s, mj_up_n]) <;> try omega)
  · refine ht.fr (fun a j _ => ?_) (fun j => ?_) (fun j _ => ?_) ?_
    all_goals (try simp (disch := omega) only [mj_up_s, mj_up_n])
theorem RB_days {I : mj_I} {S : mj_S} {n : Int} (hn : 1 ≤ n) (hn2 : I 151 1 + n ≤ 999) (h : RB I S 21 151) : RB (mj_up (mj_up I 21 13 (I 21 13 + n)) 151 1 (I 151 1 + n)) S 21 151 := by
  obtain ⟨hh, hP, hs, hr, ho, hl, ht⟩ := h
  unfold RBh at hh
  refine ⟨?_, fun q hq => ?_, fun q hq => ?_, fun q hq => ?_, ?_, ?_, ?_⟩
  · unfold RBh
    simp (disch := omega) only [mj_up_s, mj_up_n]
    repeat' (first | trivial | omega | refine And.intro ?_ ?_ | (intro _))
  · simp (disch := omega) only [mj_up_s, mj_up_n] at hq
    refine (hP q (by omega)).fr (fun j => ?_) (fun j hj => ?_) ?_
    · (try simp (disch := omega) only [mj_up_s, mj_up_n])
    · (try simp (disch := omega) only [mj_up_s, mj_up_n])
    · (try simp (disch := omega) only [mj_up_s, mj_up_n]) <;> omega
  · simp (disch := omega) only [mj_up_s, mj_up_n] at hq
    refine (hs q (by omega)).fr (fun j => ?_) (fun j hj => ?_) ?_
    · (try simp (disch := omega) only [mj_up_s, mj_up_n])
    · (try simp (disch := omega) only [mj_up_s, mj_up_n])
    · (try simp (disch := omega) only [mj_up_s, mj_up_n]) <;> omega
  · simp (disch := omega) only [mj_up_s, mj_up_n] at hq
    refine (hr q (by omega)).fr (fun j => ?_) (fun j hj => ?_) ?_
    · (try simp (disch := omega) only [mj_up_s, mj_up_n])
    · (try simp (disch := omega) only [mj_up_s, mj_up_n])
    · (try simp (disch := omega) only [mj_up_s, mj_up_n]) <;> omega
  · refine ho.fr (fun j => ?_) (fun j => ?_) (fun j _ _ => ?_) ?_ ?_ (by omega)
    all_goals ((try simp (disch := omega) only [mj_up_s, mj_up_n]) <;> try omega)
  · refine hl.fr (fun a j _ _ => ?_) (fun j _ _ => ?_) ?_ ?_ (by omega) ?_
    all_goals ((try simp (disch := omega) only [mj_up_s, mj_up_n]) <;> try omega)
  · refine ht.fr (fun a j _ => ?_) (fun j => ?_) (fun j _ => ?_) ?_
    all_goals (try simp (disch := omega) only [mj_up_s, mj_up_n])
theorem RB_step {I : mj_I} {S : mj_S} {o r k : Int} {p : Nat} (hp : I 151 3 = p) (h7 : p < 6) (hk : w_sok o r k) (h : RB I S 21 151) : RB (mj_up (mj_up (w_mste (mj_up (w_begS I (21 + 22 + p) o r k) 21 3 (p + 1)) p o r k) 151 3 (p + 1)) 150 4 (I 150 4 + 1)) S 21 151 := by
  obtain ⟨hh, hP, hs, hr, ho, hl, ht⟩ := h
  unfold RBh at hh
  unfold w_sok at hk; unfold w_mste w_begS
  refine ⟨?_, fun q hq => ?_, fun q hq => ?_, fun q hq => ?_, ?_, ?_, ?_⟩
  · unfold RBh
    simp (disch := omega) only [mj_up_s, mj_up_n]
    repeat' (first | trivial | omega | refine And.intro ?_ ?_ | (intro _))
  · simp (disch := omega) only [mj_up_s, mj_up_n] at hq
    refine (hP q (by omega)).fr (fun j => ?_) (fun j hj => ?_) ?_
    · (try simp (disch := omega) only [mj_up_s, mj_up_n])
    · (try simp (disch := omega) only [mj_up_s, mj_up_n])
    · (try simp (disch := omega) only [mj_up_s, mj_up_n]) <;> omega
  · simp (disch := omega) only [mj_up_s, mj_up_n] at hq
    by_cases e : q = p
    · subst e
      have qq := fun z => hs q z
      unfold RBs1 at qq ⊢
      simp (disch := omega) only [mj_up_s, mj_up_n]
      repeat' (first | trivial | omega | refine And.intro ?_ ?_ | (intro _))
    · refine (hs q (by omega)).fr (fun j => ?_) (fun j hj => ?_) ?_
      · (try simp (disch := omega) only [mj_up_s, mj_up_n])
      · (try simp (disch := omega) only [mj_up_s, mj_up_n])
      · (try simp (disch := omega) only [mj_up_s, mj_up_n]) <;> omega
  · simp (disch := omega) only [mj_up_s, mj_up_n] at hq
    refine (hr q (by omega)).fr (fun j => ?_) (fun j hj => ?_) ?_
    · (try simp (disch := omega) only [mj_up_s, mj_up_n])
    · (try simp (disch := omega) only [mj_up_s, mj_up_n])
    · (try simp (disch := omega) only [mj_up_s, mj_up_n]) <;> omega
  · refine ho.fr (fun j => ?_) (fun j => ?_) (fun j _ _ => ?_) ?_ ?_ (by omega)
    all_goals ((try simp (disch := omega) only [mj_up_s, mj_up_n]) <;> try omega)
  · refine hl.fr (fun a j _ _ => ?_) (fun j _ _ => ?_) ?_ ?_ (by omega) ?_
    all_goals ((try simp (disch := omega) only [mj_up_s, mj_up_n]) <;> try omega)
  · refine ht.fr (fun a j _ => ?_) (fun j => ?_) (fun j _ => ?_) ?_
    all_goals (try simp (disch := omega) only [mj_up_s, mj_up_n])
theorem RB_offer {I : mj_I} {S : mj_S} {v w : Int} {n : Nat} (hp : I 151 6 = n) (hn : n < 6) (hv : (0 ≤ v ∧ v < I 151 2) ∧ 0 ≤ w ∧ w ≤ 7) (h : RB I S 21 151) : RB (mj_up (mj_up (mj_up (mj_up (mj_up (mj_up I (21 + 6) n v) (21 + 7) n w) 21 11 (n + 1)) 151 (136 + 2 * n) v) 151 (136 + 2 * n + 1) w) 151 6 (n + 1)) S 21 151 := by
  obtain ⟨hh, hP, hs, hr, ho, hl, ht⟩ := h
  unfold RBh at hh
  refine ⟨?_, fun q hq => ?_, fun q hq => ?_, fun q hq => ?_, ?_, ?_, ?_⟩
  · unfold RBh
    simp (disch := omega) only [mj_up_s, mj_up_n]
    repeat' (first | trivial | omega | refine And.intro ?_ ?_ | (intro _))
  · simp (disch := omega) only [mj_up_s, mj_up_n] at hq
    refine (hP q (by omega)).fr (fun j => ?_) (fun j hj => ?_) ?_
    · (try simp (disch := omega) only [mj_up_s, mj_up_n])
    · (try simp (disch := omega) only [mj_up_s, mj_up_n])
    · (try simp (disch := omega) only [mj_up_s, mj_up_n]) <;> omega
  · simp (disch := omega) only [mj_up_s, mj_up_n] at hq
    refine (hs q (by omega)).fr (fun j => ?_) (fun j hj => ?_) ?_
    · (try simp (disch := omega) only [mj_up_s, mj_up_n])
    · (try simp (disch := omega) only [mj_up_s, mj_up_n])
    · (try simp (disch := omega) only [mj_up_s, mj_up_n]) <;> omega
  · simp (disch := omega) only [mj_up_s, mj_up_n] at hq
    refine (hr q (by omega)).fr (fun j => ?_) (fun j hj => ?_) ?_
    · (try simp (disch := omega) only [mj_up_s, mj_up_n])
    · (try simp (disch := omega) only [mj_up_s, mj_up_n])
    · (try simp (disch := omega) only [mj_up_s, mj_up_n]) <;> omega
  · intro q hq
    simp (disch := omega) only [mj_up_s, mj_up_n] at hq
    by_cases e : q = n
    · subst e
      simp (disch := omega) only [mj_up_s, mj_up_n]
      repeat' (first | trivial | omega | refine And.intro ?_ ?_ | (intro _))
    · have qq := ho q (by omega)
      simp (disch := omega) only [mj_up_s, mj_up_n]
      omega
  · refine hl.fr (fun a j _ _ => ?_) (fun j _ _ => ?_) ?_ ?_ (by omega) ?_
    all_goals ((try simp (disch := omega) only [mj_up_s, mj_up_n]) <;> try omega)
  · refine ht.fr (fun a j _ => ?_) (fun j => ?_) (fun j _ => ?_) ?_
    all_goals (try simp (disch := omega) only [mj_up_s, mj_up_n])
