/-! the finder's questions -/
theorem c_isOpen {d : Nat} {I : mj_I} {S : mj_S} {Q : mj_Q} (hS : mk_Sh S) (s : Int) (hs : 0 ≤ s ∧ s < 6) (hT : mt (I 101 2) s.toNat = true → Q (some (.inl 1)) I S) (hE : mt (I 101 2) s.toNat = false → Q (some (.inl 0)) I S) : mj_C d 122 [.inr 101, .inl s] I S Q := by
  have hask : mj_and (mj_shr (I 101 2) s) 1 = 0 ↔ mt (I 101 2) s.toNat = false := ask0 (by omega)
  refine x_C false [.inr (7, 0, 101, 0), .inl s] [] 30 hS ⟨xok_fi hS, trivial, trivial⟩ ?_
  (repeat' (first | with_reducible assumption | with_reducible exact rfl | with_reducible exact trivial | (with_reducible (show (_ : Int) ≤ _); omega) | (with_reducible (show (_ : Int) < _); omega) | (with_reducible (show (_ : Nat) < _); omega) | (with_reducible (show (_ : Nat) ≤ _); omega) | with_reducible exact Or.inl rfl | with_reducible exact Or.inr rfl | with_reducible exact Or.inl trivial | with_reducible exact Or.inr trivial | (intro hz; exact absurd hz (by decide)) | (intro hz; exfalso; omega) | refine And.intro ?_ ?_ | intro _))
  · rename_i z
    exact hE (hask.mp z)
  · rename_i z
    refine hT ?_
    cases e : mt (I 101 2) s.toNat with
    | true => rfl
    | false => exact absurd (hask.mpr e) z
theorem cdS_n {N : Int → Int} {day s : Int} (hN : Inv N) (hs : 0 ≤ s ∧ s < N 3) : mtn N (cdS N day s) := by
  have hH := hN.1
  have hIS := hN.2.2.1 s hs.1 hs.2
  unfold InvH at hH
  unfold InvS at hIS
  unfold cdS
  split
  · refine ⟨mt7_of (mj_shl_R _ _) (fun i h7 h32 => by rw [mt_one (by omega) h32, decide_eq_false (by omega)]), fun i hi => ?_⟩
    rcases Nat.lt_or_ge i 32 with h | h
    · rw [mt_one (by omega) h, decide_eq_false (by omega)]
    · exact mt_big h
  · refine ⟨wmS_7 _ _ _ _ (by omega), fun i hi => ?_⟩
    rcases Nat.lt_or_ge i 32 with h | h
    · rw [wmS_t _ _ _ _ (by omega) _ h, decide_eq_false (by omega)]
      rfl
    · exact mt_big h
theorem cdS_t {N : Int → Int} {day s p : Int} (hN : Inv N) (hs : 0 ≤ s ∧ s < N 3) (hp : 0 ≤ p ∧ p < N 2) : mt (cdS N day s) p.toNat = abB N z0 day 0 s p := by
  have hH := hN.1
  have hIS := hN.2.2.1 s hs.1 hs.2
  unfold InvH at hH
  unfold InvS at hIS
  unfold cdS abB
  split
  · rw [mt_one (by omega) (by omega)]
    by_cases e : N (64 + 4 * s + 3) = p
    · rw [decide_eq_true e, decide_eq_true (by omega)]
    · rw [decide_eq_false e, decide_eq_false (by omega)]
  · rw [wmS_t _ _ _ _ (by omega) _ (by omega), decide_eq_true (by omega), mt_0, show ((p.toNat : Nat) : Int) = p by omega]
    rfl
theorem ab_mis {N : Int → Int} {day mis s p : Int} : abB N z0 day mis s p = (abB N z0 day 0 s p && !(decide (N (64 + 4 * s + 3) < 0) && mt mis p.toNat)) := by
  unfold abB
  split
  · rw [decide_eq_false (show ¬ N (64 + 4 * s + 3) < 0 by omega)]
    simp
  · rw [decide_eq_true (show N (64 + 4 * s + 3) < 0 by omega), mt_0, Bool.true_and, Bool.not_false, Bool.true_and, Bool.and_comm]
theorem SR_0 {N : Int → Int} {B : Int → Int → Bool} {J : mj_I} (hx : ∀ t, 0 ≤ t → t < N 3 → mtn N (rd J 103 t) ∧ ∀ p, 0 ≤ p → p < N 2 → (mt (rd J 103 t) p.toNat = true ↔ B t p = true)) : SR N B J nb 0 := by
  refine ⟨fun q q0 q1 => by omega, fun t t0 t1 => ?_⟩
  rw [show (0 : Int) * 6 + t = t by omega]
  exact ⟨(hx t t0 t1).1, fun p p0 p1 => ⟨fun z => ⟨((hx t t0 t1).2 p p0 p1).mp z, fun u u0 u1 => by omega⟩, fun z => ((hx t t0 t1).2 p p0 p1).mpr z.1⟩⟩
/-- 121 leaveWithout -/
theorem c_leave {d : Nat} {I : mj_I} {S : mj_S} {Q : mj_Q} (hS : mk_Sh S) {N : Int → Int} {day : Int} (hN : Inv N) (hO : OS N day I) (mo ms : Int) (hd : 0 < d)
    (h : ∀ J, fr (fun a => a = 103) I J → (∀ s, 0 ≤ s → s < N 3 → rd J 103 s = mj_and (cdS N day s) (mj_xor (if N (64 + 4 * s + 3) < 0 then mo else ms) (-1))) → Q none J S) : mj_C d 121 [.inr 101, .inl mo, .inl ms] I S Q := by
  have hH := hN.1
  unfold InvH at hH
  have loop : ∀ (m : Nat) (s : Int), 0 ≤ s → s + m = N 3 → ∀ (J : mj_I), fr (fun a => a = 103) I J → (∀ u, 0 ≤ u → u < s → rd J 103 u = mj_and (cdS N day u) (mj_xor (if N (64 + 4 * u + 3) < 0 then mo else ms) (-1))) → xW d 121 2 [some (.inr (7, 0, 101, 0)), some (.inl mo), some (.inl ms), some (.inl s)] [] J S Q := by
    intro m
    induction m with
    | zero =>
      intro s s0 s1 J hJ h1
      have j1 : J 101 1 = N 3 := by rw [hJ.f (by omega)]; exact hO.1.2.1
      refine x_hd false [2] 30 ?_
      (repeat' (first | with_reducible assumption | with_reducible exact rfl | with_reducible exact trivial | (with_reducible (show (_ : Int) ≤ _); omega) | (with_reducible (show (_ : Int) < _); omega) | (with_reducible (show (_ : Nat) < _); omega) | (with_reducible (show (_ : Nat) ≤ _); omega) | with_reducible exact Or.inl rfl | with_reducible exact Or.inr rfl | with_reducible exact Or.inl trivial | with_reducible exact Or.inr trivial | (intro hz; exact absurd hz (by decide)) | (intro hz; exfalso; omega) | refine And.intro ?_ ?_ | intro _))
      exact h J hJ (fun u u0 u1 => h1 u u0 (by omega))
    | succ m ih =>
      intro s s0 s1 J hJ h1
      have j1 : J 101 1 = N 3 := by rw [hJ.f (by omega)]; exact hO.1.2.1
      have j2 : rd J 102 s = cdS N day s := by rw [hJ.r (by omega)]; exact hO.2.1 s s0 (by omega)
      have j3 : mt (J 101 2) s.toNat = decide (N (64 + 4 * s + 3) < 0) := by rw [hJ.f (by omega)]; exact hO.2.2 s s0 (by omega)
      have nxt : ∀ z, z = (if N (64 + 4 * s + 3) < 0 then mo else ms) → xW d 121 2 [some (.inr (7, 0, 101, 0)), some (.inl mo), some (.inl ms), some (.inl (s + 1))] [] (up J 103 s (mj_and (rd J 102 s) (mj_xor z (-1)))) S Q := by
        intro z hz
        refine ih (s + 1) (by omega) (by omega) _ (hJ.up rfl _ _) (fun u u0 u1 => ?_)
        rw [rd_up (by omega) (by omega)]
        by_cases e : u = s
        · rw [e, ru_s, j2, hz]
        · rw [ru_n e]; exact h1 u u0 (by omega)
      refine x_hd false [2] 40 ?_
      (repeat' (first | refine c_isOpen hS _ ?_ ?_ ?_ | with_reducible assumption | with_reducible exact rfl | with_reducible exact trivial | (with_reducible (show (_ : Int) ≤ _); omega) | (with_reducible (show (_ : Int) < _); omega) | (with_reducible (show (_ : Nat) < _); omega) | (with_reducible (show (_ : Nat) ≤ _); omega) | with_reducible exact Or.inl rfl | with_reducible exact Or.inr rfl | with_reducible exact Or.inl trivial | with_reducible exact Or.inr trivial | (intro hz; exact absurd hz (by decide)) | (intro hz; exfalso; omega) | refine And.intro ?_ ?_ | intro _))
      · rename_i z _
        rw [j3, decide_eq_true_eq] at z
        exact nxt _ (if_pos z).symm
      · rename_i z _
        rw [j3, decide_eq_false_iff_not] at z
        exact nxt _ (if_neg z).symm
  refine x_C false [.inr (7, 0, 101, 0), .inl mo, .inl ms] [2] 30 hS ⟨xok_fi hS, trivial, trivial, trivial⟩ ?_
  (repeat' (first | with_reducible assumption | with_reducible exact rfl | with_reducible exact trivial | (with_reducible (show (_ : Int) ≤ _); omega) | (with_reducible (show (_ : Int) < _); omega) | (with_reducible (show (_ : Nat) < _); omega) | (with_reducible (show (_ : Nat) ≤ _); omega) | with_reducible exact Or.inl rfl | with_reducible exact Or.inr rfl | with_reducible exact Or.inl trivial | with_reducible exact Or.inr trivial | (intro hz; exact absurd hz (by decide)) | (intro hz; exfalso; omega) | refine And.intro ?_ ?_ | intro _))
  exact loop (N 3).toNat 0 (by omega) (by omega) _ fr.refl (fun u u0 u1 => by omega)
theorem OS.fr {N : Int → Int} {day : Int} {I J : mj_I} (h : OS N day I) (hf : fr (fun a => a = 103 ∨ a = 108) I J) : OS N day J := ⟨h.1.fr hf, by rw [hf.r (by omega)]; exact h.2.1, by rw [hf.f (by omega)]; exact h.2.2⟩
theorem lv_SR {N : Int → Int} {day : Int} (hN : Inv N) {J : mj_I} {mo ms : Int} {B : Int → Int → Bool} (h : ∀ s, 0 ≤ s → s < N 3 → rd J 103 s = mj_and (cdS N day s) (mj_xor (if N (64 + 4 * s + 3) < 0 then mo else ms) (-1))) (hB : ∀ s p, 0 ≤ s → s < N 3 → 0 ≤ p → p < N 2 → B s p = (abB N z0 day 0 s p && !(mt (if N (64 + 4 * s + 3) < 0 then mo else ms) p.toNat))) : SR N B J nb 0 := by
  have hH := hN.1
  unfold InvH at hH
  refine SR_0 (fun t t0 t1 => ?_)
  rw [h t t0 t1]
  refine ⟨mtn_and (cdS_n hN ⟨t0, t1⟩), fun p p0 p1 => ?_⟩
  rw [mt_and, cdS_t hN ⟨t0, t1⟩ ⟨p0, p1⟩, mt_not _ (by omega), hB t p t0 t1 p0 p1]
/-- 131 isAny -/
theorem c_isAny {d : Nat} {I : mj_I} {S : mj_S} {Q : mj_Q} (hS : mk_Sh S) {N : Int → Int} {day : Int} (hN : Inv N) (hO : OS N day I) (mis : Int) (hd : 9 < d)
    (hT : ∀ J v l, fr (fun a => a = 103 ∨ a = 108) I J → allW N (abB N z0 day mis) = v :: l → (∀ q, 0 ≤ q → q < N 3 → rd J 108 q = v q) → Q (some (.inl 1)) J S) (hE : ∀ J, fr (fun a => a = 103 ∨ a = 108) I J → allW N (abB N z0 day mis) = [] → Q (some (.inl 0)) J S) : mj_C d 131 [.inr 101, .inl mis] I S Q := by
  have hH := hN.1
  unfold InvH at hH
  refine x_C false [.inr (7, 0, 101, 0), .inl mis] [] 30 hS ⟨xok_fi hS, trivial, trivial⟩ ?_
  (repeat' (first | refine c_leave hS hN hO _ _ ?_ (fun J hJ hl => ?_) | with_reducible assumption | with_reducible exact rfl | with_reducible exact trivial | (with_reducible (show (_ : Int) ≤ _); omega) | (with_reducible (show (_ : Int) < _); omega) | (with_reducible (show (_ : Nat) < _); omega) | (with_reducible (show (_ : Nat) ≤ _); omega) | with_reducible exact Or.inl rfl | with_reducible exact Or.inr rfl | with_reducible exact Or.inl trivial | with_reducible exact Or.inr trivial | (intro hz; exact absurd hz (by decide)) | (intro hz; exfalso; omega) | refine And.intro ?_ ?_ | intro _))
  have hJ2 : fr (fun a => a = 103 ∨ a = 108) I J := hJ.mo (fun a q => Or.inl q)
  refine c_any hN hS (B := abB N z0 day mis) (N 3).toNat 0 nb (by omega) (hO.1.fr hJ2) (by omega) (by omega) (fun q q0 q1 => by omega) (lv_SR hN hl (fun s p s0 s1 p0 p1 => ?_)) (fun K v l hK hw hr => ?_) (fun K hK hw => ?_)
  · rw [ab_mis]
    by_cases e : N (64 + 4 * s + 3) < 0
    · rw [if_pos e, decide_eq_true e, Bool.true_and]
    · rw [if_neg e, decide_eq_false e, Bool.false_and, mt_0]
  · (repeat' (first | with_reducible assumption | with_reducible exact rfl | with_reducible exact trivial | (with_reducible (show (_ : Int) ≤ _); omega) | (with_reducible (show (_ : Int) < _); omega) | (with_reducible (show (_ : Nat) < _); omega) | (with_reducible (show (_ : Nat) ≤ _); omega) | with_reducible exact Or.inl rfl | with_reducible exact Or.inr rfl | with_reducible exact Or.inl trivial | with_reducible exact Or.inr trivial | (intro hz; exact absurd hz (by decide)) | (intro hz; exfalso; omega) | refine And.intro ?_ ?_ | intro _))
    exact hT K v l (hJ2.tr hK.1) hw hr
  · (repeat' (first | with_reducible assumption | with_reducible exact rfl | with_reducible exact trivial | (with_reducible (show (_ : Int) ≤ _); omega) | (with_reducible (show (_ : Int) < _); omega) | (with_reducible (show (_ : Nat) < _); omega) | (with_reducible (show (_ : Nat) ≤ _); omega) | with_reducible exact Or.inl rfl | with_reducible exact Or.inr rfl | with_reducible exact Or.inl trivial | with_reducible exact Or.inr trivial | (intro hz; exact absurd hz (by decide)) | (intro hz; exfalso; omega) | refine And.intro ?_ ?_ | intro _))
    exact hE K (hJ2.tr hK.1) hw
/-- 139 isAnyWithout -/
theorem c_isAnyW {d : Nat} {I : mj_I} {S : mj_S} {Q : mj_Q} (hS : mk_Sh S) {N : Int → Int} {day : Int} (hN : Inv N) (hO : OS N day I) (p : Int) (hp : 0 ≤ p ∧ p < N 2) (hd : 9 < d)
    (hT : ∀ J, fr (fun a => a = 103 ∨ a = 108) I J → allW N (fun s q => abB N z0 day 0 s q && !decide (q = p)) ≠ [] → Q (some (.inl 1)) J S) (hE : ∀ J, fr (fun a => a = 103 ∨ a = 108) I J → allW N (fun s q => abB N z0 day 0 s q && !decide (q = p)) = [] → Q (some (.inl 0)) J S) : mj_C d 139 [.inr 101, .inl p] I S Q := by
  have hH := hN.1
  unfold InvH at hH
  refine x_C false [.inr (7, 0, 101, 0), .inl p] [] 30 hS ⟨xok_fi hS, trivial, trivial⟩ ?_
  (repeat' (first | refine c_leave hS hN hO _ _ ?_ (fun J hJ hl => ?_) | with_reducible assumption | with_reducible exact rfl | with_reducible exact trivial | (with_reducible (show (_ : Int) ≤ _); omega) | (with_reducible (show (_ : Int) < _); omega) | (with_reducible (show (_ : Nat) < _); omega) | (with_reducible (show (_ : Nat) ≤ _); omega) | with_reducible exact Or.inl rfl | with_reducible exact Or.inr rfl | with_reducible exact Or.inl trivial | with_reducible exact Or.inr trivial | (intro hz; exact absurd hz (by decide)) | (intro hz; exfalso; omega) | refine And.intro ?_ ?_ | intro _))
  have hJ2 : fr (fun a => a = 103 ∨ a = 108) I J := hJ.mo (fun a q => Or.inl q)
  refine c_any hN hS (B := fun s q => abB N z0 day 0 s q && !decide (q = p)) (N 3).toNat 0 nb (by omega) (hO.1.fr hJ2) (by omega) (by omega) (fun q q0 q1 => by omega) (lv_SR hN hl (fun s q s0 s1 p0 p1 => ?_)) (fun K v l hK hw hr => ?_) (fun K hK hw => ?_)
  · show (abB N z0 day 0 s q && !decide (q = p)) = _
    rw [show (if N (64 + 4 * s + 3) < 0 then mj_shl 1 p else mj_shl 1 p) = mj_shl 1 p by split <;> rfl, mt_one (by omega) (by omega), show decide (((q.toNat : Nat) : Int) = p) = decide (q = p) by rw [show ((q.toNat : Nat) : Int) = q by omega]]
  · (repeat' (first | with_reducible assumption | with_reducible exact rfl | with_reducible exact trivial | (with_reducible (show (_ : Int) ≤ _); omega) | (with_reducible (show (_ : Int) < _); omega) | (with_reducible (show (_ : Nat) < _); omega) | (with_reducible (show (_ : Nat) ≤ _); omega) | with_reducible exact Or.inl rfl | with_reducible exact Or.inr rfl | with_reducible exact Or.inl trivial | with_reducible exact Or.inr trivial | (intro hz; exact absurd hz (by decide)) | (intro hz; exfalso; omega) | refine And.intro ?_ ?_ | intro _))
    exact hT K (hJ2.tr hK.1) (by show wl _ _ _ _ _ ≠ []; rw [hw]; exact List.cons_ne_nil _ _)
  · (repeat' (first | with_reducible assumption | with_reducible exact rfl | with_reducible exact trivial | (with_reducible (show (_ : Int) ≤ _); omega) | (with_reducible (show (_ : Int) < _); omega) | (with_reducible (show (_ : Nat) < _); omega) | (with_reducible (show (_ : Nat) ≤ _); omega) | with_reducible exact Or.inl rfl | with_reducible exact Or.inr rfl | with_reducible exact Or.inl trivial | with_reducible exact Or.inr trivial | (intro hz; exact absurd hz (by decide)) | (intro hz; exfalso; omega) | refine And.intro ?_ ?_ | intro _))
    exact hE K (hJ2.tr hK.1) hw
/-- 144 firstBreaking -/
theorem c_fbr {d : Nat} {I : mj_I} {S : mj_S} {Q : mj_Q} (hS : mk_Sh S) {N : Int → Int} {day : Int} (hN : Inv N) (hO : OS N day I) (n : Int) (hd : 10 < d)
    (h : ∀ J, fr (fun a => a = 103 ∨ a = 108) I J → Q (some (.inl (fbr N z0 day n (sets N) 0))) J S) : mj_C d 144 [.inr 101, .inl n] I S Q := by
  have hH := hN.1
  unfold InvH at hH
  obtain ⟨b1, b2⟩ := sets_b (N := N) (by omega)
  have i0 : I 101 0 = N 2 := hO.1.1
  generalize hT0 : fbr N z0 day n (sets N) 0 = T at h
  have loop : ∀ m k : Nat, k + m = sets N → ∀ (kk zz : Int) (J : mj_I), kk = k → zz = (sets N : Int) → fr (fun a => a = 103 ∨ a = 108) I J → T = fbr N z0 day n m k →
      xW d 144 7 [some (.inr (7, 0, 101, 0)), some (.inl n), some (.inl zz), some (.inl kk)] [] J S Q := by
    intro m
    induction m with
    | zero =>
      intro k hk kk zz J h1 hz h2 h3
      refine x_hd false [7] 30 ?_
      (repeat' (first | with_reducible assumption | with_reducible exact rfl | with_reducible exact trivial | (with_reducible (show (_ : Int) ≤ _); omega) | (with_reducible (show (_ : Int) < _); omega) | (with_reducible (show (_ : Nat) < _); omega) | (with_reducible (show (_ : Nat) ≤ _); omega) | with_reducible exact Or.inl rfl | with_reducible exact Or.inr rfl | with_reducible exact Or.inl trivial | with_reducible exact Or.inr trivial | (intro hz; exact absurd hz (by decide)) | (intro hz; exfalso; omega) | refine And.intro ?_ ?_ | intro _))
      exact Qe (h J h2) h3
    | succ m ih =>
      intro k hk kk zz J h1 hz h2 h3
      subst h1
      subst hz
      unfold fbr at h3
      refine x_hd false [7] 30 ?_
      (repeat' (first | refine c_bits _ (by unfold mt7; omega) ?_ | refine c_isAny hS hN (hO.fr h2) _ ?_ ?_ ?_ | with_reducible assumption | with_reducible exact rfl | with_reducible exact trivial | (with_reducible (show (_ : Int) ≤ _); omega) | (with_reducible (show (_ : Int) < _); omega) | (with_reducible (show (_ : Nat) < _); omega) | (with_reducible (show (_ : Nat) ≤ _); omega) | with_reducible exact Or.inl rfl | with_reducible exact Or.inr rfl | with_reducible exact Or.inl trivial | with_reducible exact Or.inr trivial | (intro hz; exact absurd hz (by decide)) | (intro hz; exfalso; omega) | refine And.intro ?_ ?_ | intro _))
      · rename_i z
        rw [if_neg (fun q => z q.1)] at h3
        exact ih (k + 1) (by omega) _ _ _ (by omega) rfl h2 h3
      · rename_i z K v l hK hl _ _
        rw [if_neg (fun q => by rw [hl] at q; exact absurd q.2 Bool.false_ne_true)] at h3
        exact ih (k + 1) (by omega) _ _ _ (by omega) rfl (h2.tr hK) h3
      · rename_i z K hK hl _
        rw [if_pos ⟨z, List.isEmpty_iff.mpr hl⟩] at h3
        exact Qe (h K (h2.tr hK)) h3
  refine x_C false [.inr (7, 0, 101, 0), .inl n] [7] 30 hS ⟨xok_fi hS, trivial, trivial⟩ ?_
  exact loop (sets N) 0 (by omega) _ _ _ rfl (by rw [i0]; exact b1) fr.refl hT0.symm
