/-! the constructors, run by the kernel: the mini machine over a list of cells (tag, numbers, references), for the instructions that constructors use -/
abbrev mk_D : Type := List (Nat × List Int × List Nat)
def mk_c (D : mk_D) (a : Nat) : Nat × List Int × List Nat := (D[a - 20]?).getD (19, [], [])
def mk_ln (c : Nat × List Int × List Nat) : Nat := max c.2.1.length c.2.2.length
def mk_I (D : mk_D) (I0 : mj_I) : mj_I := fun a k => if a < 20 then I0 a k else (mk_c D a).2.1.getD k 0
def mk_S (D : mk_D) (S0 : mj_S) : mj_S := (fun a k => if a < 20 then S0.1 a k else (mk_c D a).2.2.getD k 0, fun a => if a < 20 then S0.2.1 a else ((mk_c D a).1, mk_ln (mk_c D a)), 20 + D.length, S0.2.2.2 + (D.map mk_ln).sum)
def mk_si (D : mk_D) (a k : Nat) (x : Int) : mk_D := D.set (a - 20) ((mk_c D a).1, (mk_c D a).2.1.set k x, (mk_c D a).2.2)
def mk_sr (D : mk_D) (a k v : Nat) : mk_D := D.set (a - 20) ((mk_c D a).1, (mk_c D a).2.1, (mk_c D a).2.2.set k v)
def mk_ok (D : mk_D) (a t : Nat) : Bool := decide (20 ≤ a) && decide (a - 20 < D.length) && decide ((mk_c D a).1 = t)
def mk_x : Nat → Nat → Nat → Nat → mj_L → List mj_V → mk_D → Option (Option mj_V × mk_D)
  | 0, _, _, _, _, _, _ => none
  | n + 1, d, m, i, ls, st, D =>
    match (mj_code m i).1 with
    | .iconst k => mk_x n d m (i + 1) ls (.inl k :: st) D
    | .aload k => (match mj_nth none ls k with
      | some (.inr a) => mk_x n d m (i + 1) ls (.inr a :: st) D
      | _ => none)
    | .iload k => (match mj_nth none ls k with
      | some (.inl x) => mk_x n d m (i + 1) ls (.inl x :: st) D
      | _ => none)
    | .istore k => (match st with
      | .inl x :: r => mk_x n d m (i + 1) (ls.set k (some (.inl x))) r D
      | _ => none)
    | .iinc k y => (match mj_nth none ls k with
      | some (.inl x) => mk_x n d m (i + 1) (ls.set k (some (.inl (mj_wr (x + y))))) st D
      | _ => none)
    | .dup => (match st with
      | v :: r => mk_x n d m (i + 1) ls (v :: v :: r) D
      | _ => none)
    | .goto _ => mk_x n d m (mj_code m i).2.1 ls st D
    | .if_icmp .ge _ => (match st with
      | .inl y :: .inl x :: r => if y ≤ x then mk_x n d m (mj_code m i).2.1 ls r D else mk_x n d m (i + 1) ls r D
      | _ => none)
    | .new k => mk_x n d m (i + 1) ls (.inr (20 + D.length) :: st) (D ++ [(k, List.replicate (mj_code m i).2.1 0, List.replicate (mj_code m i).2.1 0)])
    | .newarray _ => (match st with
      | .inl k :: r => if 0 ≤ k ∧ k ≤ 4096 then mk_x n d m (i + 1) ls (.inr (20 + D.length) :: r) (D ++ [((mj_code m i).2.1, List.replicate k.toNat 0, [])]) else none
      | _ => none)
    | .anewarray t => (match st with
      | .inl k :: r => if 0 ≤ k ∧ k ≤ 4096 then mk_x n d m (i + 1) ls (.inr (20 + D.length) :: r) (D ++ [(50 + t, [], List.replicate k.toNat 0)]) else none
      | _ => none)
    | .putfield k => (match (mj_code m i).2.2.1, st with
      | 0, .inl x :: .inr a :: r => if mk_ok D a (mj_code m i).2.1 = true ∧ k < (mk_c D a).2.1.length then mk_x n d m (i + 1) ls r (mk_si D a k x) else none
      | 1, .inr v :: .inr a :: r => if mk_ok D a (mj_code m i).2.1 = true ∧ k < (mk_c D a).2.2.length then mk_x n d m (i + 1) ls r (mk_sr D a k v) else none
      | 2, .inl x :: .inr a :: r => if (mk_ok D a (mj_code m i).2.1 = true ∧ k < (mk_c D a).2.1.length) ∧ (x = 0 ∨ x = 1) then mk_x n d m (i + 1) ls r (mk_si D a k x) else none
      | _, _ => none)
    | .getfield k => (match (mj_code m i).2.2.1, st with
      | 1, .inr a :: r => if mk_ok D a (mj_code m i).2.1 = true then mk_x n d m (i + 1) ls (.inr ((mk_c D a).2.2.getD k 0) :: r) D else none
      | _, _ => none)
    | .iastore => (match st with
      | .inl x :: .inl j :: .inr a :: r => if mk_ok D a 20 = true ∧ 0 ≤ j ∧ j.toNat < (mk_c D a).2.1.length then mk_x n d m (i + 1) ls r (mk_si D a j.toNat x) else none
      | _ => none)
    | .castore => (match st with
      | .inl x :: .inl j :: .inr a :: r => if (mk_ok D a 23 = true ∧ 0 ≤ j ∧ j.toNat < (mk_c D a).2.1.length) ∧ 0 ≤ x ∧ x ≤ 65535 then mk_x n d m (i + 1) ls r (mk_si D a j.toNat x) else none
      | _ => none)
    | .aastore => (match st with
      | .inr v :: .inl j :: .inr a :: r => if (mk_ok D v ((mk_c D a).1 - 50) = true ∧ mk_ok D a (mk_c D a).1 = true ∧ 50 ≤ (mk_c D a).1) ∧ 0 ≤ j ∧ j.toNat < (mk_c D a).2.2.length then mk_x n d m (i + 1) ls r (mk_sr D a j.toNat v) else none
      | _ => none)
    | .monitorenter => (match st with
      | .inr a :: r => if Nat.ble r.length 8 = true ∧ 20 ≤ a then mk_x n d m (i + 1) ls r D else none
      | _ => none)
    | .invokestatic y => (match mj_args (mj_code m i).2.1 st [] with
      | some (.inr a :: as, rest) => if (Nat.ble rest.length 8 = true ∧ 0 < d) ∧ 0 < (mj_code m i).2.2.2.1 ∧ mk_ok D a ((mj_code m i).2.2.2.1 - 1) = true ∧ (mj_code m i).2.2.1 = 0 then
          (match mk_x n (d - 1) y 0 (mj_ent y (.inr a :: as)) [] D with
          | some (none, D') => mk_x n d m (i + 1) ls rest D'
          | _ => none) else none
      | _ => none)
    | .return_ => (match st with
      | [] => some (none, D)
      | _ => none)
    | _ => none
theorem mk_c_set {D : mk_D} {a : Nat} {c : Nat × List Int × List Nat} (h1 : 20 ≤ a) (h2 : a - 20 < D.length) (b : Nat) (hb : 20 ≤ b) : mk_c (D.set (a - 20) c) b = if b = a then c else mk_c D b := by
  unfold mk_c
  by_cases e : b = a
  · subst e
    rw [if_pos rfl, List.getElem?_set_self h2]
    rfl
  · rw [if_neg e, List.getElem?_set_ne (by omega)]
theorem mk_set_sum {D : mk_D} {a : Nat} {c : Nat × List Int × List Nat} (h : mk_ln c = mk_ln (mk_c D a)) (h2 : a - 20 < D.length) : ((D.set (a - 20) c).map mk_ln) = D.map mk_ln := by
  apply List.ext_getElem?
  intro k
  rw [List.getElem?_map, List.getElem?_map]
  by_cases e : k = a - 20
  · subst e
    rw [List.getElem?_set_self h2]
    have hq : D[a - 20]? = some D[a - 20] := List.getElem?_eq_getElem h2
    unfold mk_c at h
    rw [hq] at h ⊢
    simp only [Option.map_some, Option.getD_some] at h ⊢
    rw [h]
  · rw [List.getElem?_set_ne (Ne.symm e)]
theorem mk_okd {D : mk_D} {a t : Nat} (h : mk_ok D a t = true) : 20 ≤ a ∧ a - 20 < D.length ∧ (mk_c D a).1 = t := by
  unfold mk_ok at h
  simp only [Bool.and_eq_true, decide_eq_true_eq] at h
  exact ⟨h.1.1, h.1.2, h.2⟩
theorem mk_tg {D : mk_D} {a : Nat} {S0 : mj_S} (h : 20 ≤ a) : mj_tg (mk_S D S0) a = (mk_c D a).1 := by
  show (if a < 20 then S0.2.1 a else ((mk_c D a).1, mk_ln (mk_c D a))).1 = _
  rw [if_neg (by omega)]
theorem mk_lnS {D : mk_D} {a : Nat} {S0 : mj_S} (h : 20 ≤ a) : mj_ln (mk_S D S0) a = mk_ln (mk_c D a) := by
  show (if a < 20 then S0.2.1 a else ((mk_c D a).1, mk_ln (mk_c D a))).2 = _
  rw [if_neg (by omega)]
theorem mk_I_si {D : mk_D} {a k : Nat} {x : Int} {I0 : mj_I} (h1 : 20 ≤ a) (h2 : a - 20 < D.length) (h3 : k < (mk_c D a).2.1.length) : mk_I (mk_si D a k x) I0 = mj_up (mk_I D I0) a k x := by
  funext b j
  unfold mk_I mj_up mk_si
  dsimp only
  by_cases hb : b < 20
  · rw [if_pos hb, if_neg (fun q => by omega), if_pos hb]
  · rw [if_neg hb, if_neg hb, mk_c_set h1 h2 b (by omega)]
    by_cases e : b = a
    · subst e
      rw [if_pos rfl]
      by_cases e2 : j = k
      · subst e2
        rw [if_pos ⟨rfl, rfl⟩]
        simp [List.getD_eq_getElem?_getD, h3]
      · rw [if_neg (fun q => e2 q.2)]
        simp [List.getD_eq_getElem?_getD, List.getElem?_set_ne (Ne.symm e2)]
    · rw [if_neg e, if_neg (fun q => e q.1)]
theorem mk_S_si {D : mk_D} {a k : Nat} {x : Int} {S0 : mj_S} (h1 : 20 ≤ a) (h2 : a - 20 < D.length) : mk_S (mk_si D a k x) S0 = mk_S D S0 := by
  have hl : mk_ln ((mk_c D a).1, (mk_c D a).2.1.set k x, (mk_c D a).2.2) = mk_ln (mk_c D a) := by unfold mk_ln; simp
  unfold mk_S mk_si
  refine Prod.ext ?_ (Prod.ext ?_ (Prod.ext ?_ ?_))
  · funext b j
    show (if b < 20 then S0.1 b j else _) = if b < 20 then S0.1 b j else _
    by_cases hb : b < 20
    · rw [if_pos hb, if_pos hb]
    · rw [if_neg hb, if_neg hb, mk_c_set h1 h2 b (by omega)]
      by_cases e : b = a
      · subst e; rw [if_pos rfl]
      · rw [if_neg e]
  · funext b
    show (if b < 20 then S0.2.1 b else _) = if b < 20 then S0.2.1 b else _
    by_cases hb : b < 20
    · rw [if_pos hb, if_pos hb]
    · rw [if_neg hb, if_neg hb, mk_c_set h1 h2 b (by omega)]
      by_cases e : b = a
      · subst e; rw [if_pos rfl, hl]
      · rw [if_neg e]
  · show 20 + (D.set _ _).length = 20 + D.length
    rw [List.length_set]
  · show S0.2.2.2 + _ = S0.2.2.2 + _
    rw [mk_set_sum hl h2]
theorem mk_I_sr {D : mk_D} {a k v : Nat} {I0 : mj_I} (h1 : 20 ≤ a) (h2 : a - 20 < D.length) : mk_I (mk_sr D a k v) I0 = mk_I D I0 := by
  funext b j
  unfold mk_I mk_sr
  by_cases hb : b < 20
  · rw [if_pos hb, if_pos hb]
  · rw [if_neg hb, if_neg hb, mk_c_set h1 h2 b (by omega)]
    by_cases e : b = a
    · subst e; rw [if_pos rfl]
    · rw [if_neg e]
theorem mk_S_sr {D : mk_D} {a k v : Nat} {S0 : mj_S} (h1 : 20 ≤ a) (h2 : a - 20 < D.length) (h3 : k < (mk_c D a).2.2.length) : mk_S (mk_sr D a k v) S0 = mj_ur (mk_S D S0) a k v := by
  have hl : mk_ln ((mk_c D a).1, (mk_c D a).2.1, (mk_c D a).2.2.set k v) = mk_ln (mk_c D a) := by unfold mk_ln; simp
  unfold mk_S mk_sr mj_ur
  refine Prod.ext ?_ (Prod.ext ?_ (Prod.ext ?_ ?_))
  · funext b j
    show (if b < 20 then S0.1 b j else _) = if b = a ∧ j = k then v else if b < 20 then S0.1 b j else _
    by_cases hb : b < 20
    · rw [if_pos hb, if_neg (fun q => by omega), if_pos hb]
    · rw [if_neg hb, if_neg hb, mk_c_set h1 h2 b (by omega)]
      by_cases e : b = a
      · subst e
        rw [if_pos rfl]
        by_cases e2 : j = k
        · subst e2
          rw [if_pos ⟨rfl, rfl⟩]
          simp [List.getD_eq_getElem?_getD, h3]
        · rw [if_neg (fun q => e2 q.2)]
          simp [List.getD_eq_getElem?_getD, List.getElem?_set_ne (Ne.symm e2)]
      · rw [if_neg e, if_neg (fun q => e q.1)]
  · funext b
    show (if b < 20 then S0.2.1 b else _) = if b < 20 then S0.2.1 b else _
    by_cases hb : b < 20
    · rw [if_pos hb, if_pos hb]
    · rw [if_neg hb, if_neg hb, mk_c_set h1 h2 b (by omega)]
      by_cases e : b = a
      · subst e; rw [if_pos rfl, hl]
      · rw [if_neg e]
  · show 20 + (D.set _ _).length = 20 + D.length
    rw [List.length_set]
  · show S0.2.2.2 + _ = S0.2.2.2 + _
    rw [mk_set_sum hl h2]
theorem mk_c_new {D : mk_D} {c : Nat × List Int × List Nat} (b : Nat) (hb : 20 ≤ b) : mk_c (D ++ [c]) b = if b = 20 + D.length then c else mk_c D b := by
  unfold mk_c
  by_cases e : b = 20 + D.length
  · rw [if_pos e, e, show 20 + D.length - 20 = D.length by omega]
    simp
  · rw [if_neg e]
    by_cases hl : b - 20 < D.length
    · rw [List.getElem?_append_left hl]
    · rw [List.getElem?_eq_none (by simp; omega), List.getElem?_eq_none (by omega)]
theorem mk_I_new {D : mk_D} {t n : Nat} {is : List Int} {rs : List Nat} {I0 : mj_I} (hi : ∀ k, is.getD k 0 = 0) : mk_I (D ++ [(t, is, rs)]) I0 = mj_z (mk_I D I0) (20 + D.length) := by
  funext b j
  unfold mk_I mj_z
  dsimp only
  by_cases hb : b < 20
  · rw [if_pos hb, if_neg (by omega), if_pos hb]
  · rw [if_neg hb, if_neg hb, mk_c_new b (by omega)]
    by_cases e : b = 20 + D.length
    · rw [if_pos e, if_pos e, hi j]
    · rw [if_neg e, if_neg e]
theorem mk_S_new {D : mk_D} {t n : Nat} {is : List Int} {rs : List Nat} {S0 : mj_S} (hr : ∀ k, rs.getD k 0 = 0) (hn : max is.length rs.length = n) : mk_S (D ++ [(t, is, rs)]) S0 = mj_nw (mk_S D S0) t n := by
  unfold mk_S mj_nw
  refine Prod.ext ?_ (Prod.ext ?_ (Prod.ext ?_ ?_))
  · funext b j
    show (if b < 20 then S0.1 b j else _) = if b = 20 + D.length then 0 else if b < 20 then S0.1 b j else _
    by_cases hb : b < 20
    · rw [if_pos hb, if_neg (by omega), if_pos hb]
    · rw [if_neg hb, if_neg hb, mk_c_new b (by omega)]
      by_cases e : b = 20 + D.length
      · rw [if_pos e, if_pos e, hr j]
      · rw [if_neg e, if_neg e]
  · funext b
    show (if b < 20 then S0.2.1 b else _) = if b = 20 + D.length then (t, n) else if b < 20 then S0.2.1 b else _
    by_cases hb : b < 20
    · rw [if_pos hb, if_neg (by omega), if_pos hb]
    · rw [if_neg hb, if_neg hb, mk_c_new b (by omega)]
      by_cases e : b = 20 + D.length
      · rw [if_pos e, if_pos e, show mk_ln (t, is, rs) = n from hn]
      · rw [if_neg e, if_neg e]
  · show 20 + (D ++ [_]).length = 20 + D.length + 1
    simp
    omega
  · show S0.2.2.2 + _ = S0.2.2.2 + _ + n
    rw [List.map_append, List.sum_append]
    have : mk_ln (t, is, rs) = n := hn
    simp [this]
    omega
theorem mk_rep0 (n k : Nat) : (List.replicate n (0 : Int)).getD k 0 = 0 := by
  rw [List.getD_eq_getElem?_getD, List.getElem?_replicate]
  split <;> rfl
theorem mk_rep0n (n k : Nat) : (List.replicate n (0 : Nat)).getD k 0 = 0 := by
  rw [List.getD_eq_getElem?_getD, List.getElem?_replicate]
  split <;> rfl
set_option maxHeartbeats 4000000 in
theorem mk_sound {I0 : mj_I} {S0 : mj_S} : ∀ (n d m i : Nat) (ls : mj_L) (st : List mj_V) (D : mk_D) (r : Option mj_V) (D' : mk_D), mk_x n d m i ls st D = some (r, D') → mj_wp n d m i ls st (mk_I D I0) (mk_S D S0) (fun a b c => a = r ∧ b = mk_I D' I0 ∧ c = mk_S D' S0) := by
  intro n
  induction n with
  | zero => intro d m i ls st D r D' h; cases h
  | succ n ih =>
    intro d m i ls st D r D' h
    unfold mk_x at h
    unfold mj_wp
    generalize mj_code m i = c at h ⊢
    obtain ⟨o, p1, p2, p3, sw⟩ := c
    dsimp only at h
    unfold mj_sem
    dsimp only
    have nx : mj_nx (mk_S D S0) = 20 + D.length := rfl
    split at h
    · exact ih _ _ _ _ _ _ _ _ h
    · split at h
      · rename_i a ha
        simp only [ha]
        exact ih _ _ _ _ _ _ _ _ h
      · cases h
    · split at h
      · rename_i a ha
        simp only [ha]
        exact ih _ _ _ _ _ _ _ _ h
      · cases h
    · split at h
      · exact ih _ _ _ _ _ _ _ _ h
      · cases h
    · split at h
      · rename_i a ha
        simp only [ha]
        exact ih _ _ _ _ _ _ _ _ h
      · cases h
    · split at h
      · exact ih _ _ _ _ _ _ _ _ h
      · cases h
    · exact ih _ _ _ _ _ _ _ _ h
    · split at h
      · split at h
        · rename_i hc
          exact ⟨fun _ => ih _ _ _ _ _ _ _ _ h, fun q => absurd hc q⟩
        · rename_i hc
          exact ⟨fun q => absurd q hc, fun _ => ih _ _ _ _ _ _ _ _ h⟩
      · cases h
    · have k := ih _ _ _ _ _ _ _ _ h
      rw [mk_I_new (n := p1) (mk_rep0 p1), mk_S_new (n := p1) (mk_rep0n p1) (by simp)] at k
      exact k
    · split at h
      · split at h
        · rename_i k0 _ hc
          have k := ih _ _ _ _ _ _ _ _ h
          rw [mk_I_new (n := k0.toNat) (mk_rep0 _), mk_S_new (n := k0.toNat) (fun _ => rfl) (by simp)] at k
          exact ⟨hc, k⟩
        · cases h
      · cases h
    · split at h
      · split at h
        · rename_i k0 _ hc
          have k := ih _ _ _ _ _ _ _ _ h
          rw [mk_I_new (n := k0.toNat) (fun _ => rfl), mk_S_new (n := k0.toNat) (mk_rep0n _) (by simp)] at k
          exact ⟨hc, k⟩
        · cases h
      · cases h
    · split at h
      · split at h
        · rename_i hc
          obtain ⟨g1, g2, g3⟩ := mk_okd hc.1
          have k := ih _ _ _ _ _ _ _ _ h
          rw [mk_I_si g1 g2 hc.2, mk_S_si g1 g2] at k
          exact ⟨(mk_tg g1).trans g3, k⟩
        · cases h
      · split at h
        · rename_i hc
          obtain ⟨g1, g2, g3⟩ := mk_okd hc.1
          have k := ih _ _ _ _ _ _ _ _ h
          rw [mk_I_sr g1 g2, mk_S_sr g1 g2 hc.2] at k
          exact ⟨(mk_tg g1).trans g3, k⟩
        · cases h
      · split at h
        · rename_i hc
          obtain ⟨g1, g2, g3⟩ := mk_okd hc.1.1
          have k := ih _ _ _ _ _ _ _ _ h
          rw [mk_I_si g1 g2 hc.1.2, mk_S_si g1 g2] at k
          exact ⟨⟨(mk_tg g1).trans g3, hc.2⟩, k⟩
        · cases h
      · cases h
    · split at h
      · split at h
        · rename_i a _ hc
          obtain ⟨g1, g2, g3⟩ := mk_okd hc
          have k := ih _ _ _ _ _ _ _ _ h
          refine ⟨(mk_tg g1).trans g3, ?_⟩
          rw [show mj_rf (mk_S D S0) a _ = (mk_c D a).2.2.getD _ 0 from if_neg (by omega)]
          exact k
        · cases h
      · cases h
    · split at h
      · split at h
        · rename_i hc
          obtain ⟨g1, g2, g3⟩ := mk_okd hc.1
          have k := ih _ _ _ _ _ _ _ _ h
          rw [mk_I_si g1 g2 hc.2.2, mk_S_si g1 g2] at k
          refine ⟨⟨Or.inl ((mk_tg g1).trans g3), hc.2.1, ?_⟩, k⟩
          rw [mk_lnS g1]
          have := hc.2.1
          have := hc.2.2
          unfold mk_ln
          omega
        · cases h
      · cases h
    · split at h
      · split at h
        · rename_i hc
          obtain ⟨g1, g2, g3⟩ := mk_okd hc.1.1
          have k := ih _ _ _ _ _ _ _ _ h
          rw [mk_I_si g1 g2 hc.1.2.2, mk_S_si g1 g2] at k
          refine ⟨⟨⟨Or.inl ((mk_tg g1).trans g3), hc.1.2.1, ?_⟩, hc.2⟩, k⟩
          rw [mk_lnS g1]
          have := hc.1.2.1
          have := hc.1.2.2
          unfold mk_ln
          omega
        · cases h
      · cases h
    · split at h
      · split at h
        · rename_i v j a _ hc
          obtain ⟨⟨c1, c2, c3⟩, c4, c5⟩ := hc
          obtain ⟨g1, g2, g3⟩ := mk_okd c2
          obtain ⟨v1, v2, v3⟩ := mk_okd c1
          have k := ih _ _ _ _ _ _ _ _ h
          rw [mk_I_sr g1 g2, mk_S_sr g1 g2 c5] at k
          refine ⟨⟨⟨by rw [mk_tg g1]; exact c3, c4, ?_⟩, Or.inr ⟨v1, by rw [nx]; omega, by rw [mk_tg g1, mk_tg v1, v3]; omega⟩⟩, k⟩
          rw [mk_lnS g1]
          unfold mk_ln
          omega
        · cases h
      · cases h
    · split at h
      · split at h
        · rename_i hc
          simp only [hc.1]
          exact ⟨hc.2, ih _ _ _ _ _ _ _ _ h⟩
        · cases h
      · cases h
    · split at h
      · rename_i a as rest hq
        split at h
        · rename_i hc
          obtain ⟨⟨c1, c2⟩, c3, c4, c5⟩ := hc
          split at h
          · rename_i D1 hx
            simp only [hq, c1]
            obtain ⟨g1, g2, g3⟩ := mk_okd c4
            obtain ⟨q3, rfl⟩ : ∃ q, p3 = q + 1 := ⟨p3 - 1, by omega⟩
            refine ⟨(mk_tg g1).trans (by rw [g3]; omega), c2, ?_⟩
            subst c5
            refine mj_wp_mono (fun r1 I1 S1 e => ?_) (ih _ _ _ _ _ _ _ _ hx)
            obtain ⟨e1, e2, e3⟩ := e
            subst e1; subst e2; subst e3
            exact ih _ _ _ _ _ _ _ _ h
          · cases h
        · cases h
      · cases h
    · split at h
      · cases h
        exact ⟨rfl, rfl, rfl⟩
      · cases h
    · cases h
