/-! a typed executor over the mini machine: references know their role (tag + 1; 0: not known), the base of their book, their id, their length; tables by program (wip/whole/mk19.py) -/
abbrev xR : Type := Nat × Nat × Nat × Nat
abbrev xV : Type := Int ⊕ xR
abbrev xL : Type := List (Option xV)
/-- a row as a function: 0 outside -/
def rd (I : mj_I) (a : Nat) (j : Int) : Int := if 0 ≤ j ∧ j < 1610 then I a j.toNat else 0
theorem rd_in {I : mj_I} {a : Nat} {j : Int} (h : 0 ≤ j) (h2 : j < 1610) : rd I a j = I a j.toNat := if_pos ⟨h, h2⟩
def up (I : mj_I) (a : Nat) (j : Int) (x : Int) : mj_I := mj_up I a j.toNat x
def xe : xV → mj_V
  | .inl x => .inl x
  | .inr (_, _, a, _) => .inr a
def xeo : Option xV → Option mj_V
  | none => none
  | some v => some (xe v)
def x_raw : List xV → List mj_V
  | [] => []
  | .inl x :: l => .inl x :: x_raw l
  | .inr (_, _, a, _) :: l => .inr a :: x_raw l
theorem x_raw_map : ∀ l : List xV, x_raw l = l.map xe
  | [] => rfl
  | .inl x :: l => by rw [List.map_cons, ← x_raw_map l]; rfl
  | .inr (r, b, a, n) :: l => by rw [List.map_cons, ← x_raw_map l]; rfl
def x_flds (r b a : Nat) : List (Option xR) := bif Nat.beq r 1 then [some (2, 21, 21, 0), some (2, 61, 61, 0), none, some (7, 0, 101, 0), some (8, 0, 112, 0), some (9, 0, 115, 0), some (60, 0, 118, 4), some (61, 0, 119, 5), some (21, 0, 120, 60), none, some (21, 0, 121, 7)] else bif Nat.beq r 2 then [some (54, b, b + 1, 7), none, some (55, b, b + 2, 6), none, some (56, b, b + 3, 12), none, some (62, b, b + 4, 14), none, some (21, 0, b + 5, 3), some (21, 0, b + 6, 6), some (21, 0, b + 7, 6), none, some (3, b, b + 8, 0), none, none, some (21, 0, b + 12, 5), some (21, 0, b + 13, 96), some (21, 0, b + 14, 6)] else bif Nat.beq r 3 then [some (21, 0, b + 9, 30), some (21, 0, b + 10, 30), some (21, 0, b + 11, 30), none] else bif Nat.beq r 7 then [none, none, none, some (21, 0, 102, 6), some (21, 0, 103, 42), some (21, 0, 104, 252), some (21, 0, 105, 12), some (21, 0, 106, 12), some (21, 0, 107, 12), none, none, some (21, 0, 108, 6), some (21, 0, 109, 42), some (21, 0, 110, 7), none, some (21, 0, 111, 6)] else bif Nat.beq r 8 then [some (21, 0, 113, 7), some (21, 0, 114, 7), none] else bif Nat.beq r 9 then [some (21, 0, 116, 96), none, none, none, none, none, none, some (21, 0, 117, 96), none] else bif Nat.beq r 10 then [none, none, some (22, 0, a + 1, 24)] else bif Nat.beq r 11 then [none, none, some (6, 0, a + 1, 0), some (10, 0, a + 2, 0)] else bif Nat.beq r 13 then [some (21, 0, 151, 1610), some (21, 0, 152, 1610), some (21, 0, 153, 1610), none, none, some (21, 0, 154, 7), some (21, 0, 155, 6), some (21, 0, 156, 96), none, none, none, none, none, none, none, some (24, 0, 157, 11), some (21, 0, 158, 4), some (21, 0, 159, 96), none, none, some (21, 0, 160, 96), none, some (23, 0, 161, 10), some (21, 0, 162, 96), some (21, 0, 163, 4), some (21, 0, 164, 6), none, none, none, some (21, 0, 165, 6), some (21, 0, 166, 6), none, none, some (21, 0, 167, 7), some (21, 0, 168, 7), some (21, 0, 169, 42), some (21, 0, 170, 7), some (21, 0, 171, 7), some (21, 0, 172, 4), some (21, 0, 173, 4), some (21, 0, 174, 96), some (21, 0, 175, 5), some (21, 0, 176, 5), some (21, 0, 177, 5), some (21, 0, 178, 120), some (21, 0, 179, 24), some (21, 0, 180, 60), none] else []
def x_fld (r b a k : Nat) : Option xR := mj_nth none (x_flds r b a) k
def x_L : List (Nat × Nat × Nat) := [(1, 0, 20), (7, 0, 101), (8, 0, 112), (9, 0, 115), (13, 0, 150), (60, 0, 118), (61, 0, 119), (2, 21, 21), (3, 21, 29), (54, 21, 22), (55, 21, 23), (56, 21, 24), (62, 21, 25), (2, 61, 61), (3, 61, 69), (54, 61, 62), (55, 61, 63), (56, 61, 64), (62, 61, 65), (10, 0, 122), (10, 0, 124), (10, 0, 126), (10, 0, 128), (11, 0, 130), (10, 0, 132), (11, 0, 134), (10, 0, 136), (11, 0, 138), (10, 0, 140), (11, 0, 142), (10, 0, 144), (11, 0, 146), (10, 0, 148)]
def x_RL (r : Nat) : Bool := Nat.ble 51 r || (List.elem r [1, 2, 3, 7, 8, 9, 10, 11, 13])
def x_in (r b a : Nat) : Bool := bif x_RL r then x_L.elem (r, b, a) else true
def x_elm (r b j : Nat) : Option xR := bif Nat.beq r 54 then some (4, b, b + 15 + j, 0) else bif Nat.beq r 55 then some (5, b, b + 22 + j, 0) else bif Nat.beq r 56 then some (6, b, b + 28 + j, 0) else bif Nat.beq r 60 then some (10, 0, 122 + 2 * j, 0) else bif Nat.beq r 61 then some (11, 0, 130 + 4 * j, 0) else none
/-- a reference has its role -/
def xok (S : mj_S) (q : xR) : Prop := q.1 = 0 ∨ (mj_tg S q.2.2.1 + 1 = q.1 ∧ (21 ≤ q.1 → mj_ln S q.2.2.1 = q.2.2.2) ∧ x_in q.1 q.2.1 q.2.2.1 = true)
def xokV (S : mj_S) : xV → Prop
  | .inl _ => True
  | .inr q => xok S q
def xokS (S : mj_S) : List xV → Prop
  | [] => True
  | v :: l => xokV S v ∧ xokS S l
def xokO (S : mj_S) : Option xV → Prop
  | none => True
  | some v => xokV S v
def xokL (S : mj_S) : xL → Prop
  | [] => True
  | v :: l => xokO S v ∧ xokL S l
/-- the table's entries, checked against the shape -/
def x_chq (q : xR) : Bool := Nat.ble 20 q.2.2.1 && Nat.blt q.2.2.1 181 && Nat.beq ((mj_nth (19, 0) mk_T (q.2.2.1 - 20)).1 + 1) q.1 && (Nat.blt q.1 21 || Nat.beq (mj_nth (19, 0) mk_T (q.2.2.1 - 20)).2 q.2.2.2) && x_in q.1 q.2.1 q.2.2.1
def x_chf (t : Nat × Nat × Nat) (k : Nat) : Bool := match x_fld t.1 t.2.1 t.2.2 k with
  | none => true
  | some q => x_chq q && Nat.beq (mj_nth 0 (mj_nth [] mk_R (t.2.2 - 20)) k) q.2.2.1 && Nat.ble 20 t.2.2 && Nat.blt t.2.2 181 && !(Nat.beq t.2.2 25) && !(Nat.beq t.2.2 65)
def x_che (t : Nat × Nat × Nat) (k : Nat) : Bool := match x_elm t.1 t.2.1 k with
  | none => true
  | some q => Nat.ble 20 t.2.2 && Nat.blt t.2.2 181 && !(Nat.beq t.2.2 25) && !(Nat.beq t.2.2 65) && (Nat.ble (mj_nth (19, 0) mk_T (t.2.2 - 20)).2 k || (x_chq q && Nat.beq (mj_nth 0 (mj_nth [] mk_R (t.2.2 - 20)) k) q.2.2.1))
theorem x_chf_ok : x_L.all (fun t => Nat.ble (x_flds t.1 t.2.1 t.2.2).length 48 && (List.range 48).all (fun k => x_chf t k)) = true := by decide +kernel
theorem x_che_ok : x_L.all (fun t => Nat.ble (mj_nth (19, 0) mk_T (t.2.2 - 20)).2 60 && (List.range 60).all (fun k => x_che t k)) = true := by decide +kernel
theorem x_chq_ok {S : mj_S} (hS : mk_Sh S) {q : xR} (h : x_chq q = true) : xok S q := by
  unfold x_chq at h
  simp only [Bool.and_eq_true, Bool.or_eq_true, Nat.ble_eq, Nat.blt_eq, Nat.beq_eq] at h
  obtain ⟨⟨⟨⟨h1, h2⟩, h3⟩, h4⟩, h5⟩ := h
  refine Or.inr ⟨?_, fun h6 => ?_, h5⟩
  · unfold mj_tg
    rw [(hS.2 _ h1 h2).1]
    exact h3
  · unfold mj_ln
    rw [(hS.2 _ h1 h2).1]
    rcases h4 with h4 | h4
    · omega
    · exact h4
theorem x_RLf {r : Nat} (h : x_RL r = false) (b a : Nat) : x_flds r b a = [] := by
  have hb : ∀ n, List.elem n [1, 2, 3, 7, 8, 9, 10, 11, 13] = true → Nat.beq r n = false := by
    intro n hn
    cases e : Nat.beq r n with
    | false => rfl
    | true =>
      have e1 := Nat.eq_of_beq_eq_true e
      subst e1
      unfold x_RL at h
      rw [hn, Bool.or_true] at h
      exact absurd h (by decide)
  unfold x_flds
  rw [hb 1 rfl, hb 2 rfl, hb 3 rfl, hb 7 rfl, hb 8 rfl, hb 9 rfl, hb 10 rfl, hb 11 rfl, hb 13 rfl]
  rfl
theorem x_RLe {r : Nat} (h : x_RL r = false) (b j : Nat) : x_elm r b j = none := by
  have h2 : Nat.ble 51 r = false := by
    cases e : Nat.ble 51 r with
    | false => rfl
    | true => unfold x_RL at h; rw [e] at h; exact absurd h (by simp)
  have hb : ∀ n, 51 ≤ n → Nat.beq r n = false := by
    intro n hn
    cases e : Nat.beq r n with
    | false => rfl
    | true =>
      have e1 := Nat.eq_of_beq_eq_true e
      subst e1
      rw [Nat.ble_eq_true_of_le hn] at h2
      exact absurd h2 (by decide)
  unfold x_elm
  rw [hb 54 (by decide), hb 55 (by decide), hb 56 (by decide), hb 60 (by decide), hb 61 (by decide)]
  rfl
theorem x_inL {r b a : Nat} (h : x_in r b a = true) (h2 : x_RL r = true) : (r, b, a) ∈ x_L := by
  unfold x_in at h
  rw [h2] at h
  exact List.elem_iff.mp h
theorem x_F2 {S : mj_S} (hS : mk_Sh S) {r b a n k : Nat} {q : xR} (h : xok S (r, b, a, n)) (e : x_fld r b a k = some q) : mj_rf S a k = q.2.2.1 ∧ xok S q := by
  cases h2 : x_RL r with
  | false =>
    unfold x_fld at e
    rw [x_RLf h2, mj_nth_nil] at e
    cases e
  | true =>
    rcases h with h | h
    · have h : r = 0 := h
      subst h
      exact absurd h2 (by decide)
    · have h3 := x_inL h.2.2 h2
      have h4 := List.all_eq_true.mp x_chf_ok _ h3
      simp only [Bool.and_eq_true, Nat.ble_eq] at h4
      have hk : k < 48 := by
        rcases Nat.lt_or_ge k 48 with w | w
        · exact w
        · unfold x_fld at e
          rw [mj_nth_big _ _ _ (Nat.le_trans h4.1 w)] at e
          cases e
      have h5 := List.all_eq_true.mp h4.2 k (List.mem_range.mpr hk)
      unfold x_chf at h5
      simp only [e, Bool.and_eq_true, Nat.ble_eq, Nat.blt_eq, Nat.beq_eq, Bool.not_eq_true'] at h5
      obtain ⟨⟨⟨⟨⟨k1, k2⟩, k3⟩, k4⟩, k5⟩, k6⟩ := h5
      refine ⟨?_, x_chq_ok hS k1⟩
      unfold mj_rf
      rw [(hS.2 a k3 k4).2 (fun z => by subst z; exact absurd k5 (by decide)) (fun z => by subst z; exact absurd k6 (by decide)) k]
      exact k2
theorem x_F3 {S : mj_S} (hS : mk_Sh S) {r b a n j : Nat} {q : xR} (h : xok S (r, b, a, n)) (hj : j < n) (h21 : 21 ≤ r) (e : x_elm r b j = some q) : mj_rf S a j = q.2.2.1 ∧ xok S q := by
  cases h2 : x_RL r with
  | false =>
    rw [x_RLe h2] at e
    cases e
  | true =>
    rcases h with h | h
    · have h : r = 0 := h
      omega
    · have h3 := x_inL h.2.2 h2
      have hl : mj_ln S a = n := h.2.1 h21
      have h4 := List.all_eq_true.mp x_che_ok _ h3
      simp only [Bool.and_eq_true, Nat.ble_eq] at h4
      have hcase : Nat.ble 20 a = true ∧ Nat.blt a 181 = true := by
        have h4' := List.all_eq_true.mp h4.2 0 (List.mem_range.mpr (by decide))
        have e0 : ∃ q0, x_elm r b 0 = some q0 := by
          unfold x_elm at e ⊢
          cases c1 : Nat.beq r 54 <;> rw [c1] at e
          · cases c2 : Nat.beq r 55 <;> rw [c2] at e
            · cases c3 : Nat.beq r 56 <;> rw [c3] at e
              · cases c4 : Nat.beq r 60 <;> rw [c4] at e
                · cases c5 : Nat.beq r 61 <;> rw [c5] at e
                  · cases e
                  · exact ⟨_, rfl⟩
                · exact ⟨_, rfl⟩
              · exact ⟨_, rfl⟩
            · exact ⟨_, rfl⟩
          · exact ⟨_, rfl⟩
        obtain ⟨q0, e0⟩ := e0
        unfold x_che at h4'
        simp only [e0, Bool.and_eq_true] at h4'
        exact ⟨h4'.1.1.1.1, h4'.1.1.1.2⟩
      have ha1 : 20 ≤ a := Nat.le_of_ble_eq_true hcase.1
      have ha2 : a < 181 := by have := hcase.2; rwa [Nat.blt_eq] at this
      have hl2 : (mj_nth (19, 0) mk_T (a - 20)).2 = n := by
        rw [← hl]
        unfold mj_ln
        rw [(hS.2 a ha1 ha2).1]
      have hk : j < 60 := Nat.lt_of_lt_of_le hj (by rw [← hl2]; exact h4.1)
      have h5 := List.all_eq_true.mp h4.2 j (List.mem_range.mpr hk)
      unfold x_che at h5
      simp only [e, Bool.and_eq_true, Bool.or_eq_true, Nat.ble_eq, Nat.blt_eq, Nat.beq_eq, Bool.not_eq_true'] at h5
      obtain ⟨⟨⟨⟨k3, k4⟩, k5⟩, k6⟩, k1⟩ := h5
      rcases k1 with k1 | ⟨k1, k2⟩
      · rw [hl2] at k1
        omega
      · refine ⟨?_, x_chq_ok hS k1⟩
        unfold mj_rf
        rw [(hS.2 a k3 k4).2 (fun z => by subst z; exact absurd k5 (by decide)) (fun z => by subst z; exact absurd k6 (by decide)) j]
        exact k2
