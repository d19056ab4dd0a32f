/-! the typed executor is sound -/
theorem x_nth_v {S : mj_S} {ls : xL} {k : Nat} {v : xV} (hl : xokL S ls) (e : mj_nth none ls k = some v) : xokV S v := by
  have h := x_nth_ok hl k
  rw [e] at h
  exact h
theorem x_sem_get {S : mj_S} (hS : mk_Sh S) {k p1 p2 p3 i : Nat} {sw : List (Int × Nat)} {ls : xL} {st : List xV} {I : mj_I} {go : Nat → xL → List xV → mj_I → Prop} {go' : Nat → mj_L → List mj_V → mj_I → mj_S → Prop} {call call' : Nat → List mj_V → mj_Q → Prop} {ret : Option mj_V → Prop} {ov : Bool} (hl : xokL S ls) (hst : xokS S st)
    (hg : ∀ {i ls st I}, go i ls st I → xokL S ls → xokS S st → go' i (ls.map xeo) (st.map xe) I S)
    (h : x_sem S ov (.getfield k, p1, p2, p3, sw) i ls st I go call ret) : mj_sem (.getfield k, p1, p2, p3, sw) i (ls.map xeo) (st.map xe) I S go' call' ret := by
  unfold x_sem at h
  unfold mj_sem
  dsimp only at h ⊢
  split at h
  · obtain ⟨t, w⟩ := x_tag_s hst.1 h
    obtain ⟨q, q1, q2, q3⟩ := x_rf_s hS hst.1 w
    have h5 := hg q3 hl ⟨q2, hst.2⟩
    simp only [List.map_cons, xe]
    rw [q1]
    exact ⟨t, h5⟩
  · rename_i r b a n w hne
    obtain ⟨t, w⟩ := x_tag_s hst.1 h
    have h5 := hg w hl ⟨trivial, hst.2⟩
    simp only [List.map_cons, xe] at h5 ⊢
    exact ⟨t, h5⟩
  · exact False.elim h
theorem x_sem_put {S : mj_S} {k p1 p2 p3 i : Nat} {sw : List (Int × Nat)} {ls : xL} {st : List xV} {I : mj_I} {go : Nat → xL → List xV → mj_I → Prop} {go' : Nat → mj_L → List mj_V → mj_I → mj_S → Prop} {call call' : Nat → List mj_V → mj_Q → Prop} {ret : Option mj_V → Prop} {ov : Bool} (hl : xokL S ls) (hst : xokS S st)
    (hg : ∀ {i ls st I}, go i ls st I → xokL S ls → xokS S st → go' i (ls.map xeo) (st.map xe) I S)
    (h : x_sem S ov (.putfield k, p1, p2, p3, sw) i ls st I go call ret) : mj_sem (.putfield k, p1, p2, p3, sw) i (ls.map xeo) (st.map xe) I S go' call' ret := by
  unfold x_sem at h
  unfold mj_sem
  dsimp only at h ⊢
  split at h
  · obtain ⟨t, w⟩ := x_tag_s hst.2.1 h
    exact ⟨t, hg w hl hst.2.2⟩
  · obtain ⟨t, w⟩ := x_tag_s hst.2.1 h
    exact ⟨⟨t, w.1⟩, hg w.2 hl hst.2.2⟩
  · exact False.elim h
theorem x_sem_call {S : mj_S} {y p1 p2 p3 i : Nat} {sw : List (Int × Nat)} {ls : xL} {st : List xV} {I : mj_I} {go : Nat → xL → List xV → mj_I → Prop} {go' : Nat → mj_L → List mj_V → mj_I → mj_S → Prop} {call call' : Nat → List mj_V → mj_Q → Prop} {ret : Option mj_V → Prop} {ov : Bool} (hl : xokL S ls) (hst : xokS S st)
    (hg : ∀ {i ls st I}, go i ls st I → xokL S ls → xokS S st → go' i (ls.map xeo) (st.map xe) I S)
    (hc : ∀ y as (k k' : mj_Q), (∀ r I S, k r I S → k' r I S) → call y as k → call' y as k')
    (h : x_sem S ov (.invokestatic y, p1, p2, p3, sw) i ls st I go call ret) : mj_sem (.invokestatic y, p1, p2, p3, sw) i (ls.map xeo) (st.map xe) I S go' call' ret := by
  unfold x_sem at h
  unfold mj_sem
  dsimp only at h ⊢
  split at h
  · rename_i as rest e
    obtain ⟨e1, e2, e3⟩ := x_args_s e hst trivial
    rw [List.map_nil] at e1
    rw [e1]
    dsimp only
    rw [List.length_map]
    split at h
    · rename_i e4
      rw [e4]
      dsimp only
      have h5 := x_rcv_s e2 h
      revert h5
      unfold mj_rcv
      have key : call y (x_raw as) (fun r I' S' => S' = S ∧ x_res S p2 r (fun st' => go (i + 1) ls st' I') rest) → call' y (as.map xe) (fun r I' S' => mj_res p2 r (fun st' => go' (i + 1) (ls.map xeo) st' I' S') (rest.map xe)) := by
        intro w
        rw [x_raw_map] at w
        refine hc _ _ _ _ (fun r I' S' q => ?_) w
        obtain ⟨q1, q2⟩ := q
        subst q1
        exact x_res_s e3 (fun st hs z => hg z hl hs) q2
      split
      · exact key
      · exact fun q => ⟨q.1, key q.2⟩
      · exact fun q => q
    · exact False.elim h
  · exact False.elim h
theorem x_sem_cp {S : mj_S} {y p1 p2 p3 i : Nat} {sw : List (Int × Nat)} {ls : xL} {st : List xV} {I : mj_I} {go : Nat → xL → List xV → mj_I → Prop} {go' : Nat → mj_L → List mj_V → mj_I → mj_S → Prop} {call call' : Nat → List mj_V → mj_Q → Prop} {ret : Option mj_V → Prop} {ov : Bool} (hl : xokL S ls) (hst : xokS S st)
    (hg : ∀ {i ls st I}, go i ls st I → xokL S ls → xokS S st → go' i (ls.map xeo) (st.map xe) I S)
    (h : x_sem S ov (.invokedynamic y, p1, p2, p3, sw) i ls st I go call ret) : mj_sem (.invokedynamic y, p1, p2, p3, sw) i (ls.map xeo) (st.map xe) I S go' call' ret := by
  unfold x_sem at h
  unfold mj_sem
  dsimp only at h ⊢
  split at h
  · rename_i n dp r1 b1 b m1 sp r2 b2 a m2 r
    obtain ⟨h1, h2, h3, h4, h5, h6⟩ := hst
    split at h
    · rename_i e1 e2 e3
      simp only [List.map_cons, xe]
      rw [List.length_map, e1]
      dsimp only
      have e4 := Nat.eq_of_beq_eq_true e2
      subst e4
      simp only [Bool.or_eq_true, Nat.beq_eq] at e3
      have k1 : mj_tg S b + 1 = r1 ∧ mj_ln S b = m1 := by
        rcases h3 with z | z
        · have z : r1 = 0 := z
          omega
        · exact ⟨z.1, z.2.1 (show 21 ≤ r1 by omega)⟩
      have k2 : mj_tg S a + 1 = r1 ∧ mj_ln S a = m2 := by
        rcases h5 with z | z
        · have z : r1 = 0 := z
          omega
        · exact ⟨z.1, z.2.1 (show 21 ≤ r1 by omega)⟩
      refine ⟨⟨by omega, by omega, h.1.1.1, h.1.1.2, h.1.2.1, ?_, ?_⟩, hg h.2 hl h6⟩
      · rw [k2.2]; exact h.1.2.2.1
      · rw [k1.2]; exact h.1.2.2.2
    · exact False.elim h
  · exact False.elim h
set_option maxHeartbeats 4000000 in
theorem x_sem_s {S : mj_S} (hS : mk_Sh S) {c : mj_Ins} {i : Nat} {ls : xL} {st : List xV} {I : mj_I} {go : Nat → xL → List xV → mj_I → Prop} {go' : Nat → mj_L → List mj_V → mj_I → mj_S → Prop} {call call' : Nat → List mj_V → mj_Q → Prop} {ret : Option mj_V → Prop} {ov : Bool} (hl : xokL S ls) (hst : xokS S st)
    (hg : ∀ {i ls st I}, go i ls st I → xokL S ls → xokS S st → go' i (ls.map xeo) (st.map xe) I S)
    (hc : ∀ y as (k k' : mj_Q), (∀ r I S, k r I S → k' r I S) → call y as k → call' y as k')
    (h : x_sem S ov c i ls st I go call ret) : mj_sem c i (ls.map xeo) (st.map xe) I S go' call' ret := by
  obtain ⟨o, p1, p2, p3, sw⟩ := c
  have hw := h
  unfold x_sem at h
  dsimp only at h
  split at h
  all_goals first
    | exact False.elim h
    | exact x_sem_get hS hl hst hg hw
    | exact x_sem_put hl hst hg hw
    | exact x_sem_call hl hst hg hc hw
    | exact x_sem_cp hl hst hg hw
    | (clear hw
       unfold mj_sem
       dsimp only
       first
       | exact hg h hl ⟨trivial, hst⟩
       | exact hg h hl ⟨Or.inl rfl, hst⟩
       | exact hg h hl hst
       | (rw [x_nth]
          split at h <;> first
          | exact False.elim h
          | (rename_i e
             have hv := x_nth_v hl e
             rw [e]
             first
             | exact hg h hl ⟨hv, hst⟩
             | (have h6 := hg (x_ar_s h) (x_set_ok hl (v := some (.inl _)) trivial _) hst
                rw [List.map_set] at h6
                exact h6)))
       | (split at h <;> first
          | exact False.elim h
          | exact hg h hl hst.2
          | exact hg h hl ⟨hst.1, hst⟩
          | exact hg h hl ⟨hst.1, hst.2.1, hst.1, hst.2.2⟩
          | exact hg h hl ⟨hst.1, hst.2.1, hst⟩
          | exact hg (x_ar_s h) hl ⟨trivial, hst.2.2⟩
          | exact hg (x_ar_s h) hl ⟨trivial, hst.2⟩
          | exact hg h hl ⟨trivial, hst.2.2⟩
          | exact hg h hl ⟨trivial, hst.2⟩
          | exact ⟨h.1, hg (x_ar_s h.2) hl ⟨trivial, hst.2.2⟩⟩
          | exact ⟨h.1, hg h.2 hl ⟨trivial, hst.2.2⟩⟩
          | exact ⟨fun q => hg (h.1 q) hl hst.2, fun q => hg (h.2 q) hl hst.2⟩
          | exact ⟨fun q => hg (h.1 q) hl hst.2.2, fun q => hg (h.2 q) hl hst.2.2⟩
          | exact ⟨h.1, fun q => hg (h.2.1 q) hl hst.2, fun q => hg (h.2.2 q) hl hst.2⟩
          | exact mj_sw_mono (fun t q => hg q hl hst.2) h
          | (obtain ⟨q1, q2, q3⟩ := x_ix_s hst.2.1 (by decide) h
             rw [rd_in q1.2.1 q2] at q3
             exact ⟨q1, hg q3 hl ⟨trivial, hst.2.2⟩⟩)
          | (obtain ⟨q1, q2, q3⟩ := x_ix_s hst.2.2.1 (by decide) h
             first
             | exact ⟨q1, hg q3 hl hst.2.2.2⟩
             | exact ⟨⟨q1, q3.1⟩, hg q3.2 hl hst.2.2.2⟩)
          | exact ⟨(x_len_s hst.1 h).1, hg (x_len_s hst.1 h).2 hl ⟨trivial, hst.2⟩⟩
          | (obtain ⟨t, q, q1, q2, q3⟩ := x_iq_s hS hst.2.1 h
             have h5 := hg q3 hl ⟨q2, hst.2.2⟩
             simp only [List.map_cons, xe]
             rw [q1]
             exact ⟨t, h5⟩)
          | (have h6 := hg h (x_set_ok hl (v := some (.inl _)) trivial _) hst.2
             rw [List.map_set] at h6
             exact h6)
          | (have h6 := hg h (x_set_ok hl (v := some (.inr _)) hst.1 _) hst.2
             rw [List.map_set] at h6
             exact h6)
          | exact h
          | (split at h <;> first
             | exact False.elim h
             | (rename_i e
                simp only [List.map_cons, xe]
                rw [List.length_map, e]
                exact hg h hl ⟨trivial, hst.2.2⟩))))
def xW (d m i : Nat) (ls : xL) (st : List xV) (I : mj_I) (S : mj_S) (Q : mj_Q) : Prop := ∃ z : Nat, z = 0 ∧ (mk_Sh S → xokL S ls → xokS S st → mj_W d m i (ls.map xeo) (st.map xe) I S Q)
theorem xW.u {d m i : Nat} {ls : xL} {st : List xV} {I : mj_I} {S : mj_S} {Q : mj_Q} (h : xW d m i ls st I S Q) : mk_Sh S → xokL S ls → xokS S st → mj_W d m i (ls.map xeo) (st.map xe) I S Q := by
  obtain ⟨_, _, h⟩ := h
  exact h
def x_fc (i : Nat) (K : Nat → Prop) : Prop := match i with
  | 0 => K 0
  | n + 1 => K (n + 1)
theorem x_fc_e (i : Nat) (K : Nat → Prop) : x_fc i K = K i := by cases i <;> rfl
def xs (ov : Bool) (hs : List Nat) : Nat → Nat → Nat → Nat → xL → List xV → mj_I → mj_S → mj_Q → Prop
  | 0, d, m, i, ls, st, I, S, Q => xW d m i ls st I S Q
  | n + 1, d, m, i, ls, st, I, S, Q => x_fc i (fun i => match hs.elem i with
    | true => xW d m i ls st I S Q
    | false => x_sem S ov (mj_code m i) i ls st I (fun i ls st I => xs ov hs n d m i ls st I S Q)
      (fun y as k => 0 < d ∧ mj_C (d - 1) y as I S k) (fun v => Q v I S))
theorem xs_W {ov : Bool} {hs : List Nat} {d m i : Nat} {ls : xL} {st : List xV} {I : mj_I} {S : mj_S} {Q : mj_Q} (k : Nat) (h : xs ov hs k d m i ls st I S Q) : xW d m i ls st I S Q := by
  refine ⟨0, rfl, fun hS hl hst => ?_⟩
  induction k generalizing i ls st I with
  | zero => exact h.u hS hl hst
  | succ k ih =>
    unfold xs at h
    rw [x_fc_e] at h
    split at h
    · exact h.u hS hl hst
    · exact mj_W_sem (x_sem_s hS hl hst (fun q hl hst => ih q hl hst) (fun y as a b hab q => ⟨q.1, mj_W_mono q.2 hab⟩) h)
/-- from the head of a loop on -/
theorem x_hd (ov : Bool) (hs : List Nat) (k : Nat) {d m i : Nat} {ls : xL} {st : List xV} {I : mj_I} {S : mj_S} {Q : mj_Q} (h : x_sem S ov (mj_code m i) i ls st I (fun i ls st I => xs ov hs k d m i ls st I S Q) (fun y as k => 0 < d ∧ mj_C (d - 1) y as I S k) (fun v => Q v I S)) : xW d m i ls st I S Q :=
  ⟨0, rfl, fun hS hl hst => mj_W_sem (x_sem_s hS hl hst (fun q hl hst => (xs_W k q).u hS hl hst) (fun y as a b hab q => ⟨q.1, mj_W_mono q.2 hab⟩) h)⟩
def x_ent (m : Nat) (as : List xV) : xL := as.map some ++ List.replicate ((mj_tab m).1 - as.length) none
theorem x_lsome {S : mj_S} : ∀ {as : List xV}, xokS S as → ∀ n, xokL S (as.map some ++ List.replicate n none)
  | [], _, 0 => trivial
  | [], h, n + 1 => ⟨trivial, x_lsome (as := []) h n⟩
  | _ :: _, h, n => ⟨h.1, x_lsome h.2 n⟩
theorem x_ent_map (y : Nat) (as : List xV) : (x_ent y as).map xeo = mj_ent y (as.map xe) := by
  unfold x_ent mj_ent
  rw [List.map_append, List.map_replicate, List.length_map, List.map_map, List.map_map]
  rfl
theorem x_C (ov : Bool) (as : List xV) (hs : List Nat) (k : Nat) {d y : Nat} {I : mj_I} {S : mj_S} {Q : mj_Q} (hS : mk_Sh S) (hok : xokS S as) (h : xs ov hs k d y 0 (x_ent y as) [] I S Q) : mj_C d y (x_raw as) I S Q := by
  have h1 := (xs_W k h).u hS (x_lsome hok _) trivial
  rw [x_ent_map] at h1
  rw [x_raw_map]
  exact h1
theorem xok_b {S : mj_S} (hS : mk_Sh S) {b : Nat} (hb : b = 21 ∨ b = 61) : xok S (2, b, b, 0) := by
  rcases hb with rfl | rfl <;> exact x_chq_ok hS (by decide +kernel)
theorem xok_0 {S : mj_S} (a n b : Nat) : xok S (0, b, a, n) := Or.inl rfl
theorem xok_t {S : mj_S} {r b a n : Nat} (h : mj_tg S a + 1 = r) (h1 : r < 21) (h2 : x_RL r = false) : xok S (r, b, a, n) := Or.inr ⟨h, fun z => by omega, by show x_in r b a = true; unfold x_in; rw [h2]; rfl⟩
theorem xok_P {S : mj_S} (hS : mk_Sh S) {b : Nat} (hb : b = 21 ∨ b = 61) {p : Int} (h0 : 0 ≤ p) (h1 : p < 7) : xok S (4, b, b + 15 + p.toNat, 0) := (x_F3 hS (r := 54) (b := b) (a := b + 1) (n := 7) (j := p.toNat) (by rcases hb with rfl | rfl <;> exact x_chq_ok hS (by decide +kernel)) (by omega) (by decide) rfl).2
theorem xok_St {S : mj_S} (hS : mk_Sh S) {b : Nat} (hb : b = 21 ∨ b = 61) {p : Int} (h0 : 0 ≤ p) (h1 : p < 6) : xok S (5, b, b + 22 + p.toNat, 0) := (x_F3 hS (r := 55) (b := b) (a := b + 2) (n := 6) (j := p.toNat) (by rcases hb with rfl | rfl <;> exact x_chq_ok hS (by decide +kernel)) (by omega) (by decide) rfl).2
theorem xok_Ru {S : mj_S} (hS : mk_Sh S) {b : Nat} (hb : b = 21 ∨ b = 61) {p : Int} (h0 : 0 ≤ p) (h1 : p < 12) : xok S (6, b, b + 28 + p.toNat, 0) := (x_F3 hS (r := 56) (b := b) (a := b + 3) (n := 12) (j := p.toNat) (by rcases hb with rfl | rfl <;> exact x_chq_ok hS (by decide +kernel)) (by omega) (by decide) rfl).2
