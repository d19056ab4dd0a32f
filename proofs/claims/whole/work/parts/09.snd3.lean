/-! soundness of the mini machine, 4: rows of references, reading, making, copying -/
section MJR2
variable {p : Program} {l : Launch} {e : Env} {R : Room} {s : State} {m : MethodId} {args : Array Value} {below : List Frame} {meth : Method} {c : Code} {H : Heap} {locs : List Loc} {cells slots : Nat} {Q : State → Prop}
variable {cc : ByteArray} {pc : Nat} {ls : Array Slot} {rest : List Value} {E : mj_E} {I : mj_I} {S : mj_S} {own : String} {index : Nat}
theorem mj_tag_r (hok : mj_ok E I S) {a : Nat} (h : 50 ≤ mj_tg S a) : 20 ≤ a ∧ a < mj_nx S ∧ mj_tg S a - 50 ∈ mj_aos := by
  obtain ⟨g1, g2⟩ := hok.new (a := a) (by omega) (by omega) (by omega) (by omega)
  refine ⟨g1, g2, ?_⟩
  rcases hok.2.2.2.1 a g1 g2 with q | q | q
  · omega
  · omega
  · exact q.2
theorem mj_aaload (hx : p.tables.exec = Jvm.exec) (hb : c.code = cc) (hv : mj_env E s) (hr : mj_rep E I S H) {a : Nat} {j : Int} (h : mj_aq S a j) (hj : mj_R j) (hdg : decode cc pc = .ok (.aaload, 1))
    (kk : W p l e R s m args below meth c H locs cells slots Q (F0 m (pc + 1) ls (mj_rv E (mj_rf S a j.toNat) :: rest))) : W p l e R s m args below meth c H locs cells slots Q (F0 m pc ls (.int (Int32.ofInt j) :: mj_rv E a :: rest)) := by
  obtain ⟨h50, h0, h1⟩ := h
  obtain ⟨g1, g2, g3⟩ := mj_tag_r hr.2.2 h50
  obtain ⟨t0, ht0⟩ := mj_tys_r (E := E) h50 g3
  rw [mj_rv_new g1]
  refine va_aldq hx hb hv.1 hr.1 (a - 20) t0 (hr.get g1 g2 (mj_cell_ref E I S rfl h50)) ht0 (mj_vp_in h0 h1 hj) hdg ?_
  rw [mj_cl hj]
  exact kk
theorem mj_aast (hx : p.tables.exec = Jvm.exec) (hb : c.code = cc) (hv : mj_env E s) (hr : mj_rep E I S H) (hS : va_S (mj_eA E) s.heap H locs) (hcs : H.size = s.heap.size + cells) {a v : Nat} {j : Int} (h : mj_aq S a j) (hj : mj_R j) (hvv : v = 0 ∨ (20 ≤ v ∧ v < mj_nx S ∧ mj_tg S a = 50 + mj_tg S v)) (hdg : decode cc pc = .ok (.aastore, 1))
    (kk : ∀ (H1 : Heap) (locs1 : List Loc), mj_rep E I (mj_ur S a j.toNat v) H1 → va_S (mj_eA E) s.heap H1 locs1 → H1.size = s.heap.size + cells → W p l e R s m args below meth c H1 locs1 cells slots Q (F0 m (pc + 1) ls rest)) : W p l e R s m args below meth c H locs cells slots Q (F0 m pc ls (mj_rv E v :: .int (Int32.ofInt j) :: mj_rv E a :: rest)) := by
  obtain ⟨h50, h0, h1⟩ := h
  obtain ⟨g1, g2, g3⟩ := mj_tag_r hr.2.2 h50
  obtain ⟨t0, ht0⟩ := mj_tys_r (E := E) h50 g3
  rw [mj_rv_new g1]
  have hcell : ∀ w : Option Nat, mj_ro E v = w → mj_cell E I (mj_ur S a j.toNat v) a = .inl (mj_et E (mj_tg S a), mj_ln S a, .inr (.inr (.inr (.inr (va_up (fun j => mj_ro E (mj_rf S a j)) (Int32.ofInt j).toNatClampNeg w))))) := by
    intro w hw
    have ef : (fun q => mj_ro E (mj_rf (mj_ur S a j.toNat v) a q)) = va_up (fun j => mj_ro E (mj_rf S a j)) j.toNat w := by
      funext q
      unfold va_up
      show mj_ro E (if a = a ∧ q = j.toNat then v else S.1 a q) = _
      by_cases hq : q = j.toNat
      · rw [if_pos hq, if_pos ⟨rfl, hq⟩, hw]
      · rw [if_neg hq, if_neg (fun z => hq z.2)]
        rfl
    rw [mj_cell_ref E I (mj_ur S a j.toNat v) (show mj_tg (mj_ur S a j.toNat v) a = mj_tg S a from rfl) h50, mj_cl hj, ef]
    rfl
  rcases hvv with e0 | ⟨v1, v2, v3⟩
  · subst e0
    rw [show mj_rv E 0 = .null from rfl]
    exact va_astqN hx hb hv.1 hr.1 (mj_ws_D E I S) (mj_self hS) (a - 20) t0 (hr.get g1 g2 (mj_cell_ref E I S rfl h50)) ht0 (mj_vp_in h0 h1 hj) hdg (mj_fin1 hr hS hcs (mj_ws_ur E (k := j.toNat) (v := 0) g1 g2 (hcell none rfl)) rfl (mj_ok_ur hr.2.2 g1) kk)
  · have h13 : mj_tg S v < 13 := by
      have : mj_tg S a - 50 = mj_tg S v := by omega
      rw [this] at g3
      simp only [mj_aos, List.mem_cons, List.not_mem_nil, or_false] at g3
      omega
    rw [mj_rv_new v1]
    have ht1 : (mj_tys E)[t0]? = some (mj_et E (mj_tg S a), .object (mj_cn (mj_tg S v))) := by rw [ht0, show mj_tg S a - 50 = mj_tg S v by omega]
    exact va_astq hx hb hv.1 hr.1 (mj_ws_D E I S) (mj_self hS) (a - 20) t0 (v - 20) (mj_tg S v) (r := (mj_cn (mj_tg S v), mj_cT (mj_tg S v), mj_cN (mj_tg S v))) (hr.get g1 g2 (mj_cell_ref E I S rfl h50)) ht1 (hr.get v1 v2 (mj_cell_obj E I S rfl h13)) (mj_cls_get h13) (mj_vp_in h0 h1 hj) hdg (mj_fin1 hr hS hcs (mj_ws_ur E (k := j.toNat) (v := v) g1 g2 (hcell (some (mj_ad E v)) (mj_ro_new v1))) rfl (mj_ok_ur hr.2.2 g1) kk)
/-- which old cell a tag names -/
theorem mj_tag40 (hok : mj_ok E I S) {a : Nat} (h : mj_tg S a = 40) : a = 1 ∨ a = 2 := by
  by_cases q : 20 ≤ a ∧ a < mj_nx S
  · rcases hok.2.2.2.1 a q.1 q.2 with w | w | w <;> omega
  · have e := hok.2.2.2.2.1 a (by omega)
    rw [h] at e
    unfold mj_otg at e
    split at e
    · assumption
    · split at e
      · omega
      · split at e <;> omega
theorem mj_tag41 (hok : mj_ok E I S) {a : Nat} (h : mj_tg S a = 41) : 3 ≤ a ∧ a < 10 := by
  by_cases q : 20 ≤ a ∧ a < mj_nx S
  · rcases hok.2.2.2.1 a q.1 q.2 with w | w | w <;> omega
  · have e := hok.2.2.2.2.1 a (by omega)
    rw [h] at e
    unfold mj_otg at e
    split at e
    · omega
    · split at e
      · assumption
      · split at e <;> omega
theorem mj_tag42 (hok : mj_ok E I S) {a : Nat} (h : mj_tg S a = 42) : 10 ≤ a ∧ a < 17 := by
  by_cases q : 20 ≤ a ∧ a < mj_nx S
  · rcases hok.2.2.2.1 a q.1 q.2 with w | w | w <;> omega
  · have e := hok.2.2.2.2.1 a (by omega)
    rw [h] at e
    unfold mj_otg at e
    split at e
    · omega
    · split at e
      · omega
      · split at e
        · assumption
        · omega
theorem mj_iaload (hx : p.tables.exec = Jvm.exec) (hb : c.code = cc) (hv : mj_env E s) (hr : mj_rep E I S H) (hS : va_S (mj_eA E) s.heap H locs) {a : Nat} {j : Int} (h : mj_ai S a j 20 40) (hj : mj_R j) (hdg : decode cc pc = .ok (.iaload, 1))
    (kk : W p l e R s m args below meth c H locs cells slots Q (F0 m (pc + 1) ls (.int (Int32.ofInt (I a j.toNat)) :: rest))) : W p l e R s m args below meth c H locs cells slots Q (F0 m pc ls (.int (Int32.ofInt j) :: mj_rv E a :: rest)) := by
  obtain ⟨ht, h0, h1⟩ := h
  rcases ht with ht | ht
  · obtain ⟨g1, g2⟩ := hr.2.2.new (a := a) (by omega) (by omega) (by omega) (by omega)
    rw [mj_rv_new g1]
    refine va_iald hx hb hv.1 hr.1 (a - 20) 0 (hr.get g1 g2 (mj_cell_int E I S ht (by omega) (by omega))) rfl (mj_vp_in h0 h1 hj) hdg ?_
    rw [mj_cl hj]
    exact kk
  · obtain ⟨-, -, -, -, -, -, -, e8, e9, e10, -, e12⟩ := hv
    obtain ⟨o1, o2, o3, o4, -⟩ := hr.2.2.2.2.2.2.2.2
    rcases mj_tag40 hr.2.2 ht with rfl | rfl
    · rw [mj_rv_old (by omega) (by omega)]
      rw [o1] at h1
      refine va_sld hx hb e9 (by omega) (by unfold mj_eA; omega) hS (mj_vp_in h0 h1 hj) hdg ?_
      rw [mj_cl hj]
      rw [o2 _ (by omega), Int32.ofInt_toInt] at kk
      exact kk
    · rw [mj_rv_old (by omega) (by omega)]
      rw [o3] at h1
      refine va_ti hx hb e8 hS (mj_vp_in h0 h1 hj) (v := .int (Int32.ofInt (I 2 j.toNat))) ?_ hdg kk
      rw [mj_cl hj, o4 _ (by omega)]
theorem mj_baload (hx : p.tables.exec = Jvm.exec) (hb : c.code = cc) (hv : mj_env E s) (hr : mj_rep E I S H) (hS : va_S (mj_eA E) s.heap H locs) {a : Nat} {j : Int} (h : mj_ai S a j 21 42) (hj : mj_R j) (hdg : decode cc pc = .ok (.baload, 1))
    (kk : W p l e R s m args below meth c H locs cells slots Q (F0 m (pc + 1) ls (.int (Int32.ofInt (I a j.toNat)) :: rest))) : W p l e R s m args below meth c H locs cells slots Q (F0 m pc ls (.int (Int32.ofInt j) :: mj_rv E a :: rest)) := by
  obtain ⟨ht, h0, h1⟩ := h
  rcases ht with ht | ht
  · obtain ⟨g1, g2⟩ := hr.2.2.new (a := a) (by omega) (by omega) (by omega) (by omega)
    rw [mj_rv_new g1]
    refine va_bald hx hb hv.1 hr.1 (a - 20) 1 (hr.get g1 g2 (mj_cell_int E I S ht (by omega) (by omega))) rfl (mj_vp_in h0 h1 hj) hdg ?_
    rw [mj_cl hj]
    exact kk
  · obtain ⟨-, -, -, -, -, -, -, -, -, -, e11, -⟩ := hv
    obtain ⟨g1, g2⟩ := mj_tag42 hr.2.2 ht
    obtain ⟨i, rfl⟩ : ∃ i, a = 10 + i := ⟨a - 10, by omega⟩
    obtain ⟨-, -, o3, o4⟩ := hr.2.2.2.2.2.2.2.2.2.2.2.2 i (by omega)
    rw [mj_rv_old (by omega) (by omega)]
    rw [o3] at h1
    refine va_tb hx hb (e11.1 i (by omega)).2.2.2 hS (mj_vp_in h0 h1 hj) (v := .int (Int32.ofInt (I (10 + i) j.toNat))) ?_ hdg kk
    rw [mj_cl hj, o4 _ (by omega), Int32.ofInt_toInt]
theorem mj_zaload (hx : p.tables.exec = Jvm.exec) (hb : c.code = cc) (hv : mj_env E s) (hr : mj_rep E I S H) {a : Nat} {j : Int} (h : mj_ai S a j 22 22) (hj : mj_R j) (hdg : decode cc pc = .ok (.baload, 1))
    (kk : W p l e R s m args below meth c H locs cells slots Q (F0 m (pc + 1) ls (.int (Int32.ofInt (I a j.toNat)) :: rest))) : W p l e R s m args below meth c H locs cells slots Q (F0 m pc ls (.int (Int32.ofInt j) :: mj_rv E a :: rest)) := by
  obtain ⟨ht, h0, h1⟩ := h
  have ht : mj_tg S a = 22 := by omega
  obtain ⟨g1, g2⟩ := hr.2.2.new (a := a) (by omega) (by omega) (by omega) (by omega)
  rw [mj_rv_new g1]
  refine va_zald hx hb hv.1 hr.1 (a - 20) 2 (hr.get g1 g2 (mj_cell_int E I S ht (by omega) (by omega))) rfl (mj_vp_in h0 h1 hj) hdg ?_
  rw [mj_cl hj]
  exact kk
theorem mj_caload (hx : p.tables.exec = Jvm.exec) (hb : c.code = cc) (hv : mj_env E s) (hr : mj_rep E I S H) {a : Nat} {j : Int} (h : mj_ai S a j 23 23) (hj : mj_R j) (hdg : decode cc pc = .ok (.caload, 1))
    (kk : W p l e R s m args below meth c H locs cells slots Q (F0 m (pc + 1) ls (.int (Int32.ofInt (I a j.toNat)) :: rest))) : W p l e R s m args below meth c H locs cells slots Q (F0 m pc ls (.int (Int32.ofInt j) :: mj_rv E a :: rest)) := by
  obtain ⟨ht, h0, h1⟩ := h
  have ht : mj_tg S a = 23 := by omega
  obtain ⟨g1, g2⟩ := hr.2.2.new (a := a) (by omega) (by omega) (by omega) (by omega)
  rw [mj_rv_new g1]
  refine va_cald hx hb hv.1 hr.1 (a - 20) 3 (hr.get g1 g2 (mj_cell_int E I S ht (by omega) (by omega))) rfl (mj_vp_in h0 h1 hj) hdg ?_
  rw [mj_cl hj]
  exact kk
theorem mj_alen (hx : p.tables.exec = Jvm.exec) (hb : c.code = cc) (hv : mj_env E s) (hr : mj_rep E I S H) (hS : va_S (mj_eA E) s.heap H locs) {a : Nat} (h20 : 20 ≤ mj_tg S a) (h41 : ¬ mj_tg S a = 41) (hdg : decode cc pc = .ok (.arraylength, 1))
    (kk : W p l e R s m args below meth c H locs cells slots Q (F0 m (pc + 1) ls (.int (Int32.ofInt (mj_ln S a : Int)) :: rest))) : W p l e R s m args below meth c H locs cells slots Q (F0 m pc ls (mj_rv E a :: rest)) := by
  by_cases g : 20 ≤ a ∧ a < mj_nx S
  · rw [mj_rv_new g.1]
    rcases hr.2.2.2.2.2.1 a g.1 g.2 with w | w | w
    · omega
    · have h : mj_tg S a = 20 ∨ mj_tg S a = 21 ∨ mj_tg S a = 22 ∨ mj_tg S a = 23 := by omega
      rcases h with h | h | h | h
      · exact va_alen hx hb hv.1 hr.1 (a - 20) 0 (hr.get g.1 g.2 (mj_cell_int E I S h (by omega) (by omega))) (ty := .int) rfl rfl hdg kk
      · exact va_alen hx hb hv.1 hr.1 (a - 20) 1 (hr.get g.1 g.2 (mj_cell_int E I S h (by omega) (by omega))) (ty := .byte) rfl rfl hdg kk
      · exact va_alen hx hb hv.1 hr.1 (a - 20) 2 (hr.get g.1 g.2 (mj_cell_int E I S h (by omega) (by omega))) (ty := .boolean) rfl rfl hdg kk
      · exact va_alen hx hb hv.1 hr.1 (a - 20) 3 (hr.get g.1 g.2 (mj_cell_int E I S h (by omega) (by omega))) (ty := .char) rfl rfl hdg kk
    · obtain ⟨t0, ht0⟩ := mj_tys_r (E := E) w.1 w.2
      exact va_alen hx hb hv.1 hr.1 (a - 20) t0 (hr.get g.1 g.2 (mj_cell_ref E I S rfl w.1)) ht0 rfl hdg kk
  · have e := hr.2.2.2.2.2.2.1 a (by omega)
    obtain ⟨-, -, -, -, -, -, -, e8, e9, e10, e11, e12⟩ := hv
    obtain ⟨o1, o2, o3, o4, o5⟩ := hr.2.2.2.2.2.2.2.2
    rcases mj_otg_c a with w | w | w | w
    · rcases mj_tag40 hr.2.2 (e.trans w) with rfl | rfl
      · rw [mj_rv_old (by omega) (by omega)]
        rw [o1] at kk
        exact va_slen hx hb e9 (by omega) (by unfold mj_eA; omega) hS hdg kk
      · rw [mj_rv_old (by omega) (by omega)]
        rw [o3] at kk
        exact va_tlen hx hb e8 hS (v := Int32.ofInt 6) rfl hdg kk
    · omega
    · obtain ⟨g1, g2⟩ := mj_tag42 hr.2.2 (e.trans w)
      obtain ⟨i, rfl⟩ : ∃ i, a = 10 + i := ⟨a - 10, by omega⟩
      obtain ⟨-, -, w3, -⟩ := o5 i (by omega)
      rw [mj_rv_old (by omega) (by omega)]
      rw [w3] at kk
      exact va_tlen hx hb (e11.1 i (by omega)).2.2.2 hS rfl hdg kk
    · omega
/-- behind a making: the new cell lies at the heap's end -/
theorem mj_fin2 {pc2 : Nat} (hr : mj_rep E I S H) (hS : va_S (mj_eA E) s.heap H locs) (hcs : H.size = s.heap.size + cells) {t n : Nat} {x : va_E} (hcell : mj_cell E (mj_z I (mj_nx S)) (mj_nw S t n) (mj_nx S) = x) (hok : mj_ok E (mj_z I (mj_nx S)) (mj_nw S t n)) {sl' : Nat}
    (kk : ∀ (H1 : Heap), mj_rep E (mj_z I (mj_nx S)) (mj_nw S t n) H1 → va_S (mj_eA E) s.heap H1 locs → H1.size = s.heap.size + (cells + 1) → W p l e R s m args below meth c H1 locs (cells + 1) sl' Q (F0 m pc2 ls (mj_rv E (mj_nx S) :: rest))) :
    ∀ (q : Nat) (H1 : Heap), va_P (mj_eD E) mj_cls (mj_ws E I S ++ [(q, x)]) H1 → va_D (mj_eA E) (mj_ws E I S ++ [(q, x)]) → va_S (mj_eA E) H H1 locs → W p l e R s m args below meth c H1 locs (cells + 1) sl' Q (F0 m pc2 ls (.ref q :: rest)) := by
  intro q H1 hP1 hD1 hS1
  refine mj_W_size fun hz => ?_
  have h20 : 20 ≤ mj_nx S := hr.2.2.2.2.1
  have hlast : (mj_ws E I S ++ [(q, x)])[(mj_ws E I S).length]? = some (q, x) := by simp
  have hq1 : q < H1.size := (hP1 _ _ hlast).lt
  have hqA : mj_eb E ≤ q := hD1.2 _ _ hlast
  have hqH : H.size ≤ q := by
    refine Nat.le_of_not_lt fun hlt => ?_
    have hs := hr.2.1
    have hk : q - mj_eb E < mj_nx S - 20 := by omega
    have hg : (mj_ws E I S)[q - mj_eb E]? = some (mj_eb E + (q - mj_eb E), mj_cell E I S (20 + (q - mj_eb E))) := by
      unfold mj_ws
      rw [List.getElem?_map, List.getElem?_range hk]
      rfl
    have hg2 : (mj_ws E I S ++ [(q, x)])[q - mj_eb E]? = some (mj_eb E + (q - mj_eb E), mj_cell E I S (20 + (q - mj_eb E))) := by
      rw [List.getElem?_append_left (by rw [mj_ws_len]; exact hk)]
      exact hg
    have := hD1.1 _ _ _ _ hg2 hlast (by show mj_eb E + (q - mj_eb E) = q; omega)
    rw [mj_ws_len] at this
    omega
  have hqe : q = H.size := by have := hS1.1; omega
  have hz1 : H1.size = H.size + 1 := by omega
  have had : q = mj_ad E (mj_nx S) := by rw [mj_ad_new h20]; have := hr.2.1; omega
  subst had
  rw [mj_ws_nw E h20 hcell] at hP1
  rw [← mj_rv_new h20]
  exact kk H1 ⟨hP1, by rw [hz1]; show H.size + 1 + 20 = mj_eb E + (mj_nx S + 1); have := hr.2.1; omega, hok⟩ (mj_tr hS hS1) (by omega)
theorem mj_tgn {t n : Nat} : mj_tg (mj_nw S t n) (mj_nx S) = t := by
  show (if S.2.2.1 = S.2.2.1 then (t, n) else S.2.1 S.2.2.1).1 = t
  rw [if_pos rfl]
theorem mj_lnn {t n : Nat} : mj_ln (mj_nw S t n) (mj_nx S) = n := by
  show (if S.2.2.1 = S.2.2.1 then (t, n) else S.2.1 S.2.2.1).2 = n
  rw [if_pos rfl]
theorem mj_zn {j : Nat} : mj_z I (mj_nx S) (mj_nx S) j = 0 := by
  unfold mj_z
  rw [if_pos rfl]
theorem mj_rfn {t n j : Nat} : mj_rf (mj_nw S t n) (mj_nx S) j = 0 := by
  show (if S.2.2.1 = S.2.2.1 then 0 else S.1 S.2.2.1 j) = 0
  rw [if_pos rfl]
theorem mj_new (hx : p.tables.exec = Jvm.exec) (hb : c.code = cc) (hts : ∀ w ∈ mj_big, w.before args s = true) (hown : s.vm.findClass own = some m.cls) (hv : mj_env E s) (hr : mj_rep E I S H) (hS : va_S (mj_eA E) s.heap H locs) (hcs : H.size = s.heap.size + cells) {t : Nat} (h13 : t < 13)
    (hw : Cond.classLink own index (mj_cn t) ∈ lw_tbl) (hcells : cells + 1 ≤ R.cells) (hslots : slots + mj_cN t ≤ R.slots) (hdg : decode cc pc = .ok (.new index, 3))
    (kk : ∀ (H1 : Heap), mj_rep E (mj_z I (mj_nx S)) (mj_nw S t (mj_cN t)) H1 → va_S (mj_eA E) s.heap H1 locs → H1.size = s.heap.size + (cells + 1) → W p l e R s m args below meth c H1 locs (cells + 1) (slots + mj_cN t) Q (F0 m (pc + 3) ls (mj_rv E (mj_nx S) :: rest))) : W p l e R s m args below meth c H locs cells slots Q (F0 m pc ls rest) := by
  have hty : ∀ k, k < mj_cN t → parseFieldDescriptor (mj_cT t k).2.2.1 = some (mj_ty0 t k) := fun k hk => (mj_tyof h13 hk).1
  refine va_new (ci := t) (fs := (List.range (mj_cN t)).map (mj_fv E (mj_z I (mj_nx S)) (mj_nw S t (mj_cN t)) (mj_nx S) t)) hx hb hts (mj_hin h13) (mj_ty0 t) hty hown (hts _ (mj_bigm hw rfl)) (hts _ (mj_hinst h13).1) (hts _ (mj_hinst h13).2) hv.1 hr.1 (mj_ws_D E I S) (mj_self hS) (fun q hq => ?_) (mj_cls_get h13) (fun j hj => ?_) hcells hslots hdg
    (mj_fin2 hr hS hcs (mj_cell_obj E _ _ mj_tgn h13) (mj_ok_nw hr.2.2 (Or.inl ⟨h13, rfl⟩) ?_) kk)
  · have h1 := hr.2.1
    have h2 : 20 ≤ mj_nx S := hr.2.2.2.2.1
    show mj_eb E ≤ q
    omega
  · unfold vp_V
    rw [List.getD_eq_getElem?_getD, List.getElem?_map, List.getElem?_range hj]
    simp only [Option.map_some, Option.getD_some]
    unfold mj_fv
    rw [mj_zn, mj_rfn]
    rcases (mj_tyof h13 hj).2 with ⟨q1, q2⟩ | ⟨q1, q2⟩ | ⟨q1, ⟨n, q2⟩ | ⟨n, q2⟩⟩
    · rw [q2, if_neg (by omega)]; rfl
    · rw [q2, if_neg (by omega)]; rfl
    · rw [q2, if_pos q1]; rfl
    · rw [q2, if_pos q1]; rfl
  · have h : t = 0 ∨ t = 1 ∨ t = 2 ∨ t = 3 ∨ t = 4 ∨ t = 5 ∨ t = 6 ∨ t = 7 ∨ t = 8 ∨ t = 9 ∨ t = 10 ∨ t = 11 ∨ t = 12 := by omega
    rcases h with rfl | rfl | rfl | rfl | rfl | rfl | rfl | rfl | rfl | rfl | rfl | rfl | rfl <;> decide
/-- the class of an array of a type is the one of the tables -/
theorem mj_cA (hv : mj_env E s) {t0 : Nat} {cA : ClassId} {t : Nat} {ty : FieldType} (ht : (mj_tys E)[t0]? = some (mj_et E t, ty)) (h : va_RA s cA ty) : cA = mj_et E t := by
  have h2 := (hv.1.2 t0 _ ht).2
  cases ty with
  | object C =>
    obtain ⟨-, -, -, -, -, q1⟩ := h
    obtain ⟨-, -, -, -, -, q2⟩ := h2
    exact Option.some.inj (q1.symm.trans q2)
  | _ => exact Option.some.inj (Eq.trans (Eq.symm h) h2)
theorem mj_newa (hx : p.tables.exec = Jvm.exec) (hb : c.code = cc) (hts : ∀ w ∈ mj_big, w.before args s = true) (hv : mj_env E s) (hr : mj_rep E I S H) (hS : va_S (mj_eA E) s.heap H locs) (hcs : H.size = s.heap.size + cells) {at' : ArrayType} {t t0 : Nat} {ty : FieldType} (hty : newarray.typeOf at' = ty) (ht : (mj_tys E)[t0]? = some (mj_et E t, ty)) (h1 : 20 ≤ t) (h2 : t ≤ 23) (hw : Cond.arrayClass ty ∈ lw_tbl)
    (hdv : defaultValue ty = .int 0) (hcb : componentBytes ty ≤ 8) {n : Int} (hn0 : 0 ≤ n) (hn1 : n ≤ 4096) (hcells : cells + 1 ≤ R.cells) (hslots : slots + n.toNat ≤ R.slots) (hdg : decode cc pc = .ok (.newarray at', 2))
    (kk : ∀ (H1 : Heap), mj_rep E (mj_z I (mj_nx S)) (mj_nw S t n.toNat) H1 → va_S (mj_eA E) s.heap H1 locs → H1.size = s.heap.size + (cells + 1) → W p l e R s m args below meth c H1 locs (cells + 1) (slots + n.toNat) Q (F0 m (pc + 2) ls (mj_rv E (mj_nx S) :: rest))) : W p l e R s m args below meth c H locs cells slots Q (F0 m pc ls (.int (Int32.ofInt n) :: rest)) := by
  have hR : mj_R n := by unfold mj_R; omega
  refine va_newa (a0 := (n.toNat, .inl (fun _ => 0))) hx hb (by rw [hty]; exact hts _ (mj_bigm hw rfl)) hty hv.1 hr.1 (mj_ws_D E I S) (mj_self hS) (fun q hq => ?_) (fun cA => ?_) (fun z => ?_) (mj_cl hR) ?_ hcells hslots hdg (fun q cA H1 hK1 hP1 hD1 hS1 => ?_)
  · have g1 := hr.2.1
    have g2 : 20 ≤ mj_nx S := hr.2.2.2.2.1
    show mj_eb E ≤ q
    omega
  · rw [hdv]; rfl
  · rw [← mj_of0, mj_lt hR mj_R0] at z
    omega
  · have : n.toNat * componentBytes ty ≤ 4096 * 8 := Nat.mul_le_mul (by omega) hcb
    omega
  · have hlast : (mj_tys E ++ [(cA, ty)])[(mj_tys E).length]? = some (cA, ty) := by simp
    have hcA := mj_cA hv ht (hK1.2 _ _ hlast).2
    subst hcA
    refine mj_fin2 hr hS hcs (t := t) (n := n.toNat) ?_ (mj_ok_nw hr.2.2 (Or.inr (Or.inl ⟨h1, h2⟩)) (by omega)) kk q H1 hP1 hD1 hS1
    rw [mj_cell_int E _ _ mj_tgn (by omega) (by omega), mj_lnn]
    have ef : (fun j => Int32.ofInt (mj_z I (mj_nx S) (mj_nx S) j)) = fun _ => 0 := by funext j; rw [mj_zn]; rfl
    rw [ef]
theorem mj_newq (hx : p.tables.exec = Jvm.exec) (hb : c.code = cc) (hts : ∀ w ∈ mj_big, w.before args s = true) (hown : s.vm.findClass own = some m.cls) (hv : mj_env E s) (hr : mj_rep E I S H) (hS : va_S (mj_eA E) s.heap H locs) (hcs : H.size = s.heap.size + cells) {k : Nat} (hk : k ∈ mj_aos) (hw : Cond.classLink own index (mj_cn k) ∈ lw_tbl)
    {n : Int} (hn0 : 0 ≤ n) (hn1 : n ≤ 4096) (hcells : cells + 1 ≤ R.cells) (hslots : slots + n.toNat ≤ R.slots) (hdg : decode cc pc = .ok (.anewarray index, 3))
    (kk : ∀ (H1 : Heap), mj_rep E (mj_z I (mj_nx S)) (mj_nw S (50 + k) n.toNat) H1 → va_S (mj_eA E) s.heap H1 locs → H1.size = s.heap.size + (cells + 1) → W p l e R s m args below meth c H1 locs (cells + 1) (slots + n.toNat) Q (F0 m (pc + 3) ls (mj_rv E (mj_nx S) :: rest))) : W p l e R s m args below meth c H locs cells slots Q (F0 m pc ls (.int (Int32.ofInt n) :: rest)) := by
  have hR : mj_R n := by unfold mj_R; omega
  obtain ⟨t0, ht0⟩ := mj_tys_r (E := E) (t := 50 + k) (by omega) (by rw [show 50 + k - 50 = k by omega]; exact hk)
  rw [show 50 + k - 50 = k by omega] at ht0
  refine va_newq hx hb hown (hts _ (mj_bigm hw rfl)) (hv.2.1 k hk) hv.1 hr.1 (mj_ws_D E I S) (mj_self hS) (fun q hq => ?_) (fun z => ?_) (mj_cl hR) (by omega) hcells hslots hdg (fun q cA H1 hK1 hP1 hD1 hS1 => ?_)
  · have g1 := hr.2.1
    have g2 : 20 ≤ mj_nx S := hr.2.2.2.2.1
    show mj_eb E ≤ q
    omega
  · rw [← mj_of0, mj_lt hR mj_R0] at z
    omega
  · have hlast : (mj_tys E ++ [(cA, FieldType.object (mj_cn k))])[(mj_tys E).length]? = some (cA, FieldType.object (mj_cn k)) := by simp
    have hcA := mj_cA hv ht0 (hK1.2 _ _ hlast).2
    subst hcA
    refine mj_fin2 hr hS hcs (t := 50 + k) (n := n.toNat) ?_ (mj_ok_nw hr.2.2 (Or.inr (Or.inr ⟨by omega, by rw [show 50 + k - 50 = k by omega]; exact hk⟩)) (by omega)) kk q H1 hP1 hD1 hS1
    rw [mj_cell_ref E _ _ mj_tgn (by omega), mj_lnn]
    have ef : (fun j => mj_ro E (mj_rf (mj_nw S (50 + k) n.toNat) (mj_nx S) j)) = fun _ => none := by funext j; rw [mj_rfn]; rfl
    rw [ef]
theorem mj_cell_up (E : mj_E) {I I' : mj_I} {S : mj_S} {a b : Nat} (hb : b ≠ a) (h : ∀ c j, c ≠ a → I' c j = I c j) : mj_cell E I' S b = mj_cell E I S b := mj_cell_same E rfl (fun j => h b j hb) (fun _ => rfl)
theorem mj_copy (hx : p.tables.exec = Jvm.exec) (hb : c.code = cc) (hml : c.maxLocals = ls.size) (hts : ∀ w ∈ mj_big, w.before args s = true) (hown : s.vm.findClass own = some m.cls) (hv : mj_env E s) (hr : mj_rep E I S H) (hS : va_S (mj_eA E) s.heap H locs) (hcs : H.size = s.heap.size + cells)
    (hw : Cond.methodLink own index arraycopyName ∈ lw_tbl) (hw2 : Cond.native arraycopyName ∈ lw_tbl) (hw3 : Cond.static arraycopyName ∈ lw_tbl) (hw4 : Cond.initialized "java/lang/System" ∈ lw_tbl)
    {a b : Nat} {sp dp n : Int} (ht : mj_tg S a = mj_tg S b) (ht2 : mj_tg S b = 20 ∨ mj_tg S b = 21) (h1 : 0 ≤ sp) (h2 : 0 ≤ dp) (h3 : 0 ≤ n) (h4 : sp + n ≤ (mj_ln S a : Int)) (h5 : dp + n ≤ (mj_ln S b : Int)) (hRs : mj_R sp) (hRd : mj_R dp) (hRn : mj_R n)
    (hframes : 1 ≤ R.frames) (hlocals : (rest.map fun v => v.category).sum + (nativeFrameWords "java/lang/System" "arraycopy" 5 + 11) ≤ R.locals) (hdg : decode cc pc = .ok (.invokestatic index, 3))
    (kk : ∀ (H1 : Heap) (locs1 : List Loc), mj_rep E (mj_cp I a sp.toNat b dp.toNat n.toNat) S H1 → va_S (mj_eA E) s.heap H1 locs1 → H1.size = s.heap.size + cells → W p l e R s m args below meth c H1 locs1 cells slots Q (F0 m (pc + 3) ls rest)) :
    W p l e R s m args below meth c H locs cells slots Q (F0 m pc ls (.int (Int32.ofInt n) :: .int (Int32.ofInt dp) :: mj_rv E b :: .int (Int32.ofInt sp) :: mj_rv E a :: rest)) := by
  obtain ⟨a1, a2⟩ := hr.2.2.new (a := a) (by omega) (by omega) (by omega) (by omega)
  obtain ⟨b1, b2⟩ := hr.2.2.new (a := b) (by omega) (by omega) (by omega) (by omega)
  rw [mj_rv_new a1, mj_rv_new b1]
  obtain ⟨t0, ty, ht0, hpr, hfit⟩ : ∃ (t0 : Nat) (ty : FieldType), (mj_tys E)[t0]? = some (mj_et E (mj_tg S b), ty) ∧ refKind ty = false ∧ ∀ i : Nat, fits ty (.int (Int32.ofInt (I a i))) = true := by
    rcases ht2 with h | h
    · exact ⟨0, .int, by rw [h]; rfl, rfl, fun i => rfl⟩
    · refine ⟨1, .byte, by rw [h]; rfl, rfl, fun i => ?_⟩
      have hb8 := hr.2.2.2.1 a i (ht.trans h)
      have hR := hr.2.2.1 a i
      have e1 : (-128 : Int32) ≤ Int32.ofInt (I a i) := by rw [Int32.le_iff_toInt_le, mj_of hR]; exact hb8.1
      have e2 : Int32.ofInt (I a i) ≤ 127 := by rw [Int32.le_iff_toInt_le, mj_of hR]; exact hb8.2
      show (decide (-128 ≤ Int32.ofInt (I a i)) && decide (Int32.ofInt (I a i) ≤ 127)) = true
      simp [e1, e2]
  have nz : ∀ {z : Int}, 0 ≤ z → mj_R z → ¬ Int32.ofInt z < 0 := fun h hR q => by
    rw [← mj_of0, mj_lt hR mj_R0] at q
    omega
  refine va_copyi hx hb hml hown (hts _ (mj_bigm hw rfl)) (hts _ (mj_bigm hw2 rfl)) (hts _ (mj_bigm hw3 rfl)) (hts _ (mj_bigm hw4 rfl)) hv.1 hr.1 (mj_ws_D E I S) (mj_self hS) (a - 20) (b - 20) t0 t0 (hr.get a1 a2 (mj_cell_int E I S ht (by omega) (by omega))) (hr.get b1 b2 (mj_cell_int E I S rfl (by omega) (by omega))) ht0 ht0 hpr
    (nz h1 hRs) (nz h2 hRd) (nz h3 hRn) (by rw [mj_cl hRs, mj_cl hRn]; omega) (by rw [mj_cl hRd, mj_cl hRn]; omega) (fun i _ => hfit _) hframes hlocals hdg (mj_fin1 hr hS hcs (mj_ws_set E (I' := mj_cp I a sp.toNat b dp.toNat n.toNat) (S' := S) b1 b2 rfl (fun d _ hd => mj_cell_up E hd (fun c j hc => ?_)) ?_) rfl ?_ kk)
  · unfold mj_cp
    rw [if_neg (fun q => hc q.1)]
  · rw [mj_cell_int E _ S rfl (by omega) (by omega), mj_cl hRs, mj_cl hRd, mj_cl hRn]
    have ef : (fun j => Int32.ofInt (mj_cp I a sp.toNat b dp.toNat n.toNat b j)) = va_cpy (fun j => Int32.ofInt (I a j)) (fun j => Int32.ofInt (I b j)) sp.toNat dp.toNat n.toNat := by
      funext j
      unfold mj_cp va_cpy
      by_cases hq : dp.toNat ≤ j ∧ j < dp.toNat + n.toNat
      · rw [if_pos hq, if_pos ⟨rfl, hq⟩]
      · rw [if_neg hq, if_neg (fun z => hq z.2)]
    rw [ef]
  · obtain ⟨q1, q2, q3, q4, q5, q6, w1, w2, w3, w4, w5⟩ := hr.2.2
    have eo : ∀ d j, d < 20 → mj_cp I a sp.toNat b dp.toNat n.toNat d j = I d j := fun d j hd => by unfold mj_cp; rw [if_neg (fun q => by omega)]
    refine ⟨fun d j => ?_, fun d j hj => ?_, q3, q4, q5, q6, w1, fun j hj => by rw [eo 1 j (by omega)]; exact w2 j hj, w3, fun j hj => by rw [eo 2 j (by omega)]; exact w4 j hj, fun i hi => ?_⟩
    · unfold mj_cp
      split
      · exact q1 _ _
      · exact q1 _ _
    · unfold mj_cp
      split
      · rename_i q
        exact q2 a _ (by rw [q.1] at hj; omega)
      · exact q2 d j hj
    · obtain ⟨z1, z2, z3, z4⟩ := w5 i hi
      exact ⟨z1, by rw [eo _ _ (by omega)]; exact z2, z3, fun j hj => by rw [eo _ _ (by omega)]; exact z4 j hj⟩
end MJR2
