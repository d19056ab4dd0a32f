/-! soundness of the mini machine, 3: single instructions that touch the heap -/
section MJR
variable {p : Program} {l : Launch} {e : Env} {R : Room} {s : State} {m : MethodId} {args : Array Value} {below : List Frame} {meth : Method} {c : Code} {H : Heap} {locs : List Loc} {cells slots : Nat} {Q : State → Prop}
variable {cc : ByteArray} {pc : Nat} {ls : Array Slot} {rest : List Value} {E : mj_E} {I : mj_I} {S : mj_S} {own : String} {index : Nat}
theorem mj_rep.get (h : mj_rep E I S H) {a : Nat} (h1 : 20 ≤ a) (h2 : a < mj_nx S) {x : va_E} (he : mj_cell E I S a = x) : (mj_ws E I S)[a - 20]? = some (mj_ad E a, x) := by
  rw [mj_ws_get E I S h1 h2, he]
theorem mj_tys_0 (E : mj_E) : (mj_tys E)[0]? = some (mj_et E 20, .int) := rfl
theorem mj_tys_r {E : mj_E} {t : Nat} (h1 : 50 ≤ t) (h2 : t - 50 ∈ mj_aos) : ∃ t0 : Nat, (mj_tys E)[t0]? = some (mj_et E t, FieldType.object (mj_cn (t - 50))) := by
  simp only [mj_aos, List.mem_cons, List.not_mem_nil, or_false] at h2
  have h : t = 53 ∨ t = 54 ∨ t = 55 ∨ t = 59 ∨ t = 60 ∨ t = 61 := by omega
  rcases h with rfl | rfl | rfl | rfl | rfl | rfl
  · exact ⟨4, rfl⟩
  · exact ⟨5, rfl⟩
  · exact ⟨6, rfl⟩
  · exact ⟨7, rfl⟩
  · exact ⟨8, rfl⟩
  · exact ⟨9, rfl⟩
/-- getfield of an own object -/
theorem mj_getf (hx : p.tables.exec = Jvm.exec) (hb : c.code = cc) (hts : ∀ w ∈ mj_big, w.before args s = true) (hown : s.vm.findClass own = some m.cls) (hv : mj_env E s) (hr : mj_rep E I S H) {a t k : Nat} (ht : mj_tg S a = t) (h13 : t < 13) (hk : k < mj_cN t)
    (hw : Cond.fieldLink own index (mj_cT t k).1 (mj_cT t k).2.1 (mj_cT t k).2.2.1 ∈ lw_tbl) (hdg : decode cc pc = .ok (.getfield index, 3))
    (kk : W p l e R s m args below meth c H locs cells slots Q (F0 m (pc + 3) ls (mj_fv E I S a t k :: rest))) : W p l e R s m args below meth c H locs cells slots Q (F0 m pc ls (mj_rv E a :: rest)) := by
  obtain ⟨g1, g2⟩ := hr.2.2.new (a := a) (by omega) (by omega) (by omega) (by omega)
  rw [mj_rv_new g1]
  refine va_get hx hb hts (mj_hin h13) hown hv.1 hr.1 (a - 20) (hr.get g1 g2 (mj_cell_obj E I S ht h13)) (mj_cls_get h13) k hk (ref := (mj_cT t k).1) (hts _ (mj_bigm hw rfl)) (fun _ h => h) (v := mj_fv E I S a t k) ?_ hdg kk
  rw [List.getElem?_map, List.getElem?_range hk]
  rfl
theorem mj_fv_i {a t k : Nat} (h : mj_fk t k ≠ 1) : mj_fv E I S a t k = .int (Int32.ofInt (I a k)) := by unfold mj_fv; rw [if_neg h]
theorem mj_fv_r {a t k : Nat} (h : mj_fk t k = 1) : mj_fv E I S a t k = mj_rv E (mj_rf S a k) := by unfold mj_fv; rw [if_pos h]
/-- the fields of an object, one of them changed -/
theorem mj_flds {I' : mj_I} {S' : mj_S} {a t k : Nat} {v : Value} (hk : k < mj_cN t) (h1 : mj_fv E I' S' a t k = v) (h2 : ∀ j, j ≠ k → mj_fv E I' S' a t j = mj_fv E I S a t j) : (List.range (mj_cN t)).map (mj_fv E I' S' a t) = ((List.range (mj_cN t)).map (mj_fv E I S a t)).set k v := by
  apply List.ext_getElem?
  intro j
  by_cases hj : j = k
  · subst hj
    rw [List.getElem?_set_self (by simp; exact hk), List.getElem?_map, List.getElem?_range hk]
    simp only [Option.map_some, h1]
  · rw [List.getElem?_set_ne (Ne.symm hj), List.getElem?_map, List.getElem?_map]
    by_cases hl : j < mj_cN t
    · rw [List.getElem?_range hl]
      simp only [Option.map_some, h2 j hj]
    · rw [List.getElem?_eq_none (by rw [List.length_range]; omega)]
      rfl
theorem mj_self {A : Nat → Prop} {H0 : Heap} (hS : va_S A H0 H locs) : va_S A H H locs := ⟨Nat.le_refl _, fun _ _ _ => rfl, hS.2.2⟩
theorem mj_tr {A : Nat → Prop} {H0 H1 : Heap} {locs1 : List Loc} (hS : va_S A H0 H locs) (h1 : va_S A H H1 locs1) : va_S A H0 H1 locs1 := ⟨Nat.le_trans hS.1 h1.1, fun q g1 g2 => (h1.2.1 q (Nat.lt_of_lt_of_le g1 hS.1) g2).trans (hS.2.1 q g1 g2), h1.2.2⟩
theorem mj_W_size {g : JFrame} (k : H.size ≤ s.heap.size + cells → W p l e R s m args below meth c H locs cells slots Q g) : W p l e R s m args below meth c H locs cells slots Q g := fun T hT X => k (by rw [← hT]; exact X.heapSize) T hT X
/-- behind a store -/
theorem mj_fin1 {g : JFrame} (hr : mj_rep E I S H) (hS : va_S (mj_eA E) s.heap H locs) (hcs : H.size = s.heap.size + cells) {ws' : va_W} {I' : mj_I} {S' : mj_S} (hset : ws' = mj_ws E I' S') (hnx : mj_nx S' = mj_nx S) (hok : mj_ok E I' S')
    (kk : ∀ (H1 : Heap) (locs1 : List Loc), mj_rep E I' S' H1 → va_S (mj_eA E) s.heap H1 locs1 → H1.size = s.heap.size + cells → W p l e R s m args below meth c H1 locs1 cells slots Q g) :
    ∀ (H1 : Heap) (locs1 : List Loc), va_P (mj_eD E) mj_cls ws' H1 → va_D (mj_eA E) ws' → va_S (mj_eA E) H H1 locs1 → W p l e R s m args below meth c H1 locs1 cells slots Q g := by
  intro H1 locs1 hP1 _ hS1
  refine mj_W_size fun hz => ?_
  have e : H1.size = H.size := by have := hS1.1; omega
  rw [hset] at hP1
  exact kk H1 locs1 ⟨hP1, by rw [e, hnx]; exact hr.2.1, hok⟩ (mj_tr hS hS1) (by omega)
/-- putfield into an own object: a change of the picture that is this field alone -/
theorem mj_putf (hx : p.tables.exec = Jvm.exec) (hb : c.code = cc) (hts : ∀ w ∈ mj_big, w.before args s = true) (hown : s.vm.findClass own = some m.cls) (hv : mj_env E s) (hr : mj_rep E I S H) (hS : va_S (mj_eA E) s.heap H locs) (hcs : H.size = s.heap.size + cells) {a t k : Nat} (ht : mj_tg S a = t) (h13 : t < 13) (hk : k < mj_cN t)
    (hw : Cond.fieldLink own index (mj_cT t k).1 (mj_cT t k).2.1 (mj_cT t k).2.2.1 ∈ lw_tbl) (hfin : (mj_cT t k).2.2.2 = false ∨ (meth.name = "<init>" ∧ (mj_cT t k).1 = own)) {v : Value} (hn : narrow (mj_ty0 t k) v = v) (hfit : fits (mj_ty0 t k) v = true)
    {I' : mj_I} {S' : mj_S} (hset : (mj_ws E I S).set (a - 20) (mj_ad E a, .inr (t, ((List.range (mj_cN t)).map (mj_fv E I S a t)).set k v)) = mj_ws E I' S') (hnx : mj_nx S' = mj_nx S) (hok : mj_ok E I' S') (hdg : decode cc pc = .ok (.putfield index, 3))
    (kk : ∀ (H1 : Heap) (locs1 : List Loc), mj_rep E I' S' H1 → va_S (mj_eA E) s.heap H1 locs1 → H1.size = s.heap.size + cells → W p l e R s m args below meth c H1 locs1 cells slots Q (F0 m (pc + 3) ls rest)) : W p l e R s m args below meth c H locs cells slots Q (F0 m pc ls (v :: mj_rv E a :: rest)) := by
  obtain ⟨g1, g2⟩ := hr.2.2.new (a := a) (by omega) (by omega) (by omega) (by omega)
  rw [mj_rv_new g1]
  have he := hr.get g1 g2 (mj_cell_obj E I S ht h13)
  have hl : k < ((List.range (mj_cN t)).map (mj_fv E I S a t)).length := by simp; exact hk
  have hd := (mj_tyof h13 hk).1
  have hty : ∀ k, k < mj_cN t → parseFieldDescriptor (mj_cT t k).2.2.1 = some (mj_ty0 t k) := fun k hk => (mj_tyof h13 hk).1
  cases hf : (mj_cT t k).2.2.2 with
  | false => exact va_put hx hb hts (mj_hin h13) (mj_ty0 t) hty (mj_hnm h13) hown hv.1 hr.1 (mj_ws_D E I S) (mj_self hS) (a - 20) he (mj_cls_get h13) k hk (ref := (mj_cT t k).1) (hts _ (mj_bigm hw rfl)) (fun _ h => h) hf hd hn hfit hl hdg (mj_fin1 hr hS hcs hset hnx hok kk)
  | true =>
    rcases hfin with q | q
    · rw [hf] at q; cases q
    · exact va_putF hx hb hts (mj_hin h13) (mj_ty0 t) hty (mj_hnm h13) hown hv.1 hr.1 (mj_ws_D E I S) (mj_self hS) (a - 20) he (mj_cls_get h13) k hk (ref := (mj_cT t k).1) (hts _ (mj_bigm hw rfl)) (fun _ h => h) hf q.1 q.2 hd hn hfit hl hdg (mj_fin1 hr hS hcs hset hnx hok kk)
/-- one number of an object -/
theorem mj_puti (hx : p.tables.exec = Jvm.exec) (hb : c.code = cc) (hts : ∀ w ∈ mj_big, w.before args s = true) (hown : s.vm.findClass own = some m.cls) (hv : mj_env E s) (hr : mj_rep E I S H) (hS : va_S (mj_eA E) s.heap H locs) (hcs : H.size = s.heap.size + cells) {a t k : Nat} (ht : mj_tg S a = t) (h13 : t < 13) (hk : k < mj_cN t)
    (hw : Cond.fieldLink own index (mj_cT t k).1 (mj_cT t k).2.1 (mj_cT t k).2.2.1 ∈ lw_tbl) (hfin : (mj_cT t k).2.2.2 = false ∨ (meth.name = "<init>" ∧ (mj_cT t k).1 = own)) {x : Int} (hR : mj_R x) (hfk : mj_fk t k = 0 ∨ (mj_fk t k = 2 ∧ (x = 0 ∨ x = 1))) (hdg : decode cc pc = .ok (.putfield index, 3))
    (kk : ∀ (H1 : Heap) (locs1 : List Loc), mj_rep E (mj_up I a k x) S H1 → va_S (mj_eA E) s.heap H1 locs1 → H1.size = s.heap.size + cells → W p l e R s m args below meth c H1 locs1 cells slots Q (F0 m (pc + 3) ls rest)) : W p l e R s m args below meth c H locs cells slots Q (F0 m pc ls (.int (Int32.ofInt x) :: mj_rv E a :: rest)) := by
  obtain ⟨g1, g2⟩ := hr.2.2.new (a := a) (by omega) (by omega) (by omega) (by omega)
  have hn1 : mj_fk t k ≠ 1 := by omega
  have hnf : narrow (mj_ty0 t k) (.int (Int32.ofInt x)) = .int (Int32.ofInt x) ∧ fits (mj_ty0 t k) (.int (Int32.ofInt x)) = true := by
    rcases (mj_tyof h13 hk).2 with ⟨q1, q2⟩ | ⟨q1, q2⟩ | ⟨q1, -⟩
    · rw [q2]; exact ⟨rfl, rfl⟩
    · rw [q2]
      rcases hfk with w | ⟨-, w | w⟩
      · omega
      · subst w; exact ⟨rfl, rfl⟩
      · subst w; exact ⟨rfl, rfl⟩
    · omega
  refine mj_putf hx hb hts hown hv hr hS hcs ht h13 hk hw hfin hnf.1 hnf.2 (mj_ws_up E (k := k) (x := x) g1 g2 ?_) rfl (mj_ok_up hr.2.2 g1 hR (fun q => by omega)) hdg kk
  rw [mj_cell_obj E _ S ht h13]
  congr 2
  refine mj_flds hk (by rw [mj_fv_i hn1]; show Value.int (Int32.ofInt (if a = a ∧ k = k then x else I a k)) = _; rw [if_pos ⟨rfl, rfl⟩]) (fun j hj => ?_)
  unfold mj_fv
  rw [show mj_up I a k x a j = I a j from if_neg (fun q => hj q.2)]
/-- one reference of an object -/
theorem mj_putr (hx : p.tables.exec = Jvm.exec) (hb : c.code = cc) (hts : ∀ w ∈ mj_big, w.before args s = true) (hown : s.vm.findClass own = some m.cls) (hv : mj_env E s) (hr : mj_rep E I S H) (hS : va_S (mj_eA E) s.heap H locs) (hcs : H.size = s.heap.size + cells) {a t k : Nat} (ht : mj_tg S a = t) (h13 : t < 13) (hk : k < mj_cN t)
    (hw : Cond.fieldLink own index (mj_cT t k).1 (mj_cT t k).2.1 (mj_cT t k).2.2.1 ∈ lw_tbl) (hfin : (mj_cT t k).2.2.2 = false ∨ (meth.name = "<init>" ∧ (mj_cT t k).1 = own)) {v : Nat} (hfk : mj_fk t k = 1) (hdg : decode cc pc = .ok (.putfield index, 3))
    (kk : ∀ (H1 : Heap) (locs1 : List Loc), mj_rep E I (mj_ur S a k v) H1 → va_S (mj_eA E) s.heap H1 locs1 → H1.size = s.heap.size + cells → W p l e R s m args below meth c H1 locs1 cells slots Q (F0 m (pc + 3) ls rest)) : W p l e R s m args below meth c H locs cells slots Q (F0 m pc ls (mj_rv E v :: mj_rv E a :: rest)) := by
  obtain ⟨g1, g2⟩ := hr.2.2.new (a := a) (by omega) (by omega) (by omega) (by omega)
  have hnf : narrow (mj_ty0 t k) (mj_rv E v) = mj_rv E v ∧ fits (mj_ty0 t k) (mj_rv E v) = true := by
    rcases (mj_tyof h13 hk).2 with ⟨q1, -⟩ | ⟨q1, -⟩ | ⟨-, ⟨n, q⟩ | ⟨n, q⟩⟩
    · omega
    · omega
    · rw [q]
      rcases mj_rv_c E v with w | ⟨z, w⟩ <;> rw [w] <;> exact ⟨rfl, rfl⟩
    · rw [q]
      rcases mj_rv_c E v with w | ⟨z, w⟩ <;> rw [w] <;> exact ⟨rfl, rfl⟩
  refine mj_putf hx hb hts hown hv hr hS hcs ht h13 hk hw hfin hnf.1 hnf.2 (mj_ws_ur E (k := k) (v := v) g1 g2 ?_) rfl (mj_ok_ur hr.2.2 g1) hdg kk
  rw [mj_cell_obj E I (mj_ur S a k v) (show mj_tg (mj_ur S a k v) a = t from ht) h13]
  congr 2
  refine mj_flds hk (by rw [mj_fv_r hfk]; show mj_rv E (if a = a ∧ k = k then v else S.1 a k) = _; rw [if_pos ⟨rfl, rfl⟩]) (fun j hj => ?_)
  unfold mj_fv
  rw [show mj_rf (mj_ur S a k v) a j = mj_rf S a j from if_neg (fun q => hj q.2)]
/-- an int of an array of ints -/
theorem mj_iast (hx : p.tables.exec = Jvm.exec) (hb : c.code = cc) (hv : mj_env E s) (hr : mj_rep E I S H) (hS : va_S (mj_eA E) s.heap H locs) (hcs : H.size = s.heap.size + cells) {a : Nat} {j x : Int} (ht : mj_tg S a = 20) (h0 : 0 ≤ j) (h1 : j < (mj_ln S a : Int)) (hj : mj_R j) (hR : mj_R x) (hdg : decode cc pc = .ok (.iastore, 1))
    (kk : ∀ (H1 : Heap) (locs1 : List Loc), mj_rep E (mj_up I a j.toNat x) S H1 → va_S (mj_eA E) s.heap H1 locs1 → H1.size = s.heap.size + cells → W p l e R s m args below meth c H1 locs1 cells slots Q (F0 m (pc + 1) ls rest)) : W p l e R s m args below meth c H locs cells slots Q (F0 m pc ls (.int (Int32.ofInt x) :: .int (Int32.ofInt j) :: mj_rv E a :: rest)) := by
  obtain ⟨g1, g2⟩ := hr.2.2.new (a := a) (by omega) (by omega) (by omega) (by omega)
  rw [mj_rv_new g1]
  refine va_iast hx hb hv.1 hr.1 (mj_ws_D E I S) (mj_self hS) (a - 20) 0 (hr.get g1 g2 (mj_cell_int E I S ht (by omega) (by omega))) rfl (mj_vp_in h0 h1 hj) hdg (mj_fin1 hr hS hcs (mj_ws_up E (k := j.toNat) (x := x) g1 g2 ?_) rfl (mj_ok_up hr.2.2 g1 hR (fun q => by omega)) kk)
  rw [mj_cell_int E _ S ht (by omega) (by omega), mj_cl hj]
  congr 4
  funext q
  unfold mj_up upd
  by_cases hq : q = j.toNat
  · rw [if_pos hq, if_pos ⟨rfl, hq⟩]
  · rw [if_neg hq, if_neg (fun z => hq z.2)]
theorem mj_b8_R (x : Int) : mj_R (mj_b8 x) := mj_toR _
theorem mj_b8_8 (x : Int) : -128 ≤ mj_b8 x ∧ mj_b8 x ≤ 127 := by
  unfold mj_b8
  rw [Int8.toInt_toInt32]
  have h1 := (Int32.ofInt x).toInt8.le_toInt
  have h2 := (Int32.ofInt x).toInt8.toInt_lt
  omega
theorem mj_b8_of (x : Int) : Int32.ofInt (mj_b8 x) = vp_nar .byte (Int32.ofInt x) := by
  unfold mj_b8
  rw [Int32.ofInt_toInt, vp_nar_byte]
/-- a byte of an array of bytes -/
theorem mj_bast (hx : p.tables.exec = Jvm.exec) (hb : c.code = cc) (hv : mj_env E s) (hr : mj_rep E I S H) (hS : va_S (mj_eA E) s.heap H locs) (hcs : H.size = s.heap.size + cells) {a : Nat} {j x : Int} (ht : mj_tg S a = 21) (h0 : 0 ≤ j) (h1 : j < (mj_ln S a : Int)) (hj : mj_R j) (hdg : decode cc pc = .ok (.bastore, 1))
    (kk : ∀ (H1 : Heap) (locs1 : List Loc), mj_rep E (mj_up I a j.toNat (mj_b8 x)) S H1 → va_S (mj_eA E) s.heap H1 locs1 → H1.size = s.heap.size + cells → W p l e R s m args below meth c H1 locs1 cells slots Q (F0 m (pc + 1) ls rest)) : W p l e R s m args below meth c H locs cells slots Q (F0 m pc ls (.int (Int32.ofInt x) :: .int (Int32.ofInt j) :: mj_rv E a :: rest)) := by
  obtain ⟨g1, g2⟩ := hr.2.2.new (a := a) (by omega) (by omega) (by omega) (by omega)
  rw [mj_rv_new g1]
  refine va_bast hx hb hv.1 hr.1 (mj_ws_D E I S) (mj_self hS) (a - 20) 1 (hr.get g1 g2 (mj_cell_int E I S ht (by omega) (by omega))) rfl (mj_vp_in h0 h1 hj) hdg (mj_fin1 hr hS hcs (mj_ws_up E (k := j.toNat) (x := mj_b8 x) g1 g2 ?_) rfl (mj_ok_up hr.2.2 g1 (mj_b8_R x) (fun _ => mj_b8_8 x)) kk)
  rw [mj_cell_int E _ S ht (by omega) (by omega), mj_cl hj]
  congr 4
  funext q
  unfold mj_up upd
  by_cases hq : q = j.toNat
  · rw [if_pos hq, if_pos ⟨rfl, hq⟩, mj_b8_of]
  · rw [if_neg hq, if_neg (fun z => hq z.2)]
theorem mj_zast (hx : p.tables.exec = Jvm.exec) (hb : c.code = cc) (hv : mj_env E s) (hr : mj_rep E I S H) (hS : va_S (mj_eA E) s.heap H locs) (hcs : H.size = s.heap.size + cells) {a : Nat} {j x : Int} (ht : mj_tg S a = 22) (h0 : 0 ≤ j) (h1 : j < (mj_ln S a : Int)) (hj : mj_R j) (h01 : x = 0 ∨ x = 1) (hdg : decode cc pc = .ok (.bastore, 1))
    (kk : ∀ (H1 : Heap) (locs1 : List Loc), mj_rep E (mj_up I a j.toNat x) S H1 → va_S (mj_eA E) s.heap H1 locs1 → H1.size = s.heap.size + cells → W p l e R s m args below meth c H1 locs1 cells slots Q (F0 m (pc + 1) ls rest)) : W p l e R s m args below meth c H locs cells slots Q (F0 m pc ls (.int (Int32.ofInt x) :: .int (Int32.ofInt j) :: mj_rv E a :: rest)) := by
  obtain ⟨g1, g2⟩ := hr.2.2.new (a := a) (by omega) (by omega) (by omega) (by omega)
  rw [mj_rv_new g1]
  refine va_zast hx hb hv.1 hr.1 (mj_ws_D E I S) (mj_self hS) (a - 20) 2 (hr.get g1 g2 (mj_cell_int E I S ht (by omega) (by omega))) rfl (mj_vp_in h0 h1 hj) hdg (mj_fin1 hr hS hcs (mj_ws_up E (k := j.toNat) (x := x) g1 g2 ?_) rfl (mj_ok_up hr.2.2 g1 (by unfold mj_R; omega) (fun _ => by omega)) kk)
  rw [mj_cell_int E _ S ht (by omega) (by omega), mj_cl hj]
  congr 4
  funext q
  unfold mj_up upd
  by_cases hq : q = j.toNat
  · rw [if_pos hq, if_pos ⟨rfl, hq⟩]
    rcases h01 with w | w <;> subst w <;> rfl
  · rw [if_neg hq, if_neg (fun z => hq z.2)]
theorem mj_nar_c {x : Int} (h0 : 0 ≤ x) (h1 : x ≤ 65535) : vp_nar .char (Int32.ofInt x) = Int32.ofInt x := by
  obtain ⟨n, rfl⟩ := Int.eq_ofNat_of_zero_le h0
  have h := (pk_charN (q := n) (by omega)).1
  show vp_nar .char (nI n) = nI n
  unfold vp_nar
  rw [h]
theorem mj_cast (hx : p.tables.exec = Jvm.exec) (hb : c.code = cc) (hv : mj_env E s) (hr : mj_rep E I S H) (hS : va_S (mj_eA E) s.heap H locs) (hcs : H.size = s.heap.size + cells) {a : Nat} {j x : Int} (ht : mj_tg S a = 23) (h0 : 0 ≤ j) (h1 : j < (mj_ln S a : Int)) (hj : mj_R j) (hx0 : 0 ≤ x) (hx1 : x ≤ 65535) (hdg : decode cc pc = .ok (.castore, 1))
    (kk : ∀ (H1 : Heap) (locs1 : List Loc), mj_rep E (mj_up I a j.toNat x) S H1 → va_S (mj_eA E) s.heap H1 locs1 → H1.size = s.heap.size + cells → W p l e R s m args below meth c H1 locs1 cells slots Q (F0 m (pc + 1) ls rest)) : W p l e R s m args below meth c H locs cells slots Q (F0 m pc ls (.int (Int32.ofInt x) :: .int (Int32.ofInt j) :: mj_rv E a :: rest)) := by
  obtain ⟨g1, g2⟩ := hr.2.2.new (a := a) (by omega) (by omega) (by omega) (by omega)
  rw [mj_rv_new g1]
  refine va_cast hx hb hv.1 hr.1 (mj_ws_D E I S) (mj_self hS) (a - 20) 3 (hr.get g1 g2 (mj_cell_int E I S ht (by omega) (by omega))) rfl (mj_vp_in h0 h1 hj) hdg (mj_fin1 hr hS hcs (mj_ws_up E (k := j.toNat) (x := x) g1 g2 ?_) rfl (mj_ok_up hr.2.2 g1 (by unfold mj_R; omega) (fun _ => by omega)) kk)
  rw [mj_cell_int E _ S ht (by omega) (by omega), mj_cl hj]
  congr 4
  funext q
  unfold mj_up upd
  by_cases hq : q = j.toNat
  · rw [if_pos hq, if_pos ⟨rfl, hq⟩, mj_nar_c hx0 hx1]
  · rw [if_neg hq, if_neg (fun z => hq z.2)]
end MJR
