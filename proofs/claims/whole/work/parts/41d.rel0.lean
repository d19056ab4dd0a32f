/-! what holds behind the constructors -/
theorem mkI_c {I0 : mj_I} {a k : Nat} (h : 20 ≤ a) : mk_I mk_DB I0 a k = (mk_c mk_DB a).2.1.getD k 0 := if_neg (by omega)
theorem mkI_r {I0 : mj_I} {a n : Nat} (h : 20 ≤ a) (e : (mk_c mk_DB a).2.1 = List.replicate n 0) (j : Int) : rd (mk_I mk_DB I0) a j = 0 := by
  unfold rd
  split
  · rw [mkI_c h, e]
    exact mk_rep0 n _
  · rfl
theorem row0 {I0 : mj_I} (j : Int) (h : j ≠ 0) : rd (mk_I mk_DB I0) 151 j = 0 := by
  unfold rd
  split
  · rename_i z
    rw [mkI_c (by omega), show (mk_c mk_DB 151).2.1 = 1 :: List.replicate 1609 0 by decide +kernel]
    rw [show j.toNat = (j.toNat - 1) + 1 by omega]
    exact mk_rep0 1609 _
  · rfl
theorem rel0 {L : Nat} {xs : Nat → Int32} : Rel L xs 0 (mk_I mk_DB (mj_I0 xs)) (mk_S mk_DB (mj_S0 L)) := by
  have r0 : rd (mk_I mk_DB (mj_I0 xs)) 151 0 = 1 := by
    rw [rd_in (by omega) (by omega), mkI_c (by omega)]
    decide +kernel
  have c : ∀ a k x, 20 ≤ a → (mk_c mk_DB a).2.1.getD k 0 = x → mk_I mk_DB (mj_I0 xs) a k = x := fun a k x h e => by rw [mkI_c h]; exact e
  have z : ∀ j, j ≠ 0 → rd (mk_I mk_DB (mj_I0 xs)) 151 j = 0 := fun j h => row0 j h
  have hInv : Inv (rd (mk_I mk_DB (mj_I0 xs)) 151) := by
    refine ⟨?_, fun p p0 p1 => ?_, fun s s0 s1 => ?_, fun r q0 q1 => ?_, fun o q0 q1 => ?_, fun l q0 q1 => ?_, fun t q0 q1 => ?_⟩
    · unfold InvH
      rw [z 1 (by omega), z 2 (by omega), z 3 (by omega), z 4 (by omega), z 5 (by omega), z 6 (by omega), z 7 (by omega)]
      omega
    · rw [z 2 (by omega)] at p1; omega
    · rw [z 3 (by omega)] at s1; omega
    · rw [z 4 (by omega)] at q1; omega
    · rw [z 6 (by omega)] at q1; omega
    · rw [z 7 (by omega)] at q1; omega
    · rw [z 5 (by omega)] at q1; omega
  refine ⟨mk_Sh0 _, ⟨fun a ha => ?_, ⟨fun a ha => ⟨?_, ?_⟩, fun b t hb ht => ?_⟩, ?_, ?_, ?_, ?_, ?_⟩, ⟨hInv, ?_⟩, ⟨?_, ?_, fun q => ?_⟩, ?_, ?_, ?_, ?_, ?_, ?_, ?_⟩
  · exact funext (fun k => if_pos ha)
  · exact funext (fun k => if_pos ha)
  · exact if_pos ha
  · left
    rcases hb with rfl | rfl
    · show (if 21 + 4 < 20 then (mj_S0 L).1 (21 + 4) t else (mk_c mk_DB (21 + 4)).2.2.getD t 0) = 0
      rw [if_neg (by omega), show (mk_c mk_DB (21 + 4)).2.2 = List.replicate 14 0 by decide +kernel]
      exact mk_rep0n 14 t
    · show (if 61 + 4 < 20 then (mj_S0 L).1 (61 + 4) t else (mk_c mk_DB (61 + 4)).2.2.getD t 0) = 0
      rw [if_neg (by omega), show (mk_c mk_DB (61 + 4)).2.2 = List.replicate 14 0 by decide +kernel]
      exact mk_rep0n 14 t
  · intro k k0 k1
    rw [rd_in (by omega) (by omega), mkI_c (by omega)]
    have key : ∀ j, j < 11 → (mk_c mk_DB 157).2.1.getD j 0 = mj_nth 0 [109, 97, 121, 99, 111, 115, 116, 119, 97, 105, 116] j := by decide +kernel
    exact key k.toNat (by omega)
  · rw [rd_in (by omega) (by omega)]; exact c 158 _ _ (by omega) (by decide +kernel)
  · rw [rd_in (by omega) (by omega)]; exact c 158 _ _ (by omega) (by decide +kernel)
  · rw [rd_in (by omega) (by omega)]; exact c 158 _ _ (by omega) (by decide +kernel)
  · rw [rd_in (by omega) (by omega)]; exact c 158 _ _ (by omega) (by decide +kernel)
  · have lt : ∀ key, latT (rd (mk_I mk_DB (mj_I0 xs)) 151) key = -1 := fun key => by
      unfold latT
      rw [z 5 (by omega)]
      rfl
    refine ⟨?_, fun p p0 p1 => ?_, fun s s0 s1 => ?_, fun r q0 q1 => ?_, fun o q0 q1 => ?_, fun l q0 q1 => ?_, fun t q0 q1 => ?_, ?_, ?_, ?_⟩
    · unfold CbH
      rw [r0, z 1 (by omega), z 2 (by omega), z 3 (by omega), z 4 (by omega), z 5 (by omega), z 6 (by omega), z 7 (by omega)]
      exact ⟨c 21 14 1 (by omega) (by decide +kernel), c 21 13 0 (by omega) (by decide +kernel), c 21 1 0 (by omega) (by decide +kernel), c 21 3 0 (by omega) (by decide +kernel), c 21 5 0 (by omega) (by decide +kernel), c 21 7 0 (by omega) (by decide +kernel), c 21 11 0 (by omega) (by decide +kernel), c 29 3 0 (by omega) (by decide +kernel)⟩
    · rw [z 2 (by omega)] at p1; omega
    · rw [z 3 (by omega)] at s1; omega
    · rw [z 4 (by omega)] at q1; omega
    · rw [z 6 (by omega)] at q1; omega
    · rw [z 7 (by omega)] at q1; omega
    · rw [z 5 (by omega)] at q1; omega
    · rw [lt, rd_in (by omega) (by omega)]; exact c 26 _ _ (by omega) (by decide +kernel)
    · rw [lt, rd_in (by omega) (by omega)]; exact c 26 _ _ (by omega) (by decide +kernel)
    · rw [lt, rd_in (by omega) (by omega)]; exact c 26 _ _ (by omega) (by decide +kernel)
  · exact Or.inl (c 20 2 0 (by omega) (by decide +kernel))
  · rw [c 150 3 0 (by omega) (by decide +kernel), c 20 2 0 (by omega) (by decide +kernel)]
  · rw [c 20 2 0 (by omega) (by decide +kernel)] at q
    exact absurd q (by decide)
  · unfold RT
    rw [c 115 1 0 (by omega) (by decide +kernel), c 150 8 0 (by omega) (by decide +kernel)]
    exact ⟨rfl, by omega, fun k k0 k1 => by omega⟩
  · unfold RW
    rw [c 20 9 0 (by omega) (by decide +kernel), c 150 47 0 (by omega) (by decide +kernel)]
    exact ⟨rfl, by omega, fun k k0 k1 => by omega⟩
  · intro s s0 s1
    have e2 : rd (mk_I mk_DB (mj_I0 xs)) 172 s = -1 := by
      rw [rd_in (by omega) (by omega), mkI_c (by omega)]
      have key : ∀ j, j < 4 → (mk_c mk_DB 172).2.1.getD j 0 = -1 := by decide +kernel
      exact key s.toNat (by omega)
    have e0 : mk_I mk_DB (mj_I0 xs) (122 + 2 * s.toNat) 0 = -1 ∧ mk_I mk_DB (mj_I0 xs) (122 + 2 * s.toNat) 1 = 0 := by
      rw [mkI_c (by omega), mkI_c (by omega)]
      have key : ∀ j, j < 4 → (mk_c mk_DB (122 + 2 * j)).2.1.getD 0 0 = -1 ∧ (mk_c mk_DB (122 + 2 * j)).2.1.getD 1 0 = 0 := by decide +kernel
      exact key s.toNat (by omega)
    have er : ∀ k, rd (mk_I mk_DB (mj_I0 xs)) (122 + 2 * s.toNat + 1) k = 0 := by
      intro k
      have key : ∀ j, j < 4 → (mk_c mk_DB (122 + 2 * j + 1)).2.1 = List.replicate 24 0 := by decide +kernel
      exact mkI_r (by omega) (key s.toNat (by omega)) k
    unfold RS1
    rw [e2, e0.1, e0.2, mkI_r (a := 173) (n := 4) (by omega) (by decide +kernel)]
    refine ⟨rfl, by omega, rfl, by omega, fun k k0 k1 => ?_⟩
    rw [er, mkI_r (a := 174) (n := 96) (by omega) (by decide +kernel)]
  · intro k k0 k1
    have e0 : mk_I mk_DB (mj_I0 xs) (130 + 4 * k.toNat) 0 = 0 := by
      rw [mkI_c (by omega)]
      have key : ∀ j, j < 5 → (mk_c mk_DB (130 + 4 * j)).2.1.getD 0 0 = 0 := by decide +kernel
      exact key k.toNat (by omega)
    unfold RL1
    rw [e0, mkI_r (a := 175) (n := 5) (by omega) (by decide +kernel)]
    exact ⟨rfl, by omega, fun q => absurd q (by decide), fun q => absurd q (by decide), fun q => absurd q (by decide)⟩
  · intro p p0 p1
    exact mkI_r (n := 7) (by omega) (by decide +kernel) p
  · intro q
    rw [c 150 27 (-1) (by omega) (by decide +kernel), c 150 4 0 (by omega) (by decide +kernel)] at q
    exact absurd q (by decide)
  · unfold RBd
    rw [c 150 27 (-1) (by omega) (by decide +kernel), c 150 4 0 (by omega) (by decide +kernel)]
    have e1 : mj_nx (mk_S mk_DB (mj_S0 L)) = 181 := by
      show 20 + mk_DB.length = 181
      decide +kernel
    have e2 : mj_sl (mk_S mk_DB (mj_S0 L)) = 7518 := by
      show 0 + (mk_DB.map mk_ln).sum = 7518
      decide +kernel
    rw [e1, e2]
    omega
