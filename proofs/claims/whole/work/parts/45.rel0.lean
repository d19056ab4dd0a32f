/-! what holds behind the constructors -/
theorem mkI_c {I0 : mj_I} {a k : Nat} (h : 20 ≤ a) : mk_I mk_DB I0 a k = (mk_c mk_DB a).2.1.getD k 0 := if_neg (by omega)
theorem mkI_r {I0 : mj_I} {a n : Nat} (h : 20 ≤ a) (e : (mk_c mk_DB a).2.1 = List.replicate n 0) (j : Int) : rd (mk_I mk_DB I0) a j = 0 := by
  unfold rd
  split
  · rw [mkI_c h, e]
    exact mk_rep0 n _
  · rfl
theorem row0 {I0 : mj_I} (j : Int) (h : j ≠ 0) : rd (mk_I mk_DB I0) 151 j = 0 := by
  unfold rd
  split
  · rename_i z
    rw [mkI_c (by omega), show (mk_c mk_DB 151).2.1 = 1 :: List.replicate 1609 0 by decide +kernel]
    rw [show j.toNat = (j.toNat - 1) + 1 by omega]
    exact mk_rep0 1609 _
  · rfl
theorem rel0 {L : Nat} {xs : Nat → Int32} : Rel L xs 0 (mk_I mk_DB (mj_I0 xs)) (mk_S mk_DB (mj_S0 L)) := by
  have r0 : rd (mk_I mk_DB (mj_I0 xs)) 151 0 = 1 := by
    rw [rd_in (by omega) (by omega), mkI_c (by omega)]
    decide +kernel
  have c : ∀ a k x, 20 ≤ a → (mk_c mk_DB a).2.1.getD k 0 = x → mk_I mk_DB (mj_I0 xs) a k = x := fun a k x h e => by rw [mkI_c h]; exact e
  have z : ∀ j, j ≠ 0 → rd (mk_I mk_DB (mj_I0 xs)) 151 j = 0 := fun j h => row0 j h
  have hInv : Inv (rd (mk_I mk_DB (mj_I0 xs)) 151) := by
    refine ⟨?_, fun p p0 p1 => ?_, fun s s0 s1 => ?_, fun r q0 q1 => ?_, fun o q0 q1 => ?_, fun l q0 q1 => ?_, fun t q0 q1 => ?_⟩
    · unfold InvH
      rw [z 1 (by omega), z 2 (by omega), z 3 (by omega), z 4 (by omega), z 5 (by omega), z 6 (by omega), z 7 (by omega)]
      omega
    · rw [z 2 (by omega)] at p1; omega
    · rw [z 3 (by omega)] at s1; omega
    · rw [z 4 (by omega)] at q1; omega
    · rw [z 6 (by omega)] at q1; omega
    · rw [z 7 (by omega)] at q1; omega
    · rw [z 5 (by omega)] at q1; omega
  refine ⟨mk_Sh0 _, ⟨fun a ha => ?_, ⟨fun a ha => ⟨?_, ?_⟩, fun b t hb ht => ?_⟩, ?_, ?_, ?_, ?_, ?_⟩, ⟨hInv, ?_⟩, ⟨?_, ?_, fun q => ?_⟩, ?_, ?_, ?_, ?_, ?_, ?_, ?_⟩
  all_goals skip
