/-! people: person -/
def w_mper (I : mj_I) (p : Nat) (o r k : Int) : mj_I := mj_up (mj_up (mj_up (mj_up (mj_up (mj_up (mj_up (mj_up I 151 (8 + 8 * p) o) 151 (8 + 8 * p + 1) r) 151 (8 + 8 * p + 2) k) 151 (8 + 8 * p + 3) 0) 151 (8 + 8 * p + 4) 0) 151 (8 + 8 * p + 5) (-1)) 151 (8 + 8 * p + 6) (-1)) 151 (8 + 8 * p + 7) (-1)
def w_pok (o r k : Int) : Prop := (0 ≤ o ∧ o ≤ 4) ∧ (0 ≤ r ∧ r ≤ 9) ∧ (0 ≤ k ∧ k ≤ 9)
/-- 195 person -/
theorem m_person {d : Nat} {I : mj_I} {S : mj_S} {Q : mj_Q} (o r k : Int) (p : Nat) (hS : mk_Sh S) (hd : 0 < d) (hp : I 151 2 = p) (hp7 : p ≤ 7) (hc : 0 ≤ I 150 4 ∧ I 150 4 ≤ 100000)
    (hB : ¬ w_pok o r k → Q (some (.inl (-1000000001))) I S)
    (hF : w_pok o r k → p = 7 → Q (some (.inl (-1000000003))) I S)
    (hG : w_pok o r k → p < 7 → ∀ x I', x = (p : Int) → I' = mj_up (mj_up (w_mper I p o r k) 151 2 (p + 1)) 150 4 (I 150 4 + 1) → Q (some (.inl x)) I' S) : mj_C d 195 [.inr 150, .inl o, .inl r, .inl k] I S Q := by
  unfold w_pok at hB hF hG
  refine mj_C_of 150 ?_
  refine ⟨hd, c_in _ _ _ (fun h1 => ?_) (fun h1 => ?_)⟩
  rotate_left
  · repeat' (first | assumption | exact Or.inl rfl | exact Or.inr rfl | (intro hz; exact absurd hz (by decide)) | refine And.intro ?_ ?_ | intro _)
    exact hB (by omega)
  refine ⟨fun z => absurd z (by decide), fun _ => ?_⟩
  refine ⟨hd, c_in _ _ _ (fun h2 => ?_) (fun h2 => ?_)⟩
  rotate_left
  · repeat' (first | assumption | exact Or.inl rfl | exact Or.inr rfl | (intro hz; exact absurd hz (by decide)) | refine And.intro ?_ ?_ | intro _)
    exact hB (by omega)
  refine ⟨fun z => absurd z (by decide), fun _ => ?_⟩
  refine ⟨hd, c_in _ _ _ (fun h3 => ?_) (fun h3 => ?_)⟩
  rotate_left
  · repeat' (first | assumption | exact Or.inl rfl | exact Or.inr rfl | (intro hz; exact absurd hz (by decide)) | refine And.intro ?_ ?_ | intro _)
    all_goals exact hB (by omega)
  refine ⟨fun _ => ?_, fun z => absurd z (by decide)⟩
  repeat' (first | assumption | exact Or.inl rfl | exact Or.inr rfl | exact Or.inl trivial | (intro hz; exact absurd hz (by decide)) | exact mk_t150 hS | (simp (disch := omega) only [hp, mj_wr_s, mj_up_s, mj_up_n, Int.reduceToNat, Int.toNat_natCast, mj_tn_add, mj_tn_mul, mk_r150_0 hS, mk_r150_1 hS, mk_r150_2 hS, mk_r150_5 hS, mk_r150_6 hS, mk_r150_7 hS, mk_r150_15 hS, mk_r150_16 hS, mk_r150_17 hS, mk_r150_20 hS, mk_r150_22 hS, mk_r150_23 hS, mk_r150_24 hS, mk_r150_25 hS, mk_r150_29 hS, mk_r150_30 hS, mk_r150_33 hS, mk_r150_34 hS, mk_r150_35 hS, mk_r150_36 hS, mk_r150_37 hS, mk_r150_38 hS, mk_r150_39 hS, mk_r150_40 hS, mk_r150_41 hS, mk_r150_42 hS, mk_r150_43 hS, mk_r150_44 hS, mk_r150_45 hS, mk_r150_46 hS, mk_l151 hS, mk_l152 hS, mk_l153 hS, mk_l154 hS, mk_l155 hS, mk_l156 hS, mk_l157 hS, mk_l158 hS, mk_l159 hS, mk_l160 hS, mk_l161 hS, mk_l162 hS, mk_l163 hS, mk_l164 hS, mk_l165 hS, mk_l166 hS, mk_l167 hS, mk_l168 hS, mk_l169 hS, mk_l170 hS, mk_l171 hS, mk_l172 hS, mk_l173 hS, mk_l174 hS, mk_l175 hS, mk_l176 hS, mk_l177 hS, mk_l178 hS, mk_l179 hS, mk_l180 hS, mk_t150 hS, mk_t151 hS, mk_t152 hS, mk_t153 hS, mk_t154 hS, mk_t155 hS, mk_t156 hS, mk_t157 hS, mk_t158 hS, mk_t159 hS, mk_t160 hS, mk_t161 hS, mk_t162 hS, mk_t163 hS, mk_t164 hS, mk_t165 hS, mk_t166 hS, mk_t167 hS, mk_t168 hS, mk_t169 hS, mk_t170 hS, mk_t171 hS, mk_t172 hS, mk_t173 hS, mk_t174 hS, mk_t175 hS, mk_t176 hS, mk_t177 hS, mk_t178 hS, mk_t179 hS, mk_t180 hS]) | (with_reducible (show (_ : Int) ≤ _); omega) | (with_reducible (show (_ : Int) < _); omega) | (with_reducible (show (_ : Nat) ≤ _); omega) | refine And.intro ?_ ?_ | intro _)
  · refine hG ⟨h1, h2, h3⟩ (by omega) _ _ ?_ ?_
    · (try simp (disch := omega) only [hp, mj_wr_s, mj_up_s, mj_up_n, Int.reduceToNat, Int.toNat_natCast, mj_tn_add, mj_tn_mul, mk_r150_0 hS, mk_r150_1 hS, mk_r150_2 hS, mk_r150_5 hS, mk_r150_6 hS, mk_r150_7 hS, mk_r150_15 hS, mk_r150_16 hS, mk_r150_17 hS, mk_r150_20 hS, mk_r150_22 hS, mk_r150_23 hS, mk_r150_24 hS, mk_r150_25 hS, mk_r150_29 hS, mk_r150_30 hS, mk_r150_33 hS, mk_r150_34 hS, mk_r150_35 hS, mk_r150_36 hS, mk_r150_37 hS, mk_r150_38 hS, mk_r150_39 hS, mk_r150_40 hS, mk_r150_41 hS, mk_r150_42 hS, mk_r150_43 hS, mk_r150_44 hS, mk_r150_45 hS, mk_r150_46 hS, mk_l151 hS, mk_l152 hS, mk_l153 hS, mk_l154 hS, mk_l155 hS, mk_l156 hS, mk_l157 hS, mk_l158 hS, mk_l159 hS, mk_l160 hS, mk_l161 hS, mk_l162 hS, mk_l163 hS, mk_l164 hS, mk_l165 hS, mk_l166 hS, mk_l167 hS, mk_l168 hS, mk_l169 hS, mk_l170 hS, mk_l171 hS, mk_l172 hS, mk_l173 hS, mk_l174 hS, mk_l175 hS, mk_l176 hS, mk_l177 hS, mk_l178 hS, mk_l179 hS, mk_l180 hS, mk_t150 hS, mk_t151 hS, mk_t152 hS, mk_t153 hS, mk_t154 hS, mk_t155 hS, mk_t156 hS, mk_t157 hS, mk_t158 hS, mk_t159 hS, mk_t160 hS, mk_t161 hS, mk_t162 hS, mk_t163 hS, mk_t164 hS, mk_t165 hS, mk_t166 hS, mk_t167 hS, mk_t168 hS, mk_t169 hS, mk_t170 hS, mk_t171 hS, mk_t172 hS, mk_t173 hS, mk_t174 hS, mk_t175 hS, mk_t176 hS, mk_t177 hS, mk_t178 hS, mk_t179 hS, mk_t180 hS]) <;> omega
    · (try simp (disch := omega) only [hp, mj_wr_s, mj_up_s, mj_up_n, Int.reduceToNat, Int.toNat_natCast, mj_tn_add, mj_tn_mul, mk_r150_0 hS, mk_r150_1 hS, mk_r150_2 hS, mk_r150_5 hS, mk_r150_6 hS, mk_r150_7 hS, mk_r150_15 hS, mk_r150_16 hS, mk_r150_17 hS, mk_r150_20 hS, mk_r150_22 hS, mk_r150_23 hS, mk_r150_24 hS, mk_r150_25 hS, mk_r150_29 hS, mk_r150_30 hS, mk_r150_33 hS, mk_r150_34 hS, mk_r150_35 hS, mk_r150_36 hS, mk_r150_37 hS, mk_r150_38 hS, mk_r150_39 hS, mk_r150_40 hS, mk_r150_41 hS, mk_r150_42 hS, mk_r150_43 hS, mk_r150_44 hS, mk_r150_45 hS, mk_r150_46 hS, mk_l151 hS, mk_l152 hS, mk_l153 hS, mk_l154 hS, mk_l155 hS, mk_l156 hS, mk_l157 hS, mk_l158 hS, mk_l159 hS, mk_l160 hS, mk_l161 hS, mk_l162 hS, mk_l163 hS, mk_l164 hS, mk_l165 hS, mk_l166 hS, mk_l167 hS, mk_l168 hS, mk_l169 hS, mk_l170 hS, mk_l171 hS, mk_l172 hS, mk_l173 hS, mk_l174 hS, mk_l175 hS, mk_l176 hS, mk_l177 hS, mk_l178 hS, mk_l179 hS, mk_l180 hS, mk_t150 hS, mk_t151 hS, mk_t152 hS, mk_t153 hS, mk_t154 hS, mk_t155 hS, mk_t156 hS, mk_t157 hS, mk_t158 hS, mk_t159 hS, mk_t160 hS, mk_t161 hS, mk_t162 hS, mk_t163 hS, mk_t164 hS, mk_t165 hS, mk_t166 hS, mk_t167 hS, mk_t168 hS, mk_t169 hS, mk_t170 hS, mk_t171 hS, mk_t172 hS, mk_t173 hS, mk_t174 hS, mk_t175 hS, mk_t176 hS, mk_t177 hS, mk_t178 hS, mk_t179 hS, mk_t180 hS]) <;> rfl
  · exact hF ⟨h1, h2, h3⟩ (by omega)
/-- 12 person -/
theorem c_person {d : Nat} {I : mj_I} {S : mj_S} {Q : mj_Q} (o r k : Int) (p : Nat) (hS : mk_Sh S) (hd : 1 < d) (hp : I 21 1 = p) (hp7 : p ≤ 7)
    (hB : ¬ w_pok o r k → Q (some (.inl (-1000000001))) I S)
    (hF : w_pok o r k → p = 7 → Q (some (.inl (-1000000003))) I S)
    (hG : w_pok o r k → p < 7 → ∀ x I', x = (p : Int) → I' = mj_up (w_begP I (21 + 15 + p) o r k) 21 1 (p + 1) → Q (some (.inl x)) I' S) : mj_C d 12 [.inr 20, .inl o, .inl r, .inl k] I S Q := by
  unfold w_pok at hB hF hG
  have hb : mB 21 := Or.inl rfl
  have hd0 : 0 < d := by omega
  refine mj_C_of 80 ?_
  refine ⟨hd0, c_within _ _ _ (fun h1 => ?_) (fun h1 => ?_)⟩
  rotate_left
  · repeat' (first | assumption | exact Or.inl rfl | exact Or.inr rfl | (intro hz; exact absurd hz (by decide)) | refine And.intro ?_ ?_ | intro _)
    exact hB (by omega)
  refine ⟨fun z => absurd z (by decide), fun _ => ?_⟩
  refine ⟨hd0, c_within _ _ _ (fun h2 => ?_) (fun h2 => ?_)⟩
  rotate_left
  · repeat' (first | assumption | exact Or.inl rfl | exact Or.inr rfl | (intro hz; exact absurd hz (by decide)) | refine And.intro ?_ ?_ | intro _)
    exact hB (by omega)
  refine ⟨fun z => absurd z (by decide), fun _ => ?_⟩
  refine ⟨hd0, c_within _ _ _ (fun h3 => ?_) (fun h3 => ?_)⟩
  rotate_left
  · repeat' (first | assumption | exact Or.inl rfl | exact Or.inr rfl | (intro hz; exact absurd hz (by decide)) | refine And.intro ?_ ?_ | intro _)
    all_goals exact hB (by omega)
  refine ⟨fun _ => ?_, fun z => absurd z (by decide)⟩
  have e1 : w_begP I (21 + 15 + p) o r k 21 1 = p := by
    unfold w_begP
    simp (disch := omega) only [mj_up_n]
    exact hp
  repeat' (first | refine c_beginP _ _ _ _ ?_ ?_ | assumption | exact Or.inl rfl | exact Or.inr rfl | exact Or.inl trivial | (intro hz; exact absurd hz (by decide)) | exact mk_t20 hS | exact mk_tb0 hS hb | exact mk_tb8 hS hb | exact mk_t101 hS | exact mk_t112 hS | exact mk_t115 hS | exact mk_tp hS hb _ (by omega) | exact mk_ts hS hb _ (by omega) | exact mk_tr hS hb _ (by omega) | (simp (disch := omega) only [hp, e1, mj_wr_s, mj_up_s, mj_up_n, Int.reduceToNat, Int.toNat_natCast, mj_tn_add, mj_tn_mul, mk_r20_0 hS, mk_r20_1 hS, mk_r20_3 hS, mk_r20_4 hS, mk_r20_5 hS, mk_r20_6 hS, mk_r20_7 hS, mk_r20_8 hS, mk_r20_10 hS, mk_r101_3 hS, mk_r101_4 hS, mk_r101_5 hS, mk_r101_6 hS, mk_r101_7 hS, mk_r101_8 hS, mk_r101_11 hS, mk_r101_12 hS, mk_r101_13 hS, mk_r101_15 hS, mk_r112_0 hS, mk_r112_1 hS, mk_r115_0 hS, mk_r115_7 hS, mk_r122_2 hS, mk_r124_2 hS, mk_r126_2 hS, mk_r128_2 hS, mk_r130_2 hS, mk_r130_3 hS, mk_r132_2 hS, mk_r134_2 hS, mk_r134_3 hS, mk_r136_2 hS, mk_r138_2 hS, mk_r138_3 hS, mk_r140_2 hS, mk_r142_2 hS, mk_r142_3 hS, mk_r144_2 hS, mk_r146_2 hS, mk_r146_3 hS, mk_r148_2 hS, mk_l102 hS, mk_l103 hS, mk_l104 hS, mk_l105 hS, mk_l106 hS, mk_l107 hS, mk_l108 hS, mk_l109 hS, mk_l110 hS, mk_l111 hS, mk_l113 hS, mk_l114 hS, mk_l116 hS, mk_l117 hS, mk_l118 hS, mk_l119 hS, mk_l120 hS, mk_l121 hS, mk_l123 hS, mk_l125 hS, mk_l127 hS, mk_l129 hS, mk_l133 hS, mk_l137 hS, mk_l141 hS, mk_l145 hS, mk_l149 hS, mk_t20 hS, mk_t101 hS, mk_t102 hS, mk_t103 hS, mk_t104 hS, mk_t105 hS, mk_t106 hS, mk_t107 hS, mk_t108 hS, mk_t109 hS, mk_t110 hS, mk_t111 hS, mk_t112 hS, mk_t113 hS, mk_t114 hS, mk_t115 hS, mk_t116 hS, mk_t117 hS, mk_t118 hS, mk_t119 hS, mk_t120 hS, mk_t121 hS, mk_t122 hS, mk_t123 hS, mk_t124 hS, mk_t125 hS, mk_t126 hS, mk_t127 hS, mk_t128 hS, mk_t129 hS, mk_t130 hS, mk_t131 hS, mk_t132 hS, mk_t133 hS, mk_t134 hS, mk_t135 hS, mk_t136 hS, mk_t137 hS, mk_t138 hS, mk_t139 hS, mk_t140 hS, mk_t141 hS, mk_t142 hS, mk_t143 hS, mk_t144 hS, mk_t145 hS, mk_t146 hS, mk_t147 hS, mk_t148 hS, mk_t149 hS, mk_rb0_0 hS hb, mk_rb0_2 hS hb, mk_rb0_4 hS hb, mk_rb0_6 hS hb, mk_rb0_8 hS hb, mk_rb0_9 hS hb, mk_rb0_10 hS hb, mk_rb0_12 hS hb, mk_rb0_15 hS hb, mk_rb0_16 hS hb, mk_rb0_17 hS hb, mk_rb8_0 hS hb, mk_rb8_1 hS hb, mk_rb8_2 hS hb, mk_lb1 hS hb, mk_lb2 hS hb, mk_lb3 hS hb, mk_lb4 hS hb, mk_lb5 hS hb, mk_lb6 hS hb, mk_lb7 hS hb, mk_lb9 hS hb, mk_lb10 hS hb, mk_lb11 hS hb, mk_lb12 hS hb, mk_lb13 hS hb, mk_lb14 hS hb, mk_tb0 hS hb, mk_tb1 hS hb, mk_tb2 hS hb, mk_tb3 hS hb, mk_tb4 hS hb, mk_tb5 hS hb, mk_tb6 hS hb, mk_tb7 hS hb, mk_tb8 hS hb, mk_tb9 hS hb, mk_tb10 hS hb, mk_tb11 hS hb, mk_tb12 hS hb, mk_tb13 hS hb, mk_tb14 hS hb, mk_rp hS hb, mk_rs hS hb, mk_rr hS hb]) | (with_reducible (show (_ : Int) ≤ _); omega) | (with_reducible (show (_ : Int) < _); omega) | (with_reducible (show (_ : Nat) ≤ _); omega) | refine And.intro ?_ ?_ | intro _)
  · refine hG ⟨h1, h2, h3⟩ (by omega) _ _ ?_ ?_
    · (try simp (disch := omega) only [hp, e1, mj_wr_s, mj_up_s, mj_up_n, Int.reduceToNat, Int.toNat_natCast, mj_tn_add, mj_tn_mul, mk_r20_0 hS, mk_r20_1 hS, mk_r20_3 hS, mk_r20_4 hS, mk_r20_5 hS, mk_r20_6 hS, mk_r20_7 hS, mk_r20_8 hS, mk_r20_10 hS, mk_r101_3 hS, mk_r101_4 hS, mk_r101_5 hS, mk_r101_6 hS, mk_r101_7 hS, mk_r101_8 hS, mk_r101_11 hS, mk_r101_12 hS, mk_r101_13 hS, mk_r101_15 hS, mk_r112_0 hS, mk_r112_1 hS, mk_r115_0 hS, mk_r115_7 hS, mk_r122_2 hS, mk_r124_2 hS, mk_r126_2 hS, mk_r128_2 hS, mk_r130_2 hS, mk_r130_3 hS, mk_r132_2 hS, mk_r134_2 hS, mk_r134_3 hS, mk_r136_2 hS, mk_r138_2 hS, mk_r138_3 hS, mk_r140_2 hS, mk_r142_2 hS, mk_r142_3 hS, mk_r144_2 hS, mk_r146_2 hS, mk_r146_3 hS, mk_r148_2 hS, mk_l102 hS, mk_l103 hS, mk_l104 hS, mk_l105 hS, mk_l106 hS, mk_l107 hS, mk_l108 hS, mk_l109 hS, mk_l110 hS, mk_l111 hS, mk_l113 hS, mk_l114 hS, mk_l116 hS, mk_l117 hS, mk_l118 hS, mk_l119 hS, mk_l120 hS, mk_l121 hS, mk_l123 hS, mk_l125 hS, mk_l127 hS, mk_l129 hS, mk_l133 hS, mk_l137 hS, mk_l141 hS, mk_l145 hS, mk_l149 hS, mk_t20 hS, mk_t101 hS, mk_t102 hS, mk_t103 hS, mk_t104 hS, mk_t105 hS, mk_t106 hS, mk_t107 hS, mk_t108 hS, mk_t109 hS, mk_t110 hS, mk_t111 hS, mk_t112 hS, mk_t113 hS, mk_t114 hS, mk_t115 hS, mk_t116 hS, mk_t117 hS, mk_t118 hS, mk_t119 hS, mk_t120 hS, mk_t121 hS, mk_t122 hS, mk_t123 hS, mk_t124 hS, mk_t125 hS, mk_t126 hS, mk_t127 hS, mk_t128 hS, mk_t129 hS, mk_t130 hS, mk_t131 hS, mk_t132 hS, mk_t133 hS, mk_t134 hS, mk_t135 hS, mk_t136 hS, mk_t137 hS, mk_t138 hS, mk_t139 hS, mk_t140 hS, mk_t141 hS, mk_t142 hS, mk_t143 hS, mk_t144 hS, mk_t145 hS, mk_t146 hS, mk_t147 hS, mk_t148 hS, mk_t149 hS, mk_rb0_0 hS hb, mk_rb0_2 hS hb, mk_rb0_4 hS hb, mk_rb0_6 hS hb, mk_rb0_8 hS hb, mk_rb0_9 hS hb, mk_rb0_10 hS hb, mk_rb0_12 hS hb, mk_rb0_15 hS hb, mk_rb0_16 hS hb, mk_rb0_17 hS hb, mk_rb8_0 hS hb, mk_rb8_1 hS hb, mk_rb8_2 hS hb, mk_lb1 hS hb, mk_lb2 hS hb, mk_lb3 hS hb, mk_lb4 hS hb, mk_lb5 hS hb, mk_lb6 hS hb, mk_lb7 hS hb, mk_lb9 hS hb, mk_lb10 hS hb, mk_lb11 hS hb, mk_lb12 hS hb, mk_lb13 hS hb, mk_lb14 hS hb, mk_tb0 hS hb, mk_tb1 hS hb, mk_tb2 hS hb, mk_tb3 hS hb, mk_tb4 hS hb, mk_tb5 hS hb, mk_tb6 hS hb, mk_tb7 hS hb, mk_tb8 hS hb, mk_tb9 hS hb, mk_tb10 hS hb, mk_tb11 hS hb, mk_tb12 hS hb, mk_tb13 hS hb, mk_tb14 hS hb, mk_rp hS hb, mk_rs hS hb, mk_rr hS hb]) <;> omega
    · (try simp (disch := omega) only [hp, e1, mj_wr_s, mj_up_s, mj_up_n, Int.reduceToNat, Int.toNat_natCast, mj_tn_add, mj_tn_mul, mk_r20_0 hS, mk_r20_1 hS, mk_r20_3 hS, mk_r20_4 hS, mk_r20_5 hS, mk_r20_6 hS, mk_r20_7 hS, mk_r20_8 hS, mk_r20_10 hS, mk_r101_3 hS, mk_r101_4 hS, mk_r101_5 hS, mk_r101_6 hS, mk_r101_7 hS, mk_r101_8 hS, mk_r101_11 hS, mk_r101_12 hS, mk_r101_13 hS, mk_r101_15 hS, mk_r112_0 hS, mk_r112_1 hS, mk_r115_0 hS, mk_r115_7 hS, mk_r122_2 hS, mk_r124_2 hS, mk_r126_2 hS, mk_r128_2 hS, mk_r130_2 hS, mk_r130_3 hS, mk_r132_2 hS, mk_r134_2 hS, mk_r134_3 hS, mk_r136_2 hS, mk_r138_2 hS, mk_r138_3 hS, mk_r140_2 hS, mk_r142_2 hS, mk_r142_3 hS, mk_r144_2 hS, mk_r146_2 hS, mk_r146_3 hS, mk_r148_2 hS, mk_l102 hS, mk_l103 hS, mk_l104 hS, mk_l105 hS, mk_l106 hS, mk_l107 hS, mk_l108 hS, mk_l109 hS, mk_l110 hS, mk_l111 hS, mk_l113 hS, mk_l114 hS, mk_l116 hS, mk_l117 hS, mk_l118 hS, mk_l119 hS, mk_l120 hS, mk_l121 hS, mk_l123 hS, mk_l125 hS, mk_l127 hS, mk_l129 hS, mk_l133 hS, mk_l137 hS, mk_l141 hS, mk_l145 hS, mk_l149 hS, mk_t20 hS, mk_t101 hS, mk_t102 hS, mk_t103 hS, mk_t104 hS, mk_t105 hS, mk_t106 hS, mk_t107 hS, mk_t108 hS, mk_t109 hS, mk_t110 hS, mk_t111 hS, mk_t112 hS, mk_t113 hS, mk_t114 hS, mk_t115 hS, mk_t116 hS, mk_t117 hS, mk_t118 hS, mk_t119 hS, mk_t120 hS, mk_t121 hS, mk_t122 hS, mk_t123 hS, mk_t124 hS, mk_t125 hS, mk_t126 hS, mk_t127 hS, mk_t128 hS, mk_t129 hS, mk_t130 hS, mk_t131 hS, mk_t132 hS, mk_t133 hS, mk_t134 hS, mk_t135 hS, mk_t136 hS, mk_t137 hS, mk_t138 hS, mk_t139 hS, mk_t140 hS, mk_t141 hS, mk_t142 hS, mk_t143 hS, mk_t144 hS, mk_t145 hS, mk_t146 hS, mk_t147 hS, mk_t148 hS, mk_t149 hS, mk_rb0_0 hS hb, mk_rb0_2 hS hb, mk_rb0_4 hS hb, mk_rb0_6 hS hb, mk_rb0_8 hS hb, mk_rb0_9 hS hb, mk_rb0_10 hS hb, mk_rb0_12 hS hb, mk_rb0_15 hS hb, mk_rb0_16 hS hb, mk_rb0_17 hS hb, mk_rb8_0 hS hb, mk_rb8_1 hS hb, mk_rb8_2 hS hb, mk_lb1 hS hb, mk_lb2 hS hb, mk_lb3 hS hb, mk_lb4 hS hb, mk_lb5 hS hb, mk_lb6 hS hb, mk_lb7 hS hb, mk_lb9 hS hb, mk_lb10 hS hb, mk_lb11 hS hb, mk_lb12 hS hb, mk_lb13 hS hb, mk_lb14 hS hb, mk_tb0 hS hb, mk_tb1 hS hb, mk_tb2 hS hb, mk_tb3 hS hb, mk_tb4 hS hb, mk_tb5 hS hb, mk_tb6 hS hb, mk_tb7 hS hb, mk_tb8 hS hb, mk_tb9 hS hb, mk_tb10 hS hb, mk_tb11 hS hb, mk_tb12 hS hb, mk_tb13 hS hb, mk_tb14 hS hb, mk_rp hS hb, mk_rs hS hb, mk_rr hS hb]) <;> rfl
  · exact hF ⟨h1, h2, h3⟩ (by omega)
/-- both -/
theorem RB_person {I : mj_I} {S : mj_S} {o r k : Int} {p : Nat} (h : RB I S 21 151) (hp : I 151 2 = p) (h7 : p < 7) (hk : w_pok o r k) : RB (mj_up (mj_up (w_mper (mj_up (w_begP I (21 + 15 + p) o r k) 21 1 (p + 1)) p o r k) 151 2 (p + 1)) 150 4 (I 150 4 + 1)) S 21 151 := by
  obtain ⟨hh, hP, hs, hr, ho, hl, ht⟩ := h
  unfold RBh at hh
  unfold w_pok at hk
  unfold w_mper w_begP
  refine ⟨?_, fun q hq => ?_, fun q hq => ?_, fun q hq => ?_, ?_, ?_, ?_⟩
  · unfold RBh
    simp (disch := omega) only [mj_up_s, mj_up_n]
    repeat' (first | trivial | omega | refine And.intro ?_ ?_ | (intro _))
  · simp (disch := omega) only [mj_up_s, mj_up_n] at hq
    by_cases e : q = p
    · subst e
      unfold RBp1
      simp (disch := omega) only [mj_up_s, mj_up_n]
      repeat' (first | trivial | omega | refine And.intro ?_ ?_ | (intro _))
    · refine (hP q (by omega)).fr (fun j => ?_) (fun j hj => ?_) ?_
      · simp (disch := omega) only [mj_up_n]
      · simp (disch := omega) only [mj_up_n]
      · simp (disch := omega) only [mj_up_s, mj_up_n]
        omega
  · simp (disch := omega) only [mj_up_s, mj_up_n] at hq
    refine (hs q (by omega)).fr (fun j => ?_) (fun j hj => ?_) ?_
    · simp (disch := omega) only [mj_up_n]
    · simp (disch := omega) only [mj_up_n]
    · simp (disch := omega) only [mj_up_s, mj_up_n]
      omega
  · simp (disch := omega) only [mj_up_s, mj_up_n] at hq
    refine (hr q (by omega)).fr (fun j => ?_) (fun j hj => ?_) ?_
    · simp (disch := omega) only [mj_up_n]
    · simp (disch := omega) only [mj_up_n]
    · simp (disch := omega) only [mj_up_s, mj_up_n]
      omega
  · refine ho.fr (fun j => ?_) (fun j => ?_) (fun j _ _ => ?_) ?_ ?_ (by omega)
    all_goals (simp (disch := omega) only [mj_up_s, mj_up_n]; try omega)
  · refine hl.fr (fun a j _ _ => ?_) (fun j _ _ => ?_) ?_ ?_ (by omega) ?_
    all_goals (simp (disch := omega) only [mj_up_s, mj_up_n]; try omega)
  · refine ht.fr (fun a j _ => ?_) (fun j => ?_) (fun j _ => ?_) ?_
    all_goals (simp (disch := omega) only [mj_up_s, mj_up_n])
