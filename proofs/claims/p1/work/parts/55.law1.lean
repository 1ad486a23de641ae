/-! THE LAW, walked (program: wip/gen/law.py) -/
/-- the law at its loop's head 18 -/
abbrev L_L_law_18 (E : jEnv) (nm : String) (L : Nat) (xs : Nat → Int32) (a0 : Nat) (a1 : Nat) (a2 : Nat) (x3 : Int32) (S : jM) (c9 k9 : Nat) : Prop := jX E (mLw nm) room_1 (jZL E a0 L xs) 18 [(0, .ref a0), (1, .ref a1), (2, .ref a2), (3, .int x3)] [] S c9 k9
set_option maxRecDepth 100000 in
set_option maxHeartbeats 4000000 in
theorem T_L_law_18 {E : jEnv} {nm : String} {L : Nat} {xs : Nat → Int32} {a0 : Nat} {a1 : Nat} {a2 : Nat} {x3 : Int32} {S : jM} {c9 k9 : Nat} (h : (((nI L) - 6) < x3 → (c9 ≤ 600000 ∧ k9 ≤ 7302250)) ∧ (¬ ((nI L) - 6) < x3 → vp_in x3 L ∧ ((((xs (Int32.toNatClampNeg x3)) &&& 63) = 0 → vp_in (x3 + 1) L ∧ (vp_in (x3 + 2) L ∧ (vp_in (x3 + 3) L ∧ (vp_in (x3 + 4) L ∧ (jk S a1 = 10 ∧ (c9 + 0 ≤ 600000 ∧ k9 + 0 ≤ 7302250) ∧ ∃ d, jRok room_1 d ∧ jFi E mX10_master d 0 0 [.ref a1, .int (xs (Int32.toNatClampNeg (x3 + 1))), .int (xs (Int32.toNatClampNeg (x3 + 2))), .int (xs (Int32.toNatClampNeg (x3 + 3))), .int (xs (Int32.toNatClampNeg (x3 + 4)))] S (fun r11 S10 => ((((jk S10 a2 = 11 ∧ ((c9 + 0) + 0 ≤ 600000 ∧ (k9 + 0) + 0 ≤ 7302250) ∧ ∃ d, jRok room_1 d ∧ jFi E mX11_master d 0 0 [.ref a2, .int (xs (Int32.toNatClampNeg (x3 + 1))), .int (xs (Int32.toNatClampNeg (x3 + 2))), .int (xs (Int32.toNatClampNeg (x3 + 3))), .int (xs (Int32.toNatClampNeg (x3 + 4)))] S10 (fun r15 S14 => (r11 = r15 → L_L_law_18 E nm L xs a0 a1 a2 (x3 + 6) S14 ((c9 + 0) + 0) ((k9 + 0) + 0)) ∧ (¬ r11 = r15 → False)))))))))))) ∧ (((xs (Int32.toNatClampNeg x3)) &&& 63) = 1 → vp_in (x3 + 1) L ∧ (vp_in (x3 + 2) L ∧ (jk S a1 = 10 ∧ (c9 + 0 ≤ 600000 ∧ k9 + 0 ≤ 7302250) ∧ ∃ d, jRok room_1 d ∧ jFi E mX10_told d 0 0 [.ref a1, .int (xs (Int32.toNatClampNeg (x3 + 1))), .int (xs (Int32.toNatClampNeg (x3 + 2)))] S (fun r23 S22 => ((jk S22 a2 = 11 ∧ ((c9 + 0) + 0 ≤ 600000 ∧ (k9 + 0) + 0 ≤ 7302250) ∧ ∃ d, jRok room_1 d ∧ jFi E mX11_told d 0 0 [.ref a2, .int (xs (Int32.toNatClampNeg (x3 + 1))), .int (xs (Int32.toNatClampNeg (x3 + 2)))] S22 (fun r27 S26 => (r23 = r27 → L_L_law_18 E nm L xs a0 a1 a2 (x3 + 6) S26 ((c9 + 0) + 0) ((k9 + 0) + 0)) ∧ (¬ r23 = r27 → False)))))))) ∧ (((xs (Int32.toNatClampNeg x3)) &&& 63) = 2 → vp_in (x3 + 1) L ∧ (vp_in (x3 + 2) L ∧ (jk S a1 = 10 ∧ (c9 + 0 ≤ 600000 ∧ k9 + 0 ≤ 7302250) ∧ ∃ d, jRok room_1 d ∧ jFi E mX10_as d 0 0 [.ref a1, .int (xs (Int32.toNatClampNeg (x3 + 1))), .int (xs (Int32.toNatClampNeg (x3 + 2)))] S (fun r35 S34 => ((jk S34 a2 = 11 ∧ ((c9 + 0) + 0 ≤ 600000 ∧ (k9 + 0) + 0 ≤ 7302250) ∧ ∃ d, jRok room_1 d ∧ jFi E mX11_as d 0 0 [.ref a2, .int (xs (Int32.toNatClampNeg (x3 + 1))), .int (xs (Int32.toNatClampNeg (x3 + 2)))] S34 (fun r39 S38 => (r35 = r39 → L_L_law_18 E nm L xs a0 a1 a2 (x3 + 6) S38 ((c9 + 0) + 0) ((k9 + 0) + 0)) ∧ (¬ r35 = r39 → False)))))))) ∧ (((xs (Int32.toNatClampNeg x3)) &&& 63) = 3 → vp_in (x3 + 1) L ∧ (vp_in (x3 + 2) L ∧ (jk S a1 = 10 ∧ (c9 + 0 ≤ 600000 ∧ k9 + 0 ≤ 7302250) ∧ ∃ d, jRok room_1 d ∧ jFi E mX10_turns d 0 0 [.ref a1, .int (xs (Int32.toNatClampNeg (x3 + 1))), .int (xs (Int32.toNatClampNeg (x3 + 2)))] S (fun r47 S46 => ((jk S46 a2 = 11 ∧ ((c9 + 0) + 0 ≤ 600000 ∧ (k9 + 0) + 0 ≤ 7302250) ∧ ∃ d, jRok room_1 d ∧ jFi E mX11_turns d 0 0 [.ref a2, .int (xs (Int32.toNatClampNeg (x3 + 1))), .int (xs (Int32.toNatClampNeg (x3 + 2)))] S46 (fun r51 S50 => (r47 = r51 → L_L_law_18 E nm L xs a0 a1 a2 (x3 + 6) S50 ((c9 + 0) + 0) ((k9 + 0) + 0)) ∧ (¬ r47 = r51 → False)))))))) ∧ (((xs (Int32.toNatClampNeg x3)) &&& 63) = 4 → vp_in (x3 + 1) L ∧ (vp_in (x3 + 2) L ∧ (vp_in (x3 + 3) L ∧ (jk S a1 = 10 ∧ (c9 + 0 ≤ 600000 ∧ k9 + 0 ≤ 7302250) ∧ ∃ d, jRok room_1 d ∧ jFi E mX10_set d 0 0 [.ref a1, .int (xs (Int32.toNatClampNeg (x3 + 1))), .int (xs (Int32.toNatClampNeg (x3 + 2))), .int (xs (Int32.toNatClampNeg (x3 + 3)))] S (fun r60 S59 => (((jk S59 a2 = 11 ∧ ((c9 + 0) + 0 ≤ 600000 ∧ (k9 + 0) + 0 ≤ 7302250) ∧ ∃ d, jRok room_1 d ∧ jFi E mX11_set d 0 0 [.ref a2, .int (xs (Int32.toNatClampNeg (x3 + 1))), .int (xs (Int32.toNatClampNeg (x3 + 2))), .int (xs (Int32.toNatClampNeg (x3 + 3)))] S59 (fun r64 S63 => (r60 = r64 → L_L_law_18 E nm L xs a0 a1 a2 (x3 + 6) S63 ((c9 + 0) + 0) ((k9 + 0) + 0)) ∧ (¬ r60 = r64 → False)))))))))) ∧ (((xs (Int32.toNatClampNeg x3)) &&& 63) = 5 → vp_in (x3 + 1) L ∧ (vp_in (x3 + 2) L ∧ (vp_in (x3 + 3) L ∧ (jk S a1 = 10 ∧ (c9 + 0 ≤ 600000 ∧ k9 + 0 ≤ 7302250) ∧ ∃ d, jRok room_1 d ∧ jFi E mX10_bars d 0 0 [.ref a1, .int (xs (Int32.toNatClampNeg (x3 + 1))), .int (xs (Int32.toNatClampNeg (x3 + 2))), .int (xs (Int32.toNatClampNeg (x3 + 3)))] S (fun r73 S72 => (((jk S72 a2 = 11 ∧ ((c9 + 0) + 0 ≤ 600000 ∧ (k9 + 0) + 0 ≤ 7302250) ∧ ∃ d, jRok room_1 d ∧ jFi E mX11_bars d 0 0 [.ref a2, .int (xs (Int32.toNatClampNeg (x3 + 1))), .int (xs (Int32.toNatClampNeg (x3 + 2))), .int (xs (Int32.toNatClampNeg (x3 + 3)))] S72 (fun r77 S76 => (r73 = r77 → L_L_law_18 E nm L xs a0 a1 a2 (x3 + 6) S76 ((c9 + 0) + 0) ((k9 + 0) + 0)) ∧ (¬ r73 = r77 → False)))))))))) ∧ (((xs (Int32.toNatClampNeg x3)) &&& 63) = 6 → vp_in (x3 + 1) L ∧ (vp_in (x3 + 2) L ∧ (vp_in (x3 + 3) L ∧ (jk S a1 = 10 ∧ (c9 + 0 ≤ 600000 ∧ k9 + 0 ≤ 7302250) ∧ ∃ d, jRok room_1 d ∧ jFi E mX10_road d 0 0 [.ref a1, .int (xs (Int32.toNatClampNeg (x3 + 1))), .int (xs (Int32.toNatClampNeg (x3 + 2))), .int (xs (Int32.toNatClampNeg (x3 + 3)))] S (fun r86 S85 => (((jk S85 a2 = 11 ∧ ((c9 + 0) + 0 ≤ 600000 ∧ (k9 + 0) + 0 ≤ 7302250) ∧ ∃ d, jRok room_1 d ∧ jFi E mX11_road d 0 0 [.ref a2, .int (xs (Int32.toNatClampNeg (x3 + 1))), .int (xs (Int32.toNatClampNeg (x3 + 2))), .int (xs (Int32.toNatClampNeg (x3 + 3)))] S85 (fun r90 S89 => (r86 = r90 → L_L_law_18 E nm L xs a0 a1 a2 (x3 + 6) S89 ((c9 + 0) + 0) ((k9 + 0) + 0)) ∧ (¬ r86 = r90 → False)))))))))) ∧ (((xs (Int32.toNatClampNeg x3)) &&& 63) = 7 → vp_in (x3 + 1) L ∧ (vp_in (x3 + 2) L ∧ (jk S a1 = 10 ∧ (c9 + 0 ≤ 600000 ∧ k9 + 0 ≤ 7302250) ∧ ∃ d, jRok room_1 d ∧ jFi E mX10_far d 0 0 [.ref a1, .int (xs (Int32.toNatClampNeg (x3 + 1))), .int (xs (Int32.toNatClampNeg (x3 + 2)))] S (fun r98 S97 => ((jk S97 a2 = 11 ∧ ((c9 + 0) + 0 ≤ 600000 ∧ (k9 + 0) + 0 ≤ 7302250) ∧ ∃ d, jRok room_1 d ∧ jFi E mX11_far d 0 0 [.ref a2, .int (xs (Int32.toNatClampNeg (x3 + 1))), .int (xs (Int32.toNatClampNeg (x3 + 2)))] S97 (fun r102 S101 => (r98 = r102 → L_L_law_18 E nm L xs a0 a1 a2 (x3 + 6) S101 ((c9 + 0) + 0) ((k9 + 0) + 0)) ∧ (¬ r98 = r102 → False)))))))) ∧ (((xs (Int32.toNatClampNeg x3)) &&& 63) = 8 → vp_in (x3 + 1) L ∧ (jk S a1 = 10 ∧ (c9 + 0 ≤ 600000 ∧ k9 + 0 ≤ 7302250) ∧ ∃ d, jRok room_1 d ∧ jFi E mX10_deal d 0 0 [.ref a1, .int (xs (Int32.toNatClampNeg (x3 + 1)))] S (fun r109 S108 => (jk S108 a2 = 11 ∧ ((c9 + 0) + 0 ≤ 600000 ∧ (k9 + 0) + 0 ≤ 7302250) ∧ ∃ d, jRok room_1 d ∧ jFi E mX11_deal d 0 0 [.ref a2, .int (xs (Int32.toNatClampNeg (x3 + 1)))] S108 (fun r113 S112 => (r109 = r113 → L_L_law_18 E nm L xs a0 a1 a2 (x3 + 6) S112 ((c9 + 0) + 0) ((k9 + 0) + 0)) ∧ (¬ r109 = r113 → False)))))) ∧ (((xs (Int32.toNatClampNeg x3)) &&& 63) = 9 → vp_in (x3 + 1) L ∧ (jk S a1 = 10 ∧ (c9 + 0 ≤ 600000 ∧ k9 + 0 ≤ 7302250) ∧ ∃ d, jRok room_1 d ∧ jFi E mX10_seed d 0 0 [.ref a1, .int (xs (Int32.toNatClampNeg (x3 + 1)))] S (fun r120 S119 => (jk S119 a2 = 11 ∧ ((c9 + 0) + 0 ≤ 600000 ∧ (k9 + 0) + 0 ≤ 7302250) ∧ ∃ d, jRok room_1 d ∧ jFi E mX11_seed d 0 0 [.ref a2, .int (xs (Int32.toNatClampNeg (x3 + 1)))] S119 (fun r124 S123 => (r120 = r124 → L_L_law_18 E nm L xs a0 a1 a2 (x3 + 6) S123 ((c9 + 0) + 0) ((k9 + 0) + 0)) ∧ (¬ r120 = r124 → False)))))) ∧ (((xs (Int32.toNatClampNeg x3)) &&& 63) = 10 → vp_in (x3 + 1) L ∧ (jk S a1 = 10 ∧ (c9 + 0 ≤ 600000 ∧ k9 + 0 ≤ 7302250) ∧ ∃ d, jRok room_1 d ∧ jFi E mX10_apprentice d 0 0 [.ref a1, .int (xs (Int32.toNatClampNeg (x3 + 1)))] S (fun r131 S130 => (jk S130 a2 = 11 ∧ ((c9 + 0) + 0 ≤ 600000 ∧ (k9 + 0) + 0 ≤ 7302250) ∧ ∃ d, jRok room_1 d ∧ jFi E mX11_apprentice d 0 0 [.ref a2, .int (xs (Int32.toNatClampNeg (x3 + 1)))] S130 (fun r135 S134 => (r131 = r135 → L_L_law_18 E nm L xs a0 a1 a2 (x3 + 6) S134 ((c9 + 0) + 0) ((k9 + 0) + 0)) ∧ (¬ r131 = r135 → False)))))) ∧ (((xs (Int32.toNatClampNeg x3)) &&& 63) = 11 → vp_in (x3 + 1) L ∧ (vp_in (x3 + 2) L ∧ (jk S a1 = 10 ∧ (c9 + 0 ≤ 600000 ∧ k9 + 0 ≤ 7302250) ∧ ∃ d, jRok room_1 d ∧ jFi E mX10_has d 0 0 [.ref a1, .int (xs (Int32.toNatClampNeg (x3 + 1))), .int (xs (Int32.toNatClampNeg (x3 + 2)))] S (fun r143 S142 => ((jk S142 a2 = 11 ∧ ((c9 + 0) + 0 ≤ 600000 ∧ (k9 + 0) + 0 ≤ 7302250) ∧ ∃ d, jRok room_1 d ∧ jFi E mX11_has d 0 0 [.ref a2, .int (xs (Int32.toNatClampNeg (x3 + 1))), .int (xs (Int32.toNatClampNeg (x3 + 2)))] S142 (fun r147 S146 => (r143 = r147 → L_L_law_18 E nm L xs a0 a1 a2 (x3 + 6) S146 ((c9 + 0) + 0) ((k9 + 0) + 0)) ∧ (¬ r143 = r147 → False)))))))) ∧ (((xs (Int32.toNatClampNeg x3)) &&& 63) = 12 → vp_in (x3 + 1) L ∧ (vp_in (x3 + 2) L ∧ (jk S a1 = 10 ∧ (c9 + 0 ≤ 600000 ∧ k9 + 0 ≤ 7302250) ∧ ∃ d, jRok room_1 d ∧ jFi E mX10_knows d 0 0 [.ref a1, .int (xs (Int32.toNatClampNeg (x3 + 1))), .int (xs (Int32.toNatClampNeg (x3 + 2)))] S (fun r155 S154 => ((jk S154 a2 = 11 ∧ ((c9 + 0) + 0 ≤ 600000 ∧ (k9 + 0) + 0 ≤ 7302250) ∧ ∃ d, jRok room_1 d ∧ jFi E mX11_knows d 0 0 [.ref a2, .int (xs (Int32.toNatClampNeg (x3 + 1))), .int (xs (Int32.toNatClampNeg (x3 + 2)))] S154 (fun r159 S158 => (r155 = r159 → L_L_law_18 E nm L xs a0 a1 a2 (x3 + 6) S158 ((c9 + 0) + 0) ((k9 + 0) + 0)) ∧ (¬ r155 = r159 → False)))))))) ∧ (((xs (Int32.toNatClampNeg x3)) &&& 63) = 13 → vp_in (x3 + 1) L ∧ (jk S a1 = 10 ∧ (c9 + 0 ≤ 600000 ∧ k9 + 0 ≤ 7302250) ∧ ∃ d, jRok room_1 d ∧ jFi E mX10_go d 0 0 [.ref a1, .int (xs (Int32.toNatClampNeg (x3 + 1)))] S (fun r166 S165 => (jk S165 a2 = 11 ∧ ((c9 + 0) + 0 ≤ 600000 ∧ (k9 + 0) + 0 ≤ 7302250) ∧ ∃ d, jRok room_1 d ∧ jFi E mX11_go d 0 0 [.ref a2, .int (xs (Int32.toNatClampNeg (x3 + 1)))] S165 (fun r170 S169 => (r166 = r170 → L_L_law_18 E nm L xs a0 a1 a2 (x3 + 6) S169 ((c9 + 0) + 0) ((k9 + 0) + 0)) ∧ (¬ r166 = r170 → False)))))) ∧ (((xs (Int32.toNatClampNeg x3)) &&& 63) = 14 → vp_in (x3 + 1) L ∧ (jk S a1 = 10 ∧ (c9 + 0 ≤ 600000 ∧ k9 + 0 ≤ 7302250) ∧ ∃ d, jRok room_1 d ∧ jFi E mX10_learn d 0 0 [.ref a1, .int (xs (Int32.toNatClampNeg (x3 + 1)))] S (fun r177 S176 => (jk S176 a2 = 11 ∧ ((c9 + 0) + 0 ≤ 600000 ∧ (k9 + 0) + 0 ≤ 7302250) ∧ ∃ d, jRok room_1 d ∧ jFi E mX11_learn d 0 0 [.ref a2, .int (xs (Int32.toNatClampNeg (x3 + 1)))] S176 (fun r181 S180 => (r177 = r181 → L_L_law_18 E nm L xs a0 a1 a2 (x3 + 6) S180 ((c9 + 0) + 0) ((k9 + 0) + 0)) ∧ (¬ r177 = r181 → False)))))) ∧ (((xs (Int32.toNatClampNeg x3)) &&& 63) = 15 → vp_in (x3 + 1) L ∧ (jk S a1 = 10 ∧ (c9 + 0 ≤ 600000 ∧ k9 + 0 ≤ 7302250) ∧ ∃ d, jRok room_1 d ∧ jFi E mX10_use d 0 0 [.ref a1, .int (xs (Int32.toNatClampNeg (x3 + 1)))] S (fun r188 S187 => (jk S187 a2 = 11 ∧ ((c9 + 0) + 0 ≤ 600000 ∧ (k9 + 0) + 0 ≤ 7302250) ∧ ∃ d, jRok room_1 d ∧ jFi E mX11_use d 0 0 [.ref a2, .int (xs (Int32.toNatClampNeg (x3 + 1)))] S187 (fun r192 S191 => (r188 = r192 → L_L_law_18 E nm L xs a0 a1 a2 (x3 + 6) S191 ((c9 + 0) + 0) ((k9 + 0) + 0)) ∧ (¬ r188 = r192 → False)))))) ∧ (((xs (Int32.toNatClampNeg x3)) &&& 63) = 16 → vp_in (x3 + 1) L ∧ (jk S a1 = 10 ∧ (c9 + 0 ≤ 600000 ∧ k9 + 0 ≤ 7302250) ∧ ∃ d, jRok room_1 d ∧ jFi E mX10_rests d 0 0 [.ref a1, .int (xs (Int32.toNatClampNeg (x3 + 1)))] S (fun r199 S198 => (jk S198 a2 = 11 ∧ ((c9 + 0) + 0 ≤ 600000 ∧ (k9 + 0) + 0 ≤ 7302250) ∧ ∃ d, jRok room_1 d ∧ jFi E mX11_rests d 0 0 [.ref a2, .int (xs (Int32.toNatClampNeg (x3 + 1)))] S198 (fun r203 S202 => (r199 = r203 → L_L_law_18 E nm L xs a0 a1 a2 (x3 + 6) S202 ((c9 + 0) + 0) ((k9 + 0) + 0)) ∧ (¬ r199 = r203 → False)))))) ∧ (((xs (Int32.toNatClampNeg x3)) &&& 63) = 17 → vp_in (x3 + 1) L ∧ (jk S a1 = 10 ∧ (c9 + 0 ≤ 600000 ∧ k9 + 0 ≤ 7302250) ∧ ∃ d, jRok room_1 d ∧ jFi E mX10_wants d 0 0 [.ref a1, .int (xs (Int32.toNatClampNeg (x3 + 1)))] S (fun r210 S209 => (jk S209 a2 = 11 ∧ ((c9 + 0) + 0 ≤ 600000 ∧ (k9 + 0) + 0 ≤ 7302250) ∧ ∃ d, jRok room_1 d ∧ jFi E mX11_wants d 0 0 [.ref a2, .int (xs (Int32.toNatClampNeg (x3 + 1)))] S209 (fun r214 S213 => (r210 = r214 → L_L_law_18 E nm L xs a0 a1 a2 (x3 + 6) S213 ((c9 + 0) + 0) ((k9 + 0) + 0)) ∧ (¬ r210 = r214 → False)))))) ∧ (((xs (Int32.toNatClampNeg x3)) &&& 63) = 18 → jk S a1 = 10 ∧ (c9 + 0 ≤ 600000 ∧ k9 + 0 ≤ 7302250) ∧ ∃ d, jRok room_1 d ∧ jFi E mX10_clear d 0 0 [.ref a1] S (fun r220 S219 => jk S219 a2 = 11 ∧ ((c9 + 0) + 0 ≤ 600000 ∧ (k9 + 0) + 0 ≤ 7302250) ∧ ∃ d, jRok room_1 d ∧ jFi E mX11_clear d 0 0 [.ref a2] S219 (fun r224 S223 => (r220 = r224 → L_L_law_18 E nm L xs a0 a1 a2 (x3 + 6) S223 ((c9 + 0) + 0) ((k9 + 0) + 0)) ∧ (¬ r220 = r224 → False)))) ∧ (((xs (Int32.toNatClampNeg x3)) &&& 63) = 19 → jk S a1 = 10 ∧ (c9 + 0 ≤ 600000 ∧ k9 + 0 ≤ 7302250) ∧ ∃ d, jRok room_1 d ∧ jFi E mX10_made d 0 0 [.ref a1] S (fun r230 S229 => jk S229 a2 = 11 ∧ ((c9 + 0) + 0 ≤ 600000 ∧ (k9 + 0) + 0 ≤ 7302250) ∧ ∃ d, jRok room_1 d ∧ jFi E mX11_made d 0 0 [.ref a2] S229 (fun r234 S233 => (r230 = r234 → L_L_law_18 E nm L xs a0 a1 a2 (x3 + 6) S233 ((c9 + 0) + 0) ((k9 + 0) + 0)) ∧ (¬ r230 = r234 → False)))) ∧ (((xs (Int32.toNatClampNeg x3)) &&& 63) = 20 → vp_in (x3 + 1) L ∧ (jk S a1 = 10 ∧ (c9 + 0 ≤ 600000 ∧ k9 + 0 ≤ 7302250) ∧ ∃ d, jRok room_1 d ∧ jFi E mX10_soonest d 0 0 [.ref a1, .int (xs (Int32.toNatClampNeg (x3 + 1)))] S (fun r241 S240 => (jk S240 a2 = 11 ∧ ((c9 + 0) + 0 ≤ 600000 ∧ (k9 + 0) + 0 ≤ 7302250) ∧ ∃ d, jRok room_1 d ∧ jFi E mX11_soonest d 0 0 [.ref a2, .int (xs (Int32.toNatClampNeg (x3 + 1)))] S240 (fun r245 S244 => (r241 = r245 → L_L_law_18 E nm L xs a0 a1 a2 (x3 + 6) S244 ((c9 + 0) + 0) ((k9 + 0) + 0)) ∧ (¬ r241 = r245 → False)))))) ∧ (((xs (Int32.toNatClampNeg x3)) &&& 63) = 21 → vp_in (x3 + 1) L ∧ (jk S a1 = 10 ∧ (c9 + 0 ≤ 600000 ∧ k9 + 0 ≤ 7302250) ∧ ∃ d, jRok room_1 d ∧ jFi E mX10_together d 0 0 [.ref a1, .int (xs (Int32.toNatClampNeg (x3 + 1)))] S (fun r252 S251 => (jk S251 a2 = 11 ∧ ((c9 + 0) + 0 ≤ 600000 ∧ (k9 + 0) + 0 ≤ 7302250) ∧ ∃ d, jRok room_1 d ∧ jFi E mX11_together d 0 0 [.ref a2, .int (xs (Int32.toNatClampNeg (x3 + 1)))] S251 (fun r256 S255 => (r252 = r256 → L_L_law_18 E nm L xs a0 a1 a2 (x3 + 6) S255 ((c9 + 0) + 0) ((k9 + 0) + 0)) ∧ (¬ r252 = r256 → False)))))) ∧ (((xs (Int32.toNatClampNeg x3)) &&& 63) = 22 → jk S a1 = 10 ∧ (c9 + 0 ≤ 600000 ∧ k9 + 0 ≤ 7302250) ∧ ∃ d, jRok room_1 d ∧ jFi E mX10_never d 0 0 [.ref a1] S (fun r262 S261 => jk S261 a2 = 11 ∧ ((c9 + 0) + 0 ≤ 600000 ∧ (k9 + 0) + 0 ≤ 7302250) ∧ ∃ d, jRok room_1 d ∧ jFi E mX11_never d 0 0 [.ref a2] S261 (fun r266 S265 => (r262 = r266 → L_L_law_18 E nm L xs a0 a1 a2 (x3 + 6) S265 ((c9 + 0) + 0) ((k9 + 0) + 0)) ∧ (¬ r262 = r266 → False)))) ∧ (((xs (Int32.toNatClampNeg x3)) &&& 63) = 23 → vp_in (x3 + 1) L ∧ (jk S a1 = 10 ∧ (c9 + 0 ≤ 600000 ∧ k9 + 0 ≤ 7302250) ∧ ∃ d, jRok room_1 d ∧ jFi E mX10_last d 0 0 [.ref a1, .int (xs (Int32.toNatClampNeg (x3 + 1)))] S (fun r273 S272 => (jk S272 a2 = 11 ∧ ((c9 + 0) + 0 ≤ 600000 ∧ (k9 + 0) + 0 ≤ 7302250) ∧ ∃ d, jRok room_1 d ∧ jFi E mX11_last d 0 0 [.ref a2, .int (xs (Int32.toNatClampNeg (x3 + 1)))] S272 (fun r277 S276 => (r273 = r277 → L_L_law_18 E nm L xs a0 a1 a2 (x3 + 6) S276 ((c9 + 0) + 0) ((k9 + 0) + 0)) ∧ (¬ r273 = r277 → False)))))) ∧ (((xs (Int32.toNatClampNeg x3)) &&& 63) = 24 → vp_in (x3 + 1) L ∧ (jk S a1 = 10 ∧ (c9 + 0 ≤ 600000 ∧ k9 + 0 ≤ 7302250) ∧ ∃ d, jRok room_1 d ∧ jFi E mX10_years d 0 0 [.ref a1, .int (xs (Int32.toNatClampNeg (x3 + 1)))] S (fun r284 S283 => (jk S283 a2 = 11 ∧ ((c9 + 0) + 0 ≤ 600000 ∧ (k9 + 0) + 0 ≤ 7302250) ∧ ∃ d, jRok room_1 d ∧ jFi E mX11_years d 0 0 [.ref a2, .int (xs (Int32.toNatClampNeg (x3 + 1)))] S283 (fun r288 S287 => (r284 = r288 → L_L_law_18 E nm L xs a0 a1 a2 (x3 + 6) S287 ((c9 + 0) + 0) ((k9 + 0) + 0)) ∧ (¬ r284 = r288 → False)))))) ∧ (((xs (Int32.toNatClampNeg x3)) &&& 63) = 25 → vp_in (x3 + 1) L ∧ (jk S a1 = 10 ∧ (c9 + 0 ≤ 600000 ∧ k9 + 0 ≤ 7302250) ∧ ∃ d, jRok room_1 d ∧ jFi E mX10_gone d 0 0 [.ref a1, .int (xs (Int32.toNatClampNeg (x3 + 1)))] S (fun r295 S294 => (jk S294 a2 = 11 ∧ ((c9 + 0) + 0 ≤ 600000 ∧ (k9 + 0) + 0 ≤ 7302250) ∧ ∃ d, jRok room_1 d ∧ jFi E mX11_gone d 0 0 [.ref a2, .int (xs (Int32.toNatClampNeg (x3 + 1)))] S294 (fun r299 S298 => (r295 = r299 → L_L_law_18 E nm L xs a0 a1 a2 (x3 + 6) S298 ((c9 + 0) + 0) ((k9 + 0) + 0)) ∧ (¬ r295 = r299 → False)))))) ∧ (((xs (Int32.toNatClampNeg x3)) &&& 63) = 26 → jk S a1 = 10 ∧ (c9 + 0 ≤ 600000 ∧ k9 + 0 ≤ 7302250) ∧ ∃ d, jRok room_1 d ∧ jFi E mX10_fresh d 0 0 [.ref a1] S (fun r305 S304 => jk S304 a2 = 11 ∧ ((c9 + 0) + 0 ≤ 600000 ∧ (k9 + 0) + 0 ≤ 7302250) ∧ ∃ d, jRok room_1 d ∧ jFi E mX11_fresh d 0 0 [.ref a2] S304 (fun r309 S308 => (r305 = r309 → L_L_law_18 E nm L xs a0 a1 a2 (x3 + 6) S308 ((c9 + 0) + 0) ((k9 + 0) + 0)) ∧ (¬ r305 = r309 → False)))) ∧ (((xs (Int32.toNatClampNeg x3)) &&& 63) = 27 → vp_in (x3 + 1) L ∧ (vp_in (x3 + 2) L ∧ (jk S a1 = 10 ∧ (c9 + 0 ≤ 600000 ∧ k9 + 0 ≤ 7302250) ∧ ∃ d, jRok room_1 d ∧ jFi E mX10_cut d 0 0 [.ref a1, .int (xs (Int32.toNatClampNeg (x3 + 1))), .int (xs (Int32.toNatClampNeg (x3 + 2)))] S (fun r317 S316 => ((jk S316 a2 = 11 ∧ ((c9 + 0) + 0 ≤ 600000 ∧ (k9 + 0) + 0 ≤ 7302250) ∧ ∃ d, jRok room_1 d ∧ jFi E mX11_cut d 0 0 [.ref a2, .int (xs (Int32.toNatClampNeg (x3 + 1))), .int (xs (Int32.toNatClampNeg (x3 + 2)))] S316 (fun r321 S320 => (r317 = r321 → L_L_law_18 E nm L xs a0 a1 a2 (x3 + 6) S320 ((c9 + 0) + 0) ((k9 + 0) + 0)) ∧ (¬ r317 = r321 → False)))))))) ∧ (((xs (Int32.toNatClampNeg x3)) &&& 63) = 28 → vp_in (x3 + 1) L ∧ (jk S a1 = 10 ∧ (c9 + 0 ≤ 600000 ∧ k9 + 0 ≤ 7302250) ∧ ∃ d, jRok room_1 d ∧ jFi E mX10_fame d 0 0 [.ref a1, .int (xs (Int32.toNatClampNeg (x3 + 1)))] S (fun r328 S327 => (jk S327 a2 = 11 ∧ ((c9 + 0) + 0 ≤ 600000 ∧ (k9 + 0) + 0 ≤ 7302250) ∧ ∃ d, jRok room_1 d ∧ jFi E mX11_fame d 0 0 [.ref a2, .int (xs (Int32.toNatClampNeg (x3 + 1)))] S327 (fun r332 S331 => (r328 = r332 → L_L_law_18 E nm L xs a0 a1 a2 (x3 + 6) S331 ((c9 + 0) + 0) ((k9 + 0) + 0)) ∧ (¬ r328 = r332 → False)))))) ∧ (((xs (Int32.toNatClampNeg x3)) &&& 63) = 29 → jk S a1 = 10 ∧ (c9 + 0 ≤ 600000 ∧ k9 + 0 ≤ 7302250) ∧ ∃ d, jRok room_1 d ∧ jFi E mX10_fine d 0 0 [.ref a1] S (fun r338 S337 => jk S337 a2 = 11 ∧ ((c9 + 0) + 0 ≤ 600000 ∧ (k9 + 0) + 0 ≤ 7302250) ∧ ∃ d, jRok room_1 d ∧ jFi E mX11_fine d 0 0 [.ref a2] S337 (fun r342 S341 => (r338 = r342 → L_L_law_18 E nm L xs a0 a1 a2 (x3 + 6) S341 ((c9 + 0) + 0) ((k9 + 0) + 0)) ∧ (¬ r338 = r342 → False)))) ∧ (((xs (Int32.toNatClampNeg x3)) &&& 63) = 30 → vp_in (x3 + 1) L ∧ (vp_in (x3 + 2) L ∧ (vp_in (x3 + 3) L ∧ (jk S a1 = 10 ∧ (c9 + 0 ≤ 600000 ∧ k9 + 0 ≤ 7302250) ∧ ∃ d, jRok room_1 d ∧ jFi E mX10_feed d 0 0 [.ref a1, .int (xs (Int32.toNatClampNeg (x3 + 1))), .int (xs (Int32.toNatClampNeg (x3 + 2))), .int (xs (Int32.toNatClampNeg (x3 + 3)))] S (fun r351 S350 => (((jk S350 a2 = 11 ∧ ((c9 + 0) + 0 ≤ 600000 ∧ (k9 + 0) + 0 ≤ 7302250) ∧ ∃ d, jRok room_1 d ∧ jFi E mX11_feed d 0 0 [.ref a2, .int (xs (Int32.toNatClampNeg (x3 + 1))), .int (xs (Int32.toNatClampNeg (x3 + 2))), .int (xs (Int32.toNatClampNeg (x3 + 3)))] S350 (fun r355 S354 => (r351 = r355 → L_L_law_18 E nm L xs a0 a1 a2 (x3 + 6) S354 ((c9 + 0) + 0) ((k9 + 0) + 0)) ∧ (¬ r351 = r355 → False)))))))))) ∧ (((xs (Int32.toNatClampNeg x3)) &&& 63) = 31 → vp_in (x3 + 1) L ∧ (jk S a1 = 10 ∧ (c9 + 0 ≤ 600000 ∧ k9 + 0 ≤ 7302250) ∧ ∃ d, jRok room_1 d ∧ jFi E mX10_trim d 0 0 [.ref a1, .int (xs (Int32.toNatClampNeg (x3 + 1)))] S (fun r362 S361 => (jk S361 a2 = 11 ∧ ((c9 + 0) + 0 ≤ 600000 ∧ (k9 + 0) + 0 ≤ 7302250) ∧ ∃ d, jRok room_1 d ∧ jFi E mX11_trim d 0 0 [.ref a2, .int (xs (Int32.toNatClampNeg (x3 + 1)))] S361 (fun r366 S365 => (r362 = r366 → L_L_law_18 E nm L xs a0 a1 a2 (x3 + 6) S365 ((c9 + 0) + 0) ((k9 + 0) + 0)) ∧ (¬ r362 = r366 → False)))))) ∧ (((xs (Int32.toNatClampNeg x3)) &&& 63) = 32 → jk S a1 = 10 ∧ (c9 + 3 ≤ 600000 ∧ k9 + 196 ≤ 7302250) ∧ ∃ d, jRok room_1 d ∧ jFi E mX10_text d 3 196 [.ref a1] S (fun r372 S371 => jk S371 a2 = 11 ∧ ((c9 + 3) + 0 ≤ 600000 ∧ (k9 + 196) + 0 ≤ 7302250) ∧ ∃ d, jRok room_1 d ∧ jFi E mX11_text d 0 0 [.ref a2] S371 (fun r376 S375 => (r372 = r376 → L_L_law_18 E nm L xs a0 a1 a2 (x3 + 6) S375 ((c9 + 3) + 0) ((k9 + 196) + 0)) ∧ (¬ r372 = r376 → False)))) ∧ (((xs (Int32.toNatClampNeg x3)) &&& 63) = 33 → vp_in (x3 + 1) L ∧ (vp_in (x3 + 2) L ∧ (jk S a1 = 10 ∧ (c9 + 0 ≤ 600000 ∧ k9 + 0 ≤ 7302250) ∧ ∃ d, jRok room_1 d ∧ jFi E mX10_textTold d 0 0 [.ref a1, .int (xs (Int32.toNatClampNeg (x3 + 1))), .int (xs (Int32.toNatClampNeg (x3 + 2)))] S (fun r384 S383 => ((jk S383 a2 = 11 ∧ ((c9 + 0) + 0 ≤ 600000 ∧ (k9 + 0) + 0 ≤ 7302250) ∧ ∃ d, jRok room_1 d ∧ jFi E mX11_textTold d 0 0 [.ref a2, .int (xs (Int32.toNatClampNeg (x3 + 1))), .int (xs (Int32.toNatClampNeg (x3 + 2)))] S383 (fun r388 S387 => (r384 = r388 → L_L_law_18 E nm L xs a0 a1 a2 (x3 + 6) S387 ((c9 + 0) + 0) ((k9 + 0) + 0)) ∧ (¬ r384 = r388 → False)))))))) ∧ (((xs (Int32.toNatClampNeg x3)) &&& 63) = 34 → vp_in (x3 + 1) L ∧ (jk S a1 = 10 ∧ (c9 + 0 ≤ 600000 ∧ k9 + 0 ≤ 7302250) ∧ ∃ d, jRok room_1 d ∧ jFi E mX10_why d 0 0 [.ref a1, .int (xs (Int32.toNatClampNeg (x3 + 1)))] S (fun r395 S394 => (jk S394 a2 = 11 ∧ ((c9 + 0) + 0 ≤ 600000 ∧ (k9 + 0) + 0 ≤ 7302250) ∧ ∃ d, jRok room_1 d ∧ jFi E mX11_why d 0 0 [.ref a2, .int (xs (Int32.toNatClampNeg (x3 + 1)))] S394 (fun r399 S398 => (r395 = r399 → L_L_law_18 E nm L xs a0 a1 a2 (x3 + 6) S398 ((c9 + 0) + 0) ((k9 + 0) + 0)) ∧ (¬ r395 = r399 → False)))))) ∧ (((xs (Int32.toNatClampNeg x3)) &&& 63) = 35 → vp_in (x3 + 1) L ∧ (vp_in (x3 + 2) L ∧ (vp_in (x3 + 3) L ∧ (jk S a1 = 10 ∧ (c9 + 0 ≤ 600000 ∧ k9 + 0 ≤ 7302250) ∧ ∃ d, jRok room_1 d ∧ jFi E mX10_sheet d 0 0 [.ref a1, .int (xs (Int32.toNatClampNeg (x3 + 1))), .int (xs (Int32.toNatClampNeg (x3 + 2))), .int (xs (Int32.toNatClampNeg (x3 + 3)))] S (fun r408 S407 => (((jk S407 a2 = 11 ∧ ((c9 + 0) + 0 ≤ 600000 ∧ (k9 + 0) + 0 ≤ 7302250) ∧ ∃ d, jRok room_1 d ∧ jFi E mX11_sheet d 0 0 [.ref a2, .int (xs (Int32.toNatClampNeg (x3 + 1))), .int (xs (Int32.toNatClampNeg (x3 + 2))), .int (xs (Int32.toNatClampNeg (x3 + 3)))] S407 (fun r412 S411 => (r408 = r412 → L_L_law_18 E nm L xs a0 a1 a2 (x3 + 6) S411 ((c9 + 0) + 0) ((k9 + 0) + 0)) ∧ (¬ r408 = r412 → False)))))))))) ∧ (((xs (Int32.toNatClampNeg x3)) &&& 63) = 36 → vp_in (x3 + 1) L ∧ (vp_in (x3 + 2) L ∧ (vp_in (x3 + 3) L ∧ (jk S a1 = 10 ∧ (c9 + 0 ≤ 600000 ∧ k9 + 0 ≤ 7302250) ∧ ∃ d, jRok room_1 d ∧ jFi E mX10_mark d 0 0 [.ref a1, .int (xs (Int32.toNatClampNeg (x3 + 1))), .int (xs (Int32.toNatClampNeg (x3 + 2))), .int (xs (Int32.toNatClampNeg (x3 + 3)))] S (fun r421 S420 => (((jk S420 a2 = 11 ∧ ((c9 + 0) + 0 ≤ 600000 ∧ (k9 + 0) + 0 ≤ 7302250) ∧ ∃ d, jRok room_1 d ∧ jFi E mX11_mark d 0 0 [.ref a2, .int (xs (Int32.toNatClampNeg (x3 + 1))), .int (xs (Int32.toNatClampNeg (x3 + 2))), .int (xs (Int32.toNatClampNeg (x3 + 3)))] S420 (fun r425 S424 => (r421 = r425 → L_L_law_18 E nm L xs a0 a1 a2 (x3 + 6) S424 ((c9 + 0) + 0) ((k9 + 0) + 0)) ∧ (¬ r421 = r425 → False)))))))))) ∧ (((xs (Int32.toNatClampNeg x3)) &&& 63) = 37 → vp_in (x3 + 1) L ∧ (jk S a1 = 10 ∧ (c9 + 0 ≤ 600000 ∧ k9 + 0 ≤ 7302250) ∧ ∃ d, jRok room_1 d ∧ jFi E mX10_pour d 0 0 [.ref a1, .int (xs (Int32.toNatClampNeg (x3 + 1)))] S (fun r432 S431 => (jk S431 a2 = 11 ∧ ((c9 + 0) + 0 ≤ 600000 ∧ (k9 + 0) + 0 ≤ 7302250) ∧ ∃ d, jRok room_1 d ∧ jFi E mX11_pour d 0 0 [.ref a2, .int (xs (Int32.toNatClampNeg (x3 + 1)))] S431 (fun r436 S435 => (r432 = r436 → L_L_law_18 E nm L xs a0 a1 a2 (x3 + 6) S435 ((c9 + 0) + 0) ((k9 + 0) + 0)) ∧ (¬ r432 = r436 → False)))))) ∧ (((xs (Int32.toNatClampNeg x3)) &&& 63) = 38 → vp_in (x3 + 1) L ∧ (jk S a1 = 10 ∧ (c9 + 0 ≤ 600000 ∧ k9 + 0 ≤ 7302250) ∧ ∃ d, jRok room_1 d ∧ jFi E mX10_reads d 0 0 [.ref a1, .int (xs (Int32.toNatClampNeg (x3 + 1)))] S (fun r443 S442 => (jk S442 a2 = 11 ∧ ((c9 + 0) + 0 ≤ 600000 ∧ (k9 + 0) + 0 ≤ 7302250) ∧ ∃ d, jRok room_1 d ∧ jFi E mX11_reads d 0 0 [.ref a2, .int (xs (Int32.toNatClampNeg (x3 + 1)))] S442 (fun r447 S446 => (r443 = r447 → L_L_law_18 E nm L xs a0 a1 a2 (x3 + 6) S446 ((c9 + 0) + 0) ((k9 + 0) + 0)) ∧ (¬ r443 = r447 → False)))))) ∧ (((xs (Int32.toNatClampNeg x3)) &&& 63) = 39 → vp_in (x3 + 1) L ∧ (vp_in (x3 + 2) L ∧ (vp_in (x3 + 3) L ∧ (vp_in (x3 + 4) L ∧ (vp_in (x3 + 5) L ∧ (jk S a1 = 10 ∧ (c9 + 0 ≤ 600000 ∧ k9 + 0 ≤ 7302250) ∧ ∃ d, jRok room_1 d ∧ jFi E mX10_copy d 0 0 [.ref a1, .int (xs (Int32.toNatClampNeg (x3 + 1))), .int (xs (Int32.toNatClampNeg (x3 + 2))), .int (xs (Int32.toNatClampNeg (x3 + 3))), .int (xs (Int32.toNatClampNeg (x3 + 4))), .int (xs (Int32.toNatClampNeg (x3 + 5)))] S (fun r458 S457 => (((((jk S457 a2 = 11 ∧ ((c9 + 0) + 0 ≤ 600000 ∧ (k9 + 0) + 0 ≤ 7302250) ∧ ∃ d, jRok room_1 d ∧ jFi E mX11_copy d 0 0 [.ref a2, .int (xs (Int32.toNatClampNeg (x3 + 1))), .int (xs (Int32.toNatClampNeg (x3 + 2))), .int (xs (Int32.toNatClampNeg (x3 + 3))), .int (xs (Int32.toNatClampNeg (x3 + 4))), .int (xs (Int32.toNatClampNeg (x3 + 5)))] S457 (fun r462 S461 => (r458 = r462 → L_L_law_18 E nm L xs a0 a1 a2 (x3 + 6) S461 ((c9 + 0) + 0) ((k9 + 0) + 0)) ∧ (¬ r458 = r462 → False)))))))))))))) ∧ (((xs (Int32.toNatClampNeg x3)) &&& 63) = 40 → vp_in (x3 + 1) L ∧ (vp_in (x3 + 2) L ∧ (vp_in (x3 + 3) L ∧ (jk S a1 = 10 ∧ (c9 + 0 ≤ 600000 ∧ k9 + 0 ≤ 7302250) ∧ ∃ d, jRok room_1 d ∧ jFi E mX10_lay d 0 0 [.ref a1, .int (xs (Int32.toNatClampNeg (x3 + 1))), .int (xs (Int32.toNatClampNeg (x3 + 2))), .int (xs (Int32.toNatClampNeg (x3 + 3)))] S (fun r471 S470 => (((jk S470 a2 = 11 ∧ ((c9 + 0) + 0 ≤ 600000 ∧ (k9 + 0) + 0 ≤ 7302250) ∧ ∃ d, jRok room_1 d ∧ jFi E mX11_lay d 0 0 [.ref a2, .int (xs (Int32.toNatClampNeg (x3 + 1))), .int (xs (Int32.toNatClampNeg (x3 + 2))), .int (xs (Int32.toNatClampNeg (x3 + 3)))] S470 (fun r475 S474 => (r471 = r475 → L_L_law_18 E nm L xs a0 a1 a2 (x3 + 6) S474 ((c9 + 0) + 0) ((k9 + 0) + 0)) ∧ (¬ r471 = r475 → False)))))))))) ∧ (((xs (Int32.toNatClampNeg x3)) &&& 63) = 41 → vp_in (x3 + 1) L ∧ (vp_in (x3 + 2) L ∧ (jk S a1 = 10 ∧ (c9 + 0 ≤ 600000 ∧ k9 + 0 ≤ 7302250) ∧ ∃ d, jRok room_1 d ∧ jFi E mX10_ask d 0 0 [.ref a1, .int (xs (Int32.toNatClampNeg (x3 + 1))), .int (xs (Int32.toNatClampNeg (x3 + 2)))] S (fun r483 S482 => ((jk S482 a2 = 11 ∧ ((c9 + 0) + 0 ≤ 600000 ∧ (k9 + 0) + 0 ≤ 7302250) ∧ ∃ d, jRok room_1 d ∧ jFi E mX11_ask d 0 0 [.ref a2, .int (xs (Int32.toNatClampNeg (x3 + 1))), .int (xs (Int32.toNatClampNeg (x3 + 2)))] S482 (fun r487 S486 => (r483 = r487 → L_L_law_18 E nm L xs a0 a1 a2 (x3 + 6) S486 ((c9 + 0) + 0) ((k9 + 0) + 0)) ∧ (¬ r483 = r487 → False)))))))) ∧ (((xs (Int32.toNatClampNeg x3)) &&& 63) = 42 → vp_in (x3 + 1) L ∧ (vp_in (x3 + 2) L ∧ (jk S a1 = 10 ∧ (c9 + 0 ≤ 600000 ∧ k9 + 0 ≤ 7302250) ∧ ∃ d, jRok room_1 d ∧ jFi E mX10_item d 0 0 [.ref a1, .int (xs (Int32.toNatClampNeg (x3 + 1))), .int (xs (Int32.toNatClampNeg (x3 + 2)))] S (fun r495 S494 => ((jk S494 a2 = 11 ∧ ((c9 + 0) + 0 ≤ 600000 ∧ (k9 + 0) + 0 ≤ 7302250) ∧ ∃ d, jRok room_1 d ∧ jFi E mX11_item d 0 0 [.ref a2, .int (xs (Int32.toNatClampNeg (x3 + 1))), .int (xs (Int32.toNatClampNeg (x3 + 2)))] S494 (fun r499 S498 => (r495 = r499 → L_L_law_18 E nm L xs a0 a1 a2 (x3 + 6) S498 ((c9 + 0) + 0) ((k9 + 0) + 0)) ∧ (¬ r495 = r499 → False)))))))) ∧ (((xs (Int32.toNatClampNeg x3)) &&& 63) = 43 → vp_in (x3 + 1) L ∧ (vp_in (x3 + 2) L ∧ (jk S a1 = 10 ∧ (c9 + 0 ≤ 600000 ∧ k9 + 0 ≤ 7302250) ∧ ∃ d, jRok room_1 d ∧ jFi E mX10_rest d 0 0 [.ref a1, .int (xs (Int32.toNatClampNeg (x3 + 1))), .int (xs (Int32.toNatClampNeg (x3 + 2)))] S (fun r507 S506 => ((jk S506 a2 = 11 ∧ ((c9 + 0) + 0 ≤ 600000 ∧ (k9 + 0) + 0 ≤ 7302250) ∧ ∃ d, jRok room_1 d ∧ jFi E mX11_rest d 0 0 [.ref a2, .int (xs (Int32.toNatClampNeg (x3 + 1))), .int (xs (Int32.toNatClampNeg (x3 + 2)))] S506 (fun r511 S510 => (r507 = r511 → L_L_law_18 E nm L xs a0 a1 a2 (x3 + 6) S510 ((c9 + 0) + 0) ((k9 + 0) + 0)) ∧ (¬ r507 = r511 → False)))))))) ∧ (((xs (Int32.toNatClampNeg x3)) &&& 63) = 44 → vp_in (x3 + 1) L ∧ (jk S a1 = 10 ∧ (c9 + 0 ≤ 600000 ∧ k9 + 0 ≤ 7302250) ∧ ∃ d, jRok room_1 d ∧ jFi E mX10_tell d 0 0 [.ref a1, .int (xs (Int32.toNatClampNeg (x3 + 1)))] S (fun r518 S517 => (jk S517 a2 = 11 ∧ ((c9 + 0) + 0 ≤ 600000 ∧ (k9 + 0) + 0 ≤ 7302250) ∧ ∃ d, jRok room_1 d ∧ jFi E mX11_tell d 0 0 [.ref a2, .int (xs (Int32.toNatClampNeg (x3 + 1)))] S517 (fun r522 S521 => (r518 = r522 → L_L_law_18 E nm L xs a0 a1 a2 (x3 + 6) S521 ((c9 + 0) + 0) ((k9 + 0) + 0)) ∧ (¬ r518 = r522 → False)))))) ∧ (((xs (Int32.toNatClampNeg x3)) &&& 63) = 45 → vp_in (x3 + 1) L ∧ (jk S a1 = 10 ∧ (c9 + 0 ≤ 600000 ∧ k9 + 0 ≤ 7302250) ∧ ∃ d, jRok room_1 d ∧ jFi E mX10_check d 0 0 [.ref a1, .int (xs (Int32.toNatClampNeg (x3 + 1)))] S (fun r529 S528 => (jk S528 a2 = 11 ∧ ((c9 + 0) + 0 ≤ 600000 ∧ (k9 + 0) + 0 ≤ 7302250) ∧ ∃ d, jRok room_1 d ∧ jFi E mX11_check d 0 0 [.ref a2, .int (xs (Int32.toNatClampNeg (x3 + 1)))] S528 (fun r533 S532 => (r529 = r533 → L_L_law_18 E nm L xs a0 a1 a2 (x3 + 6) S532 ((c9 + 0) + 0) ((k9 + 0) + 0)) ∧ (¬ r529 = r533 → False)))))) ∧ (((xs (Int32.toNatClampNeg x3)) &&& 63) = 46 → jk S a1 = 10 ∧ (c9 + 0 ≤ 600000 ∧ k9 + 0 ≤ 7302250) ∧ ∃ d, jRok room_1 d ∧ jFi E mX10_keep d 0 0 [.ref a1] S (fun r539 S538 => jk S538 a2 = 11 ∧ ((c9 + 0) + 0 ≤ 600000 ∧ (k9 + 0) + 0 ≤ 7302250) ∧ ∃ d, jRok room_1 d ∧ jFi E mX11_keep d 0 0 [.ref a2] S538 (fun r543 S542 => (r539 = r543 → L_L_law_18 E nm L xs a0 a1 a2 (x3 + 6) S542 ((c9 + 0) + 0) ((k9 + 0) + 0)) ∧ (¬ r539 = r543 → False)))) ∧ (((xs (Int32.toNatClampNeg x3)) &&& 63) = 47 → jk S a1 = 10 ∧ (c9 + 0 ≤ 600000 ∧ k9 + 0 ≤ 7302250) ∧ ∃ d, jRok room_1 d ∧ jFi E mX10_back d 0 0 [.ref a1] S (fun r549 S548 => jk S548 a2 = 11 ∧ ((c9 + 0) + 0 ≤ 600000 ∧ (k9 + 0) + 0 ≤ 7302250) ∧ ∃ d, jRok room_1 d ∧ jFi E mX11_back d 0 0 [.ref a2] S548 (fun r553 S552 => (r549 = r553 → L_L_law_18 E nm L xs a0 a1 a2 (x3 + 6) S552 ((c9 + 0) + 0) ((k9 + 0) + 0)) ∧ (¬ r549 = r553 → False)))) ∧ (((xs (Int32.toNatClampNeg x3)) &&& 63) = 48 → vp_in (x3 + 1) L ∧ (jk S a1 = 10 ∧ (c9 + 0 ≤ 600000 ∧ k9 + 0 ≤ 7302250) ∧ ∃ d, jRok room_1 d ∧ jFi E mX10_count d 0 0 [.ref a1, .int (xs (Int32.toNatClampNeg (x3 + 1)))] S (fun r560 S559 => (jk S559 a2 = 11 ∧ ((c9 + 0) + 0 ≤ 600000 ∧ (k9 + 0) + 0 ≤ 7302250) ∧ ∃ d, jRok room_1 d ∧ jFi E mX11_count d 0 0 [.ref a2, .int (xs (Int32.toNatClampNeg (x3 + 1)))] S559 (fun r564 S563 => (r560 = r564 → L_L_law_18 E nm L xs a0 a1 a2 (x3 + 6) S563 ((c9 + 0) + 0) ((k9 + 0) + 0)) ∧ (¬ r560 = r564 → False)))))) ∧ (¬ ((xs (Int32.toNatClampNeg x3)) &&& 63) = 0 → ¬ ((xs (Int32.toNatClampNeg x3)) &&& 63) = 1 → ¬ ((xs (Int32.toNatClampNeg x3)) &&& 63) = 2 → ¬ ((xs (Int32.toNatClampNeg x3)) &&& 63) = 3 → ¬ ((xs (Int32.toNatClampNeg x3)) &&& 63) = 4 → ¬ ((xs (Int32.toNatClampNeg x3)) &&& 63) = 5 → ¬ ((xs (Int32.toNatClampNeg x3)) &&& 63) = 6 → ¬ ((xs (Int32.toNatClampNeg x3)) &&& 63) = 7 → ¬ ((xs (Int32.toNatClampNeg x3)) &&& 63) = 8 → ¬ ((xs (Int32.toNatClampNeg x3)) &&& 63) = 9 → ¬ ((xs (Int32.toNatClampNeg x3)) &&& 63) = 10 → ¬ ((xs (Int32.toNatClampNeg x3)) &&& 63) = 11 → ¬ ((xs (Int32.toNatClampNeg x3)) &&& 63) = 12 → ¬ ((xs (Int32.toNatClampNeg x3)) &&& 63) = 13 → ¬ ((xs (Int32.toNatClampNeg x3)) &&& 63) = 14 → ¬ ((xs (Int32.toNatClampNeg x3)) &&& 63) = 15 → ¬ ((xs (Int32.toNatClampNeg x3)) &&& 63) = 16 → ¬ ((xs (Int32.toNatClampNeg x3)) &&& 63) = 17 → ¬ ((xs (Int32.toNatClampNeg x3)) &&& 63) = 18 → ¬ ((xs (Int32.toNatClampNeg x3)) &&& 63) = 19 → ¬ ((xs (Int32.toNatClampNeg x3)) &&& 63) = 20 → ¬ ((xs (Int32.toNatClampNeg x3)) &&& 63) = 21 → ¬ ((xs (Int32.toNatClampNeg x3)) &&& 63) = 22 → ¬ ((xs (Int32.toNatClampNeg x3)) &&& 63) = 23 → ¬ ((xs (Int32.toNatClampNeg x3)) &&& 63) = 24 → ¬ ((xs (Int32.toNatClampNeg x3)) &&& 63) = 25 → ¬ ((xs (Int32.toNatClampNeg x3)) &&& 63) = 26 → ¬ ((xs (Int32.toNatClampNeg x3)) &&& 63) = 27 → ¬ ((xs (Int32.toNatClampNeg x3)) &&& 63) = 28 → ¬ ((xs (Int32.toNatClampNeg x3)) &&& 63) = 29 → ¬ ((xs (Int32.toNatClampNeg x3)) &&& 63) = 30 → ¬ ((xs (Int32.toNatClampNeg x3)) &&& 63) = 31 → ¬ ((xs (Int32.toNatClampNeg x3)) &&& 63) = 32 → ¬ ((xs (Int32.toNatClampNeg x3)) &&& 63) = 33 → ¬ ((xs (Int32.toNatClampNeg x3)) &&& 63) = 34 → ¬ ((xs (Int32.toNatClampNeg x3)) &&& 63) = 35 → ¬ ((xs (Int32.toNatClampNeg x3)) &&& 63) = 36 → ¬ ((xs (Int32.toNatClampNeg x3)) &&& 63) = 37 → ¬ ((xs (Int32.toNatClampNeg x3)) &&& 63) = 38 → ¬ ((xs (Int32.toNatClampNeg x3)) &&& 63) = 39 → ¬ ((xs (Int32.toNatClampNeg x3)) &&& 63) = 40 → ¬ ((xs (Int32.toNatClampNeg x3)) &&& 63) = 41 → ¬ ((xs (Int32.toNatClampNeg x3)) &&& 63) = 42 → ¬ ((xs (Int32.toNatClampNeg x3)) &&& 63) = 43 → ¬ ((xs (Int32.toNatClampNeg x3)) &&& 63) = 44 → ¬ ((xs (Int32.toNatClampNeg x3)) &&& 63) = 45 → ¬ ((xs (Int32.toNatClampNeg x3)) &&& 63) = 46 → ¬ ((xs (Int32.toNatClampNeg x3)) &&& 63) = 47 → ¬ ((xs (Int32.toNatClampNeg x3)) &&& 63) = 48 → L_L_law_18 E nm L xs a0 a1 a2 (x3 + 6) S c9 k9)))) : L_L_law_18 E nm L xs a0 a1 a2 x3 S c9 k9 := by
  show jX E (mLw nm) room_1 (jZL E a0 L xs) 18 [(0, .ref a0), (1, .ref a1), (2, .ref a2), (3, .int x3)] [] S c9 k9
  refine jx_iload_n 3 dL_law_18 rfl rfl ?_
  refine jx_aload_n 0 dL_law_19 rfl rfl ?_
  refine jx_slen dL_law_20 ?_
  refine jx_bipush (v := 6) dL_law_21 (by decide) ?_
  refine jx_isub dL_law_23 ?_
  refine jx_icmp_gt (tgt := 1617) dL_law_24 (by decide) (fun c1 => ?_) (fun c1 => ?_)
  · replace h := h.1 c1
    refine jx_iconst (v := 1) dL_law_1617 (by decide) ?_
    exact jx_lawEnd dL_law_1618 h.1 h.2
  replace h := h.2 c1
  refine jx_aload_n 0 dL_law_27 rfl rfl ?_
  refine jx_iload_n 3 dL_law_28 rfl rfl ?_
  obtain ⟨hi2, h⟩ := h
  refine jx_sld dL_law_29 hi2 ?_
  refine jx_bipush (v := 63) dL_law_30 (by decide) ?_
  refine jx_iand dL_law_32 ?_
  by_cases c3 : ((xs (Int32.toNatClampNeg x3)) &&& 63) = 0
  · replace h := h.1 c3
    refine jx_tableIn (v := 0) (tgt := 244) (off := 211) dL_law_33 c3 (by decide) (by decide) (by decide) (by decide) ?_
    refine jx_aload_n 1 dL_law_244 rfl rfl ?_
    refine jx_aload_n 0 dL_law_245 rfl rfl ?_
    refine jx_iload_n 3 dL_law_246 rfl rfl ?_
    refine jx_iconst (v := 1) dL_law_247 (by decide) ?_
    refine jx_iadd dL_law_248 ?_
    obtain ⟨hi4, h⟩ := h
    refine jx_sld dL_law_249 hi4 ?_
    refine jx_aload_n 0 dL_law_250 rfl rfl ?_
    refine jx_iload_n 3 dL_law_251 rfl rfl ?_
    refine jx_iconst (v := 2) dL_law_252 (by decide) ?_
    refine jx_iadd dL_law_253 ?_
    obtain ⟨hi5, h⟩ := h
    refine jx_sld dL_law_254 hi5 ?_
    refine jx_aload_n 0 dL_law_255 rfl rfl ?_
    refine jx_iload_n 3 dL_law_256 rfl rfl ?_
    refine jx_iconst (v := 3) dL_law_257 (by decide) ?_
    refine jx_iadd dL_law_258 ?_
    obtain ⟨hi6, h⟩ := h
    refine jx_sld dL_law_259 hi6 ?_
    refine jx_aload_n 0 dL_law_260 rfl rfl ?_
    refine jx_iload_n 3 dL_law_261 rfl rfl ?_
    refine jx_iconst (v := 4) dL_law_262 (by decide) ?_
    refine jx_iadd dL_law_263 ?_
    obtain ⟨hi7, h⟩ := h
    refine jx_sld dL_law_264 hi7 ?_
    obtain ⟨hk8, h⟩ := h
    obtain ⟨hm9, h⟩ := h
    obtain ⟨d, hR, h⟩ := h
    refine jx_callVi (M' := mX10_master) (As := [.int (xs (Int32.toNatClampNeg (x3 + 1))), .int (xs (Int32.toNatClampNeg (x3 + 2))), .int (xs (Int32.toNatClampNeg (x3 + 3))), .int (xs (Int32.toNatClampNeg (x3 + 4)))]) jo_X10_master jc_10 rfl jwM_L_13 jwN_X10_master jwX_X10_master dL_law_265 hR rfl (jle rfl) hm9 hk8 h (fun r11 S10 h => ?_)
    refine jx_aload_n 2 dL_law_268 rfl rfl ?_
    refine jx_aload_n 0 dL_law_269 rfl rfl ?_
    refine jx_iload_n 3 dL_law_270 rfl rfl ?_
    refine jx_iconst (v := 1) dL_law_271 (by decide) ?_
    refine jx_iadd dL_law_272 ?_
    refine jx_sld dL_law_273 hi4 ?_
    refine jx_aload_n 0 dL_law_274 rfl rfl ?_
    refine jx_iload_n 3 dL_law_275 rfl rfl ?_
    refine jx_iconst (v := 2) dL_law_276 (by decide) ?_
    refine jx_iadd dL_law_277 ?_
    refine jx_sld dL_law_278 hi5 ?_
    refine jx_aload_n 0 dL_law_279 rfl rfl ?_
    refine jx_iload_n 3 dL_law_280 rfl rfl ?_
    refine jx_iconst (v := 3) dL_law_281 (by decide) ?_
    refine jx_iadd dL_law_282 ?_
    refine jx_sld dL_law_283 hi6 ?_
    refine jx_aload_n 0 dL_law_284 rfl rfl ?_
    refine jx_iload_n 3 dL_law_285 rfl rfl ?_
    refine jx_iconst (v := 4) dL_law_286 (by decide) ?_
    refine jx_iadd dL_law_287 ?_
    refine jx_sld dL_law_288 hi7 ?_
    obtain ⟨hk12, h⟩ := h
    obtain ⟨hm13, h⟩ := h
    obtain ⟨d, hR, h⟩ := h
    refine jx_callVi (M' := mX11_master) (As := [.int (xs (Int32.toNatClampNeg (x3 + 1))), .int (xs (Int32.toNatClampNeg (x3 + 2))), .int (xs (Int32.toNatClampNeg (x3 + 3))), .int (xs (Int32.toNatClampNeg (x3 + 4)))]) jo_X11_master jc_11 rfl jwM_L_17 jwN_X11_master jwX_X11_master dL_law_289 hR rfl (jle rfl) hm13 hk12 h (fun r15 S14 h => ?_)
    refine jx_icmp_eq (tgt := 1611) dL_law_292 (by decide) (fun c16 => ?_) (fun c16 => ?_)
    · replace h := h.1 c16
      refine jx_iinc 3 (v := (x3 + 6)) (lv1 := [(3, .int (x3 + 6)), (0, .ref a0), (1, .ref a1), (2, .ref a2)]) dL_law_1611 rfl rfl (by show _ < 4; decide) rfl ?_
      refine jx_goto (tgt := 18) dL_law_1614 (by decide) ?_
      exact jx_lv [1, 2, 3, 0] rfl h
    replace h := h.2 c16
    refine jx_iconst (v := 0) dL_law_295 (by decide) ?_
    exact h.elim
  replace h := h.2
  by_cases c17 : ((xs (Int32.toNatClampNeg x3)) &&& 63) = 1
  · replace h := h.1 c17
    refine jx_tableIn (v := 1) (tgt := 297) (off := 264) dL_law_33 c17 (by decide) (by decide) (by decide) (by decide) ?_
    refine jx_aload_n 1 dL_law_297 rfl rfl ?_
    refine jx_aload_n 0 dL_law_298 rfl rfl ?_
    refine jx_iload_n 3 dL_law_299 rfl rfl ?_
    refine jx_iconst (v := 1) dL_law_300 (by decide) ?_
    refine jx_iadd dL_law_301 ?_
    obtain ⟨hi18, h⟩ := h
    refine jx_sld dL_law_302 hi18 ?_
    refine jx_aload_n 0 dL_law_303 rfl rfl ?_
    refine jx_iload_n 3 dL_law_304 rfl rfl ?_
    refine jx_iconst (v := 2) dL_law_305 (by decide) ?_
    refine jx_iadd dL_law_306 ?_
    obtain ⟨hi19, h⟩ := h
    refine jx_sld dL_law_307 hi19 ?_
    obtain ⟨hk20, h⟩ := h
    obtain ⟨hm21, h⟩ := h
    obtain ⟨d, hR, h⟩ := h
    refine jx_callVi (M' := mX10_told) (As := [.int (xs (Int32.toNatClampNeg (x3 + 1))), .int (xs (Int32.toNatClampNeg (x3 + 2)))]) jo_X10_told jc_10 rfl jwM_L_18 jwN_X10_told jwX_X10_told dL_law_308 hR rfl (jle rfl) hm21 hk20 h (fun r23 S22 h => ?_)
    refine jx_aload_n 2 dL_law_311 rfl rfl ?_
    refine jx_aload_n 0 dL_law_312 rfl rfl ?_
    refine jx_iload_n 3 dL_law_313 rfl rfl ?_
    refine jx_iconst (v := 1) dL_law_314 (by decide) ?_
    refine jx_iadd dL_law_315 ?_
    refine jx_sld dL_law_316 hi18 ?_
    refine jx_aload_n 0 dL_law_317 rfl rfl ?_
    refine jx_iload_n 3 dL_law_318 rfl rfl ?_
    refine jx_iconst (v := 2) dL_law_319 (by decide) ?_
    refine jx_iadd dL_law_320 ?_
    refine jx_sld dL_law_321 hi19 ?_
    obtain ⟨hk24, h⟩ := h
    obtain ⟨hm25, h⟩ := h
    obtain ⟨d, hR, h⟩ := h
    refine jx_callVi (M' := mX11_told) (As := [.int (xs (Int32.toNatClampNeg (x3 + 1))), .int (xs (Int32.toNatClampNeg (x3 + 2)))]) jo_X11_told jc_11 rfl jwM_L_22 jwN_X11_told jwX_X11_told dL_law_322 hR rfl (jle rfl) hm25 hk24 h (fun r27 S26 h => ?_)
    refine jx_icmp_eq (tgt := 1611) dL_law_325 (by decide) (fun c28 => ?_) (fun c28 => ?_)
    · replace h := h.1 c28
      refine jx_iinc 3 (v := (x3 + 6)) (lv1 := [(3, .int (x3 + 6)), (0, .ref a0), (1, .ref a1), (2, .ref a2)]) dL_law_1611 rfl rfl (by show _ < 4; decide) rfl ?_
      refine jx_goto (tgt := 18) dL_law_1614 (by decide) ?_
      exact jx_lv [1, 2, 3, 0] rfl h
    replace h := h.2 c28
    refine jx_iconst (v := 0) dL_law_328 (by decide) ?_
    exact h.elim
  replace h := h.2
  by_cases c29 : ((xs (Int32.toNatClampNeg x3)) &&& 63) = 2
  · replace h := h.1 c29
    refine jx_tableIn (v := 2) (tgt := 330) (off := 297) dL_law_33 c29 (by decide) (by decide) (by decide) (by decide) ?_
    refine jx_aload_n 1 dL_law_330 rfl rfl ?_
    refine jx_aload_n 0 dL_law_331 rfl rfl ?_
    refine jx_iload_n 3 dL_law_332 rfl rfl ?_
    refine jx_iconst (v := 1) dL_law_333 (by decide) ?_
    refine jx_iadd dL_law_334 ?_
    obtain ⟨hi30, h⟩ := h
    refine jx_sld dL_law_335 hi30 ?_
    refine jx_aload_n 0 dL_law_336 rfl rfl ?_
    refine jx_iload_n 3 dL_law_337 rfl rfl ?_
    refine jx_iconst (v := 2) dL_law_338 (by decide) ?_
    refine jx_iadd dL_law_339 ?_
    obtain ⟨hi31, h⟩ := h
    refine jx_sld dL_law_340 hi31 ?_
    obtain ⟨hk32, h⟩ := h
    obtain ⟨hm33, h⟩ := h
    obtain ⟨d, hR, h⟩ := h
    refine jx_callVi (M' := mX10_as) (As := [.int (xs (Int32.toNatClampNeg (x3 + 1))), .int (xs (Int32.toNatClampNeg (x3 + 2)))]) jo_X10_as jc_10 rfl jwM_L_23 jwN_X10_as jwX_X10_as dL_law_341 hR rfl (jle rfl) hm33 hk32 h (fun r35 S34 h => ?_)
    refine jx_aload_n 2 dL_law_344 rfl rfl ?_
    refine jx_aload_n 0 dL_law_345 rfl rfl ?_
    refine jx_iload_n 3 dL_law_346 rfl rfl ?_
    refine jx_iconst (v := 1) dL_law_347 (by decide) ?_
    refine jx_iadd dL_law_348 ?_
    refine jx_sld dL_law_349 hi30 ?_
    refine jx_aload_n 0 dL_law_350 rfl rfl ?_
    refine jx_iload_n 3 dL_law_351 rfl rfl ?_
    refine jx_iconst (v := 2) dL_law_352 (by decide) ?_
    refine jx_iadd dL_law_353 ?_
    refine jx_sld dL_law_354 hi31 ?_
    obtain ⟨hk36, h⟩ := h
    obtain ⟨hm37, h⟩ := h
    obtain ⟨d, hR, h⟩ := h
    refine jx_callVi (M' := mX11_as) (As := [.int (xs (Int32.toNatClampNeg (x3 + 1))), .int (xs (Int32.toNatClampNeg (x3 + 2)))]) jo_X11_as jc_11 rfl jwM_L_26 jwN_X11_as jwX_X11_as dL_law_355 hR rfl (jle rfl) hm37 hk36 h (fun r39 S38 h => ?_)
    refine jx_icmp_eq (tgt := 1611) dL_law_358 (by decide) (fun c40 => ?_) (fun c40 => ?_)
    · replace h := h.1 c40
      refine jx_iinc 3 (v := (x3 + 6)) (lv1 := [(3, .int (x3 + 6)), (0, .ref a0), (1, .ref a1), (2, .ref a2)]) dL_law_1611 rfl rfl (by show _ < 4; decide) rfl ?_
      refine jx_goto (tgt := 18) dL_law_1614 (by decide) ?_
      exact jx_lv [1, 2, 3, 0] rfl h
    replace h := h.2 c40
    refine jx_iconst (v := 0) dL_law_361 (by decide) ?_
    exact h.elim
  replace h := h.2
  by_cases c41 : ((xs (Int32.toNatClampNeg x3)) &&& 63) = 3
  · replace h := h.1 c41
    refine jx_tableIn (v := 3) (tgt := 363) (off := 330) dL_law_33 c41 (by decide) (by decide) (by decide) (by decide) ?_
    refine jx_aload_n 1 dL_law_363 rfl rfl ?_
    refine jx_aload_n 0 dL_law_364 rfl rfl ?_
    refine jx_iload_n 3 dL_law_365 rfl rfl ?_
    refine jx_iconst (v := 1) dL_law_366 (by decide) ?_
    refine jx_iadd dL_law_367 ?_
    obtain ⟨hi42, h⟩ := h
    refine jx_sld dL_law_368 hi42 ?_
    refine jx_aload_n 0 dL_law_369 rfl rfl ?_
    refine jx_iload_n 3 dL_law_370 rfl rfl ?_
    refine jx_iconst (v := 2) dL_law_371 (by decide) ?_
    refine jx_iadd dL_law_372 ?_
    obtain ⟨hi43, h⟩ := h
    refine jx_sld dL_law_373 hi43 ?_
    obtain ⟨hk44, h⟩ := h
    obtain ⟨hm45, h⟩ := h
    obtain ⟨d, hR, h⟩ := h
    refine jx_callVi (M' := mX10_turns) (As := [.int (xs (Int32.toNatClampNeg (x3 + 1))), .int (xs (Int32.toNatClampNeg (x3 + 2)))]) jo_X10_turns jc_10 rfl jwM_L_27 jwN_X10_turns jwX_X10_turns dL_law_374 hR rfl (jle rfl) hm45 hk44 h (fun r47 S46 h => ?_)
    refine jx_aload_n 2 dL_law_377 rfl rfl ?_
    refine jx_aload_n 0 dL_law_378 rfl rfl ?_
    refine jx_iload_n 3 dL_law_379 rfl rfl ?_
    refine jx_iconst (v := 1) dL_law_380 (by decide) ?_
    refine jx_iadd dL_law_381 ?_
    refine jx_sld dL_law_382 hi42 ?_
    refine jx_aload_n 0 dL_law_383 rfl rfl ?_
    refine jx_iload_n 3 dL_law_384 rfl rfl ?_
    refine jx_iconst (v := 2) dL_law_385 (by decide) ?_
    refine jx_iadd dL_law_386 ?_
    refine jx_sld dL_law_387 hi43 ?_
    obtain ⟨hk48, h⟩ := h
    obtain ⟨hm49, h⟩ := h
    obtain ⟨d, hR, h⟩ := h
    refine jx_callVi (M' := mX11_turns) (As := [.int (xs (Int32.toNatClampNeg (x3 + 1))), .int (xs (Int32.toNatClampNeg (x3 + 2)))]) jo_X11_turns jc_11 rfl jwM_L_30 jwN_X11_turns jwX_X11_turns dL_law_388 hR rfl (jle rfl) hm49 hk48 h (fun r51 S50 h => ?_)
    refine jx_icmp_eq (tgt := 1611) dL_law_391 (by decide) (fun c52 => ?_) (fun c52 => ?_)
    · replace h := h.1 c52
      refine jx_iinc 3 (v := (x3 + 6)) (lv1 := [(3, .int (x3 + 6)), (0, .ref a0), (1, .ref a1), (2, .ref a2)]) dL_law_1611 rfl rfl (by show _ < 4; decide) rfl ?_
      refine jx_goto (tgt := 18) dL_law_1614 (by decide) ?_
      exact jx_lv [1, 2, 3, 0] rfl h
    replace h := h.2 c52
    refine jx_iconst (v := 0) dL_law_394 (by decide) ?_
    exact h.elim
  replace h := h.2
  by_cases c53 : ((xs (Int32.toNatClampNeg x3)) &&& 63) = 4
  · replace h := h.1 c53
    refine jx_tableIn (v := 4) (tgt := 396) (off := 363) dL_law_33 c53 (by decide) (by decide) (by decide) (by decide) ?_
    refine jx_aload_n 1 dL_law_396 rfl rfl ?_
    refine jx_aload_n 0 dL_law_397 rfl rfl ?_
    refine jx_iload_n 3 dL_law_398 rfl rfl ?_
    refine jx_iconst (v := 1) dL_law_399 (by decide) ?_
    refine jx_iadd dL_law_400 ?_
    obtain ⟨hi54, h⟩ := h
    refine jx_sld dL_law_401 hi54 ?_
    refine jx_aload_n 0 dL_law_402 rfl rfl ?_
    refine jx_iload_n 3 dL_law_403 rfl rfl ?_
    refine jx_iconst (v := 2) dL_law_404 (by decide) ?_
    refine jx_iadd dL_law_405 ?_
    obtain ⟨hi55, h⟩ := h
    refine jx_sld dL_law_406 hi55 ?_
    refine jx_aload_n 0 dL_law_407 rfl rfl ?_
    refine jx_iload_n 3 dL_law_408 rfl rfl ?_
    refine jx_iconst (v := 3) dL_law_409 (by decide) ?_
    refine jx_iadd dL_law_410 ?_
    obtain ⟨hi56, h⟩ := h
    refine jx_sld dL_law_411 hi56 ?_
    obtain ⟨hk57, h⟩ := h
    obtain ⟨hm58, h⟩ := h
    obtain ⟨d, hR, h⟩ := h
    refine jx_callVi (M' := mX10_set) (As := [.int (xs (Int32.toNatClampNeg (x3 + 1))), .int (xs (Int32.toNatClampNeg (x3 + 2))), .int (xs (Int32.toNatClampNeg (x3 + 3)))]) jo_X10_set jc_10 rfl jwM_L_31 jwN_X10_set jwX_X10_set dL_law_412 hR rfl (jle rfl) hm58 hk57 h (fun r60 S59 h => ?_)
    refine jx_aload_n 2 dL_law_415 rfl rfl ?_
    refine jx_aload_n 0 dL_law_416 rfl rfl ?_
    refine jx_iload_n 3 dL_law_417 rfl rfl ?_
    refine jx_iconst (v := 1) dL_law_418 (by decide) ?_
    refine jx_iadd dL_law_419 ?_
    refine jx_sld dL_law_420 hi54 ?_
    refine jx_aload_n 0 dL_law_421 rfl rfl ?_
    refine jx_iload_n 3 dL_law_422 rfl rfl ?_
    refine jx_iconst (v := 2) dL_law_423 (by decide) ?_
    refine jx_iadd dL_law_424 ?_
    refine jx_sld dL_law_425 hi55 ?_
    refine jx_aload_n 0 dL_law_426 rfl rfl ?_
    refine jx_iload_n 3 dL_law_427 rfl rfl ?_
    refine jx_iconst (v := 3) dL_law_428 (by decide) ?_
    refine jx_iadd dL_law_429 ?_
    refine jx_sld dL_law_430 hi56 ?_
    obtain ⟨hk61, h⟩ := h
    obtain ⟨hm62, h⟩ := h
    obtain ⟨d, hR, h⟩ := h
    refine jx_callVi (M' := mX11_set) (As := [.int (xs (Int32.toNatClampNeg (x3 + 1))), .int (xs (Int32.toNatClampNeg (x3 + 2))), .int (xs (Int32.toNatClampNeg (x3 + 3)))]) jo_X11_set jc_11 rfl jwM_L_35 jwN_X11_set jwX_X11_set dL_law_431 hR rfl (jle rfl) hm62 hk61 h (fun r64 S63 h => ?_)
    refine jx_icmp_eq (tgt := 1611) dL_law_434 (by decide) (fun c65 => ?_) (fun c65 => ?_)
    · replace h := h.1 c65
      refine jx_iinc 3 (v := (x3 + 6)) (lv1 := [(3, .int (x3 + 6)), (0, .ref a0), (1, .ref a1), (2, .ref a2)]) dL_law_1611 rfl rfl (by show _ < 4; decide) rfl ?_
      refine jx_goto (tgt := 18) dL_law_1614 (by decide) ?_
      exact jx_lv [1, 2, 3, 0] rfl h
    replace h := h.2 c65
    refine jx_iconst (v := 0) dL_law_437 (by decide) ?_
    exact h.elim
  replace h := h.2
  by_cases c66 : ((xs (Int32.toNatClampNeg x3)) &&& 63) = 5
  · replace h := h.1 c66
    refine jx_tableIn (v := 5) (tgt := 439) (off := 406) dL_law_33 c66 (by decide) (by decide) (by decide) (by decide) ?_
    refine jx_aload_n 1 dL_law_439 rfl rfl ?_
    refine jx_aload_n 0 dL_law_440 rfl rfl ?_
    refine jx_iload_n 3 dL_law_441 rfl rfl ?_
    refine jx_iconst (v := 1) dL_law_442 (by decide) ?_
    refine jx_iadd dL_law_443 ?_
    obtain ⟨hi67, h⟩ := h
    refine jx_sld dL_law_444 hi67 ?_
    refine jx_aload_n 0 dL_law_445 rfl rfl ?_
    refine jx_iload_n 3 dL_law_446 rfl rfl ?_
    refine jx_iconst (v := 2) dL_law_447 (by decide) ?_
    refine jx_iadd dL_law_448 ?_
    obtain ⟨hi68, h⟩ := h
    refine jx_sld dL_law_449 hi68 ?_
    refine jx_aload_n 0 dL_law_450 rfl rfl ?_
    refine jx_iload_n 3 dL_law_451 rfl rfl ?_
    refine jx_iconst (v := 3) dL_law_452 (by decide) ?_
    refine jx_iadd dL_law_453 ?_
    obtain ⟨hi69, h⟩ := h
    refine jx_sld dL_law_454 hi69 ?_
    obtain ⟨hk70, h⟩ := h
    obtain ⟨hm71, h⟩ := h
    obtain ⟨d, hR, h⟩ := h
    refine jx_callVi (M' := mX10_bars) (As := [.int (xs (Int32.toNatClampNeg (x3 + 1))), .int (xs (Int32.toNatClampNeg (x3 + 2))), .int (xs (Int32.toNatClampNeg (x3 + 3)))]) jo_X10_bars jc_10 rfl jwM_L_36 jwN_X10_bars jwX_X10_bars dL_law_455 hR rfl (jle rfl) hm71 hk70 h (fun r73 S72 h => ?_)
    refine jx_aload_n 2 dL_law_458 rfl rfl ?_
    refine jx_aload_n 0 dL_law_459 rfl rfl ?_
    refine jx_iload_n 3 dL_law_460 rfl rfl ?_
    refine jx_iconst (v := 1) dL_law_461 (by decide) ?_
    refine jx_iadd dL_law_462 ?_
    refine jx_sld dL_law_463 hi67 ?_
    refine jx_aload_n 0 dL_law_464 rfl rfl ?_
    refine jx_iload_n 3 dL_law_465 rfl rfl ?_
    refine jx_iconst (v := 2) dL_law_466 (by decide) ?_
    refine jx_iadd dL_law_467 ?_
    refine jx_sld dL_law_468 hi68 ?_
    refine jx_aload_n 0 dL_law_469 rfl rfl ?_
    refine jx_iload_n 3 dL_law_470 rfl rfl ?_
    refine jx_iconst (v := 3) dL_law_471 (by decide) ?_
    refine jx_iadd dL_law_472 ?_
    refine jx_sld dL_law_473 hi69 ?_
    obtain ⟨hk74, h⟩ := h
    obtain ⟨hm75, h⟩ := h
    obtain ⟨d, hR, h⟩ := h
    refine jx_callVi (M' := mX11_bars) (As := [.int (xs (Int32.toNatClampNeg (x3 + 1))), .int (xs (Int32.toNatClampNeg (x3 + 2))), .int (xs (Int32.toNatClampNeg (x3 + 3)))]) jo_X11_bars jc_11 rfl jwM_L_39 jwN_X11_bars jwX_X11_bars dL_law_474 hR rfl (jle rfl) hm75 hk74 h (fun r77 S76 h => ?_)
    refine jx_icmp_eq (tgt := 1611) dL_law_477 (by decide) (fun c78 => ?_) (fun c78 => ?_)
    · replace h := h.1 c78
      refine jx_iinc 3 (v := (x3 + 6)) (lv1 := [(3, .int (x3 + 6)), (0, .ref a0), (1, .ref a1), (2, .ref a2)]) dL_law_1611 rfl rfl (by show _ < 4; decide) rfl ?_
      refine jx_goto (tgt := 18) dL_law_1614 (by decide) ?_
      exact jx_lv [1, 2, 3, 0] rfl h
    replace h := h.2 c78
    refine jx_iconst (v := 0) dL_law_480 (by decide) ?_
    exact h.elim
  replace h := h.2
  by_cases c79 : ((xs (Int32.toNatClampNeg x3)) &&& 63) = 6
  · replace h := h.1 c79
    refine jx_tableIn (v := 6) (tgt := 482) (off := 449) dL_law_33 c79 (by decide) (by decide) (by decide) (by decide) ?_
    refine jx_aload_n 1 dL_law_482 rfl rfl ?_
    refine jx_aload_n 0 dL_law_483 rfl rfl ?_
    refine jx_iload_n 3 dL_law_484 rfl rfl ?_
    refine jx_iconst (v := 1) dL_law_485 (by decide) ?_
    refine jx_iadd dL_law_486 ?_
    obtain ⟨hi80, h⟩ := h
    refine jx_sld dL_law_487 hi80 ?_
    refine jx_aload_n 0 dL_law_488 rfl rfl ?_
    refine jx_iload_n 3 dL_law_489 rfl rfl ?_
    refine jx_iconst (v := 2) dL_law_490 (by decide) ?_
    refine jx_iadd dL_law_491 ?_
    obtain ⟨hi81, h⟩ := h
    refine jx_sld dL_law_492 hi81 ?_
    refine jx_aload_n 0 dL_law_493 rfl rfl ?_
    refine jx_iload_n 3 dL_law_494 rfl rfl ?_
    refine jx_iconst (v := 3) dL_law_495 (by decide) ?_
    refine jx_iadd dL_law_496 ?_
    obtain ⟨hi82, h⟩ := h
    refine jx_sld dL_law_497 hi82 ?_
    obtain ⟨hk83, h⟩ := h
    obtain ⟨hm84, h⟩ := h
    obtain ⟨d, hR, h⟩ := h
    refine jx_callVi (M' := mX10_road) (As := [.int (xs (Int32.toNatClampNeg (x3 + 1))), .int (xs (Int32.toNatClampNeg (x3 + 2))), .int (xs (Int32.toNatClampNeg (x3 + 3)))]) jo_X10_road jc_10 rfl jwM_L_40 jwN_X10_road jwX_X10_road dL_law_498 hR rfl (jle rfl) hm84 hk83 h (fun r86 S85 h => ?_)
    refine jx_aload_n 2 dL_law_501 rfl rfl ?_
    refine jx_aload_n 0 dL_law_502 rfl rfl ?_
    refine jx_iload_n 3 dL_law_503 rfl rfl ?_
    refine jx_iconst (v := 1) dL_law_504 (by decide) ?_
    refine jx_iadd dL_law_505 ?_
    refine jx_sld dL_law_506 hi80 ?_
    refine jx_aload_n 0 dL_law_507 rfl rfl ?_
    refine jx_iload_n 3 dL_law_508 rfl rfl ?_
    refine jx_iconst (v := 2) dL_law_509 (by decide) ?_
    refine jx_iadd dL_law_510 ?_
    refine jx_sld dL_law_511 hi81 ?_
    refine jx_aload_n 0 dL_law_512 rfl rfl ?_
    refine jx_iload_n 3 dL_law_513 rfl rfl ?_
    refine jx_iconst (v := 3) dL_law_514 (by decide) ?_
    refine jx_iadd dL_law_515 ?_
    refine jx_sld dL_law_516 hi82 ?_
    obtain ⟨hk87, h⟩ := h
    obtain ⟨hm88, h⟩ := h
    obtain ⟨d, hR, h⟩ := h
    refine jx_callVi (M' := mX11_road) (As := [.int (xs (Int32.toNatClampNeg (x3 + 1))), .int (xs (Int32.toNatClampNeg (x3 + 2))), .int (xs (Int32.toNatClampNeg (x3 + 3)))]) jo_X11_road jc_11 rfl jwM_L_43 jwN_X11_road jwX_X11_road dL_law_517 hR rfl (jle rfl) hm88 hk87 h (fun r90 S89 h => ?_)
    refine jx_icmp_eq (tgt := 1611) dL_law_520 (by decide) (fun c91 => ?_) (fun c91 => ?_)
    · replace h := h.1 c91
      refine jx_iinc 3 (v := (x3 + 6)) (lv1 := [(3, .int (x3 + 6)), (0, .ref a0), (1, .ref a1), (2, .ref a2)]) dL_law_1611 rfl rfl (by show _ < 4; decide) rfl ?_
      refine jx_goto (tgt := 18) dL_law_1614 (by decide) ?_
      exact jx_lv [1, 2, 3, 0] rfl h
    replace h := h.2 c91
    refine jx_iconst (v := 0) dL_law_523 (by decide) ?_
    exact h.elim
  replace h := h.2
  by_cases c92 : ((xs (Int32.toNatClampNeg x3)) &&& 63) = 7
  · replace h := h.1 c92
    refine jx_tableIn (v := 7) (tgt := 525) (off := 492) dL_law_33 c92 (by decide) (by decide) (by decide) (by decide) ?_
    refine jx_aload_n 1 dL_law_525 rfl rfl ?_
    refine jx_aload_n 0 dL_law_526 rfl rfl ?_
    refine jx_iload_n 3 dL_law_527 rfl rfl ?_
    refine jx_iconst (v := 1) dL_law_528 (by decide) ?_
    refine jx_iadd dL_law_529 ?_
    obtain ⟨hi93, h⟩ := h
    refine jx_sld dL_law_530 hi93 ?_
    refine jx_aload_n 0 dL_law_531 rfl rfl ?_
    refine jx_iload_n 3 dL_law_532 rfl rfl ?_
    refine jx_iconst (v := 2) dL_law_533 (by decide) ?_
    refine jx_iadd dL_law_534 ?_
    obtain ⟨hi94, h⟩ := h
    refine jx_sld dL_law_535 hi94 ?_
    obtain ⟨hk95, h⟩ := h
    obtain ⟨hm96, h⟩ := h
    obtain ⟨d, hR, h⟩ := h
    refine jx_callVi (M' := mX10_far) (As := [.int (xs (Int32.toNatClampNeg (x3 + 1))), .int (xs (Int32.toNatClampNeg (x3 + 2)))]) jo_X10_far jc_10 rfl jwM_L_44 jwN_X10_far jwX_X10_far dL_law_536 hR rfl (jle rfl) hm96 hk95 h (fun r98 S97 h => ?_)
    refine jx_aload_n 2 dL_law_539 rfl rfl ?_
    refine jx_aload_n 0 dL_law_540 rfl rfl ?_
    refine jx_iload_n 3 dL_law_541 rfl rfl ?_
    refine jx_iconst (v := 1) dL_law_542 (by decide) ?_
    refine jx_iadd dL_law_543 ?_
    refine jx_sld dL_law_544 hi93 ?_
    refine jx_aload_n 0 dL_law_545 rfl rfl ?_
    refine jx_iload_n 3 dL_law_546 rfl rfl ?_
    refine jx_iconst (v := 2) dL_law_547 (by decide) ?_
    refine jx_iadd dL_law_548 ?_
    refine jx_sld dL_law_549 hi94 ?_
    obtain ⟨hk99, h⟩ := h
    obtain ⟨hm100, h⟩ := h
    obtain ⟨d, hR, h⟩ := h
    refine jx_callVi (M' := mX11_far) (As := [.int (xs (Int32.toNatClampNeg (x3 + 1))), .int (xs (Int32.toNatClampNeg (x3 + 2)))]) jo_X11_far jc_11 rfl jwM_L_47 jwN_X11_far jwX_X11_far dL_law_550 hR rfl (jle rfl) hm100 hk99 h (fun r102 S101 h => ?_)
    refine jx_icmp_eq (tgt := 1611) dL_law_553 (by decide) (fun c103 => ?_) (fun c103 => ?_)
    · replace h := h.1 c103
      refine jx_iinc 3 (v := (x3 + 6)) (lv1 := [(3, .int (x3 + 6)), (0, .ref a0), (1, .ref a1), (2, .ref a2)]) dL_law_1611 rfl rfl (by show _ < 4; decide) rfl ?_
      refine jx_goto (tgt := 18) dL_law_1614 (by decide) ?_
      exact jx_lv [1, 2, 3, 0] rfl h
    replace h := h.2 c103
    refine jx_iconst (v := 0) dL_law_556 (by decide) ?_
    exact h.elim
  replace h := h.2
  by_cases c104 : ((xs (Int32.toNatClampNeg x3)) &&& 63) = 8
  · replace h := h.1 c104
    refine jx_tableIn (v := 8) (tgt := 558) (off := 525) dL_law_33 c104 (by decide) (by decide) (by decide) (by decide) ?_
    refine jx_aload_n 1 dL_law_558 rfl rfl ?_
    refine jx_aload_n 0 dL_law_559 rfl rfl ?_
    refine jx_iload_n 3 dL_law_560 rfl rfl ?_
    refine jx_iconst (v := 1) dL_law_561 (by decide) ?_
    refine jx_iadd dL_law_562 ?_
    obtain ⟨hi105, h⟩ := h
    refine jx_sld dL_law_563 hi105 ?_
    obtain ⟨hk106, h⟩ := h
    obtain ⟨hm107, h⟩ := h
    obtain ⟨d, hR, h⟩ := h
    refine jx_callVi (M' := mX10_deal) (As := [.int (xs (Int32.toNatClampNeg (x3 + 1)))]) jo_X10_deal jc_10 rfl jwM_L_48 jwN_X10_deal jwX_X10_deal dL_law_564 hR rfl (jle rfl) hm107 hk106 h (fun r109 S108 h => ?_)
    refine jx_aload_n 2 dL_law_567 rfl rfl ?_
    refine jx_aload_n 0 dL_law_568 rfl rfl ?_
    refine jx_iload_n 3 dL_law_569 rfl rfl ?_
    refine jx_iconst (v := 1) dL_law_570 (by decide) ?_
    refine jx_iadd dL_law_571 ?_
    refine jx_sld dL_law_572 hi105 ?_
    obtain ⟨hk110, h⟩ := h
    obtain ⟨hm111, h⟩ := h
    obtain ⟨d, hR, h⟩ := h
    refine jx_callVi (M' := mX11_deal) (As := [.int (xs (Int32.toNatClampNeg (x3 + 1)))]) jo_X11_deal jc_11 rfl jwM_L_52 jwN_X11_deal jwX_X11_deal dL_law_573 hR rfl (jle rfl) hm111 hk110 h (fun r113 S112 h => ?_)
    refine jx_icmp_eq (tgt := 1611) dL_law_576 (by decide) (fun c114 => ?_) (fun c114 => ?_)
    · replace h := h.1 c114
      refine jx_iinc 3 (v := (x3 + 6)) (lv1 := [(3, .int (x3 + 6)), (0, .ref a0), (1, .ref a1), (2, .ref a2)]) dL_law_1611 rfl rfl (by show _ < 4; decide) rfl ?_
      refine jx_goto (tgt := 18) dL_law_1614 (by decide) ?_
      exact jx_lv [1, 2, 3, 0] rfl h
    replace h := h.2 c114
    refine jx_iconst (v := 0) dL_law_579 (by decide) ?_
    exact h.elim
  replace h := h.2
  by_cases c115 : ((xs (Int32.toNatClampNeg x3)) &&& 63) = 9
  · replace h := h.1 c115
    refine jx_tableIn (v := 9) (tgt := 581) (off := 548) dL_law_33 c115 (by decide) (by decide) (by decide) (by decide) ?_
    refine jx_aload_n 1 dL_law_581 rfl rfl ?_
    refine jx_aload_n 0 dL_law_582 rfl rfl ?_
    refine jx_iload_n 3 dL_law_583 rfl rfl ?_
    refine jx_iconst (v := 1) dL_law_584 (by decide) ?_
    refine jx_iadd dL_law_585 ?_
    obtain ⟨hi116, h⟩ := h
    refine jx_sld dL_law_586 hi116 ?_
    obtain ⟨hk117, h⟩ := h
    obtain ⟨hm118, h⟩ := h
    obtain ⟨d, hR, h⟩ := h
    refine jx_callVi (M' := mX10_seed) (As := [.int (xs (Int32.toNatClampNeg (x3 + 1)))]) jo_X10_seed jc_10 rfl jwM_L_53 jwN_X10_seed jwX_X10_seed dL_law_587 hR rfl (jle rfl) hm118 hk117 h (fun r120 S119 h => ?_)
    refine jx_aload_n 2 dL_law_590 rfl rfl ?_
    refine jx_aload_n 0 dL_law_591 rfl rfl ?_
    refine jx_iload_n 3 dL_law_592 rfl rfl ?_
    refine jx_iconst (v := 1) dL_law_593 (by decide) ?_
    refine jx_iadd dL_law_594 ?_
    refine jx_sld dL_law_595 hi116 ?_
    obtain ⟨hk121, h⟩ := h
    obtain ⟨hm122, h⟩ := h
    obtain ⟨d, hR, h⟩ := h
    refine jx_callVi (M' := mX11_seed) (As := [.int (xs (Int32.toNatClampNeg (x3 + 1)))]) jo_X11_seed jc_11 rfl jwM_L_56 jwN_X11_seed jwX_X11_seed dL_law_596 hR rfl (jle rfl) hm122 hk121 h (fun r124 S123 h => ?_)
    refine jx_icmp_eq (tgt := 1611) dL_law_599 (by decide) (fun c125 => ?_) (fun c125 => ?_)
    · replace h := h.1 c125
      refine jx_iinc 3 (v := (x3 + 6)) (lv1 := [(3, .int (x3 + 6)), (0, .ref a0), (1, .ref a1), (2, .ref a2)]) dL_law_1611 rfl rfl (by show _ < 4; decide) rfl ?_
      refine jx_goto (tgt := 18) dL_law_1614 (by decide) ?_
      exact jx_lv [1, 2, 3, 0] rfl h
    replace h := h.2 c125
    refine jx_iconst (v := 0) dL_law_602 (by decide) ?_
    exact h.elim
  replace h := h.2
  by_cases c126 : ((xs (Int32.toNatClampNeg x3)) &&& 63) = 10
  · replace h := h.1 c126
    refine jx_tableIn (v := 10) (tgt := 604) (off := 571) dL_law_33 c126 (by decide) (by decide) (by decide) (by decide) ?_
    refine jx_aload_n 1 dL_law_604 rfl rfl ?_
    refine jx_aload_n 0 dL_law_605 rfl rfl ?_
    refine jx_iload_n 3 dL_law_606 rfl rfl ?_
    refine jx_iconst (v := 1) dL_law_607 (by decide) ?_
    refine jx_iadd dL_law_608 ?_
    obtain ⟨hi127, h⟩ := h
    refine jx_sld dL_law_609 hi127 ?_
    obtain ⟨hk128, h⟩ := h
    obtain ⟨hm129, h⟩ := h
    obtain ⟨d, hR, h⟩ := h
    refine jx_callVi (M' := mX10_apprentice) (As := [.int (xs (Int32.toNatClampNeg (x3 + 1)))]) jo_X10_apprentice jc_10 rfl jwM_L_57 jwN_X10_apprentice jwX_X10_apprentice dL_law_610 hR rfl (jle rfl) hm129 hk128 h (fun r131 S130 h => ?_)
    refine jx_aload_n 2 dL_law_613 rfl rfl ?_
    refine jx_aload_n 0 dL_law_614 rfl rfl ?_
    refine jx_iload_n 3 dL_law_615 rfl rfl ?_
    refine jx_iconst (v := 1) dL_law_616 (by decide) ?_
    refine jx_iadd dL_law_617 ?_
    refine jx_sld dL_law_618 hi127 ?_
    obtain ⟨hk132, h⟩ := h
    obtain ⟨hm133, h⟩ := h
    obtain ⟨d, hR, h⟩ := h
    refine jx_callVi (M' := mX11_apprentice) (As := [.int (xs (Int32.toNatClampNeg (x3 + 1)))]) jo_X11_apprentice jc_11 rfl jwM_L_60 jwN_X11_apprentice jwX_X11_apprentice dL_law_619 hR rfl (jle rfl) hm133 hk132 h (fun r135 S134 h => ?_)
    refine jx_icmp_eq (tgt := 1611) dL_law_622 (by decide) (fun c136 => ?_) (fun c136 => ?_)
    · replace h := h.1 c136
      refine jx_iinc 3 (v := (x3 + 6)) (lv1 := [(3, .int (x3 + 6)), (0, .ref a0), (1, .ref a1), (2, .ref a2)]) dL_law_1611 rfl rfl (by show _ < 4; decide) rfl ?_
      refine jx_goto (tgt := 18) dL_law_1614 (by decide) ?_
      exact jx_lv [1, 2, 3, 0] rfl h
    replace h := h.2 c136
    refine jx_iconst (v := 0) dL_law_625 (by decide) ?_
    exact h.elim
  replace h := h.2
  by_cases c137 : ((xs (Int32.toNatClampNeg x3)) &&& 63) = 11
  · replace h := h.1 c137
    refine jx_tableIn (v := 11) (tgt := 627) (off := 594) dL_law_33 c137 (by decide) (by decide) (by decide) (by decide) ?_
    refine jx_aload_n 1 dL_law_627 rfl rfl ?_
    refine jx_aload_n 0 dL_law_628 rfl rfl ?_
    refine jx_iload_n 3 dL_law_629 rfl rfl ?_
    refine jx_iconst (v := 1) dL_law_630 (by decide) ?_
    refine jx_iadd dL_law_631 ?_
    obtain ⟨hi138, h⟩ := h
    refine jx_sld dL_law_632 hi138 ?_
    refine jx_aload_n 0 dL_law_633 rfl rfl ?_
    refine jx_iload_n 3 dL_law_634 rfl rfl ?_
    refine jx_iconst (v := 2) dL_law_635 (by decide) ?_
    refine jx_iadd dL_law_636 ?_
    obtain ⟨hi139, h⟩ := h
    refine jx_sld dL_law_637 hi139 ?_
    obtain ⟨hk140, h⟩ := h
    obtain ⟨hm141, h⟩ := h
    obtain ⟨d, hR, h⟩ := h
    refine jx_callVi (M' := mX10_has) (As := [.int (xs (Int32.toNatClampNeg (x3 + 1))), .int (xs (Int32.toNatClampNeg (x3 + 2)))]) jo_X10_has jc_10 rfl jwM_L_61 jwN_X10_has jwX_X10_has dL_law_638 hR rfl (jle rfl) hm141 hk140 h (fun r143 S142 h => ?_)
    refine jx_aload_n 2 dL_law_641 rfl rfl ?_
    refine jx_aload_n 0 dL_law_642 rfl rfl ?_
    refine jx_iload_n 3 dL_law_643 rfl rfl ?_
    refine jx_iconst (v := 1) dL_law_644 (by decide) ?_
    refine jx_iadd dL_law_645 ?_
    refine jx_sld dL_law_646 hi138 ?_
    refine jx_aload_n 0 dL_law_647 rfl rfl ?_
    refine jx_iload_n 3 dL_law_648 rfl rfl ?_
    refine jx_iconst (v := 2) dL_law_649 (by decide) ?_
    refine jx_iadd dL_law_650 ?_
    refine jx_sld dL_law_651 hi139 ?_
    obtain ⟨hk144, h⟩ := h
    obtain ⟨hm145, h⟩ := h
    obtain ⟨d, hR, h⟩ := h
    refine jx_callVi (M' := mX11_has) (As := [.int (xs (Int32.toNatClampNeg (x3 + 1))), .int (xs (Int32.toNatClampNeg (x3 + 2)))]) jo_X11_has jc_11 rfl jwM_L_64 jwN_X11_has jwX_X11_has dL_law_652 hR rfl (jle rfl) hm145 hk144 h (fun r147 S146 h => ?_)
    refine jx_icmp_eq (tgt := 1611) dL_law_655 (by decide) (fun c148 => ?_) (fun c148 => ?_)
    · replace h := h.1 c148
      refine jx_iinc 3 (v := (x3 + 6)) (lv1 := [(3, .int (x3 + 6)), (0, .ref a0), (1, .ref a1), (2, .ref a2)]) dL_law_1611 rfl rfl (by show _ < 4; decide) rfl ?_
      refine jx_goto (tgt := 18) dL_law_1614 (by decide) ?_
      exact jx_lv [1, 2, 3, 0] rfl h
    replace h := h.2 c148
    refine jx_iconst (v := 0) dL_law_658 (by decide) ?_
    exact h.elim
  replace h := h.2
  by_cases c149 : ((xs (Int32.toNatClampNeg x3)) &&& 63) = 12
  · replace h := h.1 c149
    refine jx_tableIn (v := 12) (tgt := 660) (off := 627) dL_law_33 c149 (by decide) (by decide) (by decide) (by decide) ?_
    refine jx_aload_n 1 dL_law_660 rfl rfl ?_
    refine jx_aload_n 0 dL_law_661 rfl rfl ?_
    refine jx_iload_n 3 dL_law_662 rfl rfl ?_
    refine jx_iconst (v := 1) dL_law_663 (by decide) ?_
    refine jx_iadd dL_law_664 ?_
    obtain ⟨hi150, h⟩ := h
    refine jx_sld dL_law_665 hi150 ?_
    refine jx_aload_n 0 dL_law_666 rfl rfl ?_
    refine jx_iload_n 3 dL_law_667 rfl rfl ?_
    refine jx_iconst (v := 2) dL_law_668 (by decide) ?_
    refine jx_iadd dL_law_669 ?_
    obtain ⟨hi151, h⟩ := h
    refine jx_sld dL_law_670 hi151 ?_
    obtain ⟨hk152, h⟩ := h
    obtain ⟨hm153, h⟩ := h
    obtain ⟨d, hR, h⟩ := h
    refine jx_callVi (M' := mX10_knows) (As := [.int (xs (Int32.toNatClampNeg (x3 + 1))), .int (xs (Int32.toNatClampNeg (x3 + 2)))]) jo_X10_knows jc_10 rfl jwM_L_65 jwN_X10_knows jwX_X10_knows dL_law_671 hR rfl (jle rfl) hm153 hk152 h (fun r155 S154 h => ?_)
    refine jx_aload_n 2 dL_law_674 rfl rfl ?_
    refine jx_aload_n 0 dL_law_675 rfl rfl ?_
    refine jx_iload_n 3 dL_law_676 rfl rfl ?_
    refine jx_iconst (v := 1) dL_law_677 (by decide) ?_
    refine jx_iadd dL_law_678 ?_
    refine jx_sld dL_law_679 hi150 ?_
    refine jx_aload_n 0 dL_law_680 rfl rfl ?_
    refine jx_iload_n 3 dL_law_681 rfl rfl ?_
    refine jx_iconst (v := 2) dL_law_682 (by decide) ?_
    refine jx_iadd dL_law_683 ?_
    refine jx_sld dL_law_684 hi151 ?_
    obtain ⟨hk156, h⟩ := h
    obtain ⟨hm157, h⟩ := h
    obtain ⟨d, hR, h⟩ := h
    refine jx_callVi (M' := mX11_knows) (As := [.int (xs (Int32.toNatClampNeg (x3 + 1))), .int (xs (Int32.toNatClampNeg (x3 + 2)))]) jo_X11_knows jc_11 rfl jwM_L_68 jwN_X11_knows jwX_X11_knows dL_law_685 hR rfl (jle rfl) hm157 hk156 h (fun r159 S158 h => ?_)
    refine jx_icmp_eq (tgt := 1611) dL_law_688 (by decide) (fun c160 => ?_) (fun c160 => ?_)
    · replace h := h.1 c160
      refine jx_iinc 3 (v := (x3 + 6)) (lv1 := [(3, .int (x3 + 6)), (0, .ref a0), (1, .ref a1), (2, .ref a2)]) dL_law_1611 rfl rfl (by show _ < 4; decide) rfl ?_
      refine jx_goto (tgt := 18) dL_law_1614 (by decide) ?_
      exact jx_lv [1, 2, 3, 0] rfl h
    replace h := h.2 c160
    refine jx_iconst (v := 0) dL_law_691 (by decide) ?_
    exact h.elim
  replace h := h.2
  by_cases c161 : ((xs (Int32.toNatClampNeg x3)) &&& 63) = 13
  · replace h := h.1 c161
    refine jx_tableIn (v := 13) (tgt := 693) (off := 660) dL_law_33 c161 (by decide) (by decide) (by decide) (by decide) ?_
    refine jx_aload_n 1 dL_law_693 rfl rfl ?_
    refine jx_aload_n 0 dL_law_694 rfl rfl ?_
    refine jx_iload_n 3 dL_law_695 rfl rfl ?_
    refine jx_iconst (v := 1) dL_law_696 (by decide) ?_
    refine jx_iadd dL_law_697 ?_
    obtain ⟨hi162, h⟩ := h
    refine jx_sld dL_law_698 hi162 ?_
    obtain ⟨hk163, h⟩ := h
    obtain ⟨hm164, h⟩ := h
    obtain ⟨d, hR, h⟩ := h
    refine jx_callVi (M' := mX10_go) (As := [.int (xs (Int32.toNatClampNeg (x3 + 1)))]) jo_X10_go jc_10 rfl jwM_L_69 jwN_X10_go jwX_X10_go dL_law_699 hR rfl (jle rfl) hm164 hk163 h (fun r166 S165 h => ?_)
    refine jx_aload_n 2 dL_law_702 rfl rfl ?_
    refine jx_aload_n 0 dL_law_703 rfl rfl ?_
    refine jx_iload_n 3 dL_law_704 rfl rfl ?_
    refine jx_iconst (v := 1) dL_law_705 (by decide) ?_
    refine jx_iadd dL_law_706 ?_
    refine jx_sld dL_law_707 hi162 ?_
    obtain ⟨hk167, h⟩ := h
    obtain ⟨hm168, h⟩ := h
    obtain ⟨d, hR, h⟩ := h
    refine jx_callVi (M' := mX11_go) (As := [.int (xs (Int32.toNatClampNeg (x3 + 1)))]) jo_X11_go jc_11 rfl jwM_L_72 jwN_X11_go jwX_X11_go dL_law_708 hR rfl (jle rfl) hm168 hk167 h (fun r170 S169 h => ?_)
    refine jx_icmp_eq (tgt := 1611) dL_law_711 (by decide) (fun c171 => ?_) (fun c171 => ?_)
    · replace h := h.1 c171
      refine jx_iinc 3 (v := (x3 + 6)) (lv1 := [(3, .int (x3 + 6)), (0, .ref a0), (1, .ref a1), (2, .ref a2)]) dL_law_1611 rfl rfl (by show _ < 4; decide) rfl ?_
      refine jx_goto (tgt := 18) dL_law_1614 (by decide) ?_
      exact jx_lv [1, 2, 3, 0] rfl h
    replace h := h.2 c171
    refine jx_iconst (v := 0) dL_law_714 (by decide) ?_
    exact h.elim
  replace h := h.2
  by_cases c172 : ((xs (Int32.toNatClampNeg x3)) &&& 63) = 14
  · replace h := h.1 c172
    refine jx_tableIn (v := 14) (tgt := 716) (off := 683) dL_law_33 c172 (by decide) (by decide) (by decide) (by decide) ?_
    refine jx_aload_n 1 dL_law_716 rfl rfl ?_
    refine jx_aload_n 0 dL_law_717 rfl rfl ?_
    refine jx_iload_n 3 dL_law_718 rfl rfl ?_
    refine jx_iconst (v := 1) dL_law_719 (by decide) ?_
    refine jx_iadd dL_law_720 ?_
    obtain ⟨hi173, h⟩ := h
    refine jx_sld dL_law_721 hi173 ?_
    obtain ⟨hk174, h⟩ := h
    obtain ⟨hm175, h⟩ := h
    obtain ⟨d, hR, h⟩ := h
    refine jx_callVi (M' := mX10_learn) (As := [.int (xs (Int32.toNatClampNeg (x3 + 1)))]) jo_X10_learn jc_10 rfl jwM_L_73 jwN_X10_learn jwX_X10_learn dL_law_722 hR rfl (jle rfl) hm175 hk174 h (fun r177 S176 h => ?_)
    refine jx_aload_n 2 dL_law_725 rfl rfl ?_
    refine jx_aload_n 0 dL_law_726 rfl rfl ?_
    refine jx_iload_n 3 dL_law_727 rfl rfl ?_
    refine jx_iconst (v := 1) dL_law_728 (by decide) ?_
    refine jx_iadd dL_law_729 ?_
    refine jx_sld dL_law_730 hi173 ?_
    obtain ⟨hk178, h⟩ := h
    obtain ⟨hm179, h⟩ := h
    obtain ⟨d, hR, h⟩ := h
    refine jx_callVi (M' := mX11_learn) (As := [.int (xs (Int32.toNatClampNeg (x3 + 1)))]) jo_X11_learn jc_11 rfl jwM_L_76 jwN_X11_learn jwX_X11_learn dL_law_731 hR rfl (jle rfl) hm179 hk178 h (fun r181 S180 h => ?_)
    refine jx_icmp_eq (tgt := 1611) dL_law_734 (by decide) (fun c182 => ?_) (fun c182 => ?_)
    · replace h := h.1 c182
      refine jx_iinc 3 (v := (x3 + 6)) (lv1 := [(3, .int (x3 + 6)), (0, .ref a0), (1, .ref a1), (2, .ref a2)]) dL_law_1611 rfl rfl (by show _ < 4; decide) rfl ?_
      refine jx_goto (tgt := 18) dL_law_1614 (by decide) ?_
      exact jx_lv [1, 2, 3, 0] rfl h
    replace h := h.2 c182
    refine jx_iconst (v := 0) dL_law_737 (by decide) ?_
    exact h.elim
  replace h := h.2
  by_cases c183 : ((xs (Int32.toNatClampNeg x3)) &&& 63) = 15
  · replace h := h.1 c183
    refine jx_tableIn (v := 15) (tgt := 739) (off := 706) dL_law_33 c183 (by decide) (by decide) (by decide) (by decide) ?_
    refine jx_aload_n 1 dL_law_739 rfl rfl ?_
    refine jx_aload_n 0 dL_law_740 rfl rfl ?_
    refine jx_iload_n 3 dL_law_741 rfl rfl ?_
    refine jx_iconst (v := 1) dL_law_742 (by decide) ?_
    refine jx_iadd dL_law_743 ?_
    obtain ⟨hi184, h⟩ := h
    refine jx_sld dL_law_744 hi184 ?_
    obtain ⟨hk185, h⟩ := h
    obtain ⟨hm186, h⟩ := h
    obtain ⟨d, hR, h⟩ := h
    refine jx_callVi (M' := mX10_use) (As := [.int (xs (Int32.toNatClampNeg (x3 + 1)))]) jo_X10_use jc_10 rfl jwM_L_77 jwN_X10_use jwX_X10_use dL_law_745 hR rfl (jle rfl) hm186 hk185 h (fun r188 S187 h => ?_)
    refine jx_aload_n 2 dL_law_748 rfl rfl ?_
    refine jx_aload_n 0 dL_law_749 rfl rfl ?_
    refine jx_iload_n 3 dL_law_750 rfl rfl ?_
    refine jx_iconst (v := 1) dL_law_751 (by decide) ?_
    refine jx_iadd dL_law_752 ?_
    refine jx_sld dL_law_753 hi184 ?_
    obtain ⟨hk189, h⟩ := h
    obtain ⟨hm190, h⟩ := h
    obtain ⟨d, hR, h⟩ := h
    refine jx_callVi (M' := mX11_use) (As := [.int (xs (Int32.toNatClampNeg (x3 + 1)))]) jo_X11_use jc_11 rfl jwM_L_80 jwN_X11_use jwX_X11_use dL_law_754 hR rfl (jle rfl) hm190 hk189 h (fun r192 S191 h => ?_)
    refine jx_icmp_eq (tgt := 1611) dL_law_757 (by decide) (fun c193 => ?_) (fun c193 => ?_)
    · replace h := h.1 c193
      refine jx_iinc 3 (v := (x3 + 6)) (lv1 := [(3, .int (x3 + 6)), (0, .ref a0), (1, .ref a1), (2, .ref a2)]) dL_law_1611 rfl rfl (by show _ < 4; decide) rfl ?_
      refine jx_goto (tgt := 18) dL_law_1614 (by decide) ?_
      exact jx_lv [1, 2, 3, 0] rfl h
    replace h := h.2 c193
    refine jx_iconst (v := 0) dL_law_760 (by decide) ?_
    exact h.elim
  replace h := h.2
  by_cases c194 : ((xs (Int32.toNatClampNeg x3)) &&& 63) = 16
  · replace h := h.1 c194
    refine jx_tableIn (v := 16) (tgt := 762) (off := 729) dL_law_33 c194 (by decide) (by decide) (by decide) (by decide) ?_
    refine jx_aload_n 1 dL_law_762 rfl rfl ?_
    refine jx_aload_n 0 dL_law_763 rfl rfl ?_
    refine jx_iload_n 3 dL_law_764 rfl rfl ?_
    refine jx_iconst (v := 1) dL_law_765 (by decide) ?_
    refine jx_iadd dL_law_766 ?_
    obtain ⟨hi195, h⟩ := h
    refine jx_sld dL_law_767 hi195 ?_
    obtain ⟨hk196, h⟩ := h
    obtain ⟨hm197, h⟩ := h
    obtain ⟨d, hR, h⟩ := h
    refine jx_callVi (M' := mX10_rests) (As := [.int (xs (Int32.toNatClampNeg (x3 + 1)))]) jo_X10_rests jc_10 rfl jwM_L_81 jwN_X10_rests jwX_X10_rests dL_law_768 hR rfl (jle rfl) hm197 hk196 h (fun r199 S198 h => ?_)
    refine jx_aload_n 2 dL_law_771 rfl rfl ?_
    refine jx_aload_n 0 dL_law_772 rfl rfl ?_
    refine jx_iload_n 3 dL_law_773 rfl rfl ?_
    refine jx_iconst (v := 1) dL_law_774 (by decide) ?_
    refine jx_iadd dL_law_775 ?_
    refine jx_sld dL_law_776 hi195 ?_
    obtain ⟨hk200, h⟩ := h
    obtain ⟨hm201, h⟩ := h
    obtain ⟨d, hR, h⟩ := h
    refine jx_callVi (M' := mX11_rests) (As := [.int (xs (Int32.toNatClampNeg (x3 + 1)))]) jo_X11_rests jc_11 rfl jwM_L_84 jwN_X11_rests jwX_X11_rests dL_law_777 hR rfl (jle rfl) hm201 hk200 h (fun r203 S202 h => ?_)
    refine jx_icmp_eq (tgt := 1611) dL_law_780 (by decide) (fun c204 => ?_) (fun c204 => ?_)
    · replace h := h.1 c204
      refine jx_iinc 3 (v := (x3 + 6)) (lv1 := [(3, .int (x3 + 6)), (0, .ref a0), (1, .ref a1), (2, .ref a2)]) dL_law_1611 rfl rfl (by show _ < 4; decide) rfl ?_
      refine jx_goto (tgt := 18) dL_law_1614 (by decide) ?_
      exact jx_lv [1, 2, 3, 0] rfl h
    replace h := h.2 c204
    refine jx_iconst (v := 0) dL_law_783 (by decide) ?_
    exact h.elim
  replace h := h.2
  by_cases c205 : ((xs (Int32.toNatClampNeg x3)) &&& 63) = 17
  · replace h := h.1 c205
    refine jx_tableIn (v := 17) (tgt := 785) (off := 752) dL_law_33 c205 (by decide) (by decide) (by decide) (by decide) ?_
    refine jx_aload_n 1 dL_law_785 rfl rfl ?_
    refine jx_aload_n 0 dL_law_786 rfl rfl ?_
    refine jx_iload_n 3 dL_law_787 rfl rfl ?_
    refine jx_iconst (v := 1) dL_law_788 (by decide) ?_
    refine jx_iadd dL_law_789 ?_
    obtain ⟨hi206, h⟩ := h
    refine jx_sld dL_law_790 hi206 ?_
    obtain ⟨hk207, h⟩ := h
    obtain ⟨hm208, h⟩ := h
    obtain ⟨d, hR, h⟩ := h
    refine jx_callVi (M' := mX10_wants) (As := [.int (xs (Int32.toNatClampNeg (x3 + 1)))]) jo_X10_wants jc_10 rfl jwM_L_85 jwN_X10_wants jwX_X10_wants dL_law_791 hR rfl (jle rfl) hm208 hk207 h (fun r210 S209 h => ?_)
    refine jx_aload_n 2 dL_law_794 rfl rfl ?_
    refine jx_aload_n 0 dL_law_795 rfl rfl ?_
    refine jx_iload_n 3 dL_law_796 rfl rfl ?_
    refine jx_iconst (v := 1) dL_law_797 (by decide) ?_
    refine jx_iadd dL_law_798 ?_
    refine jx_sld dL_law_799 hi206 ?_
    obtain ⟨hk211, h⟩ := h
    obtain ⟨hm212, h⟩ := h
    obtain ⟨d, hR, h⟩ := h
    refine jx_callVi (M' := mX11_wants) (As := [.int (xs (Int32.toNatClampNeg (x3 + 1)))]) jo_X11_wants jc_11 rfl jwM_L_88 jwN_X11_wants jwX_X11_wants dL_law_800 hR rfl (jle rfl) hm212 hk211 h (fun r214 S213 h => ?_)
    refine jx_icmp_eq (tgt := 1611) dL_law_803 (by decide) (fun c215 => ?_) (fun c215 => ?_)
    · replace h := h.1 c215
      refine jx_iinc 3 (v := (x3 + 6)) (lv1 := [(3, .int (x3 + 6)), (0, .ref a0), (1, .ref a1), (2, .ref a2)]) dL_law_1611 rfl rfl (by show _ < 4; decide) rfl ?_
      refine jx_goto (tgt := 18) dL_law_1614 (by decide) ?_
      exact jx_lv [1, 2, 3, 0] rfl h
    replace h := h.2 c215
    refine jx_iconst (v := 0) dL_law_806 (by decide) ?_
    exact h.elim
  replace h := h.2
  by_cases c216 : ((xs (Int32.toNatClampNeg x3)) &&& 63) = 18
  · replace h := h.1 c216
    refine jx_tableIn (v := 18) (tgt := 808) (off := 775) dL_law_33 c216 (by decide) (by decide) (by decide) (by decide) ?_
    refine jx_aload_n 1 dL_law_808 rfl rfl ?_
    obtain ⟨hk217, h⟩ := h
    obtain ⟨hm218, h⟩ := h
    obtain ⟨d, hR, h⟩ := h
    refine jx_callVi (M' := mX10_clear) (As := []) jo_X10_clear jc_10 rfl jwM_L_89 jwN_X10_clear jwX_X10_clear dL_law_809 hR rfl (jle rfl) hm218 hk217 h (fun r220 S219 h => ?_)
    refine jx_aload_n 2 dL_law_812 rfl rfl ?_
    obtain ⟨hk221, h⟩ := h
    obtain ⟨hm222, h⟩ := h
    obtain ⟨d, hR, h⟩ := h
    refine jx_callVi (M' := mX11_clear) (As := []) jo_X11_clear jc_11 rfl jwM_L_93 jwN_X11_clear jwX_X11_clear dL_law_813 hR rfl (jle rfl) hm222 hk221 h (fun r224 S223 h => ?_)
    refine jx_icmp_eq (tgt := 1611) dL_law_816 (by decide) (fun c225 => ?_) (fun c225 => ?_)
    · replace h := h.1 c225
      refine jx_iinc 3 (v := (x3 + 6)) (lv1 := [(3, .int (x3 + 6)), (0, .ref a0), (1, .ref a1), (2, .ref a2)]) dL_law_1611 rfl rfl (by show _ < 4; decide) rfl ?_
      refine jx_goto (tgt := 18) dL_law_1614 (by decide) ?_
      exact jx_lv [1, 2, 3, 0] rfl h
    replace h := h.2 c225
    refine jx_iconst (v := 0) dL_law_819 (by decide) ?_
    exact h.elim
  replace h := h.2
  by_cases c226 : ((xs (Int32.toNatClampNeg x3)) &&& 63) = 19
  · replace h := h.1 c226
    refine jx_tableIn (v := 19) (tgt := 821) (off := 788) dL_law_33 c226 (by decide) (by decide) (by decide) (by decide) ?_
    refine jx_aload_n 1 dL_law_821 rfl rfl ?_
    obtain ⟨hk227, h⟩ := h
    obtain ⟨hm228, h⟩ := h
    obtain ⟨d, hR, h⟩ := h
    refine jx_callVi (M' := mX10_made) (As := []) jo_X10_made jc_10 rfl jwM_L_94 jwN_X10_made jwX_X10_made dL_law_822 hR rfl (jle rfl) hm228 hk227 h (fun r230 S229 h => ?_)
    refine jx_aload_n 2 dL_law_825 rfl rfl ?_
    obtain ⟨hk231, h⟩ := h
    obtain ⟨hm232, h⟩ := h
    obtain ⟨d, hR, h⟩ := h
    refine jx_callVi (M' := mX11_made) (As := []) jo_X11_made jc_11 rfl jwM_L_97 jwN_X11_made jwX_X11_made dL_law_826 hR rfl (jle rfl) hm232 hk231 h (fun r234 S233 h => ?_)
    refine jx_icmp_eq (tgt := 1611) dL_law_829 (by decide) (fun c235 => ?_) (fun c235 => ?_)
    · replace h := h.1 c235
      refine jx_iinc 3 (v := (x3 + 6)) (lv1 := [(3, .int (x3 + 6)), (0, .ref a0), (1, .ref a1), (2, .ref a2)]) dL_law_1611 rfl rfl (by show _ < 4; decide) rfl ?_
      refine jx_goto (tgt := 18) dL_law_1614 (by decide) ?_
      exact jx_lv [1, 2, 3, 0] rfl h
    replace h := h.2 c235
    refine jx_iconst (v := 0) dL_law_832 (by decide) ?_
    exact h.elim
  replace h := h.2
  by_cases c236 : ((xs (Int32.toNatClampNeg x3)) &&& 63) = 20
  · replace h := h.1 c236
    refine jx_tableIn (v := 20) (tgt := 834) (off := 801) dL_law_33 c236 (by decide) (by decide) (by decide) (by decide) ?_
    refine jx_aload_n 1 dL_law_834 rfl rfl ?_
    refine jx_aload_n 0 dL_law_835 rfl rfl ?_
    refine jx_iload_n 3 dL_law_836 rfl rfl ?_
    refine jx_iconst (v := 1) dL_law_837 (by decide) ?_
    refine jx_iadd dL_law_838 ?_
    obtain ⟨hi237, h⟩ := h
    refine jx_sld dL_law_839 hi237 ?_
    obtain ⟨hk238, h⟩ := h
    obtain ⟨hm239, h⟩ := h
    obtain ⟨d, hR, h⟩ := h
    refine jx_callVi (M' := mX10_soonest) (As := [.int (xs (Int32.toNatClampNeg (x3 + 1)))]) jo_X10_soonest jc_10 rfl jwM_L_98 jwN_X10_soonest jwX_X10_soonest dL_law_840 hR rfl (jle rfl) hm239 hk238 h (fun r241 S240 h => ?_)
    refine jx_aload_n 2 dL_law_843 rfl rfl ?_
    refine jx_aload_n 0 dL_law_844 rfl rfl ?_
    refine jx_iload_n 3 dL_law_845 rfl rfl ?_
    refine jx_iconst (v := 1) dL_law_846 (by decide) ?_
    refine jx_iadd dL_law_847 ?_
    refine jx_sld dL_law_848 hi237 ?_
    obtain ⟨hk242, h⟩ := h
    obtain ⟨hm243, h⟩ := h
    obtain ⟨d, hR, h⟩ := h
    refine jx_callVi (M' := mX11_soonest) (As := [.int (xs (Int32.toNatClampNeg (x3 + 1)))]) jo_X11_soonest jc_11 rfl jwM_L_101 jwN_X11_soonest jwX_X11_soonest dL_law_849 hR rfl (jle rfl) hm243 hk242 h (fun r245 S244 h => ?_)
    refine jx_icmp_eq (tgt := 1611) dL_law_852 (by decide) (fun c246 => ?_) (fun c246 => ?_)
    · replace h := h.1 c246
      refine jx_iinc 3 (v := (x3 + 6)) (lv1 := [(3, .int (x3 + 6)), (0, .ref a0), (1, .ref a1), (2, .ref a2)]) dL_law_1611 rfl rfl (by show _ < 4; decide) rfl ?_
      refine jx_goto (tgt := 18) dL_law_1614 (by decide) ?_
      exact jx_lv [1, 2, 3, 0] rfl h
    replace h := h.2 c246
    refine jx_iconst (v := 0) dL_law_855 (by decide) ?_
    exact h.elim
  replace h := h.2
  by_cases c247 : ((xs (Int32.toNatClampNeg x3)) &&& 63) = 21
  · replace h := h.1 c247
    refine jx_tableIn (v := 21) (tgt := 857) (off := 824) dL_law_33 c247 (by decide) (by decide) (by decide) (by decide) ?_
    refine jx_aload_n 1 dL_law_857 rfl rfl ?_
    refine jx_aload_n 0 dL_law_858 rfl rfl ?_
    refine jx_iload_n 3 dL_law_859 rfl rfl ?_
    refine jx_iconst (v := 1) dL_law_860 (by decide) ?_
    refine jx_iadd dL_law_861 ?_
    obtain ⟨hi248, h⟩ := h
    refine jx_sld dL_law_862 hi248 ?_
    obtain ⟨hk249, h⟩ := h
    obtain ⟨hm250, h⟩ := h
    obtain ⟨d, hR, h⟩ := h
    refine jx_callVi (M' := mX10_together) (As := [.int (xs (Int32.toNatClampNeg (x3 + 1)))]) jo_X10_together jc_10 rfl jwM_L_102 jwN_X10_together jwX_X10_together dL_law_863 hR rfl (jle rfl) hm250 hk249 h (fun r252 S251 h => ?_)
    refine jx_aload_n 2 dL_law_866 rfl rfl ?_
    refine jx_aload_n 0 dL_law_867 rfl rfl ?_
    refine jx_iload_n 3 dL_law_868 rfl rfl ?_
    refine jx_iconst (v := 1) dL_law_869 (by decide) ?_
    refine jx_iadd dL_law_870 ?_
    refine jx_sld dL_law_871 hi248 ?_
    obtain ⟨hk253, h⟩ := h
    obtain ⟨hm254, h⟩ := h
    obtain ⟨d, hR, h⟩ := h
    refine jx_callVi (M' := mX11_together) (As := [.int (xs (Int32.toNatClampNeg (x3 + 1)))]) jo_X11_together jc_11 rfl jwM_L_105 jwN_X11_together jwX_X11_together dL_law_872 hR rfl (jle rfl) hm254 hk253 h (fun r256 S255 h => ?_)
    refine jx_icmp_eq (tgt := 1611) dL_law_875 (by decide) (fun c257 => ?_) (fun c257 => ?_)
    · replace h := h.1 c257
      refine jx_iinc 3 (v := (x3 + 6)) (lv1 := [(3, .int (x3 + 6)), (0, .ref a0), (1, .ref a1), (2, .ref a2)]) dL_law_1611 rfl rfl (by show _ < 4; decide) rfl ?_
      refine jx_goto (tgt := 18) dL_law_1614 (by decide) ?_
      exact jx_lv [1, 2, 3, 0] rfl h
    replace h := h.2 c257
    refine jx_iconst (v := 0) dL_law_878 (by decide) ?_
    exact h.elim
  replace h := h.2
  by_cases c258 : ((xs (Int32.toNatClampNeg x3)) &&& 63) = 22
  · replace h := h.1 c258
    refine jx_tableIn (v := 22) (tgt := 880) (off := 847) dL_law_33 c258 (by decide) (by decide) (by decide) (by decide) ?_
    refine jx_aload_n 1 dL_law_880 rfl rfl ?_
    obtain ⟨hk259, h⟩ := h
    obtain ⟨hm260, h⟩ := h
    obtain ⟨d, hR, h⟩ := h
    refine jx_callVi (M' := mX10_never) (As := []) jo_X10_never jc_10 rfl jwM_L_106 jwN_X10_never jwX_X10_never dL_law_881 hR rfl (jle rfl) hm260 hk259 h (fun r262 S261 h => ?_)
    refine jx_aload_n 2 dL_law_884 rfl rfl ?_
    obtain ⟨hk263, h⟩ := h
    obtain ⟨hm264, h⟩ := h
    obtain ⟨d, hR, h⟩ := h
    refine jx_callVi (M' := mX11_never) (As := []) jo_X11_never jc_11 rfl jwM_L_109 jwN_X11_never jwX_X11_never dL_law_885 hR rfl (jle rfl) hm264 hk263 h (fun r266 S265 h => ?_)
    refine jx_icmp_eq (tgt := 1611) dL_law_888 (by decide) (fun c267 => ?_) (fun c267 => ?_)
    · replace h := h.1 c267
      refine jx_iinc 3 (v := (x3 + 6)) (lv1 := [(3, .int (x3 + 6)), (0, .ref a0), (1, .ref a1), (2, .ref a2)]) dL_law_1611 rfl rfl (by show _ < 4; decide) rfl ?_
      refine jx_goto (tgt := 18) dL_law_1614 (by decide) ?_
      exact jx_lv [1, 2, 3, 0] rfl h
    replace h := h.2 c267
    refine jx_iconst (v := 0) dL_law_891 (by decide) ?_
    exact h.elim
  replace h := h.2
  by_cases c268 : ((xs (Int32.toNatClampNeg x3)) &&& 63) = 23
  · replace h := h.1 c268
    refine jx_tableIn (v := 23) (tgt := 893) (off := 860) dL_law_33 c268 (by decide) (by decide) (by decide) (by decide) ?_
    refine jx_aload_n 1 dL_law_893 rfl rfl ?_
    refine jx_aload_n 0 dL_law_894 rfl rfl ?_
    refine jx_iload_n 3 dL_law_895 rfl rfl ?_
    refine jx_iconst (v := 1) dL_law_896 (by decide) ?_
    refine jx_iadd dL_law_897 ?_
    obtain ⟨hi269, h⟩ := h
    refine jx_sld dL_law_898 hi269 ?_
    obtain ⟨hk270, h⟩ := h
    obtain ⟨hm271, h⟩ := h
    obtain ⟨d, hR, h⟩ := h
    refine jx_callVi (M' := mX10_last) (As := [.int (xs (Int32.toNatClampNeg (x3 + 1)))]) jo_X10_last jc_10 rfl jwM_L_110 jwN_X10_last jwX_X10_last dL_law_899 hR rfl (jle rfl) hm271 hk270 h (fun r273 S272 h => ?_)
    refine jx_aload_n 2 dL_law_902 rfl rfl ?_
    refine jx_aload_n 0 dL_law_903 rfl rfl ?_
    refine jx_iload_n 3 dL_law_904 rfl rfl ?_
    refine jx_iconst (v := 1) dL_law_905 (by decide) ?_
    refine jx_iadd dL_law_906 ?_
    refine jx_sld dL_law_907 hi269 ?_
    obtain ⟨hk274, h⟩ := h
    obtain ⟨hm275, h⟩ := h
    obtain ⟨d, hR, h⟩ := h
    refine jx_callVi (M' := mX11_last) (As := [.int (xs (Int32.toNatClampNeg (x3 + 1)))]) jo_X11_last jc_11 rfl jwM_L_113 jwN_X11_last jwX_X11_last dL_law_908 hR rfl (jle rfl) hm275 hk274 h (fun r277 S276 h => ?_)
    refine jx_icmp_eq (tgt := 1611) dL_law_911 (by decide) (fun c278 => ?_) (fun c278 => ?_)
    · replace h := h.1 c278
      refine jx_iinc 3 (v := (x3 + 6)) (lv1 := [(3, .int (x3 + 6)), (0, .ref a0), (1, .ref a1), (2, .ref a2)]) dL_law_1611 rfl rfl (by show _ < 4; decide) rfl ?_
      refine jx_goto (tgt := 18) dL_law_1614 (by decide) ?_
      exact jx_lv [1, 2, 3, 0] rfl h
    replace h := h.2 c278
    refine jx_iconst (v := 0) dL_law_914 (by decide) ?_
    exact h.elim
  replace h := h.2
  by_cases c279 : ((xs (Int32.toNatClampNeg x3)) &&& 63) = 24
  · replace h := h.1 c279
    refine jx_tableIn (v := 24) (tgt := 916) (off := 883) dL_law_33 c279 (by decide) (by decide) (by decide) (by decide) ?_
    refine jx_aload_n 1 dL_law_916 rfl rfl ?_
    refine jx_aload_n 0 dL_law_917 rfl rfl ?_
    refine jx_iload_n 3 dL_law_918 rfl rfl ?_
    refine jx_iconst (v := 1) dL_law_919 (by decide) ?_
    refine jx_iadd dL_law_920 ?_
    obtain ⟨hi280, h⟩ := h
    refine jx_sld dL_law_921 hi280 ?_
    obtain ⟨hk281, h⟩ := h
    obtain ⟨hm282, h⟩ := h
    obtain ⟨d, hR, h⟩ := h
    refine jx_callVi (M' := mX10_years) (As := [.int (xs (Int32.toNatClampNeg (x3 + 1)))]) jo_X10_years jc_10 rfl jwM_L_114 jwN_X10_years jwX_X10_years dL_law_922 hR rfl (jle rfl) hm282 hk281 h (fun r284 S283 h => ?_)
    refine jx_aload_n 2 dL_law_925 rfl rfl ?_
    refine jx_aload_n 0 dL_law_926 rfl rfl ?_
    refine jx_iload_n 3 dL_law_927 rfl rfl ?_
    refine jx_iconst (v := 1) dL_law_928 (by decide) ?_
    refine jx_iadd dL_law_929 ?_
    refine jx_sld dL_law_930 hi280 ?_
    obtain ⟨hk285, h⟩ := h
    obtain ⟨hm286, h⟩ := h
    obtain ⟨d, hR, h⟩ := h
    refine jx_callVi (M' := mX11_years) (As := [.int (xs (Int32.toNatClampNeg (x3 + 1)))]) jo_X11_years jc_11 rfl jwM_L_117 jwN_X11_years jwX_X11_years dL_law_931 hR rfl (jle rfl) hm286 hk285 h (fun r288 S287 h => ?_)
    refine jx_icmp_eq (tgt := 1611) dL_law_934 (by decide) (fun c289 => ?_) (fun c289 => ?_)
    · replace h := h.1 c289
      refine jx_iinc 3 (v := (x3 + 6)) (lv1 := [(3, .int (x3 + 6)), (0, .ref a0), (1, .ref a1), (2, .ref a2)]) dL_law_1611 rfl rfl (by show _ < 4; decide) rfl ?_
      refine jx_goto (tgt := 18) dL_law_1614 (by decide) ?_
      exact jx_lv [1, 2, 3, 0] rfl h
    replace h := h.2 c289
    refine jx_iconst (v := 0) dL_law_937 (by decide) ?_
    exact h.elim
  replace h := h.2
  by_cases c290 : ((xs (Int32.toNatClampNeg x3)) &&& 63) = 25
  · replace h := h.1 c290
    refine jx_tableIn (v := 25) (tgt := 939) (off := 906) dL_law_33 c290 (by decide) (by decide) (by decide) (by decide) ?_
    refine jx_aload_n 1 dL_law_939 rfl rfl ?_
    refine jx_aload_n 0 dL_law_940 rfl rfl ?_
    refine jx_iload_n 3 dL_law_941 rfl rfl ?_
    refine jx_iconst (v := 1) dL_law_942 (by decide) ?_
    refine jx_iadd dL_law_943 ?_
    obtain ⟨hi291, h⟩ := h
    refine jx_sld dL_law_944 hi291 ?_
    obtain ⟨hk292, h⟩ := h
    obtain ⟨hm293, h⟩ := h
    obtain ⟨d, hR, h⟩ := h
    refine jx_callVi (M' := mX10_gone) (As := [.int (xs (Int32.toNatClampNeg (x3 + 1)))]) jo_X10_gone jc_10 rfl jwM_L_118 jwN_X10_gone jwX_X10_gone dL_law_945 hR rfl (jle rfl) hm293 hk292 h (fun r295 S294 h => ?_)
    refine jx_aload_n 2 dL_law_948 rfl rfl ?_
    refine jx_aload_n 0 dL_law_949 rfl rfl ?_
    refine jx_iload_n 3 dL_law_950 rfl rfl ?_
    refine jx_iconst (v := 1) dL_law_951 (by decide) ?_
    refine jx_iadd dL_law_952 ?_
    refine jx_sld dL_law_953 hi291 ?_
    obtain ⟨hk296, h⟩ := h
    obtain ⟨hm297, h⟩ := h
    obtain ⟨d, hR, h⟩ := h
    refine jx_callVi (M' := mX11_gone) (As := [.int (xs (Int32.toNatClampNeg (x3 + 1)))]) jo_X11_gone jc_11 rfl jwM_L_121 jwN_X11_gone jwX_X11_gone dL_law_954 hR rfl (jle rfl) hm297 hk296 h (fun r299 S298 h => ?_)
    refine jx_icmp_eq (tgt := 1611) dL_law_957 (by decide) (fun c300 => ?_) (fun c300 => ?_)
    · replace h := h.1 c300
      refine jx_iinc 3 (v := (x3 + 6)) (lv1 := [(3, .int (x3 + 6)), (0, .ref a0), (1, .ref a1), (2, .ref a2)]) dL_law_1611 rfl rfl (by show _ < 4; decide) rfl ?_
      refine jx_goto (tgt := 18) dL_law_1614 (by decide) ?_
      exact jx_lv [1, 2, 3, 0] rfl h
    replace h := h.2 c300
    refine jx_iconst (v := 0) dL_law_960 (by decide) ?_
    exact h.elim
  replace h := h.2
  by_cases c301 : ((xs (Int32.toNatClampNeg x3)) &&& 63) = 26
  · replace h := h.1 c301
    refine jx_tableIn (v := 26) (tgt := 962) (off := 929) dL_law_33 c301 (by decide) (by decide) (by decide) (by decide) ?_
    refine jx_aload_n 1 dL_law_962 rfl rfl ?_
    obtain ⟨hk302, h⟩ := h
    obtain ⟨hm303, h⟩ := h
    obtain ⟨d, hR, h⟩ := h
    refine jx_callVi (M' := mX10_fresh) (As := []) jo_X10_fresh jc_10 rfl jwM_L_122 jwN_X10_fresh jwX_X10_fresh dL_law_963 hR rfl (jle rfl) hm303 hk302 h (fun r305 S304 h => ?_)
    refine jx_aload_n 2 dL_law_966 rfl rfl ?_
    obtain ⟨hk306, h⟩ := h
    obtain ⟨hm307, h⟩ := h
    obtain ⟨d, hR, h⟩ := h
    refine jx_callVi (M' := mX11_fresh) (As := []) jo_X11_fresh jc_11 rfl jwM_L_125 jwN_X11_fresh jwX_X11_fresh dL_law_967 hR rfl (jle rfl) hm307 hk306 h (fun r309 S308 h => ?_)
    refine jx_icmp_eq (tgt := 1611) dL_law_970 (by decide) (fun c310 => ?_) (fun c310 => ?_)
    · replace h := h.1 c310
      refine jx_iinc 3 (v := (x3 + 6)) (lv1 := [(3, .int (x3 + 6)), (0, .ref a0), (1, .ref a1), (2, .ref a2)]) dL_law_1611 rfl rfl (by show _ < 4; decide) rfl ?_
      refine jx_goto (tgt := 18) dL_law_1614 (by decide) ?_
      exact jx_lv [1, 2, 3, 0] rfl h
    replace h := h.2 c310
    refine jx_iconst (v := 0) dL_law_973 (by decide) ?_
    exact h.elim
  replace h := h.2
  by_cases c311 : ((xs (Int32.toNatClampNeg x3)) &&& 63) = 27
  · replace h := h.1 c311
    refine jx_tableIn (v := 27) (tgt := 975) (off := 942) dL_law_33 c311 (by decide) (by decide) (by decide) (by decide) ?_
    refine jx_aload_n 1 dL_law_975 rfl rfl ?_
    refine jx_aload_n 0 dL_law_976 rfl rfl ?_
    refine jx_iload_n 3 dL_law_977 rfl rfl ?_
    refine jx_iconst (v := 1) dL_law_978 (by decide) ?_
    refine jx_iadd dL_law_979 ?_
    obtain ⟨hi312, h⟩ := h
    refine jx_sld dL_law_980 hi312 ?_
    refine jx_aload_n 0 dL_law_981 rfl rfl ?_
    refine jx_iload_n 3 dL_law_982 rfl rfl ?_
    refine jx_iconst (v := 2) dL_law_983 (by decide) ?_
    refine jx_iadd dL_law_984 ?_
    obtain ⟨hi313, h⟩ := h
    refine jx_sld dL_law_985 hi313 ?_
    obtain ⟨hk314, h⟩ := h
    obtain ⟨hm315, h⟩ := h
    obtain ⟨d, hR, h⟩ := h
    refine jx_callVi (M' := mX10_cut) (As := [.int (xs (Int32.toNatClampNeg (x3 + 1))), .int (xs (Int32.toNatClampNeg (x3 + 2)))]) jo_X10_cut jc_10 rfl jwM_L_126 jwN_X10_cut jwX_X10_cut dL_law_986 hR rfl (jle rfl) hm315 hk314 h (fun r317 S316 h => ?_)
    refine jx_aload_n 2 dL_law_989 rfl rfl ?_
    refine jx_aload_n 0 dL_law_990 rfl rfl ?_
    refine jx_iload_n 3 dL_law_991 rfl rfl ?_
    refine jx_iconst (v := 1) dL_law_992 (by decide) ?_
    refine jx_iadd dL_law_993 ?_
    refine jx_sld dL_law_994 hi312 ?_
    refine jx_aload_n 0 dL_law_995 rfl rfl ?_
    refine jx_iload_n 3 dL_law_996 rfl rfl ?_
    refine jx_iconst (v := 2) dL_law_997 (by decide) ?_
    refine jx_iadd dL_law_998 ?_
    refine jx_sld dL_law_999 hi313 ?_
    obtain ⟨hk318, h⟩ := h
    obtain ⟨hm319, h⟩ := h
    obtain ⟨d, hR, h⟩ := h
    refine jx_callVi (M' := mX11_cut) (As := [.int (xs (Int32.toNatClampNeg (x3 + 1))), .int (xs (Int32.toNatClampNeg (x3 + 2)))]) jo_X11_cut jc_11 rfl jwM_L_129 jwN_X11_cut jwX_X11_cut dL_law_1000 hR rfl (jle rfl) hm319 hk318 h (fun r321 S320 h => ?_)
    refine jx_icmp_eq (tgt := 1611) dL_law_1003 (by decide) (fun c322 => ?_) (fun c322 => ?_)
    · replace h := h.1 c322
      refine jx_iinc 3 (v := (x3 + 6)) (lv1 := [(3, .int (x3 + 6)), (0, .ref a0), (1, .ref a1), (2, .ref a2)]) dL_law_1611 rfl rfl (by show _ < 4; decide) rfl ?_
      refine jx_goto (tgt := 18) dL_law_1614 (by decide) ?_
      exact jx_lv [1, 2, 3, 0] rfl h
    replace h := h.2 c322
    refine jx_iconst (v := 0) dL_law_1006 (by decide) ?_
    exact h.elim
  replace h := h.2
  by_cases c323 : ((xs (Int32.toNatClampNeg x3)) &&& 63) = 28
  · replace h := h.1 c323
    refine jx_tableIn (v := 28) (tgt := 1008) (off := 975) dL_law_33 c323 (by decide) (by decide) (by decide) (by decide) ?_
    refine jx_aload_n 1 dL_law_1008 rfl rfl ?_
    refine jx_aload_n 0 dL_law_1009 rfl rfl ?_
    refine jx_iload_n 3 dL_law_1010 rfl rfl ?_
    refine jx_iconst (v := 1) dL_law_1011 (by decide) ?_
    refine jx_iadd dL_law_1012 ?_
    obtain ⟨hi324, h⟩ := h
    refine jx_sld dL_law_1013 hi324 ?_
    obtain ⟨hk325, h⟩ := h
    obtain ⟨hm326, h⟩ := h
    obtain ⟨d, hR, h⟩ := h
    refine jx_callVi (M' := mX10_fame) (As := [.int (xs (Int32.toNatClampNeg (x3 + 1)))]) jo_X10_fame jc_10 rfl jwM_L_130 jwN_X10_fame jwX_X10_fame dL_law_1014 hR rfl (jle rfl) hm326 hk325 h (fun r328 S327 h => ?_)
    refine jx_aload_n 2 dL_law_1017 rfl rfl ?_
    refine jx_aload_n 0 dL_law_1018 rfl rfl ?_
    refine jx_iload_n 3 dL_law_1019 rfl rfl ?_
    refine jx_iconst (v := 1) dL_law_1020 (by decide) ?_
    refine jx_iadd dL_law_1021 ?_
    refine jx_sld dL_law_1022 hi324 ?_
    obtain ⟨hk329, h⟩ := h
    obtain ⟨hm330, h⟩ := h
    obtain ⟨d, hR, h⟩ := h
    refine jx_callVi (M' := mX11_fame) (As := [.int (xs (Int32.toNatClampNeg (x3 + 1)))]) jo_X11_fame jc_11 rfl jwM_L_133 jwN_X11_fame jwX_X11_fame dL_law_1023 hR rfl (jle rfl) hm330 hk329 h (fun r332 S331 h => ?_)
    refine jx_icmp_eq (tgt := 1611) dL_law_1026 (by decide) (fun c333 => ?_) (fun c333 => ?_)
    · replace h := h.1 c333
      refine jx_iinc 3 (v := (x3 + 6)) (lv1 := [(3, .int (x3 + 6)), (0, .ref a0), (1, .ref a1), (2, .ref a2)]) dL_law_1611 rfl rfl (by show _ < 4; decide) rfl ?_
      refine jx_goto (tgt := 18) dL_law_1614 (by decide) ?_
      exact jx_lv [1, 2, 3, 0] rfl h
    replace h := h.2 c333
    refine jx_iconst (v := 0) dL_law_1029 (by decide) ?_
    exact h.elim
  replace h := h.2
  by_cases c334 : ((xs (Int32.toNatClampNeg x3)) &&& 63) = 29
  · replace h := h.1 c334
    refine jx_tableIn (v := 29) (tgt := 1031) (off := 998) dL_law_33 c334 (by decide) (by decide) (by decide) (by decide) ?_
    refine jx_aload_n 1 dL_law_1031 rfl rfl ?_
    obtain ⟨hk335, h⟩ := h
    obtain ⟨hm336, h⟩ := h
    obtain ⟨d, hR, h⟩ := h
    refine jx_callVi (M' := mX10_fine) (As := []) jo_X10_fine jc_10 rfl jwM_L_134 jwN_X10_fine jwX_X10_fine dL_law_1032 hR rfl (jle rfl) hm336 hk335 h (fun r338 S337 h => ?_)
    refine jx_aload_n 2 dL_law_1035 rfl rfl ?_
    obtain ⟨hk339, h⟩ := h
    obtain ⟨hm340, h⟩ := h
    obtain ⟨d, hR, h⟩ := h
    refine jx_callVi (M' := mX11_fine) (As := []) jo_X11_fine jc_11 rfl jwM_L_137 jwN_X11_fine jwX_X11_fine dL_law_1036 hR rfl (jle rfl) hm340 hk339 h (fun r342 S341 h => ?_)
    refine jx_icmp_eq (tgt := 1611) dL_law_1039 (by decide) (fun c343 => ?_) (fun c343 => ?_)
    · replace h := h.1 c343
      refine jx_iinc 3 (v := (x3 + 6)) (lv1 := [(3, .int (x3 + 6)), (0, .ref a0), (1, .ref a1), (2, .ref a2)]) dL_law_1611 rfl rfl (by show _ < 4; decide) rfl ?_
      refine jx_goto (tgt := 18) dL_law_1614 (by decide) ?_
      exact jx_lv [1, 2, 3, 0] rfl h
    replace h := h.2 c343
    refine jx_iconst (v := 0) dL_law_1042 (by decide) ?_
    exact h.elim
  replace h := h.2
  by_cases c344 : ((xs (Int32.toNatClampNeg x3)) &&& 63) = 30
  · replace h := h.1 c344
    refine jx_tableIn (v := 30) (tgt := 1044) (off := 1011) dL_law_33 c344 (by decide) (by decide) (by decide) (by decide) ?_
    refine jx_aload_n 1 dL_law_1044 rfl rfl ?_
    refine jx_aload_n 0 dL_law_1045 rfl rfl ?_
    refine jx_iload_n 3 dL_law_1046 rfl rfl ?_
    refine jx_iconst (v := 1) dL_law_1047 (by decide) ?_
    refine jx_iadd dL_law_1048 ?_
    obtain ⟨hi345, h⟩ := h
    refine jx_sld dL_law_1049 hi345 ?_
    refine jx_aload_n 0 dL_law_1050 rfl rfl ?_
    refine jx_iload_n 3 dL_law_1051 rfl rfl ?_
    refine jx_iconst (v := 2) dL_law_1052 (by decide) ?_
    refine jx_iadd dL_law_1053 ?_
    obtain ⟨hi346, h⟩ := h
    refine jx_sld dL_law_1054 hi346 ?_
    refine jx_aload_n 0 dL_law_1055 rfl rfl ?_
    refine jx_iload_n 3 dL_law_1056 rfl rfl ?_
    refine jx_iconst (v := 3) dL_law_1057 (by decide) ?_
    refine jx_iadd dL_law_1058 ?_
    obtain ⟨hi347, h⟩ := h
    refine jx_sld dL_law_1059 hi347 ?_
    obtain ⟨hk348, h⟩ := h
    obtain ⟨hm349, h⟩ := h
    obtain ⟨d, hR, h⟩ := h
    refine jx_callVi (M' := mX10_feed) (As := [.int (xs (Int32.toNatClampNeg (x3 + 1))), .int (xs (Int32.toNatClampNeg (x3 + 2))), .int (xs (Int32.toNatClampNeg (x3 + 3)))]) jo_X10_feed jc_10 rfl jwM_L_138 jwN_X10_feed jwX_X10_feed dL_law_1060 hR rfl (jle rfl) hm349 hk348 h (fun r351 S350 h => ?_)
    refine jx_aload_n 2 dL_law_1063 rfl rfl ?_
    refine jx_aload_n 0 dL_law_1064 rfl rfl ?_
    refine jx_iload_n 3 dL_law_1065 rfl rfl ?_
    refine jx_iconst (v := 1) dL_law_1066 (by decide) ?_
    refine jx_iadd dL_law_1067 ?_
    refine jx_sld dL_law_1068 hi345 ?_
    refine jx_aload_n 0 dL_law_1069 rfl rfl ?_
    refine jx_iload_n 3 dL_law_1070 rfl rfl ?_
    refine jx_iconst (v := 2) dL_law_1071 (by decide) ?_
    refine jx_iadd dL_law_1072 ?_
    refine jx_sld dL_law_1073 hi346 ?_
    refine jx_aload_n 0 dL_law_1074 rfl rfl ?_
    refine jx_iload_n 3 dL_law_1075 rfl rfl ?_
    refine jx_iconst (v := 3) dL_law_1076 (by decide) ?_
    refine jx_iadd dL_law_1077 ?_
    refine jx_sld dL_law_1078 hi347 ?_
    obtain ⟨hk352, h⟩ := h
    obtain ⟨hm353, h⟩ := h
    obtain ⟨d, hR, h⟩ := h
    refine jx_callVi (M' := mX11_feed) (As := [.int (xs (Int32.toNatClampNeg (x3 + 1))), .int (xs (Int32.toNatClampNeg (x3 + 2))), .int (xs (Int32.toNatClampNeg (x3 + 3)))]) jo_X11_feed jc_11 rfl jwM_L_141 jwN_X11_feed jwX_X11_feed dL_law_1079 hR rfl (jle rfl) hm353 hk352 h (fun r355 S354 h => ?_)
    refine jx_icmp_eq (tgt := 1611) dL_law_1082 (by decide) (fun c356 => ?_) (fun c356 => ?_)
    · replace h := h.1 c356
      refine jx_iinc 3 (v := (x3 + 6)) (lv1 := [(3, .int (x3 + 6)), (0, .ref a0), (1, .ref a1), (2, .ref a2)]) dL_law_1611 rfl rfl (by show _ < 4; decide) rfl ?_
      refine jx_goto (tgt := 18) dL_law_1614 (by decide) ?_
      exact jx_lv [1, 2, 3, 0] rfl h
    replace h := h.2 c356
    refine jx_iconst (v := 0) dL_law_1085 (by decide) ?_
    exact h.elim
  replace h := h.2
  by_cases c357 : ((xs (Int32.toNatClampNeg x3)) &&& 63) = 31
  · replace h := h.1 c357
    refine jx_tableIn (v := 31) (tgt := 1087) (off := 1054) dL_law_33 c357 (by decide) (by decide) (by decide) (by decide) ?_
    refine jx_aload_n 1 dL_law_1087 rfl rfl ?_
    refine jx_aload_n 0 dL_law_1088 rfl rfl ?_
    refine jx_iload_n 3 dL_law_1089 rfl rfl ?_
    refine jx_iconst (v := 1) dL_law_1090 (by decide) ?_
    refine jx_iadd dL_law_1091 ?_
    obtain ⟨hi358, h⟩ := h
    refine jx_sld dL_law_1092 hi358 ?_
    obtain ⟨hk359, h⟩ := h
    obtain ⟨hm360, h⟩ := h
    obtain ⟨d, hR, h⟩ := h
    refine jx_callVi (M' := mX10_trim) (As := [.int (xs (Int32.toNatClampNeg (x3 + 1)))]) jo_X10_trim jc_10 rfl jwM_L_142 jwN_X10_trim jwX_X10_trim dL_law_1093 hR rfl (jle rfl) hm360 hk359 h (fun r362 S361 h => ?_)
    refine jx_aload_n 2 dL_law_1096 rfl rfl ?_
    refine jx_aload_n 0 dL_law_1097 rfl rfl ?_
    refine jx_iload_n 3 dL_law_1098 rfl rfl ?_
    refine jx_iconst (v := 1) dL_law_1099 (by decide) ?_
    refine jx_iadd dL_law_1100 ?_
    refine jx_sld dL_law_1101 hi358 ?_
    obtain ⟨hk363, h⟩ := h
    obtain ⟨hm364, h⟩ := h
    obtain ⟨d, hR, h⟩ := h
    refine jx_callVi (M' := mX11_trim) (As := [.int (xs (Int32.toNatClampNeg (x3 + 1)))]) jo_X11_trim jc_11 rfl jwM_L_145 jwN_X11_trim jwX_X11_trim dL_law_1102 hR rfl (jle rfl) hm364 hk363 h (fun r366 S365 h => ?_)
    refine jx_icmp_eq (tgt := 1611) dL_law_1105 (by decide) (fun c367 => ?_) (fun c367 => ?_)
    · replace h := h.1 c367
      refine jx_iinc 3 (v := (x3 + 6)) (lv1 := [(3, .int (x3 + 6)), (0, .ref a0), (1, .ref a1), (2, .ref a2)]) dL_law_1611 rfl rfl (by show _ < 4; decide) rfl ?_
      refine jx_goto (tgt := 18) dL_law_1614 (by decide) ?_
      exact jx_lv [1, 2, 3, 0] rfl h
    replace h := h.2 c367
    refine jx_iconst (v := 0) dL_law_1108 (by decide) ?_
    exact h.elim
  replace h := h.2
  by_cases c368 : ((xs (Int32.toNatClampNeg x3)) &&& 63) = 32
  · replace h := h.1 c368
    refine jx_tableIn (v := 32) (tgt := 1110) (off := 1077) dL_law_33 c368 (by decide) (by decide) (by decide) (by decide) ?_
    refine jx_aload_n 1 dL_law_1110 rfl rfl ?_
    obtain ⟨hk369, h⟩ := h
    obtain ⟨hm370, h⟩ := h
    obtain ⟨d, hR, h⟩ := h
    refine jx_callVi (M' := mX10_text) (As := []) jo_X10_text jc_10 rfl jwM_L_146 jwN_X10_text jwX_X10_text dL_law_1111 hR rfl (jle rfl) hm370 hk369 h (fun r372 S371 h => ?_)
    refine jx_aload_n 2 dL_law_1114 rfl rfl ?_
    obtain ⟨hk373, h⟩ := h
    obtain ⟨hm374, h⟩ := h
    obtain ⟨d, hR, h⟩ := h
    refine jx_callVi (M' := mX11_text) (As := []) jo_X11_text jc_11 rfl jwM_L_149 jwN_X11_text jwX_X11_text dL_law_1115 hR rfl (jle rfl) hm374 hk373 h (fun r376 S375 h => ?_)
    refine jx_icmp_eq (tgt := 1611) dL_law_1118 (by decide) (fun c377 => ?_) (fun c377 => ?_)
    · replace h := h.1 c377
      refine jx_iinc 3 (v := (x3 + 6)) (lv1 := [(3, .int (x3 + 6)), (0, .ref a0), (1, .ref a1), (2, .ref a2)]) dL_law_1611 rfl rfl (by show _ < 4; decide) rfl ?_
      refine jx_goto (tgt := 18) dL_law_1614 (by decide) ?_
      exact jx_lv [1, 2, 3, 0] rfl h
    replace h := h.2 c377
    refine jx_iconst (v := 0) dL_law_1121 (by decide) ?_
    exact h.elim
  replace h := h.2
  by_cases c378 : ((xs (Int32.toNatClampNeg x3)) &&& 63) = 33
  · replace h := h.1 c378
    refine jx_tableIn (v := 33) (tgt := 1123) (off := 1090) dL_law_33 c378 (by decide) (by decide) (by decide) (by decide) ?_
    refine jx_aload_n 1 dL_law_1123 rfl rfl ?_
    refine jx_aload_n 0 dL_law_1124 rfl rfl ?_
    refine jx_iload_n 3 dL_law_1125 rfl rfl ?_
    refine jx_iconst (v := 1) dL_law_1126 (by decide) ?_
    refine jx_iadd dL_law_1127 ?_
    obtain ⟨hi379, h⟩ := h
    refine jx_sld dL_law_1128 hi379 ?_
    refine jx_aload_n 0 dL_law_1129 rfl rfl ?_
    refine jx_iload_n 3 dL_law_1130 rfl rfl ?_
    refine jx_iconst (v := 2) dL_law_1131 (by decide) ?_
    refine jx_iadd dL_law_1132 ?_
    obtain ⟨hi380, h⟩ := h
    refine jx_sld dL_law_1133 hi380 ?_
    obtain ⟨hk381, h⟩ := h
    obtain ⟨hm382, h⟩ := h
    obtain ⟨d, hR, h⟩ := h
    refine jx_callVi (M' := mX10_textTold) (As := [.int (xs (Int32.toNatClampNeg (x3 + 1))), .int (xs (Int32.toNatClampNeg (x3 + 2)))]) jo_X10_textTold jc_10 rfl jwM_L_150 jwN_X10_textTold jwX_X10_textTold dL_law_1134 hR rfl (jle rfl) hm382 hk381 h (fun r384 S383 h => ?_)
    refine jx_aload_n 2 dL_law_1137 rfl rfl ?_
    refine jx_aload_n 0 dL_law_1138 rfl rfl ?_
    refine jx_iload_n 3 dL_law_1139 rfl rfl ?_
    refine jx_iconst (v := 1) dL_law_1140 (by decide) ?_
    refine jx_iadd dL_law_1141 ?_
    refine jx_sld dL_law_1142 hi379 ?_
    refine jx_aload_n 0 dL_law_1143 rfl rfl ?_
    refine jx_iload_n 3 dL_law_1144 rfl rfl ?_
    refine jx_iconst (v := 2) dL_law_1145 (by decide) ?_
    refine jx_iadd dL_law_1146 ?_
    refine jx_sld dL_law_1147 hi380 ?_
    obtain ⟨hk385, h⟩ := h
    obtain ⟨hm386, h⟩ := h
    obtain ⟨d, hR, h⟩ := h
    refine jx_callVi (M' := mX11_textTold) (As := [.int (xs (Int32.toNatClampNeg (x3 + 1))), .int (xs (Int32.toNatClampNeg (x3 + 2)))]) jo_X11_textTold jc_11 rfl jwM_L_153 jwN_X11_textTold jwX_X11_textTold dL_law_1148 hR rfl (jle rfl) hm386 hk385 h (fun r388 S387 h => ?_)
    refine jx_icmp_eq (tgt := 1611) dL_law_1151 (by decide) (fun c389 => ?_) (fun c389 => ?_)
    · replace h := h.1 c389
      refine jx_iinc 3 (v := (x3 + 6)) (lv1 := [(3, .int (x3 + 6)), (0, .ref a0), (1, .ref a1), (2, .ref a2)]) dL_law_1611 rfl rfl (by show _ < 4; decide) rfl ?_
      refine jx_goto (tgt := 18) dL_law_1614 (by decide) ?_
      exact jx_lv [1, 2, 3, 0] rfl h
    replace h := h.2 c389
    refine jx_iconst (v := 0) dL_law_1154 (by decide) ?_
    exact h.elim
  replace h := h.2
  by_cases c390 : ((xs (Int32.toNatClampNeg x3)) &&& 63) = 34
  · replace h := h.1 c390
    refine jx_tableIn (v := 34) (tgt := 1156) (off := 1123) dL_law_33 c390 (by decide) (by decide) (by decide) (by decide) ?_
    refine jx_aload_n 1 dL_law_1156 rfl rfl ?_
    refine jx_aload_n 0 dL_law_1157 rfl rfl ?_
    refine jx_iload_n 3 dL_law_1158 rfl rfl ?_
    refine jx_iconst (v := 1) dL_law_1159 (by decide) ?_
    refine jx_iadd dL_law_1160 ?_
    obtain ⟨hi391, h⟩ := h
    refine jx_sld dL_law_1161 hi391 ?_
    obtain ⟨hk392, h⟩ := h
    obtain ⟨hm393, h⟩ := h
    obtain ⟨d, hR, h⟩ := h
    refine jx_callVi (M' := mX10_why) (As := [.int (xs (Int32.toNatClampNeg (x3 + 1)))]) jo_X10_why jc_10 rfl jwM_L_154 jwN_X10_why jwX_X10_why dL_law_1162 hR rfl (jle rfl) hm393 hk392 h (fun r395 S394 h => ?_)
    refine jx_aload_n 2 dL_law_1165 rfl rfl ?_
    refine jx_aload_n 0 dL_law_1166 rfl rfl ?_
    refine jx_iload_n 3 dL_law_1167 rfl rfl ?_
    refine jx_iconst (v := 1) dL_law_1168 (by decide) ?_
    refine jx_iadd dL_law_1169 ?_
    refine jx_sld dL_law_1170 hi391 ?_
    obtain ⟨hk396, h⟩ := h
    obtain ⟨hm397, h⟩ := h
    obtain ⟨d, hR, h⟩ := h
    refine jx_callVi (M' := mX11_why) (As := [.int (xs (Int32.toNatClampNeg (x3 + 1)))]) jo_X11_why jc_11 rfl jwM_L_157 jwN_X11_why jwX_X11_why dL_law_1171 hR rfl (jle rfl) hm397 hk396 h (fun r399 S398 h => ?_)
    refine jx_icmp_eq (tgt := 1611) dL_law_1174 (by decide) (fun c400 => ?_) (fun c400 => ?_)
    · replace h := h.1 c400
      refine jx_iinc 3 (v := (x3 + 6)) (lv1 := [(3, .int (x3 + 6)), (0, .ref a0), (1, .ref a1), (2, .ref a2)]) dL_law_1611 rfl rfl (by show _ < 4; decide) rfl ?_
      refine jx_goto (tgt := 18) dL_law_1614 (by decide) ?_
      exact jx_lv [1, 2, 3, 0] rfl h
    replace h := h.2 c400
    refine jx_iconst (v := 0) dL_law_1177 (by decide) ?_
    exact h.elim
  replace h := h.2
  by_cases c401 : ((xs (Int32.toNatClampNeg x3)) &&& 63) = 35
  · replace h := h.1 c401
    refine jx_tableIn (v := 35) (tgt := 1179) (off := 1146) dL_law_33 c401 (by decide) (by decide) (by decide) (by decide) ?_
    refine jx_aload_n 1 dL_law_1179 rfl rfl ?_
    refine jx_aload_n 0 dL_law_1180 rfl rfl ?_
    refine jx_iload_n 3 dL_law_1181 rfl rfl ?_
    refine jx_iconst (v := 1) dL_law_1182 (by decide) ?_
    refine jx_iadd dL_law_1183 ?_
    obtain ⟨hi402, h⟩ := h
    refine jx_sld dL_law_1184 hi402 ?_
    refine jx_aload_n 0 dL_law_1185 rfl rfl ?_
    refine jx_iload_n 3 dL_law_1186 rfl rfl ?_
    refine jx_iconst (v := 2) dL_law_1187 (by decide) ?_
    refine jx_iadd dL_law_1188 ?_
    obtain ⟨hi403, h⟩ := h
    refine jx_sld dL_law_1189 hi403 ?_
    refine jx_aload_n 0 dL_law_1190 rfl rfl ?_
    refine jx_iload_n 3 dL_law_1191 rfl rfl ?_
    refine jx_iconst (v := 3) dL_law_1192 (by decide) ?_
    refine jx_iadd dL_law_1193 ?_
    obtain ⟨hi404, h⟩ := h
    refine jx_sld dL_law_1194 hi404 ?_
    obtain ⟨hk405, h⟩ := h
    obtain ⟨hm406, h⟩ := h
    obtain ⟨d, hR, h⟩ := h
    refine jx_callVi (M' := mX10_sheet) (As := [.int (xs (Int32.toNatClampNeg (x3 + 1))), .int (xs (Int32.toNatClampNeg (x3 + 2))), .int (xs (Int32.toNatClampNeg (x3 + 3)))]) jo_X10_sheet jc_10 rfl jwM_L_158 jwN_X10_sheet jwX_X10_sheet dL_law_1195 hR rfl (jle rfl) hm406 hk405 h (fun r408 S407 h => ?_)
    refine jx_aload_n 2 dL_law_1198 rfl rfl ?_
    refine jx_aload_n 0 dL_law_1199 rfl rfl ?_
    refine jx_iload_n 3 dL_law_1200 rfl rfl ?_
    refine jx_iconst (v := 1) dL_law_1201 (by decide) ?_
    refine jx_iadd dL_law_1202 ?_
    refine jx_sld dL_law_1203 hi402 ?_
    refine jx_aload_n 0 dL_law_1204 rfl rfl ?_
    refine jx_iload_n 3 dL_law_1205 rfl rfl ?_
    refine jx_iconst (v := 2) dL_law_1206 (by decide) ?_
    refine jx_iadd dL_law_1207 ?_
    refine jx_sld dL_law_1208 hi403 ?_
    refine jx_aload_n 0 dL_law_1209 rfl rfl ?_
    refine jx_iload_n 3 dL_law_1210 rfl rfl ?_
    refine jx_iconst (v := 3) dL_law_1211 (by decide) ?_
    refine jx_iadd dL_law_1212 ?_
    refine jx_sld dL_law_1213 hi404 ?_
    obtain ⟨hk409, h⟩ := h
    obtain ⟨hm410, h⟩ := h
    obtain ⟨d, hR, h⟩ := h
    refine jx_callVi (M' := mX11_sheet) (As := [.int (xs (Int32.toNatClampNeg (x3 + 1))), .int (xs (Int32.toNatClampNeg (x3 + 2))), .int (xs (Int32.toNatClampNeg (x3 + 3)))]) jo_X11_sheet jc_11 rfl jwM_L_161 jwN_X11_sheet jwX_X11_sheet dL_law_1214 hR rfl (jle rfl) hm410 hk409 h (fun r412 S411 h => ?_)
    refine jx_icmp_eq (tgt := 1611) dL_law_1217 (by decide) (fun c413 => ?_) (fun c413 => ?_)
    · replace h := h.1 c413
      refine jx_iinc 3 (v := (x3 + 6)) (lv1 := [(3, .int (x3 + 6)), (0, .ref a0), (1, .ref a1), (2, .ref a2)]) dL_law_1611 rfl rfl (by show _ < 4; decide) rfl ?_
      refine jx_goto (tgt := 18) dL_law_1614 (by decide) ?_
      exact jx_lv [1, 2, 3, 0] rfl h
    replace h := h.2 c413
    refine jx_iconst (v := 0) dL_law_1220 (by decide) ?_
    exact h.elim
  replace h := h.2
  by_cases c414 : ((xs (Int32.toNatClampNeg x3)) &&& 63) = 36
  · replace h := h.1 c414
    refine jx_tableIn (v := 36) (tgt := 1222) (off := 1189) dL_law_33 c414 (by decide) (by decide) (by decide) (by decide) ?_
    refine jx_aload_n 1 dL_law_1222 rfl rfl ?_
    refine jx_aload_n 0 dL_law_1223 rfl rfl ?_
    refine jx_iload_n 3 dL_law_1224 rfl rfl ?_
    refine jx_iconst (v := 1) dL_law_1225 (by decide) ?_
    refine jx_iadd dL_law_1226 ?_
    obtain ⟨hi415, h⟩ := h
    refine jx_sld dL_law_1227 hi415 ?_
    refine jx_aload_n 0 dL_law_1228 rfl rfl ?_
    refine jx_iload_n 3 dL_law_1229 rfl rfl ?_
    refine jx_iconst (v := 2) dL_law_1230 (by decide) ?_
    refine jx_iadd dL_law_1231 ?_
    obtain ⟨hi416, h⟩ := h
    refine jx_sld dL_law_1232 hi416 ?_
    refine jx_aload_n 0 dL_law_1233 rfl rfl ?_
    refine jx_iload_n 3 dL_law_1234 rfl rfl ?_
    refine jx_iconst (v := 3) dL_law_1235 (by decide) ?_
    refine jx_iadd dL_law_1236 ?_
    obtain ⟨hi417, h⟩ := h
    refine jx_sld dL_law_1237 hi417 ?_
    obtain ⟨hk418, h⟩ := h
    obtain ⟨hm419, h⟩ := h
    obtain ⟨d, hR, h⟩ := h
    refine jx_callVi (M' := mX10_mark) (As := [.int (xs (Int32.toNatClampNeg (x3 + 1))), .int (xs (Int32.toNatClampNeg (x3 + 2))), .int (xs (Int32.toNatClampNeg (x3 + 3)))]) jo_X10_mark jc_10 rfl jwM_L_162 jwN_X10_mark jwX_X10_mark dL_law_1238 hR rfl (jle rfl) hm419 hk418 h (fun r421 S420 h => ?_)
    refine jx_aload_n 2 dL_law_1241 rfl rfl ?_
    refine jx_aload_n 0 dL_law_1242 rfl rfl ?_
    refine jx_iload_n 3 dL_law_1243 rfl rfl ?_
    refine jx_iconst (v := 1) dL_law_1244 (by decide) ?_
    refine jx_iadd dL_law_1245 ?_
    refine jx_sld dL_law_1246 hi415 ?_
    refine jx_aload_n 0 dL_law_1247 rfl rfl ?_
    refine jx_iload_n 3 dL_law_1248 rfl rfl ?_
    refine jx_iconst (v := 2) dL_law_1249 (by decide) ?_
    refine jx_iadd dL_law_1250 ?_
    refine jx_sld dL_law_1251 hi416 ?_
    refine jx_aload_n 0 dL_law_1252 rfl rfl ?_
    refine jx_iload_n 3 dL_law_1253 rfl rfl ?_
    refine jx_iconst (v := 3) dL_law_1254 (by decide) ?_
    refine jx_iadd dL_law_1255 ?_
    refine jx_sld dL_law_1256 hi417 ?_
    obtain ⟨hk422, h⟩ := h
    obtain ⟨hm423, h⟩ := h
    obtain ⟨d, hR, h⟩ := h
    refine jx_callVi (M' := mX11_mark) (As := [.int (xs (Int32.toNatClampNeg (x3 + 1))), .int (xs (Int32.toNatClampNeg (x3 + 2))), .int (xs (Int32.toNatClampNeg (x3 + 3)))]) jo_X11_mark jc_11 rfl jwM_L_165 jwN_X11_mark jwX_X11_mark dL_law_1257 hR rfl (jle rfl) hm423 hk422 h (fun r425 S424 h => ?_)
    refine jx_icmp_eq (tgt := 1611) dL_law_1260 (by decide) (fun c426 => ?_) (fun c426 => ?_)
    · replace h := h.1 c426
      refine jx_iinc 3 (v := (x3 + 6)) (lv1 := [(3, .int (x3 + 6)), (0, .ref a0), (1, .ref a1), (2, .ref a2)]) dL_law_1611 rfl rfl (by show _ < 4; decide) rfl ?_
      refine jx_goto (tgt := 18) dL_law_1614 (by decide) ?_
      exact jx_lv [1, 2, 3, 0] rfl h
    replace h := h.2 c426
    refine jx_iconst (v := 0) dL_law_1263 (by decide) ?_
    exact h.elim
  replace h := h.2
  by_cases c427 : ((xs (Int32.toNatClampNeg x3)) &&& 63) = 37
  · replace h := h.1 c427
    refine jx_tableIn (v := 37) (tgt := 1265) (off := 1232) dL_law_33 c427 (by decide) (by decide) (by decide) (by decide) ?_
    refine jx_aload_n 1 dL_law_1265 rfl rfl ?_
    refine jx_aload_n 0 dL_law_1266 rfl rfl ?_
    refine jx_iload_n 3 dL_law_1267 rfl rfl ?_
    refine jx_iconst (v := 1) dL_law_1268 (by decide) ?_
    refine jx_iadd dL_law_1269 ?_
    obtain ⟨hi428, h⟩ := h
    refine jx_sld dL_law_1270 hi428 ?_
    obtain ⟨hk429, h⟩ := h
    obtain ⟨hm430, h⟩ := h
    obtain ⟨d, hR, h⟩ := h
    refine jx_callVi (M' := mX10_pour) (As := [.int (xs (Int32.toNatClampNeg (x3 + 1)))]) jo_X10_pour jc_10 rfl jwM_L_166 jwN_X10_pour jwX_X10_pour dL_law_1271 hR rfl (jle rfl) hm430 hk429 h (fun r432 S431 h => ?_)
    refine jx_aload_n 2 dL_law_1274 rfl rfl ?_
    refine jx_aload_n 0 dL_law_1275 rfl rfl ?_
    refine jx_iload_n 3 dL_law_1276 rfl rfl ?_
    refine jx_iconst (v := 1) dL_law_1277 (by decide) ?_
    refine jx_iadd dL_law_1278 ?_
    refine jx_sld dL_law_1279 hi428 ?_
    obtain ⟨hk433, h⟩ := h
    obtain ⟨hm434, h⟩ := h
    obtain ⟨d, hR, h⟩ := h
    refine jx_callVi (M' := mX11_pour) (As := [.int (xs (Int32.toNatClampNeg (x3 + 1)))]) jo_X11_pour jc_11 rfl jwM_L_169 jwN_X11_pour jwX_X11_pour dL_law_1280 hR rfl (jle rfl) hm434 hk433 h (fun r436 S435 h => ?_)
    refine jx_icmp_eq (tgt := 1611) dL_law_1283 (by decide) (fun c437 => ?_) (fun c437 => ?_)
    · replace h := h.1 c437
      refine jx_iinc 3 (v := (x3 + 6)) (lv1 := [(3, .int (x3 + 6)), (0, .ref a0), (1, .ref a1), (2, .ref a2)]) dL_law_1611 rfl rfl (by show _ < 4; decide) rfl ?_
      refine jx_goto (tgt := 18) dL_law_1614 (by decide) ?_
      exact jx_lv [1, 2, 3, 0] rfl h
    replace h := h.2 c437
    refine jx_iconst (v := 0) dL_law_1286 (by decide) ?_
    exact h.elim
  replace h := h.2
  by_cases c438 : ((xs (Int32.toNatClampNeg x3)) &&& 63) = 38
  · replace h := h.1 c438
    refine jx_tableIn (v := 38) (tgt := 1288) (off := 1255) dL_law_33 c438 (by decide) (by decide) (by decide) (by decide) ?_
    refine jx_aload_n 1 dL_law_1288 rfl rfl ?_
    refine jx_aload_n 0 dL_law_1289 rfl rfl ?_
    refine jx_iload_n 3 dL_law_1290 rfl rfl ?_
    refine jx_iconst (v := 1) dL_law_1291 (by decide) ?_
    refine jx_iadd dL_law_1292 ?_
    obtain ⟨hi439, h⟩ := h
    refine jx_sld dL_law_1293 hi439 ?_
    obtain ⟨hk440, h⟩ := h
    obtain ⟨hm441, h⟩ := h
    obtain ⟨d, hR, h⟩ := h
    refine jx_callVi (M' := mX10_reads) (As := [.int (xs (Int32.toNatClampNeg (x3 + 1)))]) jo_X10_reads jc_10 rfl jwM_L_170 jwN_X10_reads jwX_X10_reads dL_law_1294 hR rfl (jle rfl) hm441 hk440 h (fun r443 S442 h => ?_)
    refine jx_aload_n 2 dL_law_1297 rfl rfl ?_
    refine jx_aload_n 0 dL_law_1298 rfl rfl ?_
    refine jx_iload_n 3 dL_law_1299 rfl rfl ?_
    refine jx_iconst (v := 1) dL_law_1300 (by decide) ?_
    refine jx_iadd dL_law_1301 ?_
    refine jx_sld dL_law_1302 hi439 ?_
    obtain ⟨hk444, h⟩ := h
    obtain ⟨hm445, h⟩ := h
    obtain ⟨d, hR, h⟩ := h
    refine jx_callVi (M' := mX11_reads) (As := [.int (xs (Int32.toNatClampNeg (x3 + 1)))]) jo_X11_reads jc_11 rfl jwM_L_173 jwN_X11_reads jwX_X11_reads dL_law_1303 hR rfl (jle rfl) hm445 hk444 h (fun r447 S446 h => ?_)
    refine jx_icmp_eq (tgt := 1611) dL_law_1306 (by decide) (fun c448 => ?_) (fun c448 => ?_)
    · replace h := h.1 c448
      refine jx_iinc 3 (v := (x3 + 6)) (lv1 := [(3, .int (x3 + 6)), (0, .ref a0), (1, .ref a1), (2, .ref a2)]) dL_law_1611 rfl rfl (by show _ < 4; decide) rfl ?_
      refine jx_goto (tgt := 18) dL_law_1614 (by decide) ?_
      exact jx_lv [1, 2, 3, 0] rfl h
    replace h := h.2 c448
    refine jx_iconst (v := 0) dL_law_1309 (by decide) ?_
    exact h.elim
  replace h := h.2
  by_cases c449 : ((xs (Int32.toNatClampNeg x3)) &&& 63) = 39
  · replace h := h.1 c449
    refine jx_tableIn (v := 39) (tgt := 1311) (off := 1278) dL_law_33 c449 (by decide) (by decide) (by decide) (by decide) ?_
    refine jx_aload_n 1 dL_law_1311 rfl rfl ?_
    refine jx_aload_n 0 dL_law_1312 rfl rfl ?_
    refine jx_iload_n 3 dL_law_1313 rfl rfl ?_
    refine jx_iconst (v := 1) dL_law_1314 (by decide) ?_
    refine jx_iadd dL_law_1315 ?_
    obtain ⟨hi450, h⟩ := h
    refine jx_sld dL_law_1316 hi450 ?_
    refine jx_aload_n 0 dL_law_1317 rfl rfl ?_
    refine jx_iload_n 3 dL_law_1318 rfl rfl ?_
    refine jx_iconst (v := 2) dL_law_1319 (by decide) ?_
    refine jx_iadd dL_law_1320 ?_
    obtain ⟨hi451, h⟩ := h
    refine jx_sld dL_law_1321 hi451 ?_
    refine jx_aload_n 0 dL_law_1322 rfl rfl ?_
    refine jx_iload_n 3 dL_law_1323 rfl rfl ?_
    refine jx_iconst (v := 3) dL_law_1324 (by decide) ?_
    refine jx_iadd dL_law_1325 ?_
    obtain ⟨hi452, h⟩ := h
    refine jx_sld dL_law_1326 hi452 ?_
    refine jx_aload_n 0 dL_law_1327 rfl rfl ?_
    refine jx_iload_n 3 dL_law_1328 rfl rfl ?_
    refine jx_iconst (v := 4) dL_law_1329 (by decide) ?_
    refine jx_iadd dL_law_1330 ?_
    obtain ⟨hi453, h⟩ := h
    refine jx_sld dL_law_1331 hi453 ?_
    refine jx_aload_n 0 dL_law_1332 rfl rfl ?_
    refine jx_iload_n 3 dL_law_1333 rfl rfl ?_
    refine jx_iconst (v := 5) dL_law_1334 (by decide) ?_
    refine jx_iadd dL_law_1335 ?_
    obtain ⟨hi454, h⟩ := h
    refine jx_sld dL_law_1336 hi454 ?_
    obtain ⟨hk455, h⟩ := h
    obtain ⟨hm456, h⟩ := h
    obtain ⟨d, hR, h⟩ := h
    refine jx_callVi (M' := mX10_copy) (As := [.int (xs (Int32.toNatClampNeg (x3 + 1))), .int (xs (Int32.toNatClampNeg (x3 + 2))), .int (xs (Int32.toNatClampNeg (x3 + 3))), .int (xs (Int32.toNatClampNeg (x3 + 4))), .int (xs (Int32.toNatClampNeg (x3 + 5)))]) jo_X10_copy jc_10 rfl jwM_L_174 jwN_X10_copy jwX_X10_copy dL_law_1337 hR rfl (jle rfl) hm456 hk455 h (fun r458 S457 h => ?_)
    refine jx_aload_n 2 dL_law_1340 rfl rfl ?_
    refine jx_aload_n 0 dL_law_1341 rfl rfl ?_
    refine jx_iload_n 3 dL_law_1342 rfl rfl ?_
    refine jx_iconst (v := 1) dL_law_1343 (by decide) ?_
    refine jx_iadd dL_law_1344 ?_
    refine jx_sld dL_law_1345 hi450 ?_
    refine jx_aload_n 0 dL_law_1346 rfl rfl ?_
    refine jx_iload_n 3 dL_law_1347 rfl rfl ?_
    refine jx_iconst (v := 2) dL_law_1348 (by decide) ?_
    refine jx_iadd dL_law_1349 ?_
    refine jx_sld dL_law_1350 hi451 ?_
    refine jx_aload_n 0 dL_law_1351 rfl rfl ?_
    refine jx_iload_n 3 dL_law_1352 rfl rfl ?_
    refine jx_iconst (v := 3) dL_law_1353 (by decide) ?_
    refine jx_iadd dL_law_1354 ?_
    refine jx_sld dL_law_1355 hi452 ?_
    refine jx_aload_n 0 dL_law_1356 rfl rfl ?_
    refine jx_iload_n 3 dL_law_1357 rfl rfl ?_
    refine jx_iconst (v := 4) dL_law_1358 (by decide) ?_
    refine jx_iadd dL_law_1359 ?_
    refine jx_sld dL_law_1360 hi453 ?_
    refine jx_aload_n 0 dL_law_1361 rfl rfl ?_
    refine jx_iload_n 3 dL_law_1362 rfl rfl ?_
    refine jx_iconst (v := 5) dL_law_1363 (by decide) ?_
    refine jx_iadd dL_law_1364 ?_
    refine jx_sld dL_law_1365 hi454 ?_
    obtain ⟨hk459, h⟩ := h
    obtain ⟨hm460, h⟩ := h
    obtain ⟨d, hR, h⟩ := h
    refine jx_callVi (M' := mX11_copy) (As := [.int (xs (Int32.toNatClampNeg (x3 + 1))), .int (xs (Int32.toNatClampNeg (x3 + 2))), .int (xs (Int32.toNatClampNeg (x3 + 3))), .int (xs (Int32.toNatClampNeg (x3 + 4))), .int (xs (Int32.toNatClampNeg (x3 + 5)))]) jo_X11_copy jc_11 rfl jwM_L_178 jwN_X11_copy jwX_X11_copy dL_law_1366 hR rfl (jle rfl) hm460 hk459 h (fun r462 S461 h => ?_)
    refine jx_icmp_eq (tgt := 1611) dL_law_1369 (by decide) (fun c463 => ?_) (fun c463 => ?_)
    · replace h := h.1 c463
      refine jx_iinc 3 (v := (x3 + 6)) (lv1 := [(3, .int (x3 + 6)), (0, .ref a0), (1, .ref a1), (2, .ref a2)]) dL_law_1611 rfl rfl (by show _ < 4; decide) rfl ?_
      refine jx_goto (tgt := 18) dL_law_1614 (by decide) ?_
      exact jx_lv [1, 2, 3, 0] rfl h
    replace h := h.2 c463
    refine jx_iconst (v := 0) dL_law_1372 (by decide) ?_
    exact h.elim
  replace h := h.2
  by_cases c464 : ((xs (Int32.toNatClampNeg x3)) &&& 63) = 40
  · replace h := h.1 c464
    refine jx_tableIn (v := 40) (tgt := 1374) (off := 1341) dL_law_33 c464 (by decide) (by decide) (by decide) (by decide) ?_
    refine jx_aload_n 1 dL_law_1374 rfl rfl ?_
    refine jx_aload_n 0 dL_law_1375 rfl rfl ?_
    refine jx_iload_n 3 dL_law_1376 rfl rfl ?_
    refine jx_iconst (v := 1) dL_law_1377 (by decide) ?_
    refine jx_iadd dL_law_1378 ?_
    obtain ⟨hi465, h⟩ := h
    refine jx_sld dL_law_1379 hi465 ?_
    refine jx_aload_n 0 dL_law_1380 rfl rfl ?_
    refine jx_iload_n 3 dL_law_1381 rfl rfl ?_
    refine jx_iconst (v := 2) dL_law_1382 (by decide) ?_
    refine jx_iadd dL_law_1383 ?_
    obtain ⟨hi466, h⟩ := h
    refine jx_sld dL_law_1384 hi466 ?_
    refine jx_aload_n 0 dL_law_1385 rfl rfl ?_
    refine jx_iload_n 3 dL_law_1386 rfl rfl ?_
    refine jx_iconst (v := 3) dL_law_1387 (by decide) ?_
    refine jx_iadd dL_law_1388 ?_
    obtain ⟨hi467, h⟩ := h
    refine jx_sld dL_law_1389 hi467 ?_
    obtain ⟨hk468, h⟩ := h
    obtain ⟨hm469, h⟩ := h
    obtain ⟨d, hR, h⟩ := h
    refine jx_callVi (M' := mX10_lay) (As := [.int (xs (Int32.toNatClampNeg (x3 + 1))), .int (xs (Int32.toNatClampNeg (x3 + 2))), .int (xs (Int32.toNatClampNeg (x3 + 3)))]) jo_X10_lay jc_10 rfl jwM_L_179 jwN_X10_lay jwX_X10_lay dL_law_1390 hR rfl (jle rfl) hm469 hk468 h (fun r471 S470 h => ?_)
    refine jx_aload_n 2 dL_law_1393 rfl rfl ?_
    refine jx_aload_n 0 dL_law_1394 rfl rfl ?_
    refine jx_iload_n 3 dL_law_1395 rfl rfl ?_
    refine jx_iconst (v := 1) dL_law_1396 (by decide) ?_
    refine jx_iadd dL_law_1397 ?_
    refine jx_sld dL_law_1398 hi465 ?_
    refine jx_aload_n 0 dL_law_1399 rfl rfl ?_
    refine jx_iload_n 3 dL_law_1400 rfl rfl ?_
    refine jx_iconst (v := 2) dL_law_1401 (by decide) ?_
    refine jx_iadd dL_law_1402 ?_
    refine jx_sld dL_law_1403 hi466 ?_
    refine jx_aload_n 0 dL_law_1404 rfl rfl ?_
    refine jx_iload_n 3 dL_law_1405 rfl rfl ?_
    refine jx_iconst (v := 3) dL_law_1406 (by decide) ?_
    refine jx_iadd dL_law_1407 ?_
    refine jx_sld dL_law_1408 hi467 ?_
    obtain ⟨hk472, h⟩ := h
    obtain ⟨hm473, h⟩ := h
    obtain ⟨d, hR, h⟩ := h
    refine jx_callVi (M' := mX11_lay) (As := [.int (xs (Int32.toNatClampNeg (x3 + 1))), .int (xs (Int32.toNatClampNeg (x3 + 2))), .int (xs (Int32.toNatClampNeg (x3 + 3)))]) jo_X11_lay jc_11 rfl jwM_L_182 jwN_X11_lay jwX_X11_lay dL_law_1409 hR rfl (jle rfl) hm473 hk472 h (fun r475 S474 h => ?_)
    refine jx_icmp_eq (tgt := 1611) dL_law_1412 (by decide) (fun c476 => ?_) (fun c476 => ?_)
    · replace h := h.1 c476
      refine jx_iinc 3 (v := (x3 + 6)) (lv1 := [(3, .int (x3 + 6)), (0, .ref a0), (1, .ref a1), (2, .ref a2)]) dL_law_1611 rfl rfl (by show _ < 4; decide) rfl ?_
      refine jx_goto (tgt := 18) dL_law_1614 (by decide) ?_
      exact jx_lv [1, 2, 3, 0] rfl h
    replace h := h.2 c476
    refine jx_iconst (v := 0) dL_law_1415 (by decide) ?_
    exact h.elim
  replace h := h.2
  by_cases c477 : ((xs (Int32.toNatClampNeg x3)) &&& 63) = 41
  · replace h := h.1 c477
    refine jx_tableIn (v := 41) (tgt := 1417) (off := 1384) dL_law_33 c477 (by decide) (by decide) (by decide) (by decide) ?_
    refine jx_aload_n 1 dL_law_1417 rfl rfl ?_
    refine jx_aload_n 0 dL_law_1418 rfl rfl ?_
    refine jx_iload_n 3 dL_law_1419 rfl rfl ?_
    refine jx_iconst (v := 1) dL_law_1420 (by decide) ?_
    refine jx_iadd dL_law_1421 ?_
    obtain ⟨hi478, h⟩ := h
    refine jx_sld dL_law_1422 hi478 ?_
    refine jx_aload_n 0 dL_law_1423 rfl rfl ?_
    refine jx_iload_n 3 dL_law_1424 rfl rfl ?_
    refine jx_iconst (v := 2) dL_law_1425 (by decide) ?_
    refine jx_iadd dL_law_1426 ?_
    obtain ⟨hi479, h⟩ := h
    refine jx_sld dL_law_1427 hi479 ?_
    obtain ⟨hk480, h⟩ := h
    obtain ⟨hm481, h⟩ := h
    obtain ⟨d, hR, h⟩ := h
    refine jx_callVi (M' := mX10_ask) (As := [.int (xs (Int32.toNatClampNeg (x3 + 1))), .int (xs (Int32.toNatClampNeg (x3 + 2)))]) jo_X10_ask jc_10 rfl jwM_L_183 jwN_X10_ask jwX_X10_ask dL_law_1428 hR rfl (jle rfl) hm481 hk480 h (fun r483 S482 h => ?_)
    refine jx_aload_n 2 dL_law_1431 rfl rfl ?_
    refine jx_aload_n 0 dL_law_1432 rfl rfl ?_
    refine jx_iload_n 3 dL_law_1433 rfl rfl ?_
    refine jx_iconst (v := 1) dL_law_1434 (by decide) ?_
    refine jx_iadd dL_law_1435 ?_
    refine jx_sld dL_law_1436 hi478 ?_
    refine jx_aload_n 0 dL_law_1437 rfl rfl ?_
    refine jx_iload_n 3 dL_law_1438 rfl rfl ?_
    refine jx_iconst (v := 2) dL_law_1439 (by decide) ?_
    refine jx_iadd dL_law_1440 ?_
    refine jx_sld dL_law_1441 hi479 ?_
    obtain ⟨hk484, h⟩ := h
    obtain ⟨hm485, h⟩ := h
    obtain ⟨d, hR, h⟩ := h
    refine jx_callVi (M' := mX11_ask) (As := [.int (xs (Int32.toNatClampNeg (x3 + 1))), .int (xs (Int32.toNatClampNeg (x3 + 2)))]) jo_X11_ask jc_11 rfl jwM_L_186 jwN_X11_ask jwX_X11_ask dL_law_1442 hR rfl (jle rfl) hm485 hk484 h (fun r487 S486 h => ?_)
    refine jx_icmp_eq (tgt := 1611) dL_law_1445 (by decide) (fun c488 => ?_) (fun c488 => ?_)
    · replace h := h.1 c488
      refine jx_iinc 3 (v := (x3 + 6)) (lv1 := [(3, .int (x3 + 6)), (0, .ref a0), (1, .ref a1), (2, .ref a2)]) dL_law_1611 rfl rfl (by show _ < 4; decide) rfl ?_
      refine jx_goto (tgt := 18) dL_law_1614 (by decide) ?_
      exact jx_lv [1, 2, 3, 0] rfl h
    replace h := h.2 c488
    refine jx_iconst (v := 0) dL_law_1448 (by decide) ?_
    exact h.elim
  replace h := h.2
  by_cases c489 : ((xs (Int32.toNatClampNeg x3)) &&& 63) = 42
  · replace h := h.1 c489
    refine jx_tableIn (v := 42) (tgt := 1450) (off := 1417) dL_law_33 c489 (by decide) (by decide) (by decide) (by decide) ?_
    refine jx_aload_n 1 dL_law_1450 rfl rfl ?_
    refine jx_aload_n 0 dL_law_1451 rfl rfl ?_
    refine jx_iload_n 3 dL_law_1452 rfl rfl ?_
    refine jx_iconst (v := 1) dL_law_1453 (by decide) ?_
    refine jx_iadd dL_law_1454 ?_
    obtain ⟨hi490, h⟩ := h
    refine jx_sld dL_law_1455 hi490 ?_
    refine jx_aload_n 0 dL_law_1456 rfl rfl ?_
    refine jx_iload_n 3 dL_law_1457 rfl rfl ?_
    refine jx_iconst (v := 2) dL_law_1458 (by decide) ?_
    refine jx_iadd dL_law_1459 ?_
    obtain ⟨hi491, h⟩ := h
    refine jx_sld dL_law_1460 hi491 ?_
    obtain ⟨hk492, h⟩ := h
    obtain ⟨hm493, h⟩ := h
    obtain ⟨d, hR, h⟩ := h
    refine jx_callVi (M' := mX10_item) (As := [.int (xs (Int32.toNatClampNeg (x3 + 1))), .int (xs (Int32.toNatClampNeg (x3 + 2)))]) jo_X10_item jc_10 rfl jwM_L_187 jwN_X10_item jwX_X10_item dL_law_1461 hR rfl (jle rfl) hm493 hk492 h (fun r495 S494 h => ?_)
    refine jx_aload_n 2 dL_law_1464 rfl rfl ?_
    refine jx_aload_n 0 dL_law_1465 rfl rfl ?_
    refine jx_iload_n 3 dL_law_1466 rfl rfl ?_
    refine jx_iconst (v := 1) dL_law_1467 (by decide) ?_
    refine jx_iadd dL_law_1468 ?_
    refine jx_sld dL_law_1469 hi490 ?_
    refine jx_aload_n 0 dL_law_1470 rfl rfl ?_
    refine jx_iload_n 3 dL_law_1471 rfl rfl ?_
    refine jx_iconst (v := 2) dL_law_1472 (by decide) ?_
    refine jx_iadd dL_law_1473 ?_
    refine jx_sld dL_law_1474 hi491 ?_
    obtain ⟨hk496, h⟩ := h
    obtain ⟨hm497, h⟩ := h
    obtain ⟨d, hR, h⟩ := h
    refine jx_callVi (M' := mX11_item) (As := [.int (xs (Int32.toNatClampNeg (x3 + 1))), .int (xs (Int32.toNatClampNeg (x3 + 2)))]) jo_X11_item jc_11 rfl jwM_L_190 jwN_X11_item jwX_X11_item dL_law_1475 hR rfl (jle rfl) hm497 hk496 h (fun r499 S498 h => ?_)
    refine jx_icmp_eq (tgt := 1611) dL_law_1478 (by decide) (fun c500 => ?_) (fun c500 => ?_)
    · replace h := h.1 c500
      refine jx_iinc 3 (v := (x3 + 6)) (lv1 := [(3, .int (x3 + 6)), (0, .ref a0), (1, .ref a1), (2, .ref a2)]) dL_law_1611 rfl rfl (by show _ < 4; decide) rfl ?_
      refine jx_goto (tgt := 18) dL_law_1614 (by decide) ?_
      exact jx_lv [1, 2, 3, 0] rfl h
    replace h := h.2 c500
    refine jx_iconst (v := 0) dL_law_1481 (by decide) ?_
    exact h.elim
  replace h := h.2
  by_cases c501 : ((xs (Int32.toNatClampNeg x3)) &&& 63) = 43
  · replace h := h.1 c501
    refine jx_tableIn (v := 43) (tgt := 1483) (off := 1450) dL_law_33 c501 (by decide) (by decide) (by decide) (by decide) ?_
    refine jx_aload_n 1 dL_law_1483 rfl rfl ?_
    refine jx_aload_n 0 dL_law_1484 rfl rfl ?_
    refine jx_iload_n 3 dL_law_1485 rfl rfl ?_
    refine jx_iconst (v := 1) dL_law_1486 (by decide) ?_
    refine jx_iadd dL_law_1487 ?_
    obtain ⟨hi502, h⟩ := h
    refine jx_sld dL_law_1488 hi502 ?_
    refine jx_aload_n 0 dL_law_1489 rfl rfl ?_
    refine jx_iload_n 3 dL_law_1490 rfl rfl ?_
    refine jx_iconst (v := 2) dL_law_1491 (by decide) ?_
    refine jx_iadd dL_law_1492 ?_
    obtain ⟨hi503, h⟩ := h
    refine jx_sld dL_law_1493 hi503 ?_
    obtain ⟨hk504, h⟩ := h
    obtain ⟨hm505, h⟩ := h
    obtain ⟨d, hR, h⟩ := h
    refine jx_callVi (M' := mX10_rest) (As := [.int (xs (Int32.toNatClampNeg (x3 + 1))), .int (xs (Int32.toNatClampNeg (x3 + 2)))]) jo_X10_rest jc_10 rfl jwM_L_191 jwN_X10_rest jwX_X10_rest dL_law_1494 hR rfl (jle rfl) hm505 hk504 h (fun r507 S506 h => ?_)
    refine jx_aload_n 2 dL_law_1497 rfl rfl ?_
    refine jx_aload_n 0 dL_law_1498 rfl rfl ?_
    refine jx_iload_n 3 dL_law_1499 rfl rfl ?_
    refine jx_iconst (v := 1) dL_law_1500 (by decide) ?_
    refine jx_iadd dL_law_1501 ?_
    refine jx_sld dL_law_1502 hi502 ?_
    refine jx_aload_n 0 dL_law_1503 rfl rfl ?_
    refine jx_iload_n 3 dL_law_1504 rfl rfl ?_
    refine jx_iconst (v := 2) dL_law_1505 (by decide) ?_
    refine jx_iadd dL_law_1506 ?_
    refine jx_sld dL_law_1507 hi503 ?_
    obtain ⟨hk508, h⟩ := h
    obtain ⟨hm509, h⟩ := h
    obtain ⟨d, hR, h⟩ := h
    refine jx_callVi (M' := mX11_rest) (As := [.int (xs (Int32.toNatClampNeg (x3 + 1))), .int (xs (Int32.toNatClampNeg (x3 + 2)))]) jo_X11_rest jc_11 rfl jwM_L_194 jwN_X11_rest jwX_X11_rest dL_law_1508 hR rfl (jle rfl) hm509 hk508 h (fun r511 S510 h => ?_)
    refine jx_icmp_eq (tgt := 1611) dL_law_1511 (by decide) (fun c512 => ?_) (fun c512 => ?_)
    · replace h := h.1 c512
      refine jx_iinc 3 (v := (x3 + 6)) (lv1 := [(3, .int (x3 + 6)), (0, .ref a0), (1, .ref a1), (2, .ref a2)]) dL_law_1611 rfl rfl (by show _ < 4; decide) rfl ?_
      refine jx_goto (tgt := 18) dL_law_1614 (by decide) ?_
      exact jx_lv [1, 2, 3, 0] rfl h
    replace h := h.2 c512
    refine jx_iconst (v := 0) dL_law_1514 (by decide) ?_
    exact h.elim
  replace h := h.2
  by_cases c513 : ((xs (Int32.toNatClampNeg x3)) &&& 63) = 44
  · replace h := h.1 c513
    refine jx_tableIn (v := 44) (tgt := 1516) (off := 1483) dL_law_33 c513 (by decide) (by decide) (by decide) (by decide) ?_
    refine jx_aload_n 1 dL_law_1516 rfl rfl ?_
    refine jx_aload_n 0 dL_law_1517 rfl rfl ?_
    refine jx_iload_n 3 dL_law_1518 rfl rfl ?_
    refine jx_iconst (v := 1) dL_law_1519 (by decide) ?_
    refine jx_iadd dL_law_1520 ?_
    obtain ⟨hi514, h⟩ := h
    refine jx_sld dL_law_1521 hi514 ?_
    obtain ⟨hk515, h⟩ := h
    obtain ⟨hm516, h⟩ := h
    obtain ⟨d, hR, h⟩ := h
    refine jx_callVi (M' := mX10_tell) (As := [.int (xs (Int32.toNatClampNeg (x3 + 1)))]) jo_X10_tell jc_10 rfl jwM_L_195 jwN_X10_tell jwX_X10_tell dL_law_1522 hR rfl (jle rfl) hm516 hk515 h (fun r518 S517 h => ?_)
    refine jx_aload_n 2 dL_law_1525 rfl rfl ?_
    refine jx_aload_n 0 dL_law_1526 rfl rfl ?_
    refine jx_iload_n 3 dL_law_1527 rfl rfl ?_
    refine jx_iconst (v := 1) dL_law_1528 (by decide) ?_
    refine jx_iadd dL_law_1529 ?_
    refine jx_sld dL_law_1530 hi514 ?_
    obtain ⟨hk519, h⟩ := h
    obtain ⟨hm520, h⟩ := h
    obtain ⟨d, hR, h⟩ := h
    refine jx_callVi (M' := mX11_tell) (As := [.int (xs (Int32.toNatClampNeg (x3 + 1)))]) jo_X11_tell jc_11 rfl jwM_L_198 jwN_X11_tell jwX_X11_tell dL_law_1531 hR rfl (jle rfl) hm520 hk519 h (fun r522 S521 h => ?_)
    refine jx_icmp_eq (tgt := 1611) dL_law_1534 (by decide) (fun c523 => ?_) (fun c523 => ?_)
    · replace h := h.1 c523
      refine jx_iinc 3 (v := (x3 + 6)) (lv1 := [(3, .int (x3 + 6)), (0, .ref a0), (1, .ref a1), (2, .ref a2)]) dL_law_1611 rfl rfl (by show _ < 4; decide) rfl ?_
      refine jx_goto (tgt := 18) dL_law_1614 (by decide) ?_
      exact jx_lv [1, 2, 3, 0] rfl h
    replace h := h.2 c523
    refine jx_iconst (v := 0) dL_law_1537 (by decide) ?_
    exact h.elim
  replace h := h.2
  by_cases c524 : ((xs (Int32.toNatClampNeg x3)) &&& 63) = 45
  · replace h := h.1 c524
    refine jx_tableIn (v := 45) (tgt := 1539) (off := 1506) dL_law_33 c524 (by decide) (by decide) (by decide) (by decide) ?_
    refine jx_aload_n 1 dL_law_1539 rfl rfl ?_
    refine jx_aload_n 0 dL_law_1540 rfl rfl ?_
    refine jx_iload_n 3 dL_law_1541 rfl rfl ?_
    refine jx_iconst (v := 1) dL_law_1542 (by decide) ?_
    refine jx_iadd dL_law_1543 ?_
    obtain ⟨hi525, h⟩ := h
    refine jx_sld dL_law_1544 hi525 ?_
    obtain ⟨hk526, h⟩ := h
    obtain ⟨hm527, h⟩ := h
    obtain ⟨d, hR, h⟩ := h
    refine jx_callVi (M' := mX10_check) (As := [.int (xs (Int32.toNatClampNeg (x3 + 1)))]) jo_X10_check jc_10 rfl jwM_L_199 jwN_X10_check jwX_X10_check dL_law_1545 hR rfl (jle rfl) hm527 hk526 h (fun r529 S528 h => ?_)
    refine jx_aload_n 2 dL_law_1548 rfl rfl ?_
    refine jx_aload_n 0 dL_law_1549 rfl rfl ?_
    refine jx_iload_n 3 dL_law_1550 rfl rfl ?_
    refine jx_iconst (v := 1) dL_law_1551 (by decide) ?_
    refine jx_iadd dL_law_1552 ?_
    refine jx_sld dL_law_1553 hi525 ?_
    obtain ⟨hk530, h⟩ := h
    obtain ⟨hm531, h⟩ := h
    obtain ⟨d, hR, h⟩ := h
    refine jx_callVi (M' := mX11_check) (As := [.int (xs (Int32.toNatClampNeg (x3 + 1)))]) jo_X11_check jc_11 rfl jwM_L_202 jwN_X11_check jwX_X11_check dL_law_1554 hR rfl (jle rfl) hm531 hk530 h (fun r533 S532 h => ?_)
    refine jx_icmp_eq (tgt := 1611) dL_law_1557 (by decide) (fun c534 => ?_) (fun c534 => ?_)
    · replace h := h.1 c534
      refine jx_iinc 3 (v := (x3 + 6)) (lv1 := [(3, .int (x3 + 6)), (0, .ref a0), (1, .ref a1), (2, .ref a2)]) dL_law_1611 rfl rfl (by show _ < 4; decide) rfl ?_
      refine jx_goto (tgt := 18) dL_law_1614 (by decide) ?_
      exact jx_lv [1, 2, 3, 0] rfl h
    replace h := h.2 c534
    refine jx_iconst (v := 0) dL_law_1560 (by decide) ?_
    exact h.elim
  replace h := h.2
  by_cases c535 : ((xs (Int32.toNatClampNeg x3)) &&& 63) = 46
  · replace h := h.1 c535
    refine jx_tableIn (v := 46) (tgt := 1562) (off := 1529) dL_law_33 c535 (by decide) (by decide) (by decide) (by decide) ?_
    refine jx_aload_n 1 dL_law_1562 rfl rfl ?_
    obtain ⟨hk536, h⟩ := h
    obtain ⟨hm537, h⟩ := h
    obtain ⟨d, hR, h⟩ := h
    refine jx_callVi (M' := mX10_keep) (As := []) jo_X10_keep jc_10 rfl jwM_L_203 jwN_X10_keep jwX_X10_keep dL_law_1563 hR rfl (jle rfl) hm537 hk536 h (fun r539 S538 h => ?_)
    refine jx_aload_n 2 dL_law_1566 rfl rfl ?_
    obtain ⟨hk540, h⟩ := h
    obtain ⟨hm541, h⟩ := h
    obtain ⟨d, hR, h⟩ := h
    refine jx_callVi (M' := mX11_keep) (As := []) jo_X11_keep jc_11 rfl jwM_L_206 jwN_X11_keep jwX_X11_keep dL_law_1567 hR rfl (jle rfl) hm541 hk540 h (fun r543 S542 h => ?_)
    refine jx_icmp_eq (tgt := 1611) dL_law_1570 (by decide) (fun c544 => ?_) (fun c544 => ?_)
    · replace h := h.1 c544
      refine jx_iinc 3 (v := (x3 + 6)) (lv1 := [(3, .int (x3 + 6)), (0, .ref a0), (1, .ref a1), (2, .ref a2)]) dL_law_1611 rfl rfl (by show _ < 4; decide) rfl ?_
      refine jx_goto (tgt := 18) dL_law_1614 (by decide) ?_
      exact jx_lv [1, 2, 3, 0] rfl h
    replace h := h.2 c544
    refine jx_iconst (v := 0) dL_law_1573 (by decide) ?_
    exact h.elim
  replace h := h.2
  by_cases c545 : ((xs (Int32.toNatClampNeg x3)) &&& 63) = 47
  · replace h := h.1 c545
    refine jx_tableIn (v := 47) (tgt := 1575) (off := 1542) dL_law_33 c545 (by decide) (by decide) (by decide) (by decide) ?_
    refine jx_aload_n 1 dL_law_1575 rfl rfl ?_
    obtain ⟨hk546, h⟩ := h
    obtain ⟨hm547, h⟩ := h
    obtain ⟨d, hR, h⟩ := h
    refine jx_callVi (M' := mX10_back) (As := []) jo_X10_back jc_10 rfl jwM_L_207 jwN_X10_back jwX_X10_back dL_law_1576 hR rfl (jle rfl) hm547 hk546 h (fun r549 S548 h => ?_)
    refine jx_aload_n 2 dL_law_1579 rfl rfl ?_
    obtain ⟨hk550, h⟩ := h
    obtain ⟨hm551, h⟩ := h
    obtain ⟨d, hR, h⟩ := h
    refine jx_callVi (M' := mX11_back) (As := []) jo_X11_back jc_11 rfl jwM_L_210 jwN_X11_back jwX_X11_back dL_law_1580 hR rfl (jle rfl) hm551 hk550 h (fun r553 S552 h => ?_)
    refine jx_icmp_eq (tgt := 1611) dL_law_1583 (by decide) (fun c554 => ?_) (fun c554 => ?_)
    · replace h := h.1 c554
      refine jx_iinc 3 (v := (x3 + 6)) (lv1 := [(3, .int (x3 + 6)), (0, .ref a0), (1, .ref a1), (2, .ref a2)]) dL_law_1611 rfl rfl (by show _ < 4; decide) rfl ?_
      refine jx_goto (tgt := 18) dL_law_1614 (by decide) ?_
      exact jx_lv [1, 2, 3, 0] rfl h
    replace h := h.2 c554
    refine jx_iconst (v := 0) dL_law_1586 (by decide) ?_
    exact h.elim
  replace h := h.2
  by_cases c555 : ((xs (Int32.toNatClampNeg x3)) &&& 63) = 48
  · replace h := h.1 c555
    refine jx_tableIn (v := 48) (tgt := 1588) (off := 1555) dL_law_33 c555 (by decide) (by decide) (by decide) (by decide) ?_
    refine jx_aload_n 1 dL_law_1588 rfl rfl ?_
    refine jx_aload_n 0 dL_law_1589 rfl rfl ?_
    refine jx_iload_n 3 dL_law_1590 rfl rfl ?_
    refine jx_iconst (v := 1) dL_law_1591 (by decide) ?_
    refine jx_iadd dL_law_1592 ?_
    obtain ⟨hi556, h⟩ := h
    refine jx_sld dL_law_1593 hi556 ?_
    obtain ⟨hk557, h⟩ := h
    obtain ⟨hm558, h⟩ := h
    obtain ⟨d, hR, h⟩ := h
    refine jx_callVi (M' := mX10_count) (As := [.int (xs (Int32.toNatClampNeg (x3 + 1)))]) jo_X10_count jc_10 rfl jwM_L_211 jwN_X10_count jwX_X10_count dL_law_1594 hR rfl (jle rfl) hm558 hk557 h (fun r560 S559 h => ?_)
    refine jx_aload_n 2 dL_law_1597 rfl rfl ?_
    refine jx_aload_n 0 dL_law_1598 rfl rfl ?_
    refine jx_iload_n 3 dL_law_1599 rfl rfl ?_
    refine jx_iconst (v := 1) dL_law_1600 (by decide) ?_
    refine jx_iadd dL_law_1601 ?_
    refine jx_sld dL_law_1602 hi556 ?_
    obtain ⟨hk561, h⟩ := h
    obtain ⟨hm562, h⟩ := h
    obtain ⟨d, hR, h⟩ := h
    refine jx_callVi (M' := mX11_count) (As := [.int (xs (Int32.toNatClampNeg (x3 + 1)))]) jo_X11_count jc_11 rfl jwM_L_214 jwN_X11_count jwX_X11_count dL_law_1603 hR rfl (jle rfl) hm562 hk561 h (fun r564 S563 h => ?_)
    refine jx_icmp_eq (tgt := 1611) dL_law_1606 (by decide) (fun c565 => ?_) (fun c565 => ?_)
    · replace h := h.1 c565
      refine jx_iinc 3 (v := (x3 + 6)) (lv1 := [(3, .int (x3 + 6)), (0, .ref a0), (1, .ref a1), (2, .ref a2)]) dL_law_1611 rfl rfl (by show _ < 4; decide) rfl ?_
      refine jx_goto (tgt := 18) dL_law_1614 (by decide) ?_
      exact jx_lv [1, 2, 3, 0] rfl h
    replace h := h.2 c565
    refine jx_iconst (v := 0) dL_law_1609 (by decide) ?_
    exact h.elim
  replace h := h.2
  replace h := h c3 c17 c29 c41 c53 c66 c79 c92 c104 c115 c126 c137 c149 c161 c172 c183 c194 c205 c216 c226 c236 c247 c258 c268 c279 c290 c301 c311 c323 c334 c344 c357 c368 c378 c390 c401 c414 c427 c438 c449 c464 c477 c489 c501 c513 c524 c535 c545 c555
  refine jx_tableD (tgt := 1611) ([0, 1, 2, 3, 4, 5, 6, 7, 8, 9, 10, 11, 12, 13, 14, 15, 16, 17, 18, 19, 20, 21, 22, 23, 24, 25, 26, 27, 28, 29, 30, 31, 32, 33, 34, 35, 36, 37, 38, 39, 40, 41, 42, 43, 44, 45, 46, 47, 48] : List Int) dL_law_33 (by simp only [List.mem_cons, List.not_mem_nil, or_false, forall_eq_or_imp, forall_eq]; exact ⟨lv_neT c3 (by decide), lv_neT c17 (by decide), lv_neT c29 (by decide), lv_neT c41 (by decide), lv_neT c53 (by decide), lv_neT c66 (by decide), lv_neT c79 (by decide), lv_neT c92 (by decide), lv_neT c104 (by decide), lv_neT c115 (by decide), lv_neT c126 (by decide), lv_neT c137 (by decide), lv_neT c149 (by decide), lv_neT c161 (by decide), lv_neT c172 (by decide), lv_neT c183 (by decide), lv_neT c194 (by decide), lv_neT c205 (by decide), lv_neT c216 (by decide), lv_neT c226 (by decide), lv_neT c236 (by decide), lv_neT c247 (by decide), lv_neT c258 (by decide), lv_neT c268 (by decide), lv_neT c279 (by decide), lv_neT c290 (by decide), lv_neT c301 (by decide), lv_neT c311 (by decide), lv_neT c323 (by decide), lv_neT c334 (by decide), lv_neT c344 (by decide), lv_neT c357 (by decide), lv_neT c368 (by decide), lv_neT c378 (by decide), lv_neT c390 (by decide), lv_neT c401 (by decide), lv_neT c414 (by decide), lv_neT c427 (by decide), lv_neT c438 (by decide), lv_neT c449 (by decide), lv_neT c464 (by decide), lv_neT c477 (by decide), lv_neT c489 (by decide), lv_neT c501 (by decide), lv_neT c513 (by decide), lv_neT c524 (by decide), lv_neT c535 (by decide), lv_neT c545 (by decide), lv_neT c555 (by decide)⟩) (by decide) (by decide) (by decide) ?_
  refine jx_iinc 3 (v := (x3 + 6)) (lv1 := [(3, .int (x3 + 6)), (0, .ref a0), (1, .ref a1), (2, .ref a2)]) dL_law_1611 rfl rfl (by show _ < 4; decide) rfl ?_
  refine jx_goto (tgt := 18) dL_law_1614 (by decide) ?_
  exact jx_lv [1, 2, 3, 0] rfl h
set_option maxRecDepth 100000 in
set_option maxHeartbeats 4000000 in
theorem T_L_law {E : jEnv} {nm : String} {L : Nat} {xs : Nat → Int32} {a0 : Nat} {S : jM} (h : ∀ q1, q1 = jn S → ∃ d, jRok room_1 d ∧ jFv E mX10_init d 93 1196 [.ref q1] (jnew S 10 0) (fun S2 => ∀ q3, q3 = jn S2 → ∃ d, jRok room_1 d ∧ jFv E mX11_init d 20 10292 [.ref q3] (jnew S2 11 0) (fun S4 => L_L_law_18 E nm L xs a0 q1 q3 0 S4 115 11534))) : jX E (mLw nm) room_1 (jZL E a0 L xs) 0 [(0, .ref a0)] [] S 0 0 := by
  refine jx_new jc_10 jwK_L_7 jwI_X10 jwZ_X10 jdv_10 dL_law_0 ⟨jle rfl, jle rfl⟩ ?_
  obtain ⟨q1, hq1⟩ : ∃ q, q = jn S := ⟨_, rfl⟩
  rw [← hq1]
  replace h := h q1 hq1
  refine jx_dup dL_law_3 rfl ?_
  obtain ⟨d, hR, h⟩ := h
  refine jx_callIv (M' := mX10_init) (As := []) (b := q1) jo_X10_init rfl jwM_L_9 jwN_X10_init rfl dL_law_4 hR rfl (jle rfl) ⟨jle rfl, jle rfl⟩ h (fun S2 h => ?_)
  refine jx_astore_n (lv1 := [(1, .ref q1), (0, .ref a0)]) dL_law_7 rfl (by show _ < 4; decide) rfl ?_
  refine jx_new jc_11 jwK_L_10 jwI_X11 jwZ_X11 jdv_11 dL_law_8 ⟨jle rfl, jle rfl⟩ ?_
  obtain ⟨q3, hq3⟩ : ∃ q, q = jn S2 := ⟨_, rfl⟩
  rw [← hq3]
  replace h := h q3 hq3
  refine jx_dup dL_law_11 rfl ?_
  obtain ⟨d, hR, h⟩ := h
  refine jx_callIv (M' := mX11_init) (As := []) (b := q3) jo_X11_init rfl jwM_L_12 jwN_X11_init rfl dL_law_12 hR rfl (jle rfl) ⟨jle rfl, jle rfl⟩ h (fun S4 h => ?_)
  refine jx_astore_n (lv1 := [(2, .ref q3), (1, .ref q1), (0, .ref a0)]) dL_law_15 rfl (by show _ < 4; decide) rfl ?_
  refine jx_iconst (v := 0) dL_law_16 (by decide) ?_
  refine jx_istore_n (lv1 := [(3, .int 0), (2, .ref q3), (1, .ref q1), (0, .ref a0)]) dL_law_17 rfl (by show _ < 4; decide) rfl ?_
  exact jx_lv [3, 2, 1, 0] rfl h
