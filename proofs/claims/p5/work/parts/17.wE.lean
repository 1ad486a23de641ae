section
/-- X11_init at its loop's head 180 -/
abbrev L_X11_init_180 (E : jEnv) (d : Nat) (Q : jM → Prop) (a0 : Nat) (x1 : Int32) (S : jM) (c9 k9 : Nat) : Prop := jX E mX11_init (jRm (d + 1) 20 10292) (jZm E (fun r S' => r = none ∧ Q S') 20 10292) 180 [(0, .ref a0), (1, .int x1)] [] S c9 k9
set_option maxRecDepth 100000 in
set_option maxHeartbeats 4000000 in
theorem T_X11_init {E : jEnv} {d : Nat} {Q : jM → Prop} {a0 : Nat} {S : jM} (h : ∀ q1, q1 = jn S → jk (jnew S 12 3135) a0 = 11 ∧ ∀ q4, q4 = jn (jputr (jnew S 12 3135) a0 0 (some q1)) → jk (jnew (jputr (jnew S 12 3135) a0 0 (some q1)) 12 3135) a0 = 11 ∧ ∀ q7, q7 = jn (jputr (jnew (jputr (jnew S 12 3135) a0 0 (some q1)) 12 3135) a0 1 (some q4)) → jk (jnew (jputr (jnew (jputr (jnew S 12 3135) a0 0 (some q1)) 12 3135) a0 1 (some q4)) 12 3135) a0 = 11 ∧ ∀ q10, q10 = jn (jputr (jnew (jputr (jnew (jputr (jnew S 12 3135) a0 0 (some q1)) 12 3135) a0 1 (some q4)) 12 3135) a0 2 (some q7)) → jk (jnew (jputr (jnew (jputr (jnew (jputr (jnew S 12 3135) a0 0 (some q1)) 12 3135) a0 1 (some q4)) 12 3135) a0 2 (some q7)) 12 4) a0 = 11 ∧ ∀ q13, q13 = jn (jputr (jnew (jputr (jnew (jputr (jnew (jputr (jnew S 12 3135) a0 0 (some q1)) 12 3135) a0 1 (some q4)) 12 3135) a0 2 (some q7)) 12 4) a0 4 (some q10)) → jk (jnew (jputr (jnew (jputr (jnew (jputr (jnew (jputr (jnew S 12 3135) a0 0 (some q1)) 12 3135) a0 1 (some q4)) 12 3135) a0 2 (some q7)) 12 4) a0 4 (some q10)) 12 4) a0 = 11 ∧ ∀ q16, q16 = jn (jputr (jnew (jputr (jnew (jputr (jnew (jputr (jnew (jputr (jnew S 12 3135) a0 0 (some q1)) 12 3135) a0 1 (some q4)) 12 3135) a0 2 (some q7)) 12 4) a0 4 (some q10)) 12 4) a0 5 (some q13)) → jk (jnew (jputr (jnew (jputr (jnew (jputr (jnew (jputr (jnew (jputr (jnew S 12 3135) a0 0 (some q1)) 12 3135) a0 1 (some q4)) 12 3135) a0 2 (some q7)) 12 4) a0 4 (some q10)) 12 4) a0 5 (some q13)) 12 96) a0 = 11 ∧ ∀ q19, q19 = jn (jputr (jnew (jputr (jnew (jputr (jnew (jputr (jnew (jputr (jnew (jputr (jnew S 12 3135) a0 0 (some q1)) 12 3135) a0 1 (some q4)) 12 3135) a0 2 (some q7)) 12 4) a0 4 (some q10)) 12 4) a0 5 (some q13)) 12 96) a0 6 (some q16)) → jk (jnew (jputr (jnew (jputr (jnew (jputr (jnew (jputr (jnew (jputr (jnew (jputr (jnew S 12 3135) a0 0 (some q1)) 12 3135) a0 1 (some q4)) 12 3135) a0 2 (some q7)) 12 4) a0 4 (some q10)) 12 4) a0 5 (some q13)) 12 96) a0 6 (some q16)) 12 5) a0 = 11 ∧ ∀ q22, q22 = jn (jputr (jnew (jputr (jnew (jputr (jnew (jputr (jnew (jputr (jnew (jputr (jnew (jputr (jnew S 12 3135) a0 0 (some q1)) 12 3135) a0 1 (some q4)) 12 3135) a0 2 (some q7)) 12 4) a0 4 (some q10)) 12 4) a0 5 (some q13)) 12 96) a0 6 (some q16)) 12 5) a0 7 (some q19)) → jk (jnew (jputr (jnew (jputr (jnew (jputr (jnew (jputr (jnew (jputr (jnew (jputr (jnew (jputr (jnew S 12 3135) a0 0 (some q1)) 12 3135) a0 1 (some q4)) 12 3135) a0 2 (some q7)) 12 4) a0 4 (some q10)) 12 4) a0 5 (some q13)) 12 96) a0 6 (some q16)) 12 5) a0 7 (some q19)) 12 5) a0 = 11 ∧ ∀ q25, q25 = jn (jputr (jnew (jputr (jnew (jputr (jnew (jputr (jnew (jputr (jnew (jputr (jnew (jputr (jnew (jputr (jnew S 12 3135) a0 0 (some q1)) 12 3135) a0 1 (some q4)) 12 3135) a0 2 (some q7)) 12 4) a0 4 (some q10)) 12 4) a0 5 (some q13)) 12 96) a0 6 (some q16)) 12 5) a0 7 (some q19)) 12 5) a0 8 (some q22)) → jk (jnew (jputr (jnew (jputr (jnew (jputr (jnew (jputr (jnew (jputr (jnew (jputr (jnew (jputr (jnew (jputr (jnew S 12 3135) a0 0 (some q1)) 12 3135) a0 1 (some q4)) 12 3135) a0 2 (some q7)) 12 4) a0 4 (some q10)) 12 4) a0 5 (some q13)) 12 96) a0 6 (some q16)) 12 5) a0 7 (some q19)) 12 5) a0 8 (some q22)) 12 5) a0 = 11 ∧ ∀ q28, q28 = jn (jputr (jnew (jputr (jnew (jputr (jnew (jputr (jnew (jputr (jnew (jputr (jnew (jputr (jnew (jputr (jnew (jputr (jnew S 12 3135) a0 0 (some q1)) 12 3135) a0 1 (some q4)) 12 3135) a0 2 (some q7)) 12 4) a0 4 (some q10)) 12 4) a0 5 (some q13)) 12 96) a0 6 (some q16)) 12 5) a0 7 (some q19)) 12 5) a0 8 (some q22)) 12 5) a0 9 (some q25)) → jk (jnew (jputr (jnew (jputr (jnew (jputr (jnew (jputr (jnew (jputr (jnew (jputr (jnew (jputr (jnew (jputr (jnew (jputr (jnew S 12 3135) a0 0 (some q1)) 12 3135) a0 1 (some q4)) 12 3135) a0 2 (some q7)) 12 4) a0 4 (some q10)) 12 4) a0 5 (some q13)) 12 96) a0 6 (some q16)) 12 5) a0 7 (some q19)) 12 5) a0 8 (some q22)) 12 5) a0 9 (some q25)) 12 5) a0 = 11 ∧ ∀ q31, q31 = jn (jputr (jnew (jputr (jnew (jputr (jnew (jputr (jnew (jputr (jnew (jputr (jnew (jputr (jnew (jputr (jnew (jputr (jnew (jputr (jnew S 12 3135) a0 0 (some q1)) 12 3135) a0 1 (some q4)) 12 3135) a0 2 (some q7)) 12 4) a0 4 (some q10)) 12 4) a0 5 (some q13)) 12 96) a0 6 (some q16)) 12 5) a0 7 (some q19)) 12 5) a0 8 (some q22)) 12 5) a0 9 (some q25)) 12 5) a0 10 (some q28)) → jk (jnew (jputr (jnew (jputr (jnew (jputr (jnew (jputr (jnew (jputr (jnew (jputr (jnew (jputr (jnew (jputr (jnew (jputr (jnew (jputr (jnew S 12 3135) a0 0 (some q1)) 12 3135) a0 1 (some q4)) 12 3135) a0 2 (some q7)) 12 4) a0 4 (some q10)) 12 4) a0 5 (some q13)) 12 96) a0 6 (some q16)) 12 5) a0 7 (some q19)) 12 5) a0 8 (some q22)) 12 5) a0 9 (some q25)) 12 5) a0 10 (some q28)) 12 120) a0 = 11 ∧ ∀ q34, q34 = jn (jputr (jnew (jputr (jnew (jputr (jnew (jputr (jnew (jputr (jnew (jputr (jnew (jputr (jnew (jputr (jnew (jputr (jnew (jputr (jnew (jputr (jnew S 12 3135) a0 0 (some q1)) 12 3135) a0 1 (some q4)) 12 3135) a0 2 (some q7)) 12 4) a0 4 (some q10)) 12 4) a0 5 (some q13)) 12 96) a0 6 (some q16)) 12 5) a0 7 (some q19)) 12 5) a0 8 (some q22)) 12 5) a0 9 (some q25)) 12 5) a0 10 (some q28)) 12 120) a0 11 (some q31)) → jk (jnew (jputr (jnew (jputr (jnew (jputr (jnew (jputr (jnew (jputr (jnew (jputr (jnew (jputr (jnew (jputr (jnew (jputr (jnew (jputr (jnew (jputr (jnew S 12 3135) a0 0 (some q1)) 12 3135) a0 1 (some q4)) 12 3135) a0 2 (some q7)) 12 4) a0 4 (some q10)) 12 4) a0 5 (some q13)) 12 96) a0 6 (some q16)) 12 5) a0 7 (some q19)) 12 5) a0 8 (some q22)) 12 5) a0 9 (some q25)) 12 5) a0 10 (some q28)) 12 120) a0 11 (some q31)) 12 36) a0 = 11 ∧ ∀ q37, q37 = jn (jputr (jnew (jputr (jnew (jputr (jnew (jputr (jnew (jputr (jnew (jputr (jnew (jputr (jnew (jputr (jnew (jputr (jnew (jputr (jnew (jputr (jnew (jputr (jnew S 12 3135) a0 0 (some q1)) 12 3135) a0 1 (some q4)) 12 3135) a0 2 (some q7)) 12 4) a0 4 (some q10)) 12 4) a0 5 (some q13)) 12 96) a0 6 (some q16)) 12 5) a0 7 (some q19)) 12 5) a0 8 (some q22)) 12 5) a0 9 (some q25)) 12 5) a0 10 (some q28)) 12 120) a0 11 (some q31)) 12 36) a0 12 (some q34)) → jk (jnew (jputr (jnew (jputr (jnew (jputr (jnew (jputr (jnew (jputr (jnew (jputr (jnew (jputr (jnew (jputr (jnew (jputr (jnew (jputr (jnew (jputr (jnew (jputr (jnew S 12 3135) a0 0 (some q1)) 12 3135) a0 1 (some q4)) 12 3135) a0 2 (some q7)) 12 4) a0 4 (some q10)) 12 4) a0 5 (some q13)) 12 96) a0 6 (some q16)) 12 5) a0 7 (some q19)) 12 5) a0 8 (some q22)) 12 5) a0 9 (some q25)) 12 5) a0 10 (some q28)) 12 120) a0 11 (some q31)) 12 36) a0 12 (some q34)) 12 135) a0 = 11 ∧ ∀ q40, q40 = jn (jputr (jnew (jputr (jnew (jputr (jnew (jputr (jnew (jputr (jnew (jputr (jnew (jputr (jnew (jputr (jnew (jputr (jnew (jputr (jnew (jputr (jnew (jputr (jnew (jputr (jnew S 12 3135) a0 0 (some q1)) 12 3135) a0 1 (some q4)) 12 3135) a0 2 (some q7)) 12 4) a0 4 (some q10)) 12 4) a0 5 (some q13)) 12 96) a0 6 (some q16)) 12 5) a0 7 (some q19)) 12 5) a0 8 (some q22)) 12 5) a0 9 (some q25)) 12 5) a0 10 (some q28)) 12 120) a0 11 (some q31)) 12 36) a0 12 (some q34)) 12 135) a0 13 (some q37)) → jk (jnew (jputr (jnew (jputr (jnew (jputr (jnew (jputr (jnew (jputr (jnew (jputr (jnew (jputr (jnew (jputr (jnew (jputr (jnew (jputr (jnew (jputr (jnew (jputr (jnew (jputr (jnew S 12 3135) a0 0 (some q1)) 12 3135) a0 1 (some q4)) 12 3135) a0 2 (some q7)) 12 4) a0 4 (some q10)) 12 4) a0 5 (some q13)) 12 96) a0 6 (some q16)) 12 5) a0 7 (some q19)) 12 5) a0 8 (some q22)) 12 5) a0 9 (some q25)) 12 5) a0 10 (some q28)) 12 120) a0 11 (some q31)) 12 36) a0 12 (some q34)) 12 135) a0 13 (some q37)) 12 4) a0 = 11 ∧ ∀ q43, q43 = jn (jputr (jnew (jputr (jnew (jputr (jnew (jputr (jnew (jputr (jnew (jputr (jnew (jputr (jnew (jputr (jnew (jputr (jnew (jputr (jnew (jputr (jnew (jputr (jnew (jputr (jnew (jputr (jnew S 12 3135) a0 0 (some q1)) 12 3135) a0 1 (some q4)) 12 3135) a0 2 (some q7)) 12 4) a0 4 (some q10)) 12 4) a0 5 (some q13)) 12 96) a0 6 (some q16)) 12 5) a0 7 (some q19)) 12 5) a0 8 (some q22)) 12 5) a0 9 (some q25)) 12 5) a0 10 (some q28)) 12 120) a0 11 (some q31)) 12 36) a0 12 (some q34)) 12 135) a0 13 (some q37)) 12 4) a0 14 (some q40)) → jk (jnew (jputr (jnew (jputr (jnew (jputr (jnew (jputr (jnew (jputr (jnew (jputr (jnew (jputr (jnew (jputr (jnew (jputr (jnew (jputr (jnew (jputr (jnew (jputr (jnew (jputr (jnew (jputr (jnew S 12 3135) a0 0 (some q1)) 12 3135) a0 1 (some q4)) 12 3135) a0 2 (some q7)) 12 4) a0 4 (some q10)) 12 4) a0 5 (some q13)) 12 96) a0 6 (some q16)) 12 5) a0 7 (some q19)) 12 5) a0 8 (some q22)) 12 5) a0 9 (some q25)) 12 5) a0 10 (some q28)) 12 120) a0 11 (some q31)) 12 36) a0 12 (some q34)) 12 135) a0 13 (some q37)) 12 4) a0 14 (some q40)) 12 96) a0 = 11 ∧ ∀ q46, q46 = jn (jputr (jnew (jputr (jnew (jputr (jnew (jputr (jnew (jputr (jnew (jputr (jnew (jputr (jnew (jputr (jnew (jputr (jnew (jputr (jnew (jputr (jnew (jputr (jnew (jputr (jnew (jputr (jnew (jputr (jnew S 12 3135) a0 0 (some q1)) 12 3135) a0 1 (some q4)) 12 3135) a0 2 (some q7)) 12 4) a0 4 (some q10)) 12 4) a0 5 (some q13)) 12 96) a0 6 (some q16)) 12 5) a0 7 (some q19)) 12 5) a0 8 (some q22)) 12 5) a0 9 (some q25)) 12 5) a0 10 (some q28)) 12 120) a0 11 (some q31)) 12 36) a0 12 (some q34)) 12 135) a0 13 (some q37)) 12 4) a0 14 (some q40)) 12 96) a0 18 (some q43)) → jk (jnew (jputr (jnew (jputr (jnew (jputr (jnew (jputr (jnew (jputr (jnew (jputr (jnew (jputr (jnew (jputr (jnew (jputr (jnew (jputr (jnew (jputr (jnew (jputr (jnew (jputr (jnew (jputr (jnew (jputr (jnew S 12 3135) a0 0 (some q1)) 12 3135) a0 1 (some q4)) 12 3135) a0 2 (some q7)) 12 4) a0 4 (some q10)) 12 4) a0 5 (some q13)) 12 96) a0 6 (some q16)) 12 5) a0 7 (some q19)) 12 5) a0 8 (some q22)) 12 5) a0 9 (some q25)) 12 5) a0 10 (some q28)) 12 120) a0 11 (some q31)) 12 36) a0 12 (some q34)) 12 135) a0 13 (some q37)) 12 4) a0 14 (some q40)) 12 96) a0 18 (some q43)) 12 128) a0 = 11 ∧ ∀ q49, q49 = jn (jputr (jnew (jputr (jnew (jputr (jnew (jputr (jnew (jputr (jnew (jputr (jnew (jputr (jnew (jputr (jnew (jputr (jnew (jputr (jnew (jputr (jnew (jputr (jnew (jputr (jnew (jputr (jnew (jputr (jnew (jputr (jnew S 12 3135) a0 0 (some q1)) 12 3135) a0 1 (some q4)) 12 3135) a0 2 (some q7)) 12 4) a0 4 (some q10)) 12 4) a0 5 (some q13)) 12 96) a0 6 (some q16)) 12 5) a0 7 (some q19)) 12 5) a0 8 (some q22)) 12 5) a0 9 (some q25)) 12 5) a0 10 (some q28)) 12 120) a0 11 (some q31)) 12 36) a0 12 (some q34)) 12 135) a0 13 (some q37)) 12 4) a0 14 (some q40)) 12 96) a0 18 (some q43)) 12 128) a0 30 (some q46)) → jk (jnew (jputr (jnew (jputr (jnew (jputr (jnew (jputr (jnew (jputr (jnew (jputr (jnew (jputr (jnew (jputr (jnew (jputr (jnew (jputr (jnew (jputr (jnew (jputr (jnew (jputr (jnew (jputr (jnew (jputr (jnew (jputr (jnew S 12 3135) a0 0 (some q1)) 12 3135) a0 1 (some q4)) 12 3135) a0 2 (some q7)) 12 4) a0 4 (some q10)) 12 4) a0 5 (some q13)) 12 96) a0 6 (some q16)) 12 5) a0 7 (some q19)) 12 5) a0 8 (some q22)) 12 5) a0 9 (some q25)) 12 5) a0 10 (some q28)) 12 120) a0 11 (some q31)) 12 36) a0 12 (some q34)) 12 135) a0 13 (some q37)) 12 4) a0 14 (some q40)) 12 96) a0 18 (some q43)) 12 128) a0 30 (some q46)) 12 100) a0 = 11 ∧ ∀ q52, q52 = jn (jputr (jnew (jputr (jnew (jputr (jnew (jputr (jnew (jputr (jnew (jputr (jnew (jputr (jnew (jputr (jnew (jputr (jnew (jputr (jnew (jputr (jnew (jputr (jnew (jputr (jnew (jputr (jnew (jputr (jnew (jputr (jnew (jputr (jnew S 12 3135) a0 0 (some q1)) 12 3135) a0 1 (some q4)) 12 3135) a0 2 (some q7)) 12 4) a0 4 (some q10)) 12 4) a0 5 (some q13)) 12 96) a0 6 (some q16)) 12 5) a0 7 (some q19)) 12 5) a0 8 (some q22)) 12 5) a0 9 (some q25)) 12 5) a0 10 (some q28)) 12 120) a0 11 (some q31)) 12 36) a0 12 (some q34)) 12 135) a0 13 (some q37)) 12 4) a0 14 (some q40)) 12 96) a0 18 (some q43)) 12 128) a0 30 (some q46)) 12 100) a0 31 (some q49)) → jk (jnew (jputr (jnew (jputr (jnew (jputr (jnew (jputr (jnew (jputr (jnew (jputr (jnew (jputr (jnew (jputr (jnew (jputr (jnew (jputr (jnew (jputr (jnew (jputr (jnew (jputr (jnew (jputr (jnew (jputr (jnew (jputr (jnew (jputr (jnew S 12 3135) a0 0 (some q1)) 12 3135) a0 1 (some q4)) 12 3135) a0 2 (some q7)) 12 4) a0 4 (some q10)) 12 4) a0 5 (some q13)) 12 96) a0 6 (some q16)) 12 5) a0 7 (some q19)) 12 5) a0 8 (some q22)) 12 5) a0 9 (some q25)) 12 5) a0 10 (some q28)) 12 120) a0 11 (some q31)) 12 36) a0 12 (some q34)) 12 135) a0 13 (some q37)) 12 4) a0 14 (some q40)) 12 96) a0 18 (some q43)) 12 128) a0 30 (some q46)) 12 100) a0 31 (some q49)) 12 24) a0 = 11 ∧ ∀ q55, q55 = jn (jputr (jnew (jputr (jnew (jputr (jnew (jputr (jnew (jputr (jnew (jputr (jnew (jputr (jnew (jputr (jnew (jputr (jnew (jputr (jnew (jputr (jnew (jputr (jnew (jputr (jnew (jputr (jnew (jputr (jnew (jputr (jnew (jputr (jnew (jputr (jnew S 12 3135) a0 0 (some q1)) 12 3135) a0 1 (some q4)) 12 3135) a0 2 (some q7)) 12 4) a0 4 (some q10)) 12 4) a0 5 (some q13)) 12 96) a0 6 (some q16)) 12 5) a0 7 (some q19)) 12 5) a0 8 (some q22)) 12 5) a0 9 (some q25)) 12 5) a0 10 (some q28)) 12 120) a0 11 (some q31)) 12 36) a0 12 (some q34)) 12 135) a0 13 (some q37)) 12 4) a0 14 (some q40)) 12 96) a0 18 (some q43)) 12 128) a0 30 (some q46)) 12 100) a0 31 (some q49)) 12 24) a0 32 (some q52)) → jk (jnew (jputr (jnew (jputr (jnew (jputr (jnew (jputr (jnew (jputr (jnew (jputr (jnew (jputr (jnew (jputr (jnew (jputr (jnew (jputr (jnew (jputr (jnew (jputr (jnew (jputr (jnew (jputr (jnew (jputr (jnew (jputr (jnew (jputr (jnew (jputr (jnew S 12 3135) a0 0 (some q1)) 12 3135) a0 1 (some q4)) 12 3135) a0 2 (some q7)) 12 4) a0 4 (some q10)) 12 4) a0 5 (some q13)) 12 96) a0 6 (some q16)) 12 5) a0 7 (some q19)) 12 5) a0 8 (some q22)) 12 5) a0 9 (some q25)) 12 5) a0 10 (some q28)) 12 120) a0 11 (some q31)) 12 36) a0 12 (some q34)) 12 135) a0 13 (some q37)) 12 4) a0 14 (some q40)) 12 96) a0 18 (some q43)) 12 128) a0 30 (some q46)) 12 100) a0 31 (some q49)) 12 24) a0 32 (some q52)) 12 60) a0 = 11 ∧ ∀ q58, q58 = jn (jputr (jnew (jputr (jnew (jputr (jnew (jputr (jnew (jputr (jnew (jputr (jnew (jputr (jnew (jputr (jnew (jputr (jnew (jputr (jnew (jputr (jnew (jputr (jnew (jputr (jnew (jputr (jnew (jputr (jnew (jputr (jnew (jputr (jnew (jputr (jnew (jputr (jnew S 12 3135) a0 0 (some q1)) 12 3135) a0 1 (some q4)) 12 3135) a0 2 (some q7)) 12 4) a0 4 (some q10)) 12 4) a0 5 (some q13)) 12 96) a0 6 (some q16)) 12 5) a0 7 (some q19)) 12 5) a0 8 (some q22)) 12 5) a0 9 (some q25)) 12 5) a0 10 (some q28)) 12 120) a0 11 (some q31)) 12 36) a0 12 (some q34)) 12 135) a0 13 (some q37)) 12 4) a0 14 (some q40)) 12 96) a0 18 (some q43)) 12 128) a0 30 (some q46)) 12 100) a0 31 (some q49)) 12 24) a0 32 (some q52)) 12 60) a0 33 (some q55)) → jk (jnew (jputr (jnew (jputr (jnew (jputr (jnew (jputr (jnew (jputr (jnew (jputr (jnew (jputr (jnew (jputr (jnew (jputr (jnew (jputr (jnew (jputr (jnew (jputr (jnew (jputr (jnew (jputr (jnew (jputr (jnew (jputr (jnew (jputr (jnew (jputr (jnew (jputr (jnew S 12 3135) a0 0 (some q1)) 12 3135) a0 1 (some q4)) 12 3135) a0 2 (some q7)) 12 4) a0 4 (some q10)) 12 4) a0 5 (some q13)) 12 96) a0 6 (some q16)) 12 5) a0 7 (some q19)) 12 5) a0 8 (some q22)) 12 5) a0 9 (some q25)) 12 5) a0 10 (some q28)) 12 120) a0 11 (some q31)) 12 36) a0 12 (some q34)) 12 135) a0 13 (some q37)) 12 4) a0 14 (some q40)) 12 96) a0 18 (some q43)) 12 128) a0 30 (some q46)) 12 100) a0 31 (some q49)) 12 24) a0 32 (some q52)) 12 60) a0 33 (some q55)) 12 60) a0 = 11 ∧ ∃ b61, jr (jputr (jnew (jputr (jnew (jputr (jnew (jputr (jnew (jputr (jnew (jputr (jnew (jputr (jnew (jputr (jnew (jputr (jnew (jputr (jnew (jputr (jnew (jputr (jnew (jputr (jnew (jputr (jnew (jputr (jnew (jputr (jnew (jputr (jnew (jputr (jnew (jputr (jnew (jputr (jnew S 12 3135) a0 0 (some q1)) 12 3135) a0 1 (some q4)) 12 3135) a0 2 (some q7)) 12 4) a0 4 (some q10)) 12 4) a0 5 (some q13)) 12 96) a0 6 (some q16)) 12 5) a0 7 (some q19)) 12 5) a0 8 (some q22)) 12 5) a0 9 (some q25)) 12 5) a0 10 (some q28)) 12 120) a0 11 (some q31)) 12 36) a0 12 (some q34)) 12 135) a0 13 (some q37)) 12 4) a0 14 (some q40)) 12 96) a0 18 (some q43)) 12 128) a0 30 (some q46)) 12 100) a0 31 (some q49)) 12 24) a0 32 (some q52)) 12 60) a0 33 (some q55)) 12 60) a0 35 (some q58)) a0 0 = some b61 ∧ (jk (jnew (jputr (jnew (jputr (jnew (jputr (jnew (jputr (jnew (jputr (jnew (jputr (jnew (jputr (jnew (jputr (jnew (jputr (jnew (jputr (jnew (jputr (jnew (jputr (jnew (jputr (jnew (jputr (jnew (jputr (jnew (jputr (jnew (jputr (jnew (jputr (jnew (jputr (jnew S 12 3135) a0 0 (some q1)) 12 3135) a0 1 (some q4)) 12 3135) a0 2 (some q7)) 12 4) a0 4 (some q10)) 12 4) a0 5 (some q13)) 12 96) a0 6 (some q16)) 12 5) a0 7 (some q19)) 12 5) a0 8 (some q22)) 12 5) a0 9 (some q25)) 12 5) a0 10 (some q28)) 12 120) a0 11 (some q31)) 12 36) a0 12 (some q34)) 12 135) a0 13 (some q37)) 12 4) a0 14 (some q40)) 12 96) a0 18 (some q43)) 12 128) a0 30 (some q46)) 12 100) a0 31 (some q49)) 12 24) a0 32 (some q52)) 12 60) a0 33 (some q55)) 12 60) b61 = 12 ∧ vp_in 8 (jl (jnew (jputr (jnew (jputr (jnew (jputr (jnew (jputr (jnew (jputr (jnew (jputr (jnew (jputr (jnew (jputr (jnew (jputr (jnew (jputr (jnew (jputr (jnew (jputr (jnew (jputr (jnew (jputr (jnew (jputr (jnew (jputr (jnew (jputr (jnew (jputr (jnew (jputr (jnew S 12 3135) a0 0 (some q1)) 12 3135) a0 1 (some q4)) 12 3135) a0 2 (some q7)) 12 4) a0 4 (some q10)) 12 4) a0 5 (some q13)) 12 96) a0 6 (some q16)) 12 5) a0 7 (some q19)) 12 5) a0 8 (some q22)) 12 5) a0 9 (some q25)) 12 5) a0 10 (some q28)) 12 120) a0 11 (some q31)) 12 36) a0 12 (some q34)) 12 135) a0 13 (some q37)) 12 4) a0 14 (some q40)) 12 96) a0 18 (some q43)) 12 128) a0 30 (some q46)) 12 100) a0 31 (some q49)) 12 24) a0 32 (some q52)) 12 60) a0 33 (some q55)) 12 60) b61) ∧ (vp_in 5 (jl (jnew (jputr (jnew (jputr (jnew (jputr (jnew (jputr (jnew (jputr (jnew (jputr (jnew (jputr (jnew (jputr (jnew (jputr (jnew (jputr (jnew (jputr (jnew (jputr (jnew (jputr (jnew (jputr (jnew (jputr (jnew (jputr (jnew (jputr (jnew (jputr (jnew (jputr (jnew S 12 3135) a0 0 (some q1)) 12 3135) a0 1 (some q4)) 12 3135) a0 2 (some q7)) 12 4) a0 4 (some q10)) 12 4) a0 5 (some q13)) 12 96) a0 6 (some q16)) 12 5) a0 7 (some q19)) 12 5) a0 8 (some q22)) 12 5) a0 9 (some q25)) 12 5) a0 10 (some q28)) 12 120) a0 11 (some q31)) 12 36) a0 12 (some q34)) 12 135) a0 13 (some q37)) 12 4) a0 14 (some q40)) 12 96) a0 18 (some q43)) 12 128) a0 30 (some q46)) 12 100) a0 31 (some q49)) 12 24) a0 32 (some q52)) 12 60) a0 33 (some q55)) 12 60) b61) ∧ (L_X11_init_180 E d Q a0 0 (jput (jput (jputr (jnew (jputr (jnew (jputr (jnew (jputr (jnew (jputr (jnew (jputr (jnew (jputr (jnew (jputr (jnew (jputr (jnew (jputr (jnew (jputr (jnew (jputr (jnew (jputr (jnew (jputr (jnew (jputr (jnew (jputr (jnew (jputr (jnew (jputr (jnew (jputr (jnew (jputr (jnew S 12 3135) a0 0 (some q1)) 12 3135) a0 1 (some q4)) 12 3135) a0 2 (some q7)) 12 4) a0 4 (some q10)) 12 4) a0 5 (some q13)) 12 96) a0 6 (some q16)) 12 5) a0 7 (some q19)) 12 5) a0 8 (some q22)) 12 5) a0 9 (some q25)) 12 5) a0 10 (some q28)) 12 120) a0 11 (some q31)) 12 36) a0 12 (some q34)) 12 135) a0 13 (some q37)) 12 4) a0 14 (some q40)) 12 96) a0 18 (some q43)) 12 128) a0 30 (some q46)) 12 100) a0 31 (some q49)) 12 24) a0 32 (some q52)) 12 60) a0 33 (some q55)) 12 60) a0 35 (some q58)) b61 (Int32.toNatClampNeg 8) 1) b61 (Int32.toNatClampNeg 5) 100) 20 10292)))) : jFv E mX11_init (d + 1) 20 10292 [.ref a0] S Q := by
  refine jF_of (by decide) (jle rfl) ?_
  refine jx_lv (lv1 := [(0, .ref a0)]) [0] rfl ?_
  refine jx_aload_n 0 dX11_init_0 rfl rfl ?_
  refine jx_objInit jwM_X11_1 jwN_obj jwO_obj dX11_init_1 (jRok_m _ _ _) (jle rfl) ?_
  refine jx_aload_n 0 dX11_init_4 rfl rfl ?_
  refine jx_sipush (v := 3135) dX11_init_5 (by decide) ?_
  refine jx_newa (N := 3135) jwA kd60.1 (by decide) (by decide) (by decide) ⟨jle rfl, jle rfl⟩ ?_
  obtain ⟨q1, hq1⟩ : ∃ q, q = jn S := ⟨_, rfl⟩
  rw [← hq1]
  replace h := h q1 hq1
  obtain ⟨hk2, h⟩ := h
  refine jx_putrF jc_11 (j := 0) (by decide) rfl jwF_X11_7 rfl rfl rfl rfl rfl dX11_init_10 hk2 ?_
  refine jx_aload_n 0 dX11_init_13 rfl rfl ?_
  refine jx_sipush (v := 3135) dX11_init_14 (by decide) ?_
  refine jx_newa (N := 3135) jwA kd60.2.1 (by decide) (by decide) (by decide) ⟨jle rfl, jle rfl⟩ ?_
  obtain ⟨q4, hq4⟩ : ∃ q, q = jn (jputr (jnew S 12 3135) a0 0 (some q1)) := ⟨_, rfl⟩
  rw [← hq4]
  replace h := h q4 hq4
  obtain ⟨hk5, h⟩ := h
  refine jx_putrF jc_11 (j := 1) (by decide) rfl jwF_X11_13 rfl rfl rfl rfl rfl dX11_init_19 hk5 ?_
  refine jx_aload_n 0 dX11_init_22 rfl rfl ?_
  refine jx_sipush (v := 3135) dX11_init_23 (by decide) ?_
  refine jx_newa (N := 3135) jwA kd60.2.2.1 (by decide) (by decide) (by decide) ⟨jle rfl, jle rfl⟩ ?_
  obtain ⟨q7, hq7⟩ : ∃ q, q = jn (jputr (jnew (jputr (jnew S 12 3135) a0 0 (some q1)) 12 3135) a0 1 (some q4)) := ⟨_, rfl⟩
  rw [← hq7]
  replace h := h q7 hq7
  obtain ⟨hk8, h⟩ := h
  refine jx_putrF jc_11 (j := 2) (by decide) rfl jwF_X11_16 rfl rfl rfl rfl rfl dX11_init_28 hk8 ?_
  refine jx_aload_n 0 dX11_init_31 rfl rfl ?_
  refine jx_iconst (v := 4) dX11_init_32 (by decide) ?_
  refine jx_newa (N := 4) jwA kd60.2.2.2.1 (by decide) (by decide) (by decide) ⟨jle rfl, jle rfl⟩ ?_
  obtain ⟨q10, hq10⟩ : ∃ q, q = jn (jputr (jnew (jputr (jnew (jputr (jnew S 12 3135) a0 0 (some q1)) 12 3135) a0 1 (some q4)) 12 3135) a0 2 (some q7)) := ⟨_, rfl⟩
  rw [← hq10]
  replace h := h q10 hq10
  obtain ⟨hk11, h⟩ := h
  refine jx_putrF jc_11 (j := 4) (by decide) rfl jwF_X11_19 rfl rfl rfl rfl rfl dX11_init_35 hk11 ?_
  refine jx_aload_n 0 dX11_init_38 rfl rfl ?_
  refine jx_iconst (v := 4) dX11_init_39 (by decide) ?_
  refine jx_newa (N := 4) jwA kd60.2.2.2.2.1 (by decide) (by decide) (by decide) ⟨jle rfl, jle rfl⟩ ?_
  obtain ⟨q13, hq13⟩ : ∃ q, q = jn (jputr (jnew (jputr (jnew (jputr (jnew (jputr (jnew S 12 3135) a0 0 (some q1)) 12 3135) a0 1 (some q4)) 12 3135) a0 2 (some q7)) 12 4) a0 4 (some q10)) := ⟨_, rfl⟩
  rw [← hq13]
  replace h := h q13 hq13
  obtain ⟨hk14, h⟩ := h
  refine jx_putrF jc_11 (j := 5) (by decide) rfl jwF_X11_22 rfl rfl rfl rfl rfl dX11_init_42 hk14 ?_
  refine jx_aload_n 0 dX11_init_45 rfl rfl ?_
  refine jx_bipush (v := 96) dX11_init_46 (by decide) ?_
  refine jx_newa (N := 96) jwA kd60.2.2.2.2.2.1 (by decide) (by decide) (by decide) ⟨jle rfl, jle rfl⟩ ?_
  obtain ⟨q16, hq16⟩ : ∃ q, q = jn (jputr (jnew (jputr (jnew (jputr (jnew (jputr (jnew (jputr (jnew S 12 3135) a0 0 (some q1)) 12 3135) a0 1 (some q4)) 12 3135) a0 2 (some q7)) 12 4) a0 4 (some q10)) 12 4) a0 5 (some q13)) := ⟨_, rfl⟩
  rw [← hq16]
  replace h := h q16 hq16
  obtain ⟨hk17, h⟩ := h
  refine jx_putrF jc_11 (j := 6) (by decide) rfl jwF_X11_25 rfl rfl rfl rfl rfl dX11_init_50 hk17 ?_
  refine jx_aload_n 0 dX11_init_53 rfl rfl ?_
  refine jx_iconst (v := 5) dX11_init_54 (by decide) ?_
  refine jx_newa (N := 5) jwA kd60.2.2.2.2.2.2.1 (by decide) (by decide) (by decide) ⟨jle rfl, jle rfl⟩ ?_
  obtain ⟨q19, hq19⟩ : ∃ q, q = jn (jputr (jnew (jputr (jnew (jputr (jnew (jputr (jnew (jputr (jnew (jputr (jnew S 12 3135) a0 0 (some q1)) 12 3135) a0 1 (some q4)) 12 3135) a0 2 (some q7)) 12 4) a0 4 (some q10)) 12 4) a0 5 (some q13)) 12 96) a0 6 (some q16)) := ⟨_, rfl⟩
  rw [← hq19]
  replace h := h q19 hq19
  obtain ⟨hk20, h⟩ := h
  refine jx_putrF jc_11 (j := 7) (by decide) rfl jwF_X11_28 rfl rfl rfl rfl rfl dX11_init_57 hk20 ?_
  refine jx_aload_n 0 dX11_init_60 rfl rfl ?_
  refine jx_iconst (v := 5) dX11_init_61 (by decide) ?_
  refine jx_newa (N := 5) jwA kd60.2.2.2.2.2.2.2.1 (by decide) (by decide) (by decide) ⟨jle rfl, jle rfl⟩ ?_
  obtain ⟨q22, hq22⟩ : ∃ q, q = jn (jputr (jnew (jputr (jnew (jputr (jnew (jputr (jnew (jputr (jnew (jputr (jnew (jputr (jnew S 12 3135) a0 0 (some q1)) 12 3135) a0 1 (some q4)) 12 3135) a0 2 (some q7)) 12 4) a0 4 (some q10)) 12 4) a0 5 (some q13)) 12 96) a0 6 (some q16)) 12 5) a0 7 (some q19)) := ⟨_, rfl⟩
  rw [← hq22]
  replace h := h q22 hq22
  obtain ⟨hk23, h⟩ := h
  refine jx_putrF jc_11 (j := 8) (by decide) rfl jwF_X11_31 rfl rfl rfl rfl rfl dX11_init_64 hk23 ?_
  refine jx_aload_n 0 dX11_init_67 rfl rfl ?_
  refine jx_iconst (v := 5) dX11_init_68 (by decide) ?_
  refine jx_newa (N := 5) jwA kd60.2.2.2.2.2.2.2.2.1 (by decide) (by decide) (by decide) ⟨jle rfl, jle rfl⟩ ?_
  obtain ⟨q25, hq25⟩ : ∃ q, q = jn (jputr (jnew (jputr (jnew (jputr (jnew (jputr (jnew (jputr (jnew (jputr (jnew (jputr (jnew (jputr (jnew S 12 3135) a0 0 (some q1)) 12 3135) a0 1 (some q4)) 12 3135) a0 2 (some q7)) 12 4) a0 4 (some q10)) 12 4) a0 5 (some q13)) 12 96) a0 6 (some q16)) 12 5) a0 7 (some q19)) 12 5) a0 8 (some q22)) := ⟨_, rfl⟩
  rw [← hq25]
  replace h := h q25 hq25
  obtain ⟨hk26, h⟩ := h
  refine jx_putrF jc_11 (j := 9) (by decide) rfl jwF_X11_34 rfl rfl rfl rfl rfl dX11_init_71 hk26 ?_
  refine jx_aload_n 0 dX11_init_74 rfl rfl ?_
  refine jx_iconst (v := 5) dX11_init_75 (by decide) ?_
  refine jx_newa (N := 5) jwA kd60.2.2.2.2.2.2.2.2.2.1 (by decide) (by decide) (by decide) ⟨jle rfl, jle rfl⟩ ?_
  obtain ⟨q28, hq28⟩ : ∃ q, q = jn (jputr (jnew (jputr (jnew (jputr (jnew (jputr (jnew (jputr (jnew (jputr (jnew (jputr (jnew (jputr (jnew (jputr (jnew S 12 3135) a0 0 (some q1)) 12 3135) a0 1 (some q4)) 12 3135) a0 2 (some q7)) 12 4) a0 4 (some q10)) 12 4) a0 5 (some q13)) 12 96) a0 6 (some q16)) 12 5) a0 7 (some q19)) 12 5) a0 8 (some q22)) 12 5) a0 9 (some q25)) := ⟨_, rfl⟩
  rw [← hq28]
  replace h := h q28 hq28
  obtain ⟨hk29, h⟩ := h
  refine jx_putrF jc_11 (j := 10) (by decide) rfl jwF_X11_37 rfl rfl rfl rfl rfl dX11_init_78 hk29 ?_
  refine jx_aload_n 0 dX11_init_81 rfl rfl ?_
  refine jx_bipush (v := 120) dX11_init_82 (by decide) ?_
  refine jx_newa (N := 120) jwA kd60.2.2.2.2.2.2.2.2.2.2.1 (by decide) (by decide) (by decide) ⟨jle rfl, jle rfl⟩ ?_
  obtain ⟨q31, hq31⟩ : ∃ q, q = jn (jputr (jnew (jputr (jnew (jputr (jnew (jputr (jnew (jputr (jnew (jputr (jnew (jputr (jnew (jputr (jnew (jputr (jnew (jputr (jnew S 12 3135) a0 0 (some q1)) 12 3135) a0 1 (some q4)) 12 3135) a0 2 (some q7)) 12 4) a0 4 (some q10)) 12 4) a0 5 (some q13)) 12 96) a0 6 (some q16)) 12 5) a0 7 (some q19)) 12 5) a0 8 (some q22)) 12 5) a0 9 (some q25)) 12 5) a0 10 (some q28)) := ⟨_, rfl⟩
  rw [← hq31]
  replace h := h q31 hq31
  obtain ⟨hk32, h⟩ := h
  refine jx_putrF jc_11 (j := 11) (by decide) rfl jwF_X11_40 rfl rfl rfl rfl rfl dX11_init_86 hk32 ?_
  refine jx_aload_n 0 dX11_init_89 rfl rfl ?_
  refine jx_bipush (v := 36) dX11_init_90 (by decide) ?_
  refine jx_newa (N := 36) jwA kd60.2.2.2.2.2.2.2.2.2.2.2.1 (by decide) (by decide) (by decide) ⟨jle rfl, jle rfl⟩ ?_
  obtain ⟨q34, hq34⟩ : ∃ q, q = jn (jputr (jnew (jputr (jnew (jputr (jnew (jputr (jnew (jputr (jnew (jputr (jnew (jputr (jnew (jputr (jnew (jputr (jnew (jputr (jnew (jputr (jnew S 12 3135) a0 0 (some q1)) 12 3135) a0 1 (some q4)) 12 3135) a0 2 (some q7)) 12 4) a0 4 (some q10)) 12 4) a0 5 (some q13)) 12 96) a0 6 (some q16)) 12 5) a0 7 (some q19)) 12 5) a0 8 (some q22)) 12 5) a0 9 (some q25)) 12 5) a0 10 (some q28)) 12 120) a0 11 (some q31)) := ⟨_, rfl⟩
  rw [← hq34]
  replace h := h q34 hq34
  obtain ⟨hk35, h⟩ := h
  refine jx_putrF jc_11 (j := 12) (by decide) rfl jwF_X11_43 rfl rfl rfl rfl rfl dX11_init_94 hk35 ?_
  refine jx_aload_n 0 dX11_init_97 rfl rfl ?_
  refine jx_sipush (v := 135) dX11_init_98 (by decide) ?_
  refine jx_newa (N := 135) jwA kd60.2.2.2.2.2.2.2.2.2.2.2.2.1 (by decide) (by decide) (by decide) ⟨jle rfl, jle rfl⟩ ?_
  obtain ⟨q37, hq37⟩ : ∃ q, q = jn (jputr (jnew (jputr (jnew (jputr (jnew (jputr (jnew (jputr (jnew (jputr (jnew (jputr (jnew (jputr (jnew (jputr (jnew (jputr (jnew (jputr (jnew (jputr (jnew S 12 3135) a0 0 (some q1)) 12 3135) a0 1 (some q4)) 12 3135) a0 2 (some q7)) 12 4) a0 4 (some q10)) 12 4) a0 5 (some q13)) 12 96) a0 6 (some q16)) 12 5) a0 7 (some q19)) 12 5) a0 8 (some q22)) 12 5) a0 9 (some q25)) 12 5) a0 10 (some q28)) 12 120) a0 11 (some q31)) 12 36) a0 12 (some q34)) := ⟨_, rfl⟩
  rw [← hq37]
  replace h := h q37 hq37
  obtain ⟨hk38, h⟩ := h
  refine jx_putrF jc_11 (j := 13) (by decide) rfl jwF_X11_46 rfl rfl rfl rfl rfl dX11_init_103 hk38 ?_
  refine jx_aload_n 0 dX11_init_106 rfl rfl ?_
  refine jx_iconst (v := 4) dX11_init_107 (by decide) ?_
  refine jx_newa (N := 4) jwA kd60.2.2.2.2.2.2.2.2.2.2.2.2.2 (by decide) (by decide) (by decide) ⟨jle rfl, jle rfl⟩ ?_
  obtain ⟨q40, hq40⟩ : ∃ q, q = jn (jputr (jnew (jputr (jnew (jputr (jnew (jputr (jnew (jputr (jnew (jputr (jnew (jputr (jnew (jputr (jnew (jputr (jnew (jputr (jnew (jputr (jnew (jputr (jnew (jputr (jnew S 12 3135) a0 0 (some q1)) 12 3135) a0 1 (some q4)) 12 3135) a0 2 (some q7)) 12 4) a0 4 (some q10)) 12 4) a0 5 (some q13)) 12 96) a0 6 (some q16)) 12 5) a0 7 (some q19)) 12 5) a0 8 (some q22)) 12 5) a0 9 (some q25)) 12 5) a0 10 (some q28)) 12 120) a0 11 (some q31)) 12 36) a0 12 (some q34)) 12 135) a0 13 (some q37)) := ⟨_, rfl⟩
  rw [← hq40]
  replace h := h q40 hq40
  obtain ⟨hk41, h⟩ := h
  refine jx_putrF jc_11 (j := 14) (by decide) rfl jwF_X11_49 rfl rfl rfl rfl rfl dX11_init_110 hk41 ?_
  refine jx_aload_n 0 dX11_init_113 rfl rfl ?_
  refine jx_bipush (v := 96) dX11_init_114 (by decide) ?_
  refine jx_newa (N := 96) jwA kd61.1 (by decide) (by decide) (by decide) ⟨jle rfl, jle rfl⟩ ?_
  obtain ⟨q43, hq43⟩ : ∃ q, q = jn (jputr (jnew (jputr (jnew (jputr (jnew (jputr (jnew (jputr (jnew (jputr (jnew (jputr (jnew (jputr (jnew (jputr (jnew (jputr (jnew (jputr (jnew (jputr (jnew (jputr (jnew (jputr (jnew S 12 3135) a0 0 (some q1)) 12 3135) a0 1 (some q4)) 12 3135) a0 2 (some q7)) 12 4) a0 4 (some q10)) 12 4) a0 5 (some q13)) 12 96) a0 6 (some q16)) 12 5) a0 7 (some q19)) 12 5) a0 8 (some q22)) 12 5) a0 9 (some q25)) 12 5) a0 10 (some q28)) 12 120) a0 11 (some q31)) 12 36) a0 12 (some q34)) 12 135) a0 13 (some q37)) 12 4) a0 14 (some q40)) := ⟨_, rfl⟩
  rw [← hq43]
  replace h := h q43 hq43
  obtain ⟨hk44, h⟩ := h
  refine jx_putrF jc_11 (j := 18) (by decide) rfl jwF_X11_52 rfl rfl rfl rfl rfl dX11_init_118 hk44 ?_
  refine jx_aload_n 0 dX11_init_121 rfl rfl ?_
  refine jx_sipush (v := 128) dX11_init_122 (by decide) ?_
  refine jx_newa (N := 128) jwA kd61.2.1 (by decide) (by decide) (by decide) ⟨jle rfl, jle rfl⟩ ?_
  obtain ⟨q46, hq46⟩ : ∃ q, q = jn (jputr (jnew (jputr (jnew (jputr (jnew (jputr (jnew (jputr (jnew (jputr (jnew (jputr (jnew (jputr (jnew (jputr (jnew (jputr (jnew (jputr (jnew (jputr (jnew (jputr (jnew (jputr (jnew (jputr (jnew S 12 3135) a0 0 (some q1)) 12 3135) a0 1 (some q4)) 12 3135) a0 2 (some q7)) 12 4) a0 4 (some q10)) 12 4) a0 5 (some q13)) 12 96) a0 6 (some q16)) 12 5) a0 7 (some q19)) 12 5) a0 8 (some q22)) 12 5) a0 9 (some q25)) 12 5) a0 10 (some q28)) 12 120) a0 11 (some q31)) 12 36) a0 12 (some q34)) 12 135) a0 13 (some q37)) 12 4) a0 14 (some q40)) 12 96) a0 18 (some q43)) := ⟨_, rfl⟩
  rw [← hq46]
  replace h := h q46 hq46
  obtain ⟨hk47, h⟩ := h
  refine jx_putrF jc_11 (j := 30) (by decide) rfl jwF_X11_55 rfl rfl rfl rfl rfl dX11_init_127 hk47 ?_
  refine jx_aload_n 0 dX11_init_130 rfl rfl ?_
  refine jx_bipush (v := 100) dX11_init_131 (by decide) ?_
  refine jx_newa (N := 100) jwA kd61.2.2.1 (by decide) (by decide) (by decide) ⟨jle rfl, jle rfl⟩ ?_
  obtain ⟨q49, hq49⟩ : ∃ q, q = jn (jputr (jnew (jputr (jnew (jputr (jnew (jputr (jnew (jputr (jnew (jputr (jnew (jputr (jnew (jputr (jnew (jputr (jnew (jputr (jnew (jputr (jnew (jputr (jnew (jputr (jnew (jputr (jnew (jputr (jnew (jputr (jnew S 12 3135) a0 0 (some q1)) 12 3135) a0 1 (some q4)) 12 3135) a0 2 (some q7)) 12 4) a0 4 (some q10)) 12 4) a0 5 (some q13)) 12 96) a0 6 (some q16)) 12 5) a0 7 (some q19)) 12 5) a0 8 (some q22)) 12 5) a0 9 (some q25)) 12 5) a0 10 (some q28)) 12 120) a0 11 (some q31)) 12 36) a0 12 (some q34)) 12 135) a0 13 (some q37)) 12 4) a0 14 (some q40)) 12 96) a0 18 (some q43)) 12 128) a0 30 (some q46)) := ⟨_, rfl⟩
  rw [← hq49]
  replace h := h q49 hq49
  obtain ⟨hk50, h⟩ := h
  refine jx_putrF jc_11 (j := 31) (by decide) rfl jwF_X11_58 rfl rfl rfl rfl rfl dX11_init_135 hk50 ?_
  refine jx_aload_n 0 dX11_init_138 rfl rfl ?_
  refine jx_bipush (v := 24) dX11_init_139 (by decide) ?_
  refine jx_newa (N := 24) jwA kd61.2.2.2.1 (by decide) (by decide) (by decide) ⟨jle rfl, jle rfl⟩ ?_
  obtain ⟨q52, hq52⟩ : ∃ q, q = jn (jputr (jnew (jputr (jnew (jputr (jnew (jputr (jnew (jputr (jnew (jputr (jnew (jputr (jnew (jputr (jnew (jputr (jnew (jputr (jnew (jputr (jnew (jputr (jnew (jputr (jnew (jputr (jnew (jputr (jnew (jputr (jnew (jputr (jnew S 12 3135) a0 0 (some q1)) 12 3135) a0 1 (some q4)) 12 3135) a0 2 (some q7)) 12 4) a0 4 (some q10)) 12 4) a0 5 (some q13)) 12 96) a0 6 (some q16)) 12 5) a0 7 (some q19)) 12 5) a0 8 (some q22)) 12 5) a0 9 (some q25)) 12 5) a0 10 (some q28)) 12 120) a0 11 (some q31)) 12 36) a0 12 (some q34)) 12 135) a0 13 (some q37)) 12 4) a0 14 (some q40)) 12 96) a0 18 (some q43)) 12 128) a0 30 (some q46)) 12 100) a0 31 (some q49)) := ⟨_, rfl⟩
  rw [← hq52]
  replace h := h q52 hq52
  obtain ⟨hk53, h⟩ := h
  refine jx_putrF jc_11 (j := 32) (by decide) rfl jwF_X11_61 rfl rfl rfl rfl rfl dX11_init_143 hk53 ?_
  refine jx_aload_n 0 dX11_init_146 rfl rfl ?_
  refine jx_bipush (v := 60) dX11_init_147 (by decide) ?_
  refine jx_newa (N := 60) jwA kd61.2.2.2.2.1 (by decide) (by decide) (by decide) ⟨jle rfl, jle rfl⟩ ?_
  obtain ⟨q55, hq55⟩ : ∃ q, q = jn (jputr (jnew (jputr (jnew (jputr (jnew (jputr (jnew (jputr (jnew (jputr (jnew (jputr (jnew (jputr (jnew (jputr (jnew (jputr (jnew (jputr (jnew (jputr (jnew (jputr (jnew (jputr (jnew (jputr (jnew (jputr (jnew (jputr (jnew (jputr (jnew S 12 3135) a0 0 (some q1)) 12 3135) a0 1 (some q4)) 12 3135) a0 2 (some q7)) 12 4) a0 4 (some q10)) 12 4) a0 5 (some q13)) 12 96) a0 6 (some q16)) 12 5) a0 7 (some q19)) 12 5) a0 8 (some q22)) 12 5) a0 9 (some q25)) 12 5) a0 10 (some q28)) 12 120) a0 11 (some q31)) 12 36) a0 12 (some q34)) 12 135) a0 13 (some q37)) 12 4) a0 14 (some q40)) 12 96) a0 18 (some q43)) 12 128) a0 30 (some q46)) 12 100) a0 31 (some q49)) 12 24) a0 32 (some q52)) := ⟨_, rfl⟩
  rw [← hq55]
  replace h := h q55 hq55
  obtain ⟨hk56, h⟩ := h
  refine jx_putrF jc_11 (j := 33) (by decide) rfl jwF_X11_64 rfl rfl rfl rfl rfl dX11_init_151 hk56 ?_
  refine jx_aload_n 0 dX11_init_154 rfl rfl ?_
  refine jx_bipush (v := 60) dX11_init_155 (by decide) ?_
  refine jx_newa (N := 60) jwA kd61.2.2.2.2.2.1 (by decide) (by decide) (by decide) ⟨jle rfl, jle rfl⟩ ?_
  obtain ⟨q58, hq58⟩ : ∃ q, q = jn (jputr (jnew (jputr (jnew (jputr (jnew (jputr (jnew (jputr (jnew (jputr (jnew (jputr (jnew (jputr (jnew (jputr (jnew (jputr (jnew (jputr (jnew (jputr (jnew (jputr (jnew (jputr (jnew (jputr (jnew (jputr (jnew (jputr (jnew (jputr (jnew (jputr (jnew S 12 3135) a0 0 (some q1)) 12 3135) a0 1 (some q4)) 12 3135) a0 2 (some q7)) 12 4) a0 4 (some q10)) 12 4) a0 5 (some q13)) 12 96) a0 6 (some q16)) 12 5) a0 7 (some q19)) 12 5) a0 8 (some q22)) 12 5) a0 9 (some q25)) 12 5) a0 10 (some q28)) 12 120) a0 11 (some q31)) 12 36) a0 12 (some q34)) 12 135) a0 13 (some q37)) 12 4) a0 14 (some q40)) 12 96) a0 18 (some q43)) 12 128) a0 30 (some q46)) 12 100) a0 31 (some q49)) 12 24) a0 32 (some q52)) 12 60) a0 33 (some q55)) := ⟨_, rfl⟩
  rw [← hq58]
  replace h := h q58 hq58
  obtain ⟨hk59, h⟩ := h
  refine jx_putrF jc_11 (j := 35) (by decide) rfl jwF_X11_67 rfl rfl rfl rfl rfl dX11_init_159 hk59 ?_
  refine jx_aload_n 0 dX11_init_162 rfl rfl ?_
  obtain ⟨b61, hb61, h⟩ := h
  refine jx_getr jc_11 (j := 0) (by decide) rfl jwF_X11_7 dX11_init_163 hk59 hb61 ?_
  refine jx_bipush (v := 8) dX11_init_166 (by decide) ?_
  refine jx_iconst (v := 1) dX11_init_168 (by decide) ?_
  obtain ⟨hk62, h⟩ := h
  obtain ⟨hi63, h⟩ := h
  refine jx_iast dX11_init_169 hk62 hi63 ?_
  refine jx_aload_n 0 dX11_init_170 rfl rfl ?_
  refine jx_getr jc_11 (j := 0) (by decide) rfl jwF_X11_7 dX11_init_171 hk59 hb61 ?_
  refine jx_iconst (v := 5) dX11_init_174 (by decide) ?_
  refine jx_bipush (v := 100) dX11_init_175 (by decide) ?_
  obtain ⟨hi64, h⟩ := h
  refine jx_iast dX11_init_177 hk62 hi64 ?_
  refine jx_iconst (v := 0) dX11_init_178 (by decide) ?_
  refine jx_istore_n (lv1 := [(1, .int 0), (0, .ref a0)]) dX11_init_179 rfl (by decide) rfl ?_
  exact jx_lv [1, 0] rfl h
set_option maxRecDepth 100000 in
set_option maxHeartbeats 4000000 in
theorem T_X11_init_180 {E : jEnv} {d : Nat} {Q : jM → Prop} {a0 : Nat} {x1 : Int32} {S : jM} {c9 k9 : Nat} (h : (4 ≤ x1 → (c9 ≤ 20 ∧ k9 ≤ 10292) ∧ Q S) ∧ (¬ 4 ≤ x1 → jk S a0 = 11 ∧ ∃ b68, jr S a0 4 = some b68 ∧ (jk S b68 = 12 ∧ vp_in x1 (jl S b68) ∧ (L_X11_init_180 E d Q a0 (x1 + 1) (jput S b68 (Int32.toNatClampNeg x1) (-1)) c9 k9)))) : L_X11_init_180 E d Q a0 x1 S c9 k9 := by
  show jX E mX11_init (jRm (d + 1) 20 10292) (jZm E (fun r S' => r = none ∧ Q S') 20 10292) 180 [(0, .ref a0), (1, .int x1)] [] S c9 k9
  refine jx_iload_n 1 dX11_init_180 rfl rfl ?_
  refine jx_iconst (v := 4) dX11_init_181 (by decide) ?_
  refine jx_icmp_ge (tgt := 198) dX11_init_182 (by decide) (fun c65 => ?_) (fun c65 => ?_)
  · replace h := h.1 c65
    obtain ⟨hm66, h⟩ := h
    exact jx_vret dX11_init_198 rfl hm66.1 hm66.2 ⟨rfl, h⟩
  replace h := h.2 c65
  refine jx_aload_n 0 dX11_init_185 rfl rfl ?_
  obtain ⟨hk67, h⟩ := h
  obtain ⟨b68, hb68, h⟩ := h
  refine jx_getr jc_11 (j := 4) (by decide) rfl jwF_X11_19 dX11_init_186 hk67 hb68 ?_
  refine jx_iload_n 1 dX11_init_189 rfl rfl ?_
  refine jx_iconst (v := (-1)) dX11_init_190 (by decide) ?_
  obtain ⟨hk69, h⟩ := h
  obtain ⟨hi70, h⟩ := h
  refine jx_iast dX11_init_191 hk69 hi70 ?_
  refine jx_iinc 1 (v := (x1 + 1)) (lv1 := [(1, .int (x1 + 1)), (0, .ref a0)]) kd61.2.2.2.2.2.2.1 rfl rfl (by decide) rfl ?_
  refine jx_goto (tgt := 180) kd61.2.2.2.2.2.2.2 (by decide) ?_
  exact jx_lv [1, 0] rfl h
set_option maxRecDepth 100000 in
set_option maxHeartbeats 4000000 in
theorem T_X11_becomes {E : jEnv} {d : Nat} {Q : Int32 → jM → Prop} {a0 : Nat} {x1 : Int32} {x2 : Int32} {S : jM} (h : jk S a0 = 11 ∧ ∃ b2, jr S a0 0 = some b2 ∧ (jk S b2 = 12 ∧ vp_in x1 (jl S b2) ∧ ((Q (ji S b2 (Int32.toNatClampNeg x1)) (jput S b2 (Int32.toNatClampNeg x1) x2))))) : jFi E mX11_becomes d 0 0 [.ref a0, .int x1, .int x2] S Q := by
  refine jF_of (by decide) (jle rfl) ?_
  refine jx_lv (lv1 := [(0, .ref a0), (1, .int x1), (2, .int x2)]) [0, 1, 2] rfl ?_
  refine jx_aload_n 0 dX11_becomes_0 rfl rfl ?_
  obtain ⟨hk1, h⟩ := h
  obtain ⟨b2, hb2, h⟩ := h
  refine jx_getr jc_11 (j := 0) (by decide) rfl jwF_X11_7 dX11_becomes_1 hk1 hb2 ?_
  refine jx_iload_n 1 dX11_becomes_4 rfl rfl ?_
  obtain ⟨hk3, h⟩ := h
  obtain ⟨hi4, h⟩ := h
  refine jx_iald dX11_becomes_5 hk3 hi4 ?_
  refine jx_istore_n (lv1 := [(3, .int (ji S b2 (Int32.toNatClampNeg x1))), (0, .ref a0), (1, .int x1), (2, .int x2)]) dX11_becomes_6 rfl (by decide) rfl ?_
  refine jx_aload_n 1 dX11_becomes_7 rfl rfl ?_
  refine jx_getr jc_11 (j := 0) (by decide) rfl jwF_X11_7 dX11_becomes_8 hk1 hb2 ?_
  refine jx_iload_n 2 dX11_becomes_11 rfl rfl ?_
  refine jx_iload_n 3 dX11_becomes_12 rfl rfl ?_
  refine jx_iast dX11_becomes_13 hk3 hi4 ?_
  refine jx_iload_n 0 dX11_becomes_14 rfl rfl ?_
  exact jx_iret dX11_becomes_15 rfl rfl (jle rfl) (jle rfl) ⟨_, rfl, h⟩
set_option maxRecDepth 100000 in
set_option maxHeartbeats 4000000 in
theorem T_X11_of {E : jEnv} {d : Nat} {Q : Int32 → jM → Prop} {a0 : Nat} {x1 : Int32} {x2 : Int32} {S : jM} (h : jk S a0 = 11 ∧ ∃ b2, jr S a0 0 = some b2 ∧ (jk S b2 = 12 ∧ vp_in ((72 + (7 * x1)) + x2) (jl S b2) ∧ (Q (ji S b2 (Int32.toNatClampNeg ((72 + (7 * x1)) + x2))) S))) : jFi E mX11_of d 0 0 [.ref a0, .int x1, .int x2] S Q := by
  refine jF_of (by decide) (jle rfl) ?_
  refine jx_lv (lv1 := [(0, .ref a0), (1, .int x1), (2, .int x2)]) [0, 1, 2] rfl ?_
  refine jx_aload_n 0 dX11_of_0 rfl rfl ?_
  obtain ⟨hk1, h⟩ := h
  obtain ⟨b2, hb2, h⟩ := h
  refine jx_getr jc_11 (j := 0) (by decide) rfl jwF_X11_7 dX11_of_1 hk1 hb2 ?_
  refine jx_bipush (v := 72) dX11_of_4 (by decide) ?_
  refine jx_bipush (v := 7) dX11_of_6 (by decide) ?_
  refine jx_iload_n 1 dX11_of_8 rfl rfl ?_
  refine jx_imul dX11_of_9 ?_
  refine jx_iadd dX11_of_10 ?_
  refine jx_iload_n 2 dX11_of_11 rfl rfl ?_
  refine jx_iadd dX11_of_12 ?_
  obtain ⟨hk3, h⟩ := h
  obtain ⟨hi4, h⟩ := h
  refine jx_iald dX11_of_13 hk3 hi4 ?_
  exact jx_iret dX11_of_14 rfl rfl (jle rfl) (jle rfl) ⟨_, rfl, h⟩
set_option maxRecDepth 100000 in
set_option maxHeartbeats 4000000 in
theorem T_X11_isMaster {E : jEnv} {d : Nat} {Q : Int32 → jM → Prop} {a0 : Nat} {x1 : Int32} {S : jM} (h : jk S a0 = 11 ∧ ∃ b2, jr S a0 0 = some b2 ∧ (jk S b2 = 12 ∧ vp_in 0 (jl S b2) ∧ (((jisin (Int32.toInt64 x1) 0 (Int32.toInt64 ((ji S b2 (Int32.toNatClampNeg 0)) - 1))) = 0 ∨ (jisin (Int32.toInt64 x1) 0 (Int32.toInt64 ((ji S b2 (Int32.toNatClampNeg 0)) - 1))) = 1) ∧ Q (jisin (Int32.toInt64 x1) 0 (Int32.toInt64 ((ji S b2 (Int32.toNatClampNeg 0)) - 1))) S))) : jFi E mX11_isMaster (d + 1) 0 0 [.ref a0, .int x1] S Q := by
  refine jF_of (by decide) (jle rfl) ?_
  refine jx_lv (lv1 := [(0, .ref a0), (1, .int x1)]) [0, 1] rfl ?_
  refine jx_iload_n 1 dX11_isMaster_0 rfl rfl ?_
  refine jx_i2l dX11_isMaster_1 ?_
  refine jx_lconst (v := 0) dX11_isMaster_2 (by decide) ?_
  refine jx_aload_n 0 dX11_isMaster_3 rfl rfl ?_
  obtain ⟨hk1, h⟩ := h
  obtain ⟨b2, hb2, h⟩ := h
  refine jx_getr jc_11 (j := 0) (by decide) rfl jwF_X11_7 dX11_isMaster_4 hk1 hb2 ?_
  refine jx_iconst (v := 0) dX11_isMaster_7 (by decide) ?_
  obtain ⟨hk3, h⟩ := h
  obtain ⟨hi4, h⟩ := h
  refine jx_iald dX11_isMaster_8 hk3 hi4 ?_
  refine jx_iconst (v := 1) dX11_isMaster_9 (by decide) ?_
  refine jx_isub dX11_isMaster_10 ?_
  refine jx_i2l dX11_isMaster_11 ?_
  refine jx_callSi (M' := mX11_isIn) (As := [.long (Int32.toInt64 x1), .long 0, .long (Int32.toInt64 ((ji S b2 (Int32.toNatClampNeg 0)) - 1))]) jo_X11_isIn jwM_X11_71 jwS_X11_isIn dX11_isMaster_12 (jRok_m _ _ _) rfl (jle rfl) ⟨jle rfl, jle rfl⟩ (c_X11_isIn (Q := fun v S' => v = (jisin (Int32.toInt64 x1) 0 (Int32.toInt64 ((ji S b2 (Int32.toNatClampNeg 0)) - 1))) ∧ S = S') ⟨rfl, rfl⟩) (fun r5 S6 hq7 => ?_)
  obtain ⟨rfl, rfl⟩ := hq7
  obtain ⟨hb8, h⟩ := h
  exact jx_iret dX11_isMaster_15 rfl (jb_nar hb8) (jle rfl) (jle rfl) ⟨_, rfl, h⟩
set_option maxRecDepth 100000 in
set_option maxHeartbeats 4000000 in
theorem T_X11_isText {E : jEnv} {d : Nat} {Q : Int32 → jM → Prop} {a0 : Nat} {x1 : Int32} {S : jM} (h : jk S a0 = 11 ∧ ∃ b2, jr S a0 0 = some b2 ∧ (jk S b2 = 12 ∧ vp_in 1 (jl S b2) ∧ (((jisin (Int32.toInt64 x1) 0 (Int32.toInt64 ((ji S b2 (Int32.toNatClampNeg 1)) - 1))) = 0 ∨ (jisin (Int32.toInt64 x1) 0 (Int32.toInt64 ((ji S b2 (Int32.toNatClampNeg 1)) - 1))) = 1) ∧ Q (jisin (Int32.toInt64 x1) 0 (Int32.toInt64 ((ji S b2 (Int32.toNatClampNeg 1)) - 1))) S))) : jFi E mX11_isText (d + 1) 0 0 [.ref a0, .int x1] S Q := by
  refine jF_of (by decide) (jle rfl) ?_
  refine jx_lv (lv1 := [(0, .ref a0), (1, .int x1)]) [0, 1] rfl ?_
  refine jx_iload_n 1 dX11_isText_0 rfl rfl ?_
  refine jx_i2l dX11_isText_1 ?_
  refine jx_lconst (v := 0) dX11_isText_2 (by decide) ?_
  refine jx_aload_n 0 dX11_isText_3 rfl rfl ?_
  obtain ⟨hk1, h⟩ := h
  obtain ⟨b2, hb2, h⟩ := h
  refine jx_getr jc_11 (j := 0) (by decide) rfl jwF_X11_7 dX11_isText_4 hk1 hb2 ?_
  refine jx_iconst (v := 1) dX11_isText_7 (by decide) ?_
  obtain ⟨hk3, h⟩ := h
  obtain ⟨hi4, h⟩ := h
  refine jx_iald dX11_isText_8 hk3 hi4 ?_
  refine jx_iconst (v := 1) dX11_isText_9 (by decide) ?_
  refine jx_isub dX11_isText_10 ?_
  refine jx_i2l dX11_isText_11 ?_
  refine jx_callSi (M' := mX11_isIn) (As := [.long (Int32.toInt64 x1), .long 0, .long (Int32.toInt64 ((ji S b2 (Int32.toNatClampNeg 1)) - 1))]) jo_X11_isIn jwM_X11_71 jwS_X11_isIn dX11_isText_12 (jRok_m _ _ _) rfl (jle rfl) ⟨jle rfl, jle rfl⟩ (c_X11_isIn (Q := fun v S' => v = (jisin (Int32.toInt64 x1) 0 (Int32.toInt64 ((ji S b2 (Int32.toNatClampNeg 1)) - 1))) ∧ S = S') ⟨rfl, rfl⟩) (fun r5 S6 hq7 => ?_)
  obtain ⟨rfl, rfl⟩ := hq7
  obtain ⟨hb8, h⟩ := h
  exact jx_iret dX11_isText_15 rfl (jb_nar hb8) (jle rfl) (jle rfl) ⟨_, rfl, h⟩
set_option maxRecDepth 100000 in
set_option maxHeartbeats 4000000 in
theorem T_X11_drawn {E : jEnv} {d : Nat} {Q : Int32 → jM → Prop} {a0 : Nat} {S : jM} (h : jk S a0 = 11 ∧ ∃ b2, jr S a0 0 = some b2 ∧ (jk S b2 = 12 ∧ vp_in 8 (jl S b2) ∧ (((Q (jushr (((ji S b2 (Int32.toNatClampNeg 8)) * 1103515245) + 12345) 8) (jput S b2 (Int32.toNatClampNeg 8) (((ji S b2 (Int32.toNatClampNeg 8)) * 1103515245) + 12345))))))) : jFi E mX11_drawn d 0 0 [.ref a0] S Q := by
  refine jF_of (by decide) (jle rfl) ?_
  refine jx_lv (lv1 := [(0, .ref a0)]) [0] rfl ?_
  refine jx_aload_n 0 dX11_drawn_0 rfl rfl ?_
  obtain ⟨hk1, h⟩ := h
  obtain ⟨b2, hb2, h⟩ := h
  refine jx_getr jc_11 (j := 0) (by decide) rfl jwF_X11_7 dX11_drawn_1 hk1 hb2 ?_
  refine jx_bipush (v := 8) dX11_drawn_4 (by decide) ?_
  refine jx_aload_n 0 dX11_drawn_6 rfl rfl ?_
  refine jx_getr jc_11 (j := 0) (by decide) rfl jwF_X11_7 dX11_drawn_7 hk1 hb2 ?_
  refine jx_bipush (v := 8) dX11_drawn_10 (by decide) ?_
  obtain ⟨hk3, h⟩ := h
  obtain ⟨hi4, h⟩ := h
  refine jx_iald dX11_drawn_12 hk3 hi4 ?_
  refine jx_ldc jwC_X11_75 dX11_drawn_13 ?_
  refine jx_imul dX11_drawn_15 ?_
  refine jx_sipush (v := 12345) dX11_drawn_16 (by decide) ?_
  refine jx_iadd dX11_drawn_19 ?_
  refine jx_iast dX11_drawn_20 hk3 hi4 ?_
  refine jx_aload_n 0 dX11_drawn_21 rfl rfl ?_
  refine jx_getr jc_11 (j := 0) (by decide) rfl jwF_X11_7 dX11_drawn_22 hk1 hb2 ?_
  refine jx_bipush (v := 8) dX11_drawn_25 (by decide) ?_
  refine jx_iald dX11_drawn_27 hk3 hi4 ?_
  refine jx_topi (y := (((ji S b2 (Int32.toNatClampNeg 8)) * 1103515245) + 12345)) (by simp [ji_put, ji_row, ji_putr]) ?_
  refine jx_bipush (v := 8) dX11_drawn_28 (by decide) ?_
  refine jx_iushr dX11_drawn_30 ?_
  exact jx_iret dX11_drawn_31 rfl rfl (jle rfl) (jle rfl) ⟨_, rfl, h⟩
set_option maxRecDepth 100000 in
set_option maxHeartbeats 4000000 in
theorem T_X11_comes {E : jEnv} {d : Nat} {Q : jM → Prop} {a0 : Nat} {x1 : Int32} {x2 : Int32} {x3 : Int32} {x4 : Int32} {S : jM} (h : jk S a0 = 11 ∧ ∃ b2, jr S a0 0 = some b2 ∧ (jk S b2 = 12 ∧ vp_in 0 (jl S b2) ∧ (vp_in (72 + (7 * (ji S b2 (Int32.toNatClampNeg 0)))) (jl S b2) ∧ (vp_in ((72 + (7 * (ji S b2 (Int32.toNatClampNeg 0)))) + 1) (jl S b2) ∧ (vp_in ((72 + (7 * (ji S b2 (Int32.toNatClampNeg 0)))) + 2) (jl S b2) ∧ (vp_in ((72 + (7 * (ji S b2 (Int32.toNatClampNeg 0)))) + 3) (jl S b2) ∧ (vp_in ((72 + (7 * (ji S b2 (Int32.toNatClampNeg 0)))) + 4) (jl S b2) ∧ (vp_in ((72 + (7 * (ji S b2 (Int32.toNatClampNeg 0)))) + 5) (jl S b2) ∧ (vp_in ((72 + (7 * (ji S b2 (Int32.toNatClampNeg 0)))) + 6) (jl S b2) ∧ (((Q (jput (jput (jput (jput (jput (jput (jput (jput S b2 (Int32.toNatClampNeg (72 + (7 * (ji S b2 (Int32.toNatClampNeg 0))))) x1) b2 (Int32.toNatClampNeg ((72 + (7 * (ji S b2 (Int32.toNatClampNeg 0)))) + 1)) x2) b2 (Int32.toNatClampNeg ((72 + (7 * (ji S b2 (Int32.toNatClampNeg 0)))) + 2)) x3) b2 (Int32.toNatClampNeg ((72 + (7 * (ji S b2 (Int32.toNatClampNeg 0)))) + 3)) 0) b2 (Int32.toNatClampNeg ((72 + (7 * (ji S b2 (Int32.toNatClampNeg 0)))) + 4)) x4) b2 (Int32.toNatClampNeg ((72 + (7 * (ji S b2 (Int32.toNatClampNeg 0)))) + 5)) 40) b2 (Int32.toNatClampNeg ((72 + (7 * (ji S b2 (Int32.toNatClampNeg 0)))) + 6)) 0) b2 (Int32.toNatClampNeg 0) ((ji (jput (jput (jput (jput (jput (jput (jput S b2 (Int32.toNatClampNeg (72 + (7 * (ji S b2 (Int32.toNatClampNeg 0))))) x1) b2 (Int32.toNatClampNeg ((72 + (7 * (ji S b2 (Int32.toNatClampNeg 0)))) + 1)) x2) b2 (Int32.toNatClampNeg ((72 + (7 * (ji S b2 (Int32.toNatClampNeg 0)))) + 2)) x3) b2 (Int32.toNatClampNeg ((72 + (7 * (ji S b2 (Int32.toNatClampNeg 0)))) + 3)) 0) b2 (Int32.toNatClampNeg ((72 + (7 * (ji S b2 (Int32.toNatClampNeg 0)))) + 4)) x4) b2 (Int32.toNatClampNeg ((72 + (7 * (ji S b2 (Int32.toNatClampNeg 0)))) + 5)) 40) b2 (Int32.toNatClampNeg ((72 + (7 * (ji S b2 (Int32.toNatClampNeg 0)))) + 6)) 0) b2 (Int32.toNatClampNeg 0)) + 1)))))))))))))) : jFv E mX11_comes d 0 0 [.ref a0, .int x1, .int x2, .int x3, .int x4] S Q := by
  refine jF_of (by decide) (jle rfl) ?_
  refine jx_lv (lv1 := [(0, .ref a0), (1, .int x1), (2, .int x2), (3, .int x3), (4, .int x4)]) [0, 1, 2, 3, 4] rfl ?_
  refine jx_bipush (v := 72) dX11_comes_0 (by decide) ?_
  refine jx_bipush (v := 7) dX11_comes_2 (by decide) ?_
  refine jx_aload_n 0 dX11_comes_4 rfl rfl ?_
  obtain ⟨hk1, h⟩ := h
  obtain ⟨b2, hb2, h⟩ := h
  refine jx_getr jc_11 (j := 0) (by decide) rfl jwF_X11_7 dX11_comes_5 hk1 hb2 ?_
  refine jx_iconst (v := 0) dX11_comes_8 (by decide) ?_
  obtain ⟨hk3, h⟩ := h
  obtain ⟨hi4, h⟩ := h
  refine jx_iald dX11_comes_9 hk3 hi4 ?_
  refine jx_imul dX11_comes_10 ?_
  refine jx_iadd dX11_comes_11 ?_
  refine jx_istore (lv1 := [(5, .int (72 + (7 * (ji S b2 (Int32.toNatClampNeg 0))))), (0, .ref a0), (1, .int x1), (2, .int x2), (3, .int x3), (4, .int x4)]) dX11_comes_12 (by decide) rfl ?_
  refine jx_aload_n 1 dX11_comes_14 rfl rfl ?_
  refine jx_getr jc_11 (j := 0) (by decide) rfl jwF_X11_7 dX11_comes_15 hk1 hb2 ?_
  refine jx_iload 0 dX11_comes_18 rfl ?_
  refine jx_iload_n 2 dX11_comes_20 rfl rfl ?_
  obtain ⟨hi5, h⟩ := h
  refine jx_iast dX11_comes_21 hk3 hi5 ?_
  refine jx_aload_n 1 dX11_comes_22 rfl rfl ?_
  refine jx_getr jc_11 (j := 0) (by decide) rfl jwF_X11_7 dX11_comes_23 hk1 hb2 ?_
  refine jx_iload 0 dX11_comes_26 rfl ?_
  refine jx_iconst (v := 1) dX11_comes_28 (by decide) ?_
  refine jx_iadd dX11_comes_29 ?_
  refine jx_iload_n 3 dX11_comes_30 rfl rfl ?_
  obtain ⟨hi6, h⟩ := h
  refine jx_iast dX11_comes_31 hk3 hi6 ?_
  refine jx_aload_n 1 dX11_comes_32 rfl rfl ?_
  refine jx_getr jc_11 (j := 0) (by decide) rfl jwF_X11_7 dX11_comes_33 hk1 hb2 ?_
  refine jx_iload 0 dX11_comes_36 rfl ?_
  refine jx_iconst (v := 2) dX11_comes_38 (by decide) ?_
  refine jx_iadd dX11_comes_39 ?_
  refine jx_iload_n 4 dX11_comes_40 rfl rfl ?_
  obtain ⟨hi7, h⟩ := h
  refine jx_iast dX11_comes_41 hk3 hi7 ?_
  refine jx_aload_n 1 dX11_comes_42 rfl rfl ?_
  refine jx_getr jc_11 (j := 0) (by decide) rfl jwF_X11_7 dX11_comes_43 hk1 hb2 ?_
  refine jx_iload 0 dX11_comes_46 rfl ?_
  refine jx_iconst (v := 3) dX11_comes_48 (by decide) ?_
  refine jx_iadd dX11_comes_49 ?_
  refine jx_iconst (v := 0) dX11_comes_50 (by decide) ?_
  obtain ⟨hi8, h⟩ := h
  refine jx_iast dX11_comes_51 hk3 hi8 ?_
  refine jx_aload_n 1 dX11_comes_52 rfl rfl ?_
  refine jx_getr jc_11 (j := 0) (by decide) rfl jwF_X11_7 dX11_comes_53 hk1 hb2 ?_
  refine jx_iload 0 dX11_comes_56 rfl ?_
  refine jx_iconst (v := 4) dX11_comes_58 (by decide) ?_
  refine jx_iadd dX11_comes_59 ?_
  refine jx_iload 5 dX11_comes_60 rfl ?_
  obtain ⟨hi9, h⟩ := h
  refine jx_iast dX11_comes_62 hk3 hi9 ?_
  refine jx_aload_n 1 dX11_comes_63 rfl rfl ?_
  refine jx_getr jc_11 (j := 0) (by decide) rfl jwF_X11_7 dX11_comes_64 hk1 hb2 ?_
  refine jx_iload 0 dX11_comes_67 rfl ?_
  refine jx_iconst (v := 5) dX11_comes_69 (by decide) ?_
  refine jx_iadd dX11_comes_70 ?_
  refine jx_bipush (v := 40) dX11_comes_71 (by decide) ?_
  obtain ⟨hi10, h⟩ := h
  refine jx_iast dX11_comes_73 hk3 hi10 ?_
  refine jx_aload_n 1 dX11_comes_74 rfl rfl ?_
  refine jx_getr jc_11 (j := 0) (by decide) rfl jwF_X11_7 dX11_comes_75 hk1 hb2 ?_
  refine jx_iload 0 dX11_comes_78 rfl ?_
  refine jx_bipush (v := 6) dX11_comes_80 (by decide) ?_
  refine jx_iadd dX11_comes_82 ?_
  refine jx_iconst (v := 0) dX11_comes_83 (by decide) ?_
  obtain ⟨hi11, h⟩ := h
  refine jx_iast dX11_comes_84 hk3 hi11 ?_
  refine jx_aload_n 1 dX11_comes_85 rfl rfl ?_
  refine jx_getr jc_11 (j := 0) (by decide) rfl jwF_X11_7 dX11_comes_86 hk1 hb2 ?_
  refine jx_iconst (v := 0) dX11_comes_89 (by decide) ?_
  refine jx_dup2 dX11_comes_90 rfl rfl ?_
  refine jx_iald dX11_comes_91 hk3 hi4 ?_
  refine jx_iconst (v := 1) dX11_comes_92 (by decide) ?_
  refine jx_iadd dX11_comes_93 ?_
  refine jx_iast dX11_comes_94 hk3 hi4 ?_
  exact jx_vret dX11_comes_95 rfl (jle rfl) (jle rfl) ⟨rfl, h⟩
set_option maxRecDepth 100000 in
set_option maxHeartbeats 4000000 in
theorem T_X11_master {E : jEnv} {d : Nat} {Q : Int32 → jM → Prop} {a0 : Nat} {x1 : Int32} {x2 : Int32} {x3 : Int32} {x4 : Int32} {S : jM} (h : ((jisin (Int32.toInt64 x1) 0 5) = 0 → Q (-1000000001) S) ∧ (¬ (jisin (Int32.toInt64 x1) 0 5) = 0 → ((jist x2) = 0 → Q (-1000000001) S) ∧ (¬ (jist x2) = 0 → ((jisg x3) = 0 → Q (-1000000001) S) ∧ (¬ (jisg x3) = 0 → ((jisin (Int32.toInt64 x4) 0 99) = 0 → Q (-1000000001) S) ∧ (¬ (jisin (Int32.toInt64 x4) 0 99) = 0 → jk S a0 = 11 ∧ ∃ b18, jr S a0 0 = some b18 ∧ (jk S b18 = 12 ∧ vp_in 0 (jl S b18) ∧ (((ji S b18 (Int32.toNatClampNeg 0)) = 9 → Q (-1000000003) S) ∧ (¬ (ji S b18 (Int32.toNatClampNeg 0)) = 9 → jFv E mX11_comes d 0 0 [.ref a0, .int x1, .int x2, .int x3, .int x4] S (fun S22 => jk S22 a0 = 11 ∧ ∃ b24, jr S22 a0 0 = some b24 ∧ (jk S22 b24 = 12 ∧ vp_in 0 (jl S22 b24) ∧ (Q ((ji S22 b24 (Int32.toNatClampNeg 0)) - 1) S22))))))))))) : jFi E mX11_master (d + 1) 0 0 [.ref a0, .int x1, .int x2, .int x3, .int x4] S Q := by
  refine jF_of (by decide) (jle rfl) ?_
  refine jx_lv (lv1 := [(0, .ref a0), (1, .int x1), (2, .int x2), (3, .int x3), (4, .int x4)]) [0, 1, 2, 3, 4] rfl ?_
  refine jx_iload_n 1 dX11_master_0 rfl rfl ?_
  refine jx_i2l dX11_master_1 ?_
  refine jx_lconst (v := 0) dX11_master_2 (by decide) ?_
  refine jx_ldc2 jwL_X11_76 dX11_master_3 ?_
  refine jx_callSi (M' := mX11_isIn) (As := [.long (Int32.toInt64 x1), .long 0, .long 5]) jo_X11_isIn jwM_X11_71 jwS_X11_isIn dX11_master_6 (jRok_m _ _ _) rfl (jle rfl) ⟨jle rfl, jle rfl⟩ (c_X11_isIn (Q := fun v S' => v = (jisin (Int32.toInt64 x1) 0 5) ∧ S = S') ⟨rfl, rfl⟩) (fun r1 S2 hq3 => ?_)
  obtain ⟨rfl, rfl⟩ := hq3
  refine jx_if_eq (tgt := 39) dX11_master_9 (by decide) (fun c4 => ?_) (fun c4 => ?_)
  · replace h := h.1 c4
    refine jx_ldc jwC_X11_87 dX11_master_39 ?_
    exact jx_iret dX11_master_41 rfl rfl (jle rfl) (jle rfl) ⟨_, rfl, h⟩
  replace h := h.2 c4
  refine jx_iload_n 2 dX11_master_12 rfl rfl ?_
  refine jx_callSi (M' := mX11_isTown) (As := [.int x2]) jo_X11_isTown jwM_X11_78 jwS_X11_isTown dX11_master_13 (jRok_m _ _ _) rfl (jle rfl) ⟨jle rfl, jle rfl⟩ (c_X11_isTown (Q := fun v S' => v = (jist x2) ∧ S = S') ⟨rfl, rfl⟩) (fun r5 S6 hq7 => ?_)
  obtain ⟨rfl, rfl⟩ := hq7
  refine jx_if_eq (tgt := 39) dX11_master_16 (by decide) (fun c8 => ?_) (fun c8 => ?_)
  · replace h := h.1 c8
    refine jx_ldc jwC_X11_87 dX11_master_39 ?_
    exact jx_iret dX11_master_41 rfl rfl (jle rfl) (jle rfl) ⟨_, rfl, h⟩
  replace h := h.2 c8
  refine jx_iload_n 3 dX11_master_19 rfl rfl ?_
  refine jx_callSi (M' := mX11_isGesture) (As := [.int x3]) jo_X11_isGesture jwM_X11_82 jwS_X11_isGesture dX11_master_20 (jRok_m _ _ _) rfl (jle rfl) ⟨jle rfl, jle rfl⟩ (c_X11_isGesture (Q := fun v S' => v = (jisg x3) ∧ S = S') ⟨rfl, rfl⟩) (fun r9 S10 hq11 => ?_)
  obtain ⟨rfl, rfl⟩ := hq11
  refine jx_if_eq (tgt := 39) dX11_master_23 (by decide) (fun c12 => ?_) (fun c12 => ?_)
  · replace h := h.1 c12
    refine jx_ldc jwC_X11_87 dX11_master_39 ?_
    exact jx_iret dX11_master_41 rfl rfl (jle rfl) (jle rfl) ⟨_, rfl, h⟩
  replace h := h.2 c12
  refine jx_iload 4 dX11_master_26 rfl ?_
  refine jx_i2l dX11_master_28 ?_
  refine jx_lconst (v := 0) dX11_master_29 (by decide) ?_
  refine jx_ldc2 jwL_X11_85 dX11_master_30 ?_
  refine jx_callSi (M' := mX11_isIn) (As := [.long (Int32.toInt64 x4), .long 0, .long 99]) jo_X11_isIn jwM_X11_71 jwS_X11_isIn dX11_master_33 (jRok_m _ _ _) rfl (jle rfl) ⟨jle rfl, jle rfl⟩ (c_X11_isIn (Q := fun v S' => v = (jisin (Int32.toInt64 x4) 0 99) ∧ S = S') ⟨rfl, rfl⟩) (fun r13 S14 hq15 => ?_)
  obtain ⟨rfl, rfl⟩ := hq15
  refine jx_if_ne (tgt := 42) dX11_master_36 (by decide) (fun c16 => ?_) (fun c16 => ?_)
  · replace h := h.2 c16
    refine jx_aload_n 0 dX11_master_42 rfl rfl ?_
    obtain ⟨hk17, h⟩ := h
    obtain ⟨b18, hb18, h⟩ := h
    refine jx_getr jc_11 (j := 0) (by decide) rfl jwF_X11_7 dX11_master_43 hk17 hb18 ?_
    refine jx_iconst (v := 0) dX11_master_46 (by decide) ?_
    obtain ⟨hk19, h⟩ := h
    obtain ⟨hi20, h⟩ := h
    refine jx_iald dX11_master_47 hk19 hi20 ?_
    refine jx_bipush (v := 9) dX11_master_48 (by decide) ?_
    refine jx_icmp_ne (tgt := 56) dX11_master_50 (by decide) (fun c21 => ?_) (fun c21 => ?_)
    · replace h := h.2 c21
      refine jx_aload_n 0 dX11_master_56 rfl rfl ?_
      refine jx_iload_n 1 dX11_master_57 rfl rfl ?_
      refine jx_iload_n 2 dX11_master_58 rfl rfl ?_
      refine jx_iload_n 3 dX11_master_59 rfl rfl ?_
      refine jx_iload 4 dX11_master_60 rfl ?_
      refine jx_callVv (M' := mX11_comes) (As := [.int x1, .int x2, .int x3, .int x4]) jo_X11_comes jc_11 rfl jwM_X11_89 jwN_X11_comes jwX_X11_comes dX11_master_62 (jRok_m _ _ _) rfl (jle rfl) ⟨jle rfl, jle rfl⟩ hk17 h (fun S22 h => ?_)
      refine jx_aload_n 0 dX11_master_65 rfl rfl ?_
      obtain ⟨hk23, h⟩ := h
      obtain ⟨b24, hb24, h⟩ := h
      refine jx_getr jc_11 (j := 0) (by decide) rfl jwF_X11_7 dX11_master_66 hk23 hb24 ?_
      refine jx_iconst (v := 0) dX11_master_69 (by decide) ?_
      obtain ⟨hk25, h⟩ := h
      obtain ⟨hi26, h⟩ := h
      refine jx_iald dX11_master_70 hk25 hi26 ?_
      refine jx_iconst (v := 1) dX11_master_71 (by decide) ?_
      refine jx_isub dX11_master_72 ?_
      exact jx_iret dX11_master_73 rfl rfl (jle rfl) (jle rfl) ⟨_, rfl, h⟩
    replace h := h.1 c21
    refine jx_ldc jwC_X11_88 dX11_master_53 ?_
    exact jx_iret dX11_master_55 rfl rfl (jle rfl) (jle rfl) ⟨_, rfl, h⟩
  replace h := h.1 c16
  refine jx_ldc jwC_X11_87 dX11_master_39 ?_
  exact jx_iret dX11_master_41 rfl rfl (jle rfl) (jle rfl) ⟨_, rfl, h⟩
set_option maxRecDepth 100000 in
set_option maxHeartbeats 4000000 in
theorem T_X11_takes {E : jEnv} {d : Nat} {Q : Int32 → jM → Prop} {a0 : Nat} {x1 : Int32} {x2 : Int32} {S : jM} (h : jk S a0 = 11 ∧ jFi E mX11_counts d 0 0 [.ref a0, .int 0] S (fun r3 S2 => (r3 < 0 → ((3 + x2) ≤ 1 → jk S2 a0 = 11 ∧ jFi E mX11_of d 0 0 [.ref a0, .int x1, .int 0] S2 (fun r8 S7 => (r8 = 1 → Q (2 * (3 + x2)) S7) ∧ (r8 = 2 → Q 1 S7) ∧ (r8 = 3 → jk S7 a0 = 11 ∧ jFi E mX11_of d 0 0 [.ref a0, .int x1, .int 5] S7 (fun r14 S13 => Q ((2 * (3 + x2)) + (r14 / 10)) S13)) ∧ (r8 = 4 → Q 1 S7) ∧ (r8 = 5 → Q 1 S7) ∧ (¬ r8 = 1 → ¬ r8 = 2 → ¬ r8 = 3 → ¬ r8 = 4 → ¬ r8 = 5 → Q (3 + x2) S7))) ∧ (¬ (3 + x2) ≤ 1 → jk S2 a0 = 11 ∧ jFi E mX11_of d 0 0 [.ref a0, .int x1, .int 0] S2 (fun r19 S18 => (r19 = 1 → Q (2 * (3 + x2)) S18) ∧ (r19 = 2 → Q ((3 + x2) - 1) S18) ∧ (r19 = 3 → jk S18 a0 = 11 ∧ jFi E mX11_of d 0 0 [.ref a0, .int x1, .int 5] S18 (fun r25 S24 => Q ((2 * (3 + x2)) + (r25 / 10)) S24)) ∧ (r19 = 4 → (((3 + x2) - 1) ≤ 1 → Q 1 S18) ∧ (¬ ((3 + x2) - 1) ≤ 1 → Q (((3 + x2) - 1) / 2) S18)) ∧ (r19 = 5 → Q 1 S18) ∧ (¬ r19 = 1 → ¬ r19 = 2 → ¬ r19 = 3 → ¬ r19 = 4 → ¬ r19 = 5 → Q (3 + x2) S18)))) ∧ (¬ r3 < 0 → jk S2 a0 = 11 ∧ ∃ b30, jr S2 a0 30 = some b30 ∧ (jk S2 b30 = 12 ∧ vp_in 107 (jl S2 b30) ∧ (jFi E mX11_of d 0 0 [.ref a0, .int x1, .int 2] (jput S2 b30 (Int32.toNatClampNeg 107) x2) (fun r34 S33 => jk S33 b30 = 12 ∧ vp_in 103 (jl S33 b30) ∧ (jk S33 a0 = 11 ∧ ∃ b38, jr S33 a0 30 = some b38 ∧ (jFi E mX11_of d 0 0 [.ref a0, .int x1, .int 5] (jput S33 b30 (Int32.toNatClampNeg 103) r34) (fun r40 S39 => jk S39 b38 = 12 ∧ vp_in 97 (jl S39 b38) ∧ (jk S39 a0 = 11 ∧ jFi E mX11_worked d 0 0 [.ref a0, .int r3] (jput S39 b38 (Int32.toNatClampNeg 97) r40) (fun r45 S44 => ((jclamp r45 1 99) ≤ 1 → jk S44 a0 = 11 ∧ jFi E mX11_of d 0 0 [.ref a0, .int x1, .int 0] S44 (fun r52 S51 => (r52 = 1 → Q (2 * (jclamp r45 1 99)) S51) ∧ (r52 = 2 → Q 1 S51) ∧ (r52 = 3 → jk S51 a0 = 11 ∧ jFi E mX11_of d 0 0 [.ref a0, .int x1, .int 5] S51 (fun r58 S57 => Q ((2 * (jclamp r45 1 99)) + (r58 / 10)) S57)) ∧ (r52 = 4 → Q 1 S51) ∧ (r52 = 5 → Q 1 S51) ∧ (¬ r52 = 1 → ¬ r52 = 2 → ¬ r52 = 3 → ¬ r52 = 4 → ¬ r52 = 5 → Q (jclamp r45 1 99) S51))) ∧ (¬ (jclamp r45 1 99) ≤ 1 → jk S44 a0 = 11 ∧ jFi E mX11_of d 0 0 [.ref a0, .int x1, .int 0] S44 (fun r63 S62 => (r63 = 1 → Q (2 * (jclamp r45 1 99)) S62) ∧ (r63 = 2 → Q ((jclamp r45 1 99) - 1) S62) ∧ (r63 = 3 → jk S62 a0 = 11 ∧ jFi E mX11_of d 0 0 [.ref a0, .int x1, .int 5] S62 (fun r69 S68 => Q ((2 * (jclamp r45 1 99)) + (r69 / 10)) S68)) ∧ (r63 = 4 → (((jclamp r45 1 99) - 1) ≤ 1 → Q 1 S62) ∧ (¬ ((jclamp r45 1 99) - 1) ≤ 1 → Q (((jclamp r45 1 99) - 1) / 2) S62)) ∧ (r63 = 5 → Q 1 S62) ∧ (¬ r63 = 1 → ¬ r63 = 2 → ¬ r63 = 3 → ¬ r63 = 4 → ¬ r63 = 5 → Q (jclamp r45 1 99) S62)))))))))))))) : jFi E mX11_takes (d + 1) 0 0 [.ref a0, .int x1, .int x2] S Q := by
  refine jF_of (by decide) (jle rfl) ?_
  refine jx_lv (lv1 := [(0, .ref a0), (1, .int x1), (2, .int x2)]) [0, 1, 2] rfl ?_
  refine jx_iconst (v := 3) dX11_takes_0 (by decide) ?_
  refine jx_iload_n 2 dX11_takes_1 rfl rfl ?_
  refine jx_iadd dX11_takes_2 ?_
  refine jx_istore_n (lv1 := [(3, .int (3 + x2)), (0, .ref a0), (1, .int x1), (2, .int x2)]) dX11_takes_3 rfl (by decide) rfl ?_
  refine jx_aload_n 1 dX11_takes_4 rfl rfl ?_
  refine jx_iconst (v := 0) dX11_takes_5 (by decide) ?_
  obtain ⟨hk1, h⟩ := h
  refine jx_callVi (M' := mX11_counts) (As := [.int 0]) jo_X11_counts jc_11 rfl jwM_X11_93 jwN_X11_counts jwX_X11_counts dX11_takes_6 (jRok_m _ _ _) rfl (jle rfl) ⟨jle rfl, jle rfl⟩ hk1 h (fun r3 S2 h => ?_)
  refine jx_istore (lv1 := [(4, .int r3), (3, .int (3 + x2)), (0, .ref a0), (1, .int x1), (2, .int x2)]) dX11_takes_9 (by decide) rfl ?_
  refine jx_iload 0 dX11_takes_11 rfl ?_
  refine jx_if_lt (tgt := 63) dX11_takes_13 (by decide) (fun c4 => ?_) (fun c4 => ?_)
  · replace h := h.1 c4
    refine jx_iload_n 1 dX11_takes_63 rfl rfl ?_
    refine jx_iconst (v := 1) dX11_takes_64 (by decide) ?_
    refine jx_icmp_le (tgt := 74) dX11_takes_65 (by decide) (fun c5 => ?_) (fun c5 => ?_)
    · replace h := h.1 c5
      refine jx_iconst (v := 1) dX11_takes_74 (by decide) ?_
      refine jx_istore (lv1 := [(5, .int 1), (4, .int r3), (3, .int (3 + x2)), (0, .ref a0), (1, .int x1), (2, .int x2)]) dX11_takes_75 (by decide) rfl ?_
      refine jx_aload_n 3 dX11_takes_77 rfl rfl ?_
      refine jx_iload_n 4 dX11_takes_78 rfl rfl ?_
      refine jx_iconst (v := 0) dX11_takes_79 (by decide) ?_
      obtain ⟨hk6, h⟩ := h
      refine jx_callVi (M' := mX11_of) (As := [.int x1, .int 0]) jo_X11_of jc_11 rfl jwM_X11_97 jwN_X11_of jwX_X11_of dX11_takes_80 (jRok_m _ _ _) rfl (jle rfl) ⟨jle rfl, jle rfl⟩ hk6 h (fun r8 S7 h => ?_)
      by_cases c9 : r8 = 1
      · replace h := h.1 c9
        refine jx_tableIn (v := 1) (tgt := 116) (off := 33) kd63 c9 (by decide) (by decide) (by decide) (by decide) ?_
        refine jx_iconst (v := 2) dX11_takes_116 (by decide) ?_
        refine jx_iload_n 2 dX11_takes_117 rfl rfl ?_
        refine jx_imul dX11_takes_118 ?_
        exact jx_iret dX11_takes_119 rfl rfl (jle rfl) (jle rfl) ⟨_, rfl, h⟩
      replace h := h.2
      by_cases c10 : r8 = 2
      · replace h := h.1 c10
        refine jx_tableIn (v := 2) (tgt := 120) (off := 37) kd63 c10 (by decide) (by decide) (by decide) (by decide) ?_
        refine jx_iload 0 dX11_takes_120 rfl ?_
        exact jx_iret dX11_takes_122 rfl rfl (jle rfl) (jle rfl) ⟨_, rfl, h⟩
      replace h := h.2
      by_cases c11 : r8 = 3
      · replace h := h.1 c11
        refine jx_tableIn (v := 3) (tgt := 123) (off := 40) kd63 c11 (by decide) (by decide) (by decide) (by decide) ?_
        refine jx_iconst (v := 2) dX11_takes_123 (by decide) ?_
        refine jx_iload_n 2 dX11_takes_124 rfl rfl ?_
        refine jx_imul dX11_takes_125 ?_
        refine jx_aload_n 3 dX11_takes_126 rfl rfl ?_
        refine jx_iload_n 4 dX11_takes_127 rfl rfl ?_
        refine jx_iconst (v := 5) dX11_takes_128 (by decide) ?_
        obtain ⟨hk12, h⟩ := h
        refine jx_callVi (M' := mX11_of) (As := [.int x1, .int 5]) jo_X11_of jc_11 rfl jwM_X11_97 jwN_X11_of jwX_X11_of dX11_takes_129 (jRok_m _ _ _) rfl (jle rfl) ⟨jle rfl, jle rfl⟩ hk12 h (fun r14 S13 h => ?_)
        refine jx_bipush (v := 10) dX11_takes_132 (by decide) ?_
        refine jx_idiv dX11_takes_134 (by decide) ?_
        refine jx_iadd dX11_takes_135 ?_
        exact jx_iret dX11_takes_136 rfl rfl (jle rfl) (jle rfl) ⟨_, rfl, h⟩
      replace h := h.2
      by_cases c15 : r8 = 4
      · replace h := h.1 c15
        refine jx_tableIn (v := 4) (tgt := 137) (off := 54) kd63 c15 (by decide) (by decide) (by decide) (by decide) ?_
        refine jx_iload 0 dX11_takes_137 rfl ?_
        refine jx_iconst (v := 1) dX11_takes_139 (by decide) ?_
        refine jx_icmp_le (tgt := 150) dX11_takes_140 (by decide) (fun _ => ?_) (fun z9 => absurd z9 (by decide))
        refine jx_iconst (v := 1) dX11_takes_150 (by decide) ?_
        exact jx_iret dX11_takes_151 rfl rfl (jle rfl) (jle rfl) ⟨_, rfl, h⟩
      replace h := h.2
      by_cases c16 : r8 = 5
      · replace h := h.1 c16
        refine jx_tableIn (v := 5) (tgt := 152) (off := 69) kd63 c16 (by decide) (by decide) (by decide) (by decide) ?_
        refine jx_iconst (v := 1) dX11_takes_152 (by decide) ?_
        exact jx_iret dX11_takes_153 rfl rfl (jle rfl) (jle rfl) ⟨_, rfl, h⟩
      replace h := h.2
      replace h := h c9 c10 c11 c15 c16
      refine jx_tableD (tgt := 154) ([1, 2, 3, 4, 5] : List Int) kd63 (by simp only [List.mem_cons, List.not_mem_nil, or_false, forall_eq_or_imp, forall_eq]; exact ⟨lv_neT c9 (by decide), lv_neT c10 (by decide), lv_neT c11 (by decide), lv_neT c15 (by decide), lv_neT c16 (by decide)⟩) (by decide) (by decide) (by decide) ?_
      refine jx_iload_n 2 dX11_takes_154 rfl rfl ?_
      exact jx_iret dX11_takes_155 rfl rfl (jle rfl) (jle rfl) ⟨_, rfl, h⟩
    replace h := h.2 c5
    refine jx_iload_n 1 dX11_takes_68 rfl rfl ?_
    refine jx_iconst (v := 1) dX11_takes_69 (by decide) ?_
    refine jx_isub dX11_takes_70 ?_
    refine jx_goto (tgt := 75) dX11_takes_71 (by decide) ?_
    refine jx_istore (lv1 := [(5, .int ((3 + x2) - 1)), (4, .int r3), (3, .int (3 + x2)), (0, .ref a0), (1, .int x1), (2, .int x2)]) dX11_takes_75 (by decide) rfl ?_
    refine jx_aload_n 3 dX11_takes_77 rfl rfl ?_
    refine jx_iload_n 4 dX11_takes_78 rfl rfl ?_
    refine jx_iconst (v := 0) dX11_takes_79 (by decide) ?_
    obtain ⟨hk17, h⟩ := h
    refine jx_callVi (M' := mX11_of) (As := [.int x1, .int 0]) jo_X11_of jc_11 rfl jwM_X11_97 jwN_X11_of jwX_X11_of dX11_takes_80 (jRok_m _ _ _) rfl (jle rfl) ⟨jle rfl, jle rfl⟩ hk17 h (fun r19 S18 h => ?_)
    by_cases c20 : r19 = 1
    · replace h := h.1 c20
      refine jx_tableIn (v := 1) (tgt := 116) (off := 33) kd63 c20 (by decide) (by decide) (by decide) (by decide) ?_
      refine jx_iconst (v := 2) dX11_takes_116 (by decide) ?_
      refine jx_iload_n 2 dX11_takes_117 rfl rfl ?_
      refine jx_imul dX11_takes_118 ?_
      exact jx_iret dX11_takes_119 rfl rfl (jle rfl) (jle rfl) ⟨_, rfl, h⟩
    replace h := h.2
    by_cases c21 : r19 = 2
    · replace h := h.1 c21
      refine jx_tableIn (v := 2) (tgt := 120) (off := 37) kd63 c21 (by decide) (by decide) (by decide) (by decide) ?_
      refine jx_iload 0 dX11_takes_120 rfl ?_
      exact jx_iret dX11_takes_122 rfl rfl (jle rfl) (jle rfl) ⟨_, rfl, h⟩
    replace h := h.2
    by_cases c22 : r19 = 3
    · replace h := h.1 c22
      refine jx_tableIn (v := 3) (tgt := 123) (off := 40) kd63 c22 (by decide) (by decide) (by decide) (by decide) ?_
      refine jx_iconst (v := 2) dX11_takes_123 (by decide) ?_
      refine jx_iload_n 2 dX11_takes_124 rfl rfl ?_
      refine jx_imul dX11_takes_125 ?_
      refine jx_aload_n 3 dX11_takes_126 rfl rfl ?_
      refine jx_iload_n 4 dX11_takes_127 rfl rfl ?_
      refine jx_iconst (v := 5) dX11_takes_128 (by decide) ?_
      obtain ⟨hk23, h⟩ := h
      refine jx_callVi (M' := mX11_of) (As := [.int x1, .int 5]) jo_X11_of jc_11 rfl jwM_X11_97 jwN_X11_of jwX_X11_of dX11_takes_129 (jRok_m _ _ _) rfl (jle rfl) ⟨jle rfl, jle rfl⟩ hk23 h (fun r25 S24 h => ?_)
      refine jx_bipush (v := 10) dX11_takes_132 (by decide) ?_
      refine jx_idiv dX11_takes_134 (by decide) ?_
      refine jx_iadd dX11_takes_135 ?_
      exact jx_iret dX11_takes_136 rfl rfl (jle rfl) (jle rfl) ⟨_, rfl, h⟩
    replace h := h.2
    by_cases c26 : r19 = 4
    · replace h := h.1 c26
      refine jx_tableIn (v := 4) (tgt := 137) (off := 54) kd63 c26 (by decide) (by decide) (by decide) (by decide) ?_
      refine jx_iload 0 dX11_takes_137 rfl ?_
      refine jx_iconst (v := 1) dX11_takes_139 (by decide) ?_
      refine jx_icmp_le (tgt := 150) dX11_takes_140 (by decide) (fun c27 => ?_) (fun c27 => ?_)
      · replace h := h.1 c27
        refine jx_iconst (v := 1) dX11_takes_150 (by decide) ?_
        exact jx_iret dX11_takes_151 rfl rfl (jle rfl) (jle rfl) ⟨_, rfl, h⟩
      replace h := h.2 c27
      refine jx_iload 0 dX11_takes_143 rfl ?_
      refine jx_iconst (v := 2) dX11_takes_145 (by decide) ?_
      refine jx_idiv dX11_takes_146 (by decide) ?_
      refine jx_goto (tgt := 151) dX11_takes_147 (by decide) ?_
      exact jx_iret dX11_takes_151 rfl rfl (jle rfl) (jle rfl) ⟨_, rfl, h⟩
    replace h := h.2
    by_cases c28 : r19 = 5
    · replace h := h.1 c28
      refine jx_tableIn (v := 5) (tgt := 152) (off := 69) kd63 c28 (by decide) (by decide) (by decide) (by decide) ?_
      refine jx_iconst (v := 1) dX11_takes_152 (by decide) ?_
      exact jx_iret dX11_takes_153 rfl rfl (jle rfl) (jle rfl) ⟨_, rfl, h⟩
    replace h := h.2
    replace h := h c20 c21 c22 c26 c28
    refine jx_tableD (tgt := 154) ([1, 2, 3, 4, 5] : List Int) kd63 (by simp only [List.mem_cons, List.not_mem_nil, or_false, forall_eq_or_imp, forall_eq]; exact ⟨lv_neT c20 (by decide), lv_neT c21 (by decide), lv_neT c22 (by decide), lv_neT c26 (by decide), lv_neT c28 (by decide)⟩) (by decide) (by decide) (by decide) ?_
    refine jx_iload_n 2 dX11_takes_154 rfl rfl ?_
    exact jx_iret dX11_takes_155 rfl rfl (jle rfl) (jle rfl) ⟨_, rfl, h⟩
  replace h := h.2 c4
  refine jx_aload_n 2 dX11_takes_16 rfl rfl ?_
  obtain ⟨hk29, h⟩ := h
  obtain ⟨b30, hb30, h⟩ := h
  refine jx_getr jc_11 (j := 30) (by decide) rfl jwF_X11_55 dX11_takes_17 hk29 hb30 ?_
  refine jx_bipush (v := 107) dX11_takes_20 (by decide) ?_
  refine jx_iload_n 4 dX11_takes_22 rfl rfl ?_
  obtain ⟨hk31, h⟩ := h
  obtain ⟨hi32, h⟩ := h
  refine jx_iast dX11_takes_23 hk31 hi32 ?_
  refine jx_aload_n 2 dX11_takes_24 rfl rfl ?_
  refine jx_getr jc_11 (j := 30) (by decide) rfl jwF_X11_55 dX11_takes_25 hk29 hb30 ?_
  refine jx_bipush (v := 103) dX11_takes_28 (by decide) ?_
  refine jx_aload_n 2 dX11_takes_30 rfl rfl ?_
  refine jx_iload_n 3 dX11_takes_31 rfl rfl ?_
  refine jx_iconst (v := 2) dX11_takes_32 (by decide) ?_
  refine jx_callVi (M' := mX11_of) (As := [.int x1, .int 2]) jo_X11_of jc_11 rfl jwM_X11_97 jwN_X11_of jwX_X11_of dX11_takes_33 (jRok_m _ _ _) rfl (jle rfl) ⟨jle rfl, jle rfl⟩ hk29 h (fun r34 S33 h => ?_)
  obtain ⟨hk35, h⟩ := h
  obtain ⟨hi36, h⟩ := h
  refine jx_iast dX11_takes_36 hk35 hi36 ?_
  refine jx_aload_n 2 dX11_takes_37 rfl rfl ?_
  obtain ⟨hk37, h⟩ := h
  obtain ⟨b38, hb38, h⟩ := h
  refine jx_getr jc_11 (j := 30) (by decide) rfl jwF_X11_55 dX11_takes_38 hk37 hb38 ?_
  refine jx_bipush (v := 97) dX11_takes_41 (by decide) ?_
  refine jx_aload_n 2 dX11_takes_43 rfl rfl ?_
  refine jx_iload_n 3 dX11_takes_44 rfl rfl ?_
  refine jx_iconst (v := 5) dX11_takes_45 (by decide) ?_
  refine jx_callVi (M' := mX11_of) (As := [.int x1, .int 5]) jo_X11_of jc_11 rfl jwM_X11_97 jwN_X11_of jwX_X11_of dX11_takes_46 (jRok_m _ _ _) rfl (jle rfl) ⟨jle rfl, jle rfl⟩ hk37 h (fun r40 S39 h => ?_)
  obtain ⟨hk41, h⟩ := h
  obtain ⟨hi42, h⟩ := h
  refine jx_iast dX11_takes_49 hk41 hi42 ?_
  refine jx_aload_n 2 dX11_takes_50 rfl rfl ?_
  refine jx_iload 0 dX11_takes_51 rfl ?_
  obtain ⟨hk43, h⟩ := h
  refine jx_callVi (M' := mX11_worked) (As := [.int r3]) jo_X11_worked jc_11 rfl jwM_X11_101 jwN_X11_worked jwX_X11_worked dX11_takes_53 (jRok_m _ _ _) rfl (jle rfl) ⟨jle rfl, jle rfl⟩ hk43 h (fun r45 S44 h => ?_)
  refine jx_iconst (v := 1) dX11_takes_56 (by decide) ?_
  refine jx_bipush (v := 99) dX11_takes_57 (by decide) ?_
  refine jx_callSi (M' := mX11_within) (As := [.int r45, .int 1, .int 99]) jo_X11_within jwM_X11_104 jwS_X11_within dX11_takes_59 (jRok_m _ _ _) rfl (jle rfl) ⟨jle rfl, jle rfl⟩ (c_X11_within (Q := fun v S' => v = (jclamp r45 1 99) ∧ S44 = S') ⟨rfl, rfl⟩) (fun r46 S47 hq48 => ?_)
  obtain ⟨rfl, rfl⟩ := hq48
  refine jx_istore_n (lv1 := [(3, .int (jclamp r45 1 99)), (4, .int r3), (0, .ref a0), (1, .int x1), (2, .int x2)]) dX11_takes_62 rfl (by decide) rfl ?_
  refine jx_iload_n 0 dX11_takes_63 rfl rfl ?_
  refine jx_iconst (v := 1) dX11_takes_64 (by decide) ?_
  refine jx_icmp_le (tgt := 74) dX11_takes_65 (by decide) (fun c49 => ?_) (fun c49 => ?_)
  · replace h := h.1 c49
    refine jx_iconst (v := 1) dX11_takes_74 (by decide) ?_
    refine jx_istore (lv1 := [(5, .int 1), (3, .int (jclamp r45 1 99)), (4, .int r3), (0, .ref a0), (1, .int x1), (2, .int x2)]) dX11_takes_75 (by decide) rfl ?_
    refine jx_aload_n 3 dX11_takes_77 rfl rfl ?_
    refine jx_iload_n 4 dX11_takes_78 rfl rfl ?_
    refine jx_iconst (v := 0) dX11_takes_79 (by decide) ?_
    obtain ⟨hk50, h⟩ := h
    refine jx_callVi (M' := mX11_of) (As := [.int x1, .int 0]) jo_X11_of jc_11 rfl jwM_X11_97 jwN_X11_of jwX_X11_of dX11_takes_80 (jRok_m _ _ _) rfl (jle rfl) ⟨jle rfl, jle rfl⟩ hk50 h (fun r52 S51 h => ?_)
    by_cases c53 : r52 = 1
    · replace h := h.1 c53
      refine jx_tableIn (v := 1) (tgt := 116) (off := 33) kd63 c53 (by decide) (by decide) (by decide) (by decide) ?_
      refine jx_iconst (v := 2) dX11_takes_116 (by decide) ?_
      refine jx_iload_n 1 dX11_takes_117 rfl rfl ?_
      refine jx_imul dX11_takes_118 ?_
      exact jx_iret dX11_takes_119 rfl rfl (jle rfl) (jle rfl) ⟨_, rfl, h⟩
    replace h := h.2
    by_cases c54 : r52 = 2
    · replace h := h.1 c54
      refine jx_tableIn (v := 2) (tgt := 120) (off := 37) kd63 c54 (by decide) (by decide) (by decide) (by decide) ?_
      refine jx_iload 0 dX11_takes_120 rfl ?_
      exact jx_iret dX11_takes_122 rfl rfl (jle rfl) (jle rfl) ⟨_, rfl, h⟩
    replace h := h.2
    by_cases c55 : r52 = 3
    · replace h := h.1 c55
      refine jx_tableIn (v := 3) (tgt := 123) (off := 40) kd63 c55 (by decide) (by decide) (by decide) (by decide) ?_
      refine jx_iconst (v := 2) dX11_takes_123 (by decide) ?_
      refine jx_iload_n 1 dX11_takes_124 rfl rfl ?_
      refine jx_imul dX11_takes_125 ?_
      refine jx_aload_n 3 dX11_takes_126 rfl rfl ?_
      refine jx_iload_n 4 dX11_takes_127 rfl rfl ?_
      refine jx_iconst (v := 5) dX11_takes_128 (by decide) ?_
      obtain ⟨hk56, h⟩ := h
      refine jx_callVi (M' := mX11_of) (As := [.int x1, .int 5]) jo_X11_of jc_11 rfl jwM_X11_97 jwN_X11_of jwX_X11_of dX11_takes_129 (jRok_m _ _ _) rfl (jle rfl) ⟨jle rfl, jle rfl⟩ hk56 h (fun r58 S57 h => ?_)
      refine jx_bipush (v := 10) dX11_takes_132 (by decide) ?_
      refine jx_idiv dX11_takes_134 (by decide) ?_
      refine jx_iadd dX11_takes_135 ?_
      exact jx_iret dX11_takes_136 rfl rfl (jle rfl) (jle rfl) ⟨_, rfl, h⟩
    replace h := h.2
    by_cases c59 : r52 = 4
    · replace h := h.1 c59
      refine jx_tableIn (v := 4) (tgt := 137) (off := 54) kd63 c59 (by decide) (by decide) (by decide) (by decide) ?_
      refine jx_iload 0 dX11_takes_137 rfl ?_
      refine jx_iconst (v := 1) dX11_takes_139 (by decide) ?_
      refine jx_icmp_le (tgt := 150) dX11_takes_140 (by decide) (fun _ => ?_) (fun z9 => absurd z9 (by decide))
      refine jx_iconst (v := 1) dX11_takes_150 (by decide) ?_
      exact jx_iret dX11_takes_151 rfl rfl (jle rfl) (jle rfl) ⟨_, rfl, h⟩
    replace h := h.2
    by_cases c60 : r52 = 5
    · replace h := h.1 c60
      refine jx_tableIn (v := 5) (tgt := 152) (off := 69) kd63 c60 (by decide) (by decide) (by decide) (by decide) ?_
      refine jx_iconst (v := 1) dX11_takes_152 (by decide) ?_
      exact jx_iret dX11_takes_153 rfl rfl (jle rfl) (jle rfl) ⟨_, rfl, h⟩
    replace h := h.2
    replace h := h c53 c54 c55 c59 c60
    refine jx_tableD (tgt := 154) ([1, 2, 3, 4, 5] : List Int) kd63 (by simp only [List.mem_cons, List.not_mem_nil, or_false, forall_eq_or_imp, forall_eq]; exact ⟨lv_neT c53 (by decide), lv_neT c54 (by decide), lv_neT c55 (by decide), lv_neT c59 (by decide), lv_neT c60 (by decide)⟩) (by decide) (by decide) (by decide) ?_
    refine jx_iload_n 1 dX11_takes_154 rfl rfl ?_
    exact jx_iret dX11_takes_155 rfl rfl (jle rfl) (jle rfl) ⟨_, rfl, h⟩
  replace h := h.2 c49
  refine jx_iload_n 0 dX11_takes_68 rfl rfl ?_
  refine jx_iconst (v := 1) dX11_takes_69 (by decide) ?_
  refine jx_isub dX11_takes_70 ?_
  refine jx_goto (tgt := 75) dX11_takes_71 (by decide) ?_
  refine jx_istore (lv1 := [(5, .int ((jclamp r45 1 99) - 1)), (3, .int (jclamp r45 1 99)), (4, .int r3), (0, .ref a0), (1, .int x1), (2, .int x2)]) dX11_takes_75 (by decide) rfl ?_
  refine jx_aload_n 3 dX11_takes_77 rfl rfl ?_
  refine jx_iload_n 4 dX11_takes_78 rfl rfl ?_
  refine jx_iconst (v := 0) dX11_takes_79 (by decide) ?_
  obtain ⟨hk61, h⟩ := h
  refine jx_callVi (M' := mX11_of) (As := [.int x1, .int 0]) jo_X11_of jc_11 rfl jwM_X11_97 jwN_X11_of jwX_X11_of dX11_takes_80 (jRok_m _ _ _) rfl (jle rfl) ⟨jle rfl, jle rfl⟩ hk61 h (fun r63 S62 h => ?_)
  by_cases c64 : r63 = 1
  · replace h := h.1 c64
    refine jx_tableIn (v := 1) (tgt := 116) (off := 33) kd63 c64 (by decide) (by decide) (by decide) (by decide) ?_
    refine jx_iconst (v := 2) dX11_takes_116 (by decide) ?_
    refine jx_iload_n 1 dX11_takes_117 rfl rfl ?_
    refine jx_imul dX11_takes_118 ?_
    exact jx_iret dX11_takes_119 rfl rfl (jle rfl) (jle rfl) ⟨_, rfl, h⟩
  replace h := h.2
  by_cases c65 : r63 = 2
  · replace h := h.1 c65
    refine jx_tableIn (v := 2) (tgt := 120) (off := 37) kd63 c65 (by decide) (by decide) (by decide) (by decide) ?_
    refine jx_iload 0 dX11_takes_120 rfl ?_
    exact jx_iret dX11_takes_122 rfl rfl (jle rfl) (jle rfl) ⟨_, rfl, h⟩
  replace h := h.2
  by_cases c66 : r63 = 3
  · replace h := h.1 c66
    refine jx_tableIn (v := 3) (tgt := 123) (off := 40) kd63 c66 (by decide) (by decide) (by decide) (by decide) ?_
    refine jx_iconst (v := 2) dX11_takes_123 (by decide) ?_
    refine jx_iload_n 1 dX11_takes_124 rfl rfl ?_
    refine jx_imul dX11_takes_125 ?_
    refine jx_aload_n 3 dX11_takes_126 rfl rfl ?_
    refine jx_iload_n 4 dX11_takes_127 rfl rfl ?_
    refine jx_iconst (v := 5) dX11_takes_128 (by decide) ?_
    obtain ⟨hk67, h⟩ := h
    refine jx_callVi (M' := mX11_of) (As := [.int x1, .int 5]) jo_X11_of jc_11 rfl jwM_X11_97 jwN_X11_of jwX_X11_of dX11_takes_129 (jRok_m _ _ _) rfl (jle rfl) ⟨jle rfl, jle rfl⟩ hk67 h (fun r69 S68 h => ?_)
    refine jx_bipush (v := 10) dX11_takes_132 (by decide) ?_
    refine jx_idiv dX11_takes_134 (by decide) ?_
    refine jx_iadd dX11_takes_135 ?_
    exact jx_iret dX11_takes_136 rfl rfl (jle rfl) (jle rfl) ⟨_, rfl, h⟩
  replace h := h.2
  by_cases c70 : r63 = 4
  · replace h := h.1 c70
    refine jx_tableIn (v := 4) (tgt := 137) (off := 54) kd63 c70 (by decide) (by decide) (by decide) (by decide) ?_
    refine jx_iload 0 dX11_takes_137 rfl ?_
    refine jx_iconst (v := 1) dX11_takes_139 (by decide) ?_
    refine jx_icmp_le (tgt := 150) dX11_takes_140 (by decide) (fun c71 => ?_) (fun c71 => ?_)
    · replace h := h.1 c71
      refine jx_iconst (v := 1) dX11_takes_150 (by decide) ?_
      exact jx_iret dX11_takes_151 rfl rfl (jle rfl) (jle rfl) ⟨_, rfl, h⟩
    replace h := h.2 c71
    refine jx_iload 0 dX11_takes_143 rfl ?_
    refine jx_iconst (v := 2) dX11_takes_145 (by decide) ?_
    refine jx_idiv dX11_takes_146 (by decide) ?_
    refine jx_goto (tgt := 151) dX11_takes_147 (by decide) ?_
    exact jx_iret dX11_takes_151 rfl rfl (jle rfl) (jle rfl) ⟨_, rfl, h⟩
  replace h := h.2
  by_cases c72 : r63 = 5
  · replace h := h.1 c72
    refine jx_tableIn (v := 5) (tgt := 152) (off := 69) kd63 c72 (by decide) (by decide) (by decide) (by decide) ?_
    refine jx_iconst (v := 1) dX11_takes_152 (by decide) ?_
    exact jx_iret dX11_takes_153 rfl rfl (jle rfl) (jle rfl) ⟨_, rfl, h⟩
  replace h := h.2
  replace h := h c64 c65 c66 c70 c72
  refine jx_tableD (tgt := 154) ([1, 2, 3, 4, 5] : List Int) kd63 (by simp only [List.mem_cons, List.not_mem_nil, or_false, forall_eq_or_imp, forall_eq]; exact ⟨lv_neT c64 (by decide), lv_neT c65 (by decide), lv_neT c66 (by decide), lv_neT c70 (by decide), lv_neT c72 (by decide)⟩) (by decide) (by decide) (by decide) ?_
  refine jx_iload_n 1 dX11_takes_154 rfl rfl ?_
  exact jx_iret dX11_takes_155 rfl rfl (jle rfl) (jle rfl) ⟨_, rfl, h⟩
set_option maxRecDepth 100000 in
set_option maxHeartbeats 4000000 in
theorem T_X11_teaches {E : jEnv} {d : Nat} {Q : Int32 → jM → Prop} {a0 : Nat} {x1 : Int32} {x2 : Int32} {S : jM} (h : jk S a0 = 11 ∧ jFi E mX11_of d 0 0 [.ref a0, .int x1, .int 3] S (fun r3 S2 => jk S2 a0 = 11 ∧ jFi E mX11_of d 0 0 [.ref a0, .int x1, .int 0] S2 (fun r9 S8 => (r9 = 2 → Q 1 S8) ∧ (r9 = 3 → ((jmany (x2 &&& r3)) = 0 → ((jmany x2) < 3 → Q 0 S8) ∧ (¬ (jmany x2) < 3 → Q 1 S8)) ∧ (¬ (jmany (x2 &&& r3)) = 0 → Q 0 S8)) ∧ (r9 = 4 → Q 1 S8) ∧ (r9 = 5 → (2 ≤ (jmany (x2 &&& r3)) → Q 0 S8) ∧ (¬ 2 ≤ (jmany (x2 &&& r3)) → Q 1 S8)) ∧ (¬ r9 = 2 → ¬ r9 = 3 → ¬ r9 = 4 → ¬ r9 = 5 → ((jmany (x2 &&& r3)) = 0 → Q 1 S8) ∧ (¬ (jmany (x2 &&& r3)) = 0 → Q 0 S8))))) : jFi E mX11_teaches (d + 1) 0 0 [.ref a0, .int x1, .int x2] S Q := by
  refine jF_of (by decide) (jle rfl) ?_
  refine jx_lv (lv1 := [(0, .ref a0), (1, .int x1), (2, .int x2)]) [0, 1, 2] rfl ?_
  refine jx_iload_n 2 dX11_teaches_0 rfl rfl ?_
  refine jx_aload_n 0 dX11_teaches_1 rfl rfl ?_
  refine jx_iload_n 1 dX11_teaches_2 rfl rfl ?_
  refine jx_iconst (v := 3) dX11_teaches_3 (by decide) ?_
  obtain ⟨hk1, h⟩ := h
  refine jx_callVi (M' := mX11_of) (As := [.int x1, .int 3]) jo_X11_of jc_11 rfl jwM_X11_97 jwN_X11_of jwX_X11_of dX11_teaches_4 (jRok_m _ _ _) rfl (jle rfl) ⟨jle rfl, jle rfl⟩ hk1 h (fun r3 S2 h => ?_)
  refine jx_iand dX11_teaches_7 ?_
  refine jx_callSi (M' := mX11_manyIn) (As := [.int (x2 &&& r3)]) jo_X11_manyIn jwM_X11_108 jwS_X11_manyIn dX11_teaches_8 (jRok_m _ _ _) rfl (jle rfl) ⟨jle rfl, jle rfl⟩ (c_X11_manyIn (Q := fun v S' => v = (jmany (x2 &&& r3)) ∧ S2 = S') ⟨rfl, rfl⟩) (fun r4 S5 hq6 => ?_)
  obtain ⟨rfl, rfl⟩ := hq6
  refine jx_istore_n (lv1 := [(3, .int (jmany (x2 &&& r3))), (0, .ref a0), (1, .int x1), (2, .int x2)]) dX11_teaches_11 rfl (by decide) rfl ?_
  refine jx_aload_n 1 dX11_teaches_12 rfl rfl ?_
  refine jx_iload_n 2 dX11_teaches_13 rfl rfl ?_
  refine jx_iconst (v := 0) dX11_teaches_14 (by decide) ?_
  obtain ⟨hk7, h⟩ := h
  refine jx_callVi (M' := mX11_of) (As := [.int x1, .int 0]) jo_X11_of jc_11 rfl jwM_X11_97 jwN_X11_of jwX_X11_of dX11_teaches_15 (jRok_m _ _ _) rfl (jle rfl) ⟨jle rfl, jle rfl⟩ hk7 h (fun r9 S8 h => ?_)
  by_cases c10 : r9 = 2
  · replace h := h.1 c10
    refine jx_tableIn (v := 2) (tgt := 48) (off := 30) kd64 c10 (by decide) (by decide) (by decide) (by decide) ?_
    refine jx_iconst (v := 1) dX11_teaches_48 (by decide) ?_
    exact jx_iret dX11_teaches_49 rfl (by decide) (jle rfl) (jle rfl) ⟨_, rfl, h⟩
  replace h := h.2
  by_cases c11 : r9 = 3
  · replace h := h.1 c11
    refine jx_tableIn (v := 3) (tgt := 50) (off := 32) kd64 c11 (by decide) (by decide) (by decide) (by decide) ?_
    refine jx_iload_n 0 dX11_teaches_50 rfl rfl ?_
    refine jx_if_ne (tgt := 66) dX11_teaches_51 (by decide) (fun c12 => ?_) (fun c12 => ?_)
    · replace h := h.2 c12
      refine jx_iconst (v := 0) dX11_teaches_66 (by decide) ?_
      exact jx_iret dX11_teaches_67 rfl (by decide) (jle rfl) (jle rfl) ⟨_, rfl, h⟩
    replace h := h.1 c12
    refine jx_iload_n 3 dX11_teaches_54 rfl rfl ?_
    refine jx_callSi (M' := mX11_manyIn) (As := [.int x2]) jo_X11_manyIn jwM_X11_108 jwS_X11_manyIn dX11_teaches_55 (jRok_m _ _ _) rfl (jle rfl) ⟨jle rfl, jle rfl⟩ (c_X11_manyIn (Q := fun v S' => v = (jmany x2) ∧ S8 = S') ⟨rfl, rfl⟩) (fun r13 S14 hq15 => ?_)
    obtain ⟨rfl, rfl⟩ := hq15
    refine jx_iconst (v := 3) dX11_teaches_58 (by decide) ?_
    refine jx_icmp_lt (tgt := 66) dX11_teaches_59 (by decide) (fun c16 => ?_) (fun c16 => ?_)
    · replace h := h.1 c16
      refine jx_iconst (v := 0) dX11_teaches_66 (by decide) ?_
      exact jx_iret dX11_teaches_67 rfl (by decide) (jle rfl) (jle rfl) ⟨_, rfl, h⟩
    replace h := h.2 c16
    refine jx_iconst (v := 1) dX11_teaches_62 (by decide) ?_
    refine jx_goto (tgt := 67) dX11_teaches_63 (by decide) ?_
    exact jx_iret dX11_teaches_67 rfl (by decide) (jle rfl) (jle rfl) ⟨_, rfl, h⟩
  replace h := h.2
  by_cases c17 : r9 = 4
  · replace h := h.1 c17
    refine jx_tableIn (v := 4) (tgt := 48) (off := 30) kd64 c17 (by decide) (by decide) (by decide) (by decide) ?_
    refine jx_iconst (v := 1) dX11_teaches_48 (by decide) ?_
    exact jx_iret dX11_teaches_49 rfl (by decide) (jle rfl) (jle rfl) ⟨_, rfl, h⟩
  replace h := h.2
  by_cases c18 : r9 = 5
  · replace h := h.1 c18
    refine jx_tableIn (v := 5) (tgt := 68) (off := 50) kd64 c18 (by decide) (by decide) (by decide) (by decide) ?_
    refine jx_iload_n 0 dX11_teaches_68 rfl rfl ?_
    refine jx_iconst (v := 2) dX11_teaches_69 (by decide) ?_
    refine jx_icmp_ge (tgt := 77) dX11_teaches_70 (by decide) (fun c19 => ?_) (fun c19 => ?_)
    · replace h := h.1 c19
      refine jx_iconst (v := 0) dX11_teaches_77 (by decide) ?_
      exact jx_iret dX11_teaches_78 rfl (by decide) (jle rfl) (jle rfl) ⟨_, rfl, h⟩
    replace h := h.2 c19
    refine jx_iconst (v := 1) dX11_teaches_73 (by decide) ?_
    refine jx_goto (tgt := 78) dX11_teaches_74 (by decide) ?_
    exact jx_iret dX11_teaches_78 rfl (by decide) (jle rfl) (jle rfl) ⟨_, rfl, h⟩
  replace h := h.2
  replace h := h c10 c11 c17 c18
  refine jx_tableD (tgt := 79) ([2, 3, 4, 5] : List Int) kd64 (by simp only [List.mem_cons, List.not_mem_nil, or_false, forall_eq_or_imp, forall_eq]; exact ⟨lv_neT c10 (by decide), lv_neT c11 (by decide), lv_neT c17 (by decide), lv_neT c18 (by decide)⟩) (by decide) (by decide) (by decide) ?_
  refine jx_iload_n 0 dX11_teaches_79 rfl rfl ?_
  refine jx_if_ne (tgt := 87) dX11_teaches_80 (by decide) (fun c20 => ?_) (fun c20 => ?_)
  · replace h := h.2 c20
    refine jx_iconst (v := 0) dX11_teaches_87 (by decide) ?_
    exact jx_iret dX11_teaches_88 rfl (by decide) (jle rfl) (jle rfl) ⟨_, rfl, h⟩
  replace h := h.1 c20
  refine jx_iconst (v := 1) dX11_teaches_83 (by decide) ?_
  refine jx_goto (tgt := 88) dX11_teaches_84 (by decide) ?_
  exact jx_iret dX11_teaches_88 rfl (by decide) (jle rfl) (jle rfl) ⟨_, rfl, h⟩
set_option maxRecDepth 100000 in
set_option maxHeartbeats 4000000 in
theorem T_X11_behindLesson {E : jEnv} {d : Nat} {Q : Int32 → jM → Prop} {a0 : Nat} {x1 : Int32} {x2 : Int32} {S : jM} (h : jk S a0 = 11 ∧ jFi E mX11_of d 0 0 [.ref a0, .int x1, .int 0] S (fun r3 S2 => (r3 = 2 → jk S2 a0 = 11 ∧ jFi E mX11_of d 0 0 [.ref a0, .int x1, .int 3] S2 (fun r10 S9 => jk S9 a0 = 11 ∧ jFi E mX11_of d 0 0 [.ref a0, .int x1, .int 2] S9 (fun r13 S12 => Q ((x2 &&& (r10 ^^^ (-1))) ||| (jshl 1 r13)) S12))) ∧ (¬ r3 = 2 → jk S2 a0 = 11 ∧ jFi E mX11_of d 0 0 [.ref a0, .int x1, .int 2] S2 (fun r7 S6 => Q (x2 ||| (jshl 1 r7)) S6)))) : jFi E mX11_behindLesson (d + 1) 0 0 [.ref a0, .int x1, .int x2] S Q := by
  refine jF_of (by decide) (jle rfl) ?_
  refine jx_lv (lv1 := [(0, .ref a0), (1, .int x1), (2, .int x2)]) [0, 1, 2] rfl ?_
  refine jx_aload_n 0 dX11_behindLesson_0 rfl rfl ?_
  refine jx_iload_n 1 dX11_behindLesson_1 rfl rfl ?_
  refine jx_iconst (v := 0) dX11_behindLesson_2 (by decide) ?_
  obtain ⟨hk1, h⟩ := h
  refine jx_callVi (M' := mX11_of) (As := [.int x1, .int 0]) jo_X11_of jc_11 rfl jwM_X11_97 jwN_X11_of jwX_X11_of dX11_behindLesson_3 (jRok_m _ _ _) rfl (jle rfl) ⟨jle rfl, jle rfl⟩ hk1 h (fun r3 S2 h => ?_)
  refine jx_iconst (v := 2) dX11_behindLesson_6 (by decide) ?_
  refine jx_icmp_ne (tgt := 23) dX11_behindLesson_7 (by decide) (fun c4 => ?_) (fun c4 => ?_)
  · replace h := h.2 c4
    refine jx_iload_n 2 dX11_behindLesson_23 rfl rfl ?_
    refine jx_istore_n (lv1 := [(3, .int x2), (0, .ref a0), (1, .int x1), (2, .int x2)]) dX11_behindLesson_24 rfl (by decide) rfl ?_
    refine jx_iload_n 0 dX11_behindLesson_25 rfl rfl ?_
    refine jx_iconst (v := 1) dX11_behindLesson_26 (by decide) ?_
    refine jx_aload_n 1 dX11_behindLesson_27 rfl rfl ?_
    refine jx_iload_n 2 dX11_behindLesson_28 rfl rfl ?_
    refine jx_iconst (v := 2) dX11_behindLesson_29 (by decide) ?_
    obtain ⟨hk5, h⟩ := h
    refine jx_callVi (M' := mX11_of) (As := [.int x1, .int 2]) jo_X11_of jc_11 rfl jwM_X11_97 jwN_X11_of jwX_X11_of dX11_behindLesson_30 (jRok_m _ _ _) rfl (jle rfl) ⟨jle rfl, jle rfl⟩ hk5 h (fun r7 S6 h => ?_)
    refine jx_ishl dX11_behindLesson_33 ?_
    refine jx_ior dX11_behindLesson_34 ?_
    exact jx_iret dX11_behindLesson_35 rfl rfl (jle rfl) (jle rfl) ⟨_, rfl, h⟩
  replace h := h.1 c4
  refine jx_iload_n 2 dX11_behindLesson_10 rfl rfl ?_
  refine jx_aload_n 0 dX11_behindLesson_11 rfl rfl ?_
  refine jx_iload_n 1 dX11_behindLesson_12 rfl rfl ?_
  refine jx_iconst (v := 3) dX11_behindLesson_13 (by decide) ?_
  obtain ⟨hk8, h⟩ := h
  refine jx_callVi (M' := mX11_of) (As := [.int x1, .int 3]) jo_X11_of jc_11 rfl jwM_X11_97 jwN_X11_of jwX_X11_of dX11_behindLesson_14 (jRok_m _ _ _) rfl (jle rfl) ⟨jle rfl, jle rfl⟩ hk8 h (fun r10 S9 h => ?_)
  refine jx_iconst (v := (-1)) dX11_behindLesson_17 (by decide) ?_
  refine jx_ixor dX11_behindLesson_18 ?_
  refine jx_iand dX11_behindLesson_19 ?_
  refine jx_goto (tgt := 24) dX11_behindLesson_20 (by decide) ?_
  refine jx_istore_n (lv1 := [(3, .int (x2 &&& (r10 ^^^ (-1)))), (0, .ref a0), (1, .int x1), (2, .int x2)]) dX11_behindLesson_24 rfl (by decide) rfl ?_
  refine jx_iload_n 0 dX11_behindLesson_25 rfl rfl ?_
  refine jx_iconst (v := 1) dX11_behindLesson_26 (by decide) ?_
  refine jx_aload_n 1 dX11_behindLesson_27 rfl rfl ?_
  refine jx_iload_n 2 dX11_behindLesson_28 rfl rfl ?_
  refine jx_iconst (v := 2) dX11_behindLesson_29 (by decide) ?_
  obtain ⟨hk11, h⟩ := h
  refine jx_callVi (M' := mX11_of) (As := [.int x1, .int 2]) jo_X11_of jc_11 rfl jwM_X11_97 jwN_X11_of jwX_X11_of dX11_behindLesson_30 (jRok_m _ _ _) rfl (jle rfl) ⟨jle rfl, jle rfl⟩ hk11 h (fun r13 S12 h => ?_)
  refine jx_ishl dX11_behindLesson_33 ?_
  refine jx_ior dX11_behindLesson_34 ?_
  exact jx_iret dX11_behindLesson_35 rfl rfl (jle rfl) (jle rfl) ⟨_, rfl, h⟩
set_option maxRecDepth 100000 in
set_option maxHeartbeats 4000000 in
theorem T_X11_worth {E : jEnv} {d : Nat} {Q : Int32 → jM → Prop} {a0 : Nat} {x1 : Int32} {S : jM} (h : jk S a0 = 11 ∧ jFi E mX11_of d 0 0 [.ref a0, .int x1, .int 4] S (fun r3 S2 => jk S2 a0 = 11 ∧ jFi E mX11_of d 0 0 [.ref a0, .int x1, .int 0] S2 (fun r6 S5 => (r6 = 1 → Q (r3 + 11) S5) ∧ (r6 = 2 → Q (99 - r3) S5) ∧ (r6 = 3 → Q (2 * (r3 + 11)) S5) ∧ (r6 = 4 → Q (95 - r3) S5) ∧ (r6 = 5 → Q 8 S5) ∧ (¬ r6 = 1 → ¬ r6 = 2 → ¬ r6 = 3 → ¬ r6 = 4 → ¬ r6 = 5 → Q r3 S5)))) : jFi E mX11_worth (d + 1) 0 0 [.ref a0, .int x1] S Q := by
  refine jF_of (by decide) (jle rfl) ?_
  refine jx_lv (lv1 := [(0, .ref a0), (1, .int x1)]) [0, 1] rfl ?_
  refine jx_aload_n 0 dX11_worth_0 rfl rfl ?_
  refine jx_iload_n 1 dX11_worth_1 rfl rfl ?_
  refine jx_iconst (v := 4) dX11_worth_2 (by decide) ?_
  obtain ⟨hk1, h⟩ := h
  refine jx_callVi (M' := mX11_of) (As := [.int x1, .int 4]) jo_X11_of jc_11 rfl jwM_X11_97 jwN_X11_of jwX_X11_of dX11_worth_3 (jRok_m _ _ _) rfl (jle rfl) ⟨jle rfl, jle rfl⟩ hk1 h (fun r3 S2 h => ?_)
  refine jx_istore_n (lv1 := [(2, .int r3), (0, .ref a0), (1, .int x1)]) dX11_worth_6 rfl (by decide) rfl ?_
  refine jx_aload_n 1 dX11_worth_7 rfl rfl ?_
  refine jx_iload_n 2 dX11_worth_8 rfl rfl ?_
  refine jx_iconst (v := 0) dX11_worth_9 (by decide) ?_
  obtain ⟨hk4, h⟩ := h
  refine jx_callVi (M' := mX11_of) (As := [.int x1, .int 0]) jo_X11_of jc_11 rfl jwM_X11_97 jwN_X11_of jwX_X11_of dX11_worth_10 (jRok_m _ _ _) rfl (jle rfl) ⟨jle rfl, jle rfl⟩ hk4 h (fun r6 S5 h => ?_)
  by_cases c7 : r6 = 1
  · replace h := h.1 c7
    refine jx_tableIn (v := 1) (tgt := 48) (off := 35) kd65 c7 (by decide) (by decide) (by decide) (by decide) ?_
    refine jx_iload_n 0 dX11_worth_48 rfl rfl ?_
    refine jx_bipush (v := 11) dX11_worth_49 (by decide) ?_
    refine jx_iadd dX11_worth_51 ?_
    exact jx_iret dX11_worth_52 rfl rfl (jle rfl) (jle rfl) ⟨_, rfl, h⟩
  replace h := h.2
  by_cases c8 : r6 = 2
  · replace h := h.1 c8
    refine jx_tableIn (v := 2) (tgt := 53) (off := 40) kd65 c8 (by decide) (by decide) (by decide) (by decide) ?_
    refine jx_bipush (v := 99) dX11_worth_53 (by decide) ?_
    refine jx_iload_n 0 dX11_worth_55 rfl rfl ?_
    refine jx_isub dX11_worth_56 ?_
    exact jx_iret dX11_worth_57 rfl rfl (jle rfl) (jle rfl) ⟨_, rfl, h⟩
  replace h := h.2
  by_cases c9 : r6 = 3
  · replace h := h.1 c9
    refine jx_tableIn (v := 3) (tgt := 58) (off := 45) kd65 c9 (by decide) (by decide) (by decide) (by decide) ?_
    refine jx_iconst (v := 2) dX11_worth_58 (by decide) ?_
    refine jx_iload_n 0 dX11_worth_59 rfl rfl ?_
    refine jx_bipush (v := 11) dX11_worth_60 (by decide) ?_
    refine jx_iadd dX11_worth_62 ?_
    refine jx_imul dX11_worth_63 ?_
    exact jx_iret dX11_worth_64 rfl rfl (jle rfl) (jle rfl) ⟨_, rfl, h⟩
  replace h := h.2
  by_cases c10 : r6 = 4
  · replace h := h.1 c10
    refine jx_tableIn (v := 4) (tgt := 65) (off := 52) kd65 c10 (by decide) (by decide) (by decide) (by decide) ?_
    refine jx_bipush (v := 95) dX11_worth_65 (by decide) ?_
    refine jx_iload_n 0 dX11_worth_67 rfl rfl ?_
    refine jx_isub dX11_worth_68 ?_
    exact jx_iret dX11_worth_69 rfl rfl (jle rfl) (jle rfl) ⟨_, rfl, h⟩
  replace h := h.2
  by_cases c11 : r6 = 5
  · replace h := h.1 c11
    refine jx_tableIn (v := 5) (tgt := 70) (off := 57) kd65 c11 (by decide) (by decide) (by decide) (by decide) ?_
    refine jx_bipush (v := 8) dX11_worth_70 (by decide) ?_
    exact jx_iret dX11_worth_72 rfl rfl (jle rfl) (jle rfl) ⟨_, rfl, h⟩
  replace h := h.2
  replace h := h c7 c8 c9 c10 c11
  refine jx_tableD (tgt := 73) ([1, 2, 3, 4, 5] : List Int) kd65 (by simp only [List.mem_cons, List.not_mem_nil, or_false, forall_eq_or_imp, forall_eq]; exact ⟨lv_neT c7 (by decide), lv_neT c8 (by decide), lv_neT c9 (by decide), lv_neT c10 (by decide), lv_neT c11 (by decide)⟩) (by decide) (by decide) (by decide) ?_
  refine jx_iload_n 0 dX11_worth_73 rfl rfl ?_
  exact jx_iret dX11_worth_74 rfl rfl (jle rfl) (jle rfl) ⟨_, rfl, h⟩
set_option maxRecDepth 100000 in
set_option maxHeartbeats 4000000 in
theorem T_X11_told {E : jEnv} {d : Nat} {Q : Int32 → jM → Prop} {a0 : Nat} {x1 : Int32} {x2 : Int32} {S : jM} (h : jk S a0 = 11 ∧ jFi E mX11_isMaster d 0 0 [.ref a0, .int x1] S (fun r3 S2 => (r3 = 0 → Q (-1000000001) S2) ∧ (¬ r3 = 0 → ((jisin (Int32.toInt64 x2) 0 9) = 0 → Q (-1000000001) S2) ∧ (¬ (jisin (Int32.toInt64 x2) 0 9) = 0 → (7 ≤ x2 → (x2 = 7 → jk S2 a0 = 11 ∧ ∃ b23, jr S2 a0 0 = some b23 ∧ (jk S2 b23 = 12 ∧ vp_in 4 (jl S2 b23) ∧ (jFi E mX11_takes d 0 0 [.ref a0, .int x1, .int (jmany (ji S2 b23 (Int32.toNatClampNeg 4)))] S2 (fun r30 S29 => Q r30 S29)))) ∧ (¬ x2 = 7 → (x2 = 9 → jk S2 a0 = 11 ∧ jFi E mX11_worth d 0 0 [.ref a0, .int x1] S2 (fun r21 S20 => Q r21 S20)) ∧ (¬ x2 = 9 → jk S2 a0 = 11 ∧ ∃ b13, jr S2 a0 0 = some b13 ∧ (jk S2 b13 = 12 ∧ vp_in 4 (jl S2 b13) ∧ (jFi E mX11_teaches d 0 0 [.ref a0, .int x1, .int (ji S2 b13 (Int32.toNatClampNeg 4))] S2 (fun r17 S16 => (r17 = 0 → Q 0 S16) ∧ (¬ r17 = 0 → Q 1 S16))))))) ∧ (¬ 7 ≤ x2 → jk S2 a0 = 11 ∧ jFi E mX11_of d 0 0 [.ref a0, .int x1, .int x2] S2 (fun r33 S32 => Q r33 S32)))))) : jFi E mX11_told (d + 1) 0 0 [.ref a0, .int x1, .int x2] S Q := by
  refine jF_of (by decide) (jle rfl) ?_
  refine jx_lv (lv1 := [(0, .ref a0), (1, .int x1), (2, .int x2)]) [0, 1, 2] rfl ?_
  refine jx_aload_n 0 dX11_told_0 rfl rfl ?_
  refine jx_iload_n 1 dX11_told_1 rfl rfl ?_
  obtain ⟨hk1, h⟩ := h
  refine jx_callVi (M' := mX11_isMaster) (As := [.int x1]) jo_X11_isMaster jc_11 rfl jwM_X11_111 jwN_X11_isMaster jwX_X11_isMaster dX11_told_2 (jRok_m _ _ _) rfl (jle rfl) ⟨jle rfl, jle rfl⟩ hk1 h (fun r3 S2 h => ?_)
  refine jx_if_eq (tgt := 20) dX11_told_5 (by decide) (fun c4 => ?_) (fun c4 => ?_)
  · replace h := h.1 c4
    refine jx_ldc jwC_X11_87 dX11_told_20 ?_
    exact jx_iret dX11_told_22 rfl rfl (jle rfl) (jle rfl) ⟨_, rfl, h⟩
  replace h := h.2 c4
  refine jx_iload_n 2 dX11_told_8 rfl rfl ?_
  refine jx_i2l dX11_told_9 ?_
  refine jx_lconst (v := 0) dX11_told_10 (by decide) ?_
  refine jx_ldc2 jwL_X11_114 dX11_told_11 ?_
  refine jx_callSi (M' := mX11_isIn) (As := [.long (Int32.toInt64 x2), .long 0, .long 9]) jo_X11_isIn jwM_X11_71 jwS_X11_isIn dX11_told_14 (jRok_m _ _ _) rfl (jle rfl) ⟨jle rfl, jle rfl⟩ (c_X11_isIn (Q := fun v S' => v = (jisin (Int32.toInt64 x2) 0 9) ∧ S2 = S') ⟨rfl, rfl⟩) (fun r5 S6 hq7 => ?_)
  obtain ⟨rfl, rfl⟩ := hq7
  refine jx_if_ne (tgt := 23) dX11_told_17 (by decide) (fun c8 => ?_) (fun c8 => ?_)
  · replace h := h.2 c8
    refine jx_iload_n 2 dX11_told_23 rfl rfl ?_
    refine jx_bipush (v := 7) dX11_told_24 (by decide) ?_
    refine jx_icmp_ge (tgt := 36) dX11_told_26 (by decide) (fun c9 => ?_) (fun c9 => ?_)
    · replace h := h.1 c9
      refine jx_iload_n 2 dX11_told_36 rfl rfl ?_
      refine jx_bipush (v := 7) dX11_told_37 (by decide) ?_
      refine jx_icmp_ne (tgt := 59) dX11_told_39 (by decide) (fun c10 => ?_) (fun c10 => ?_)
      · replace h := h.2 c10
        refine jx_iload_n 2 dX11_told_59 rfl rfl ?_
        refine jx_bipush (v := 9) dX11_told_60 (by decide) ?_
        refine jx_icmp_ne (tgt := 73) dX11_told_62 (by decide) (fun c11 => ?_) (fun c11 => ?_)
        · replace h := h.2 c11
          refine jx_aload_n 0 dX11_told_73 rfl rfl ?_
          refine jx_iload_n 1 dX11_told_74 rfl rfl ?_
          refine jx_aload_n 0 dX11_told_75 rfl rfl ?_
          obtain ⟨hk12, h⟩ := h
          obtain ⟨b13, hb13, h⟩ := h
          refine jx_getr jc_11 (j := 0) (by decide) rfl jwF_X11_7 dX11_told_76 hk12 hb13 ?_
          refine jx_iconst (v := 4) dX11_told_79 (by decide) ?_
          obtain ⟨hk14, h⟩ := h
          obtain ⟨hi15, h⟩ := h
          refine jx_iald dX11_told_80 hk14 hi15 ?_
          refine jx_callVi (M' := mX11_teaches) (As := [.int x1, .int (ji S2 b13 (Int32.toNatClampNeg 4))]) jo_X11_teaches jc_11 rfl jwM_X11_122 jwN_X11_teaches jwX_X11_teaches dX11_told_81 (jRok_m _ _ _) rfl (jle rfl) ⟨jle rfl, jle rfl⟩ hk12 h (fun r17 S16 h => ?_)
          refine jx_if_eq (tgt := 91) dX11_told_84 (by decide) (fun c18 => ?_) (fun c18 => ?_)
          · replace h := h.1 c18
            refine jx_iconst (v := 0) dX11_told_91 (by decide) ?_
            exact jx_iret dX11_told_92 rfl rfl (jle rfl) (jle rfl) ⟨_, rfl, h⟩
          replace h := h.2 c18
          refine jx_iconst (v := 1) dX11_told_87 (by decide) ?_
          refine jx_goto (tgt := 92) dX11_told_88 (by decide) ?_
          exact jx_iret dX11_told_92 rfl rfl (jle rfl) (jle rfl) ⟨_, rfl, h⟩
        replace h := h.1 c11
        refine jx_aload_n 0 dX11_told_65 rfl rfl ?_
        refine jx_iload_n 1 dX11_told_66 rfl rfl ?_
        obtain ⟨hk19, h⟩ := h
        refine jx_callVi (M' := mX11_worth) (As := [.int x1]) jo_X11_worth jc_11 rfl jwM_X11_119 jwN_X11_worth jwX_X11_worth dX11_told_67 (jRok_m _ _ _) rfl (jle rfl) ⟨jle rfl, jle rfl⟩ hk19 h (fun r21 S20 h => ?_)
        refine jx_goto (tgt := 92) dX11_told_70 (by decide) ?_
        exact jx_iret dX11_told_92 rfl rfl (jle rfl) (jle rfl) ⟨_, rfl, h⟩
      replace h := h.1 c10
      refine jx_aload_n 0 dX11_told_42 rfl rfl ?_
      refine jx_iload_n 1 dX11_told_43 rfl rfl ?_
      refine jx_aload_n 0 dX11_told_44 rfl rfl ?_
      obtain ⟨hk22, h⟩ := h
      obtain ⟨b23, hb23, h⟩ := h
      refine jx_getr jc_11 (j := 0) (by decide) rfl jwF_X11_7 dX11_told_45 hk22 hb23 ?_
      refine jx_iconst (v := 4) dX11_told_48 (by decide) ?_
      obtain ⟨hk24, h⟩ := h
      obtain ⟨hi25, h⟩ := h
      refine jx_iald dX11_told_49 hk24 hi25 ?_
      refine jx_callSi (M' := mX11_manyIn) (As := [.int (ji S2 b23 (Int32.toNatClampNeg 4))]) jo_X11_manyIn jwM_X11_108 jwS_X11_manyIn dX11_told_50 (jRok_m _ _ _) rfl (jle rfl) ⟨jle rfl, jle rfl⟩ (c_X11_manyIn (Q := fun v S' => v = (jmany (ji S2 b23 (Int32.toNatClampNeg 4))) ∧ S2 = S') ⟨rfl, rfl⟩) (fun r26 S27 hq28 => ?_)
      obtain ⟨rfl, rfl⟩ := hq28
      refine jx_callVi (M' := mX11_takes) (As := [.int x1, .int (jmany (ji S2 b23 (Int32.toNatClampNeg 4)))]) jo_X11_takes jc_11 rfl jwM_X11_116 jwN_X11_takes jwX_X11_takes dX11_told_53 (jRok_m _ _ _) rfl (jle rfl) ⟨jle rfl, jle rfl⟩ hk22 h (fun r30 S29 h => ?_)
      refine jx_goto (tgt := 92) dX11_told_56 (by decide) ?_
      exact jx_iret dX11_told_92 rfl rfl (jle rfl) (jle rfl) ⟨_, rfl, h⟩
    replace h := h.2 c9
    refine jx_aload_n 0 dX11_told_29 rfl rfl ?_
    refine jx_iload_n 1 dX11_told_30 rfl rfl ?_
    refine jx_iload_n 2 dX11_told_31 rfl rfl ?_
    obtain ⟨hk31, h⟩ := h
    refine jx_callVi (M' := mX11_of) (As := [.int x1, .int x2]) jo_X11_of jc_11 rfl jwM_X11_97 jwN_X11_of jwX_X11_of dX11_told_32 (jRok_m _ _ _) rfl (jle rfl) ⟨jle rfl, jle rfl⟩ hk31 h (fun r33 S32 h => ?_)
    exact jx_iret dX11_told_35 rfl rfl (jle rfl) (jle rfl) ⟨_, rfl, h⟩
  replace h := h.1 c8
  refine jx_ldc jwC_X11_87 dX11_told_20 ?_
  exact jx_iret dX11_told_22 rfl rfl (jle rfl) (jle rfl) ⟨_, rfl, h⟩
set_option maxRecDepth 100000 in
set_option maxHeartbeats 4000000 in
theorem T_X11_as {E : jEnv} {d : Nat} {Q : Int32 → jM → Prop} {a0 : Nat} {x1 : Int32} {x2 : Int32} {S : jM} (h : jk S a0 = 11 ∧ jFi E mX11_isMaster d 0 0 [.ref a0, .int x1] S (fun r3 S2 => (r3 = 0 → Q (-1000000001) S2) ∧ (¬ r3 = 0 → ((jisin (Int32.toInt64 x2) 0 5) = 0 → Q (-1000000001) S2) ∧ (¬ (jisin (Int32.toInt64 x2) 0 5) = 0 → jk S2 a0 = 11 ∧ jFi E mX11_of d 0 0 [.ref a0, .int x1, .int 0] S2 (fun r11 S10 => ((jisof r11 x2) = 0 → Q (-1000000012) S10) ∧ (¬ (jisof r11 x2) = 0 → jk S10 a0 = 11 ∧ jFi E mX11_of d 0 0 [.ref a0, .int x1, .int 4] S10 (fun r18 S17 => Q r18 S17))))))) : jFi E mX11_as (d + 1) 0 0 [.ref a0, .int x1, .int x2] S Q := by
  refine jF_of (by decide) (jle rfl) ?_
  refine jx_lv (lv1 := [(0, .ref a0), (1, .int x1), (2, .int x2)]) [0, 1, 2] rfl ?_
  refine jx_aload_n 0 dX11_as_0 rfl rfl ?_
  refine jx_iload_n 1 dX11_as_1 rfl rfl ?_
  obtain ⟨hk1, h⟩ := h
  refine jx_callVi (M' := mX11_isMaster) (As := [.int x1]) jo_X11_isMaster jc_11 rfl jwM_X11_111 jwN_X11_isMaster jwX_X11_isMaster dX11_as_2 (jRok_m _ _ _) rfl (jle rfl) ⟨jle rfl, jle rfl⟩ hk1 h (fun r3 S2 h => ?_)
  refine jx_if_eq (tgt := 20) dX11_as_5 (by decide) (fun c4 => ?_) (fun c4 => ?_)
  · replace h := h.1 c4
    refine jx_ldc jwC_X11_87 dX11_as_20 ?_
    exact jx_iret dX11_as_22 rfl rfl (jle rfl) (jle rfl) ⟨_, rfl, h⟩
  replace h := h.2 c4
  refine jx_iload_n 2 dX11_as_8 rfl rfl ?_
  refine jx_i2l dX11_as_9 ?_
  refine jx_lconst (v := 0) dX11_as_10 (by decide) ?_
  refine jx_ldc2 jwL_X11_76 dX11_as_11 ?_
  refine jx_callSi (M' := mX11_isIn) (As := [.long (Int32.toInt64 x2), .long 0, .long 5]) jo_X11_isIn jwM_X11_71 jwS_X11_isIn dX11_as_14 (jRok_m _ _ _) rfl (jle rfl) ⟨jle rfl, jle rfl⟩ (c_X11_isIn (Q := fun v S' => v = (jisin (Int32.toInt64 x2) 0 5) ∧ S2 = S') ⟨rfl, rfl⟩) (fun r5 S6 hq7 => ?_)
  obtain ⟨rfl, rfl⟩ := hq7
  refine jx_if_ne (tgt := 23) dX11_as_17 (by decide) (fun c8 => ?_) (fun c8 => ?_)
  · replace h := h.2 c8
    refine jx_aload_n 0 dX11_as_23 rfl rfl ?_
    refine jx_iload_n 1 dX11_as_24 rfl rfl ?_
    refine jx_iconst (v := 0) dX11_as_25 (by decide) ?_
    obtain ⟨hk9, h⟩ := h
    refine jx_callVi (M' := mX11_of) (As := [.int x1, .int 0]) jo_X11_of jc_11 rfl jwM_X11_97 jwN_X11_of jwX_X11_of dX11_as_26 (jRok_m _ _ _) rfl (jle rfl) ⟨jle rfl, jle rfl⟩ hk9 h (fun r11 S10 h => ?_)
    refine jx_iload_n 2 dX11_as_29 rfl rfl ?_
    refine jx_callSi (M' := mX11_isOf) (As := [.int r11, .int x2]) jo_X11_isOf jwM_X11_126 jwS_X11_isOf dX11_as_30 (jRok_m _ _ _) rfl (jle rfl) ⟨jle rfl, jle rfl⟩ (c_X11_isOf (Q := fun v S' => v = (jisof r11 x2) ∧ S10 = S') ⟨rfl, rfl⟩) (fun r12 S13 hq14 => ?_)
    obtain ⟨rfl, rfl⟩ := hq14
    refine jx_if_eq (tgt := 45) dX11_as_33 (by decide) (fun c15 => ?_) (fun c15 => ?_)
    · replace h := h.1 c15
      refine jx_ldc jwC_X11_129 dX11_as_45 ?_
      exact jx_iret dX11_as_47 rfl rfl (jle rfl) (jle rfl) ⟨_, rfl, h⟩
    replace h := h.2 c15
    refine jx_aload_n 0 dX11_as_36 rfl rfl ?_
    refine jx_iload_n 1 dX11_as_37 rfl rfl ?_
    refine jx_iconst (v := 4) dX11_as_38 (by decide) ?_
    obtain ⟨hk16, h⟩ := h
    refine jx_callVi (M' := mX11_of) (As := [.int x1, .int 4]) jo_X11_of jc_11 rfl jwM_X11_97 jwN_X11_of jwX_X11_of dX11_as_39 (jRok_m _ _ _) rfl (jle rfl) ⟨jle rfl, jle rfl⟩ hk16 h (fun r18 S17 h => ?_)
    refine jx_goto (tgt := 47) dX11_as_42 (by decide) ?_
    exact jx_iret dX11_as_47 rfl rfl (jle rfl) (jle rfl) ⟨_, rfl, h⟩
  replace h := h.1 c8
  refine jx_ldc jwC_X11_87 dX11_as_20 ?_
  exact jx_iret dX11_as_22 rfl rfl (jle rfl) (jle rfl) ⟨_, rfl, h⟩
set_option maxRecDepth 100000 in
set_option maxHeartbeats 4000000 in
theorem T_X11_turns {E : jEnv} {d : Nat} {Q : Int32 → jM → Prop} {a0 : Nat} {x1 : Int32} {x2 : Int32} {S : jM} (h : jk S a0 = 11 ∧ jFi E mX11_isMaster d 0 0 [.ref a0, .int x1] S (fun r3 S2 => (r3 = 0 → Q (-1000000001) S2) ∧ (¬ r3 = 0 → ((jisin (Int32.toInt64 x2) 0 5) = 0 → Q (-1000000001) S2) ∧ (¬ (jisin (Int32.toInt64 x2) 0 5) = 0 → jk S2 a0 = 11 ∧ jFi E mX11_becomes d 0 0 [.ref a0, .int (72 + (7 * x1)), .int x2] S2 (fun r11 S10 => Q r11 S10))))) : jFi E mX11_turns (d + 1) 0 0 [.ref a0, .int x1, .int x2] S Q := by
  refine jF_of (by decide) (jle rfl) ?_
  refine jx_lv (lv1 := [(0, .ref a0), (1, .int x1), (2, .int x2)]) [0, 1, 2] rfl ?_
  refine jx_aload_n 0 dX11_turns_0 rfl rfl ?_
  refine jx_iload_n 1 dX11_turns_1 rfl rfl ?_
  obtain ⟨hk1, h⟩ := h
  refine jx_callVi (M' := mX11_isMaster) (As := [.int x1]) jo_X11_isMaster jc_11 rfl jwM_X11_111 jwN_X11_isMaster jwX_X11_isMaster dX11_turns_2 (jRok_m _ _ _) rfl (jle rfl) ⟨jle rfl, jle rfl⟩ hk1 h (fun r3 S2 h => ?_)
  refine jx_if_eq (tgt := 35) dX11_turns_5 (by decide) (fun c4 => ?_) (fun c4 => ?_)
  · replace h := h.1 c4
    refine jx_ldc jwC_X11_87 dX11_turns_35 ?_
    exact jx_iret dX11_turns_37 rfl rfl (jle rfl) (jle rfl) ⟨_, rfl, h⟩
  replace h := h.2 c4
  refine jx_iload_n 2 dX11_turns_8 rfl rfl ?_
  refine jx_i2l dX11_turns_9 ?_
  refine jx_lconst (v := 0) dX11_turns_10 (by decide) ?_
  refine jx_ldc2 jwL_X11_76 dX11_turns_11 ?_
  refine jx_callSi (M' := mX11_isIn) (As := [.long (Int32.toInt64 x2), .long 0, .long 5]) jo_X11_isIn jwM_X11_71 jwS_X11_isIn dX11_turns_14 (jRok_m _ _ _) rfl (jle rfl) ⟨jle rfl, jle rfl⟩ (c_X11_isIn (Q := fun v S' => v = (jisin (Int32.toInt64 x2) 0 5) ∧ S2 = S') ⟨rfl, rfl⟩) (fun r5 S6 hq7 => ?_)
  obtain ⟨rfl, rfl⟩ := hq7
  refine jx_if_eq (tgt := 35) dX11_turns_17 (by decide) (fun c8 => ?_) (fun c8 => ?_)
  · replace h := h.1 c8
    refine jx_ldc jwC_X11_87 dX11_turns_35 ?_
    exact jx_iret dX11_turns_37 rfl rfl (jle rfl) (jle rfl) ⟨_, rfl, h⟩
  replace h := h.2 c8
  refine jx_aload_n 0 dX11_turns_20 rfl rfl ?_
  refine jx_bipush (v := 72) dX11_turns_21 (by decide) ?_
  refine jx_bipush (v := 7) dX11_turns_23 (by decide) ?_
  refine jx_iload_n 1 dX11_turns_25 rfl rfl ?_
  refine jx_imul dX11_turns_26 ?_
  refine jx_iadd dX11_turns_27 ?_
  refine jx_iload_n 2 dX11_turns_28 rfl rfl ?_
  obtain ⟨hk9, h⟩ := h
  refine jx_callVi (M' := mX11_becomes) (As := [.int (72 + (7 * x1)), .int x2]) jo_X11_becomes jc_11 rfl jwM_X11_130 jwN_X11_becomes jwX_X11_becomes dX11_turns_29 (jRok_m _ _ _) rfl (jle rfl) ⟨jle rfl, jle rfl⟩ hk9 h (fun r11 S10 h => ?_)
  refine jx_goto (tgt := 37) dX11_turns_32 (by decide) ?_
  exact jx_iret dX11_turns_37 rfl rfl (jle rfl) (jle rfl) ⟨_, rfl, h⟩
set_option maxRecDepth 100000 in
set_option maxHeartbeats 4000000 in
theorem T_X11_set {E : jEnv} {d : Nat} {Q : Int32 → jM → Prop} {a0 : Nat} {x1 : Int32} {x2 : Int32} {x3 : Int32} {S : jM} (h : jk S a0 = 11 ∧ jFi E mX11_isMaster d 0 0 [.ref a0, .int x1] S (fun r3 S2 => (r3 = 0 → Q (-1000000001) S2) ∧ (¬ r3 = 0 → ((jisin (Int32.toInt64 x2) 4 6) = 0 → Q (-1000000001) S2) ∧ (¬ (jisin (Int32.toInt64 x2) 4 6) = 0 → (x2 = 6 → ((jisin (Int32.toInt64 x3) 0 1) = 0 → Q (-1000000001) S2) ∧ (¬ (jisin (Int32.toInt64 x3) 0 1) = 0 → jk S2 a0 = 11 ∧ jFi E mX11_becomes d 0 0 [.ref a0, .int ((72 + (7 * x1)) + x2), .int x3] S2 (fun r23 S22 => Q r23 S22))) ∧ (¬ x2 = 6 → ((jisin (Int32.toInt64 x3) 0 99) = 0 → Q (-1000000001) S2) ∧ (¬ (jisin (Int32.toInt64 x3) 0 99) = 0 → jk S2 a0 = 11 ∧ jFi E mX11_becomes d 0 0 [.ref a0, .int ((72 + (7 * x1)) + x2), .int x3] S2 (fun r16 S15 => Q r16 S15))))))) : jFi E mX11_set (d + 1) 0 0 [.ref a0, .int x1, .int x2, .int x3] S Q := by
  refine jF_of (by decide) (jle rfl) ?_
  refine jx_lv (lv1 := [(0, .ref a0), (1, .int x1), (2, .int x2), (3, .int x3)]) [0, 1, 2, 3] rfl ?_
  refine jx_aload_n 0 dX11_set_0 rfl rfl ?_
  refine jx_iload_n 1 dX11_set_1 rfl rfl ?_
  obtain ⟨hk1, h⟩ := h
  refine jx_callVi (M' := mX11_isMaster) (As := [.int x1]) jo_X11_isMaster jc_11 rfl jwM_X11_111 jwN_X11_isMaster jwX_X11_isMaster dX11_set_2 (jRok_m _ _ _) rfl (jle rfl) ⟨jle rfl, jle rfl⟩ hk1 h (fun r3 S2 h => ?_)
  refine jx_if_eq (tgt := 44) dX11_set_5 (by decide) (fun c4 => ?_) (fun c4 => ?_)
  · replace h := h.1 c4
    refine jx_ldc jwC_X11_87 dX11_set_44 ?_
    exact jx_iret dX11_set_46 rfl rfl (jle rfl) (jle rfl) ⟨_, rfl, h⟩
  replace h := h.2 c4
  refine jx_iload_n 2 dX11_set_8 rfl rfl ?_
  refine jx_i2l dX11_set_9 ?_
  refine jx_ldc2 jwL_X11_133 dX11_set_10 ?_
  refine jx_ldc2 jwL_X11_135 dX11_set_13 ?_
  refine jx_callSi (M' := mX11_isIn) (As := [.long (Int32.toInt64 x2), .long 4, .long 6]) jo_X11_isIn jwM_X11_71 jwS_X11_isIn dX11_set_16 (jRok_m _ _ _) rfl (jle rfl) ⟨jle rfl, jle rfl⟩ (c_X11_isIn (Q := fun v S' => v = (jisin (Int32.toInt64 x2) 4 6) ∧ S2 = S') ⟨rfl, rfl⟩) (fun r5 S6 hq7 => ?_)
  obtain ⟨rfl, rfl⟩ := hq7
  refine jx_if_eq (tgt := 44) dX11_set_19 (by decide) (fun c8 => ?_) (fun c8 => ?_)
  · replace h := h.1 c8
    refine jx_ldc jwC_X11_87 dX11_set_44 ?_
    exact jx_iret dX11_set_46 rfl rfl (jle rfl) (jle rfl) ⟨_, rfl, h⟩
  replace h := h.2 c8
  refine jx_iload_n 3 dX11_set_22 rfl rfl ?_
  refine jx_i2l dX11_set_23 ?_
  refine jx_lconst (v := 0) dX11_set_24 (by decide) ?_
  refine jx_iload_n 2 dX11_set_25 rfl rfl ?_
  refine jx_bipush (v := 6) dX11_set_26 (by decide) ?_
  refine jx_icmp_ne (tgt := 35) dX11_set_28 (by decide) (fun c9 => ?_) (fun c9 => ?_)
  · replace h := h.2 c9
    refine jx_ldc2 jwL_X11_85 dX11_set_35 ?_
    refine jx_callSi (M' := mX11_isIn) (As := [.long (Int32.toInt64 x3), .long 0, .long 99]) jo_X11_isIn jwM_X11_71 jwS_X11_isIn dX11_set_38 (jRok_m _ _ _) rfl (jle rfl) ⟨jle rfl, jle rfl⟩ (c_X11_isIn (Q := fun v S' => v = (jisin (Int32.toInt64 x3) 0 99) ∧ S2 = S') ⟨rfl, rfl⟩) (fun r10 S11 hq12 => ?_)
    obtain ⟨rfl, rfl⟩ := hq12
    refine jx_if_ne (tgt := 47) dX11_set_41 (by decide) (fun c13 => ?_) (fun c13 => ?_)
    · replace h := h.2 c13
      refine jx_aload_n 0 dX11_set_47 rfl rfl ?_
      refine jx_bipush (v := 72) dX11_set_48 (by decide) ?_
      refine jx_bipush (v := 7) dX11_set_50 (by decide) ?_
      refine jx_iload_n 1 dX11_set_52 rfl rfl ?_
      refine jx_imul dX11_set_53 ?_
      refine jx_iadd dX11_set_54 ?_
      refine jx_iload_n 2 dX11_set_55 rfl rfl ?_
      refine jx_iadd dX11_set_56 ?_
      refine jx_iload_n 3 dX11_set_57 rfl rfl ?_
      obtain ⟨hk14, h⟩ := h
      refine jx_callVi (M' := mX11_becomes) (As := [.int ((72 + (7 * x1)) + x2), .int x3]) jo_X11_becomes jc_11 rfl jwM_X11_130 jwN_X11_becomes jwX_X11_becomes dX11_set_58 (jRok_m _ _ _) rfl (jle rfl) ⟨jle rfl, jle rfl⟩ hk14 h (fun r16 S15 h => ?_)
      exact jx_iret dX11_set_61 rfl rfl (jle rfl) (jle rfl) ⟨_, rfl, h⟩
    replace h := h.1 c13
    refine jx_ldc jwC_X11_87 dX11_set_44 ?_
    exact jx_iret dX11_set_46 rfl rfl (jle rfl) (jle rfl) ⟨_, rfl, h⟩
  replace h := h.1 c9
  refine jx_lconst (v := 1) dX11_set_31 (by decide) ?_
  refine jx_goto (tgt := 38) dX11_set_32 (by decide) ?_
  refine jx_callSi (M' := mX11_isIn) (As := [.long (Int32.toInt64 x3), .long 0, .long 1]) jo_X11_isIn jwM_X11_71 jwS_X11_isIn dX11_set_38 (jRok_m _ _ _) rfl (jle rfl) ⟨jle rfl, jle rfl⟩ (c_X11_isIn (Q := fun v S' => v = (jisin (Int32.toInt64 x3) 0 1) ∧ S2 = S') ⟨rfl, rfl⟩) (fun r17 S18 hq19 => ?_)
  obtain ⟨rfl, rfl⟩ := hq19
  refine jx_if_ne (tgt := 47) dX11_set_41 (by decide) (fun c20 => ?_) (fun c20 => ?_)
  · replace h := h.2 c20
    refine jx_aload_n 0 dX11_set_47 rfl rfl ?_
    refine jx_bipush (v := 72) dX11_set_48 (by decide) ?_
    refine jx_bipush (v := 7) dX11_set_50 (by decide) ?_
    refine jx_iload_n 1 dX11_set_52 rfl rfl ?_
    refine jx_imul dX11_set_53 ?_
    refine jx_iadd dX11_set_54 ?_
    refine jx_iload_n 2 dX11_set_55 rfl rfl ?_
    refine jx_iadd dX11_set_56 ?_
    refine jx_iload_n 3 dX11_set_57 rfl rfl ?_
    obtain ⟨hk21, h⟩ := h
    refine jx_callVi (M' := mX11_becomes) (As := [.int ((72 + (7 * x1)) + x2), .int x3]) jo_X11_becomes jc_11 rfl jwM_X11_130 jwN_X11_becomes jwX_X11_becomes dX11_set_58 (jRok_m _ _ _) rfl (jle rfl) ⟨jle rfl, jle rfl⟩ hk21 h (fun r23 S22 h => ?_)
    exact jx_iret dX11_set_61 rfl rfl (jle rfl) (jle rfl) ⟨_, rfl, h⟩
  replace h := h.1 c20
  refine jx_ldc jwC_X11_87 dX11_set_44 ?_
  exact jx_iret dX11_set_46 rfl rfl (jle rfl) (jle rfl) ⟨_, rfl, h⟩
set_option maxRecDepth 100000 in
set_option maxHeartbeats 4000000 in
theorem T_X11_bars {E : jEnv} {d : Nat} {Q : Int32 → jM → Prop} {a0 : Nat} {x1 : Int32} {x2 : Int32} {x3 : Int32} {S : jM} (h : jk S a0 = 11 ∧ jFi E mX11_isMaster d 0 0 [.ref a0, .int x1] S (fun r3 S2 => (r3 = 0 → Q (-1000000001) S2) ∧ (¬ r3 = 0 → ((jisg x2) = 0 → Q (-1000000001) S2) ∧ (¬ (jisg x2) = 0 → ((jisg x3) = 0 → Q (-1000000001) S2) ∧ (¬ (jisg x3) = 0 → jk S2 a0 = 11 ∧ jFi E mX11_of d 0 0 [.ref a0, .int x1, .int 2] S2 (fun r15 S14 => (x2 = r15 → Q (-1000000001) S14) ∧ (¬ x2 = r15 → jk S14 a0 = 11 ∧ jFi E mX11_of d 0 0 [.ref a0, .int x1, .int 2] S14 (fun r19 S18 => (x3 = r19 → Q (-1000000001) S18) ∧ (¬ x3 = r19 → jk S18 a0 = 11 ∧ jFi E mX11_becomes d 0 0 [.ref a0, .int ((72 + (7 * x1)) + 3), .int ((jshl 1 x2) ||| (jshl 1 x3))] S18 (fun r23 S22 => Q r23 S22)))))))))) : jFi E mX11_bars (d + 1) 0 0 [.ref a0, .int x1, .int x2, .int x3] S Q := by
  refine jF_of (by decide) (jle rfl) ?_
  refine jx_lv (lv1 := [(0, .ref a0), (1, .int x1), (2, .int x2), (3, .int x3)]) [0, 1, 2, 3] rfl ?_
  refine jx_aload_n 0 dX11_bars_0 rfl rfl ?_
  refine jx_iload_n 1 dX11_bars_1 rfl rfl ?_
  obtain ⟨hk1, h⟩ := h
  refine jx_callVi (M' := mX11_isMaster) (As := [.int x1]) jo_X11_isMaster jc_11 rfl jwM_X11_111 jwN_X11_isMaster jwX_X11_isMaster dX11_bars_2 (jRok_m _ _ _) rfl (jle rfl) ⟨jle rfl, jle rfl⟩ hk1 h (fun r3 S2 h => ?_)
  refine jx_if_eq (tgt := 42) dX11_bars_5 (by decide) (fun c4 => ?_) (fun c4 => ?_)
  · replace h := h.1 c4
    refine jx_ldc jwC_X11_87 dX11_bars_42 ?_
    exact jx_iret dX11_bars_44 rfl rfl (jle rfl) (jle rfl) ⟨_, rfl, h⟩
  replace h := h.2 c4
  refine jx_iload_n 2 dX11_bars_8 rfl rfl ?_
  refine jx_callSi (M' := mX11_isGesture) (As := [.int x2]) jo_X11_isGesture jwM_X11_82 jwS_X11_isGesture dX11_bars_9 (jRok_m _ _ _) rfl (jle rfl) ⟨jle rfl, jle rfl⟩ (c_X11_isGesture (Q := fun v S' => v = (jisg x2) ∧ S2 = S') ⟨rfl, rfl⟩) (fun r5 S6 hq7 => ?_)
  obtain ⟨rfl, rfl⟩ := hq7
  refine jx_if_eq (tgt := 42) dX11_bars_12 (by decide) (fun c8 => ?_) (fun c8 => ?_)
  · replace h := h.1 c8
    refine jx_ldc jwC_X11_87 dX11_bars_42 ?_
    exact jx_iret dX11_bars_44 rfl rfl (jle rfl) (jle rfl) ⟨_, rfl, h⟩
  replace h := h.2 c8
  refine jx_iload_n 3 dX11_bars_15 rfl rfl ?_
  refine jx_callSi (M' := mX11_isGesture) (As := [.int x3]) jo_X11_isGesture jwM_X11_82 jwS_X11_isGesture dX11_bars_16 (jRok_m _ _ _) rfl (jle rfl) ⟨jle rfl, jle rfl⟩ (c_X11_isGesture (Q := fun v S' => v = (jisg x3) ∧ S2 = S') ⟨rfl, rfl⟩) (fun r9 S10 hq11 => ?_)
  obtain ⟨rfl, rfl⟩ := hq11
  refine jx_if_eq (tgt := 42) dX11_bars_19 (by decide) (fun c12 => ?_) (fun c12 => ?_)
  · replace h := h.1 c12
    refine jx_ldc jwC_X11_87 dX11_bars_42 ?_
    exact jx_iret dX11_bars_44 rfl rfl (jle rfl) (jle rfl) ⟨_, rfl, h⟩
  replace h := h.2 c12
  refine jx_iload_n 2 dX11_bars_22 rfl rfl ?_
  refine jx_aload_n 0 dX11_bars_23 rfl rfl ?_
  refine jx_iload_n 1 dX11_bars_24 rfl rfl ?_
  refine jx_iconst (v := 2) dX11_bars_25 (by decide) ?_
  obtain ⟨hk13, h⟩ := h
  refine jx_callVi (M' := mX11_of) (As := [.int x1, .int 2]) jo_X11_of jc_11 rfl jwM_X11_97 jwN_X11_of jwX_X11_of dX11_bars_26 (jRok_m _ _ _) rfl (jle rfl) ⟨jle rfl, jle rfl⟩ hk13 h (fun r15 S14 h => ?_)
  refine jx_icmp_eq (tgt := 42) dX11_bars_29 (by decide) (fun c16 => ?_) (fun c16 => ?_)
  · replace h := h.1 c16
    refine jx_ldc jwC_X11_87 dX11_bars_42 ?_
    exact jx_iret dX11_bars_44 rfl rfl (jle rfl) (jle rfl) ⟨_, rfl, h⟩
  replace h := h.2 c16
  refine jx_iload_n 3 dX11_bars_32 rfl rfl ?_
  refine jx_aload_n 0 dX11_bars_33 rfl rfl ?_
  refine jx_iload_n 1 dX11_bars_34 rfl rfl ?_
  refine jx_iconst (v := 2) dX11_bars_35 (by decide) ?_
  obtain ⟨hk17, h⟩ := h
  refine jx_callVi (M' := mX11_of) (As := [.int x1, .int 2]) jo_X11_of jc_11 rfl jwM_X11_97 jwN_X11_of jwX_X11_of dX11_bars_36 (jRok_m _ _ _) rfl (jle rfl) ⟨jle rfl, jle rfl⟩ hk17 h (fun r19 S18 h => ?_)
  refine jx_icmp_ne (tgt := 45) dX11_bars_39 (by decide) (fun c20 => ?_) (fun c20 => ?_)
  · replace h := h.2 c20
    refine jx_aload_n 0 dX11_bars_45 rfl rfl ?_
    refine jx_bipush (v := 72) dX11_bars_46 (by decide) ?_
    refine jx_bipush (v := 7) dX11_bars_48 (by decide) ?_
    refine jx_iload_n 1 dX11_bars_50 rfl rfl ?_
    refine jx_imul dX11_bars_51 ?_
    refine jx_iadd dX11_bars_52 ?_
    refine jx_iconst (v := 3) dX11_bars_53 (by decide) ?_
    refine jx_iadd dX11_bars_54 ?_
    refine jx_iconst (v := 1) dX11_bars_55 (by decide) ?_
    refine jx_iload_n 2 dX11_bars_56 rfl rfl ?_
    refine jx_ishl dX11_bars_57 ?_
    refine jx_iconst (v := 1) dX11_bars_58 (by decide) ?_
    refine jx_iload_n 3 dX11_bars_59 rfl rfl ?_
    refine jx_ishl dX11_bars_60 ?_
    refine jx_ior dX11_bars_61 ?_
    obtain ⟨hk21, h⟩ := h
    refine jx_callVi (M' := mX11_becomes) (As := [.int ((72 + (7 * x1)) + 3), .int ((jshl 1 x2) ||| (jshl 1 x3))]) jo_X11_becomes jc_11 rfl jwM_X11_130 jwN_X11_becomes jwX_X11_becomes dX11_bars_62 (jRok_m _ _ _) rfl (jle rfl) ⟨jle rfl, jle rfl⟩ hk21 h (fun r23 S22 h => ?_)
    exact jx_iret dX11_bars_65 rfl rfl (jle rfl) (jle rfl) ⟨_, rfl, h⟩
  replace h := h.1 c20
  refine jx_ldc jwC_X11_87 dX11_bars_42 ?_
  exact jx_iret dX11_bars_44 rfl rfl (jle rfl) (jle rfl) ⟨_, rfl, h⟩
set_option maxRecDepth 100000 in
set_option maxHeartbeats 4000000 in
theorem T_X11_road {E : jEnv} {d : Nat} {Q : Int32 → jM → Prop} {a0 : Nat} {x1 : Int32} {x2 : Int32} {x3 : Int32} {S : jM} (h : ((jist x1) = 0 → Q (-1000000001) S) ∧ (¬ (jist x1) = 0 → ((jist x2) = 0 → Q (-1000000001) S) ∧ (¬ (jist x2) = 0 → (x1 = x2 → Q (-1000000001) S) ∧ (¬ x1 = x2 → ((jisin (Int32.toInt64 x3) 0 9) = 0 → Q (-1000000001) S) ∧ (¬ (jisin (Int32.toInt64 x3) 0 9) = 0 → jk S a0 = 11 ∧ ∃ b15, jr S a0 0 = some b15 ∧ (jk S b15 = 12 ∧ vp_in ((36 + (6 * x2)) + x1) (jl S b15) ∧ (jFi E mX11_becomes d 0 0 [.ref a0, .int ((36 + (6 * x1)) + x2), .int x3] (jput S b15 (Int32.toNatClampNeg ((36 + (6 * x2)) + x1)) x3) (fun r19 S18 => Q r19 S18)))))))) : jFi E mX11_road (d + 1) 0 0 [.ref a0, .int x1, .int x2, .int x3] S Q := by
  refine jF_of (by decide) (jle rfl) ?_
  refine jx_lv (lv1 := [(0, .ref a0), (1, .int x1), (2, .int x2), (3, .int x3)]) [0, 1, 2, 3] rfl ?_
  refine jx_iload_n 1 dX11_road_0 rfl rfl ?_
  refine jx_callSi (M' := mX11_isTown) (As := [.int x1]) jo_X11_isTown jwM_X11_78 jwS_X11_isTown dX11_road_1 (jRok_m _ _ _) rfl (jle rfl) ⟨jle rfl, jle rfl⟩ (c_X11_isTown (Q := fun v S' => v = (jist x1) ∧ S = S') ⟨rfl, rfl⟩) (fun r1 S2 hq3 => ?_)
  obtain ⟨rfl, rfl⟩ := hq3
  refine jx_if_eq (tgt := 31) dX11_road_4 (by decide) (fun c4 => ?_) (fun c4 => ?_)
  · replace h := h.1 c4
    refine jx_ldc jwC_X11_87 dX11_road_31 ?_
    exact jx_iret dX11_road_33 rfl rfl (jle rfl) (jle rfl) ⟨_, rfl, h⟩
  replace h := h.2 c4
  refine jx_iload_n 2 dX11_road_7 rfl rfl ?_
  refine jx_callSi (M' := mX11_isTown) (As := [.int x2]) jo_X11_isTown jwM_X11_78 jwS_X11_isTown dX11_road_8 (jRok_m _ _ _) rfl (jle rfl) ⟨jle rfl, jle rfl⟩ (c_X11_isTown (Q := fun v S' => v = (jist x2) ∧ S = S') ⟨rfl, rfl⟩) (fun r5 S6 hq7 => ?_)
  obtain ⟨rfl, rfl⟩ := hq7
  refine jx_if_eq (tgt := 31) dX11_road_11 (by decide) (fun c8 => ?_) (fun c8 => ?_)
  · replace h := h.1 c8
    refine jx_ldc jwC_X11_87 dX11_road_31 ?_
    exact jx_iret dX11_road_33 rfl rfl (jle rfl) (jle rfl) ⟨_, rfl, h⟩
  replace h := h.2 c8
  refine jx_iload_n 1 dX11_road_14 rfl rfl ?_
  refine jx_iload_n 2 dX11_road_15 rfl rfl ?_
  refine jx_icmp_eq (tgt := 31) dX11_road_16 (by decide) (fun c9 => ?_) (fun c9 => ?_)
  · replace h := h.1 c9
    refine jx_ldc jwC_X11_87 dX11_road_31 ?_
    exact jx_iret dX11_road_33 rfl rfl (jle rfl) (jle rfl) ⟨_, rfl, h⟩
  replace h := h.2 c9
  refine jx_iload_n 3 dX11_road_19 rfl rfl ?_
  refine jx_i2l dX11_road_20 ?_
  refine jx_lconst (v := 0) dX11_road_21 (by decide) ?_
  refine jx_ldc2 jwL_X11_114 dX11_road_22 ?_
  refine jx_callSi (M' := mX11_isIn) (As := [.long (Int32.toInt64 x3), .long 0, .long 9]) jo_X11_isIn jwM_X11_71 jwS_X11_isIn dX11_road_25 (jRok_m _ _ _) rfl (jle rfl) ⟨jle rfl, jle rfl⟩ (c_X11_isIn (Q := fun v S' => v = (jisin (Int32.toInt64 x3) 0 9) ∧ S = S') ⟨rfl, rfl⟩) (fun r10 S11 hq12 => ?_)
  obtain ⟨rfl, rfl⟩ := hq12
  refine jx_if_ne (tgt := 34) dX11_road_28 (by decide) (fun c13 => ?_) (fun c13 => ?_)
  · replace h := h.2 c13
    refine jx_aload_n 0 dX11_road_34 rfl rfl ?_
    obtain ⟨hk14, h⟩ := h
    obtain ⟨b15, hb15, h⟩ := h
    refine jx_getr jc_11 (j := 0) (by decide) rfl jwF_X11_7 dX11_road_35 hk14 hb15 ?_
    refine jx_bipush (v := 36) dX11_road_38 (by decide) ?_
    refine jx_bipush (v := 6) dX11_road_40 (by decide) ?_
    refine jx_iload_n 2 dX11_road_42 rfl rfl ?_
    refine jx_imul dX11_road_43 ?_
    refine jx_iadd dX11_road_44 ?_
    refine jx_iload_n 1 dX11_road_45 rfl rfl ?_
    refine jx_iadd dX11_road_46 ?_
    refine jx_iload_n 3 dX11_road_47 rfl rfl ?_
    obtain ⟨hk16, h⟩ := h
    obtain ⟨hi17, h⟩ := h
    refine jx_iast dX11_road_48 hk16 hi17 ?_
    refine jx_aload_n 0 dX11_road_49 rfl rfl ?_
    refine jx_bipush (v := 36) dX11_road_50 (by decide) ?_
    refine jx_bipush (v := 6) dX11_road_52 (by decide) ?_
    refine jx_iload_n 1 dX11_road_54 rfl rfl ?_
    refine jx_imul dX11_road_55 ?_
    refine jx_iadd dX11_road_56 ?_
    refine jx_iload_n 2 dX11_road_57 rfl rfl ?_
    refine jx_iadd dX11_road_58 ?_
    refine jx_iload_n 3 dX11_road_59 rfl rfl ?_
    refine jx_callVi (M' := mX11_becomes) (As := [.int ((36 + (6 * x1)) + x2), .int x3]) jo_X11_becomes jc_11 rfl jwM_X11_130 jwN_X11_becomes jwX_X11_becomes dX11_road_60 (jRok_m _ _ _) rfl (jle rfl) ⟨jle rfl, jle rfl⟩ hk14 h (fun r19 S18 h => ?_)
    exact jx_iret dX11_road_63 rfl rfl (jle rfl) (jle rfl) ⟨_, rfl, h⟩
  replace h := h.1 c13
  refine jx_ldc jwC_X11_87 dX11_road_31 ?_
  exact jx_iret dX11_road_33 rfl rfl (jle rfl) (jle rfl) ⟨_, rfl, h⟩
end
section
/-- X11_findFar at its loop's head 2 -/
abbrev L_X11_findFar_2 (E : jEnv) (d : Nat) (Q : jM → Prop) (a0 : Nat) (x1 : Int32) (S : jM) : Prop := jX E mX11_findFar (jRm d 0 0) (jZm E (fun r S' => r = none ∧ Q S') 0 0) 2 [(0, .ref a0), (1, .int x1)] [] S 0 0
/-- X11_findFar at its loop's head 64 -/
abbrev L_X11_findFar_64 (E : jEnv) (d : Nat) (Q : jM → Prop) (a0 : Nat) (x1 : Int32) (S : jM) : Prop := jX E mX11_findFar (jRm d 0 0) (jZm E (fun r S' => r = none ∧ Q S') 0 0) 64 [(0, .ref a0), (1, .int x1)] [] S 0 0
/-- X11_findFar at its loop's head 72 -/
abbrev L_X11_findFar_72 (E : jEnv) (d : Nat) (Q : jM → Prop) (a0 : Nat) (x1 : Int32) (x2 : Int32) (S : jM) : Prop := jX E mX11_findFar (jRm d 0 0) (jZm E (fun r S' => r = none ∧ Q S') 0 0) 72 [(0, .ref a0), (1, .int x1), (2, .int x2)] [] S 0 0
set_option maxRecDepth 100000 in
set_option maxHeartbeats 4000000 in
theorem T_X11_findFar {E : jEnv} {d : Nat} {Q : jM → Prop} {a0 : Nat} {S : jM} (h : L_X11_findFar_2 E d Q a0 0 S) : jFv E mX11_findFar d 0 0 [.ref a0] S Q := by
  refine jF_of (by decide) (jle rfl) ?_
  refine jx_lv (lv1 := [(0, .ref a0)]) [0] rfl ?_
  refine jx_iconst (v := 0) dX11_findFar_0 (by decide) ?_
  refine jx_istore_n (lv1 := [(1, .int 0), (0, .ref a0)]) dX11_findFar_1 rfl (by decide) rfl ?_
  exact jx_lv [1, 0] rfl h
set_option maxRecDepth 100000 in
set_option maxHeartbeats 4000000 in
theorem T_X11_findFar_2 {E : jEnv} {d : Nat} {Q : jM → Prop} {a0 : Nat} {x1 : Int32} {S : jM} (h : (36 ≤ x1 → L_X11_findFar_64 E d Q a0 0 S) ∧ (¬ 36 ≤ x1 → jk S a0 = 11 ∧ ∃ b3, jr S a0 12 = some b3 ∧ (((x1 / 6) = (jrem x1 6) → jk S b3 = 12 ∧ vp_in x1 (jl S b3) ∧ (L_X11_findFar_2 E d Q a0 (x1 + 1) (jput S b3 (Int32.toNatClampNeg x1) 0))) ∧ (¬ (x1 / 6) = (jrem x1 6) → ∃ b5, jr S a0 0 = some b5 ∧ (jk S b5 = 12 ∧ vp_in (36 + x1) (jl S b5) ∧ (((ji S b5 (Int32.toNatClampNeg (36 + x1))) = 0 → jk S b3 = 12 ∧ vp_in x1 (jl S b3) ∧ (L_X11_findFar_2 E d Q a0 (x1 + 1) (jput S b3 (Int32.toNatClampNeg x1) 9999))) ∧ (¬ (ji S b5 (Int32.toNatClampNeg (36 + x1))) = 0 → (jk S b3 = 12 ∧ vp_in x1 (jl S b3) ∧ (L_X11_findFar_2 E d Q a0 (x1 + 1) (jput S b3 (Int32.toNatClampNeg x1) (ji S b5 (Int32.toNatClampNeg (36 + x1))))))))))))) : L_X11_findFar_2 E d Q a0 x1 S := by
  show jX E mX11_findFar (jRm d 0 0) (jZm E (fun r S' => r = none ∧ Q S') 0 0) 2 [(0, .ref a0), (1, .int x1)] [] S 0 0
  refine jx_iload_n 1 dX11_findFar_2 rfl rfl ?_
  refine jx_bipush (v := 36) dX11_findFar_3 (by decide) ?_
  refine jx_icmp_ge (tgt := 62) dX11_findFar_5 (by decide) (fun c1 => ?_) (fun c1 => ?_)
  · replace h := h.1 c1
    refine jx_iconst (v := 0) dX11_findFar_62 (by decide) ?_
    refine jx_istore_n (lv1 := [(1, .int 0), (0, .ref a0)]) dX11_findFar_63 rfl (by decide) rfl ?_
    exact jx_lv [1, 0] rfl h
  replace h := h.2 c1
  refine jx_aload_n 0 dX11_findFar_8 rfl rfl ?_
  obtain ⟨hk2, h⟩ := h
  obtain ⟨b3, hb3, h⟩ := h
  refine jx_getr jc_11 (j := 12) (by decide) rfl jwF_X11_43 dX11_findFar_9 hk2 hb3 ?_
  refine jx_iload_n 1 dX11_findFar_12 rfl rfl ?_
  refine jx_iload_n 1 dX11_findFar_13 rfl rfl ?_
  refine jx_bipush (v := 6) dX11_findFar_14 (by decide) ?_
  refine jx_idiv dX11_findFar_16 (by decide) ?_
  refine jx_iload_n 1 dX11_findFar_17 rfl rfl ?_
  refine jx_bipush (v := 6) dX11_findFar_18 (by decide) ?_
  refine jx_irem dX11_findFar_20 (by decide) ?_
  refine jx_icmp_ne (tgt := 28) dX11_findFar_21 (by decide) (fun c4 => ?_) (fun c4 => ?_)
  · replace h := h.2 c4
    refine jx_aload_n 0 dX11_findFar_28 rfl rfl ?_
    obtain ⟨b5, hb5, h⟩ := h
    refine jx_getr jc_11 (j := 0) (by decide) rfl jwF_X11_7 dX11_findFar_29 hk2 hb5 ?_
    refine jx_bipush (v := 36) dX11_findFar_32 (by decide) ?_
    refine jx_iload_n 1 dX11_findFar_34 rfl rfl ?_
    refine jx_iadd dX11_findFar_35 ?_
    obtain ⟨hk6, h⟩ := h
    obtain ⟨hi7, h⟩ := h
    refine jx_iald dX11_findFar_36 hk6 hi7 ?_
    refine jx_if_ne (tgt := 46) dX11_findFar_37 (by decide) (fun c8 => ?_) (fun c8 => ?_)
    · replace h := h.2 c8
      refine jx_aload_n 0 dX11_findFar_46 rfl rfl ?_
      refine jx_getr jc_11 (j := 0) (by decide) rfl jwF_X11_7 dX11_findFar_47 hk2 hb5 ?_
      refine jx_bipush (v := 36) dX11_findFar_50 (by decide) ?_
      refine jx_iload_n 1 dX11_findFar_52 rfl rfl ?_
      refine jx_iadd dX11_findFar_53 ?_
      refine jx_iald dX11_findFar_54 hk6 hi7 ?_
      obtain ⟨hk9, h⟩ := h
      obtain ⟨hi10, h⟩ := h
      refine jx_iast dX11_findFar_55 hk9 hi10 ?_
      refine jx_iinc 1 (v := (x1 + 1)) (lv1 := [(1, .int (x1 + 1)), (0, .ref a0)]) kd66.1 rfl rfl (by decide) rfl ?_
      refine jx_goto (tgt := 2) kd66.2.1 (by decide) ?_
      exact jx_lv [1, 0] rfl h
    replace h := h.1 c8
    refine jx_sipush (v := 9999) dX11_findFar_40 (by decide) ?_
    refine jx_goto (tgt := 55) dX11_findFar_43 (by decide) ?_
    obtain ⟨hk11, h⟩ := h
    obtain ⟨hi12, h⟩ := h
    refine jx_iast dX11_findFar_55 hk11 hi12 ?_
    refine jx_iinc 1 (v := (x1 + 1)) (lv1 := [(1, .int (x1 + 1)), (0, .ref a0)]) kd66.1 rfl rfl (by decide) rfl ?_
    refine jx_goto (tgt := 2) kd66.2.1 (by decide) ?_
    exact jx_lv [1, 0] rfl h
  replace h := h.1 c4
  refine jx_iconst (v := 0) dX11_findFar_24 (by decide) ?_
  refine jx_goto (tgt := 55) dX11_findFar_25 (by decide) ?_
  obtain ⟨hk13, h⟩ := h
  obtain ⟨hi14, h⟩ := h
  refine jx_iast dX11_findFar_55 hk13 hi14 ?_
  refine jx_iinc 1 (v := (x1 + 1)) (lv1 := [(1, .int (x1 + 1)), (0, .ref a0)]) kd66.1 rfl rfl (by decide) rfl ?_
  refine jx_goto (tgt := 2) kd66.2.1 (by decide) ?_
  exact jx_lv [1, 0] rfl h
set_option maxRecDepth 100000 in
set_option maxHeartbeats 4000000 in
theorem T_X11_findFar_64 {E : jEnv} {d : Nat} {Q : jM → Prop} {a0 : Nat} {x1 : Int32} {S : jM} (h : (6 ≤ x1 → Q S) ∧ (¬ 6 ≤ x1 → L_X11_findFar_72 E d Q a0 x1 0 S)) : L_X11_findFar_64 E d Q a0 x1 S := by
  show jX E mX11_findFar (jRm d 0 0) (jZm E (fun r S' => r = none ∧ Q S') 0 0) 64 [(0, .ref a0), (1, .int x1)] [] S 0 0
  refine jx_iload_n 1 dX11_findFar_64 rfl rfl ?_
  refine jx_bipush (v := 6) dX11_findFar_65 (by decide) ?_
  refine jx_icmp_ge (tgt := 146) dX11_findFar_67 (by decide) (fun c15 => ?_) (fun c15 => ?_)
  · replace h := h.1 c15
    exact jx_vret dX11_findFar_146 rfl (jle rfl) (jle rfl) ⟨rfl, h⟩
  replace h := h.2 c15
  refine jx_iconst (v := 0) dX11_findFar_70 (by decide) ?_
  refine jx_istore_n (lv1 := [(2, .int 0), (0, .ref a0), (1, .int x1)]) dX11_findFar_71 rfl (by decide) rfl ?_
  exact jx_lv [1, 2, 0] rfl h
set_option maxRecDepth 100000 in
set_option maxHeartbeats 4000000 in
theorem T_X11_findFar_72 {E : jEnv} {d : Nat} {Q : jM → Prop} {a0 : Nat} {x1 : Int32} {x2 : Int32} {S : jM} (h : (36 ≤ x2 → L_X11_findFar_64 E d Q a0 (x1 + 1) S) ∧ (¬ 36 ≤ x2 → jk S a0 = 11 ∧ ∃ b18, jr S a0 12 = some b18 ∧ (jk S b18 = 12 ∧ vp_in (((x2 / 6) * 6) + x1) (jl S b18) ∧ (vp_in ((6 * x1) + (jrem x2 6)) (jl S b18) ∧ (∀ y22 : Int32, y22 = ((ji S b18 (Int32.toNatClampNeg (((x2 / 6) * 6) + x1))) + (ji S b18 (Int32.toNatClampNeg ((6 * x1) + (jrem x2 6))))) → vp_in x2 (jl S b18) ∧ (((ji S b18 (Int32.toNatClampNeg x2)) ≤ y22 → ((L_X11_findFar_72 E d Q a0 x1 (x2 + 1) (jput S b18 (Int32.toNatClampNeg x2) (ji S b18 (Int32.toNatClampNeg x2)))))) ∧ (¬ (ji S b18 (Int32.toNatClampNeg x2)) ≤ y22 → (L_X11_findFar_72 E d Q a0 x1 (x2 + 1) (jput S b18 (Int32.toNatClampNeg x2) y22))))))))) : L_X11_findFar_72 E d Q a0 x1 x2 S := by
  show jX E mX11_findFar (jRm d 0 0) (jZm E (fun r S' => r = none ∧ Q S') 0 0) 72 [(0, .ref a0), (1, .int x1), (2, .int x2)] [] S 0 0
  refine jx_iload_n 2 dX11_findFar_72 rfl rfl ?_
  refine jx_bipush (v := 36) dX11_findFar_73 (by decide) ?_
  refine jx_icmp_ge (tgt := 140) dX11_findFar_75 (by decide) (fun c16 => ?_) (fun c16 => ?_)
  · replace h := h.1 c16
    refine jx_iinc 1 (v := (x1 + 1)) (lv1 := [(1, .int (x1 + 1)), (0, .ref a0), (2, .int x2)]) kd66.2.2.2.2.1 rfl rfl (by decide) rfl ?_
    refine jx_goto (tgt := 64) kd66.2.2.2.2.2 (by decide) ?_
    exact jx_lv [1, 0] rfl h
  replace h := h.2 c16
  refine jx_aload_n 0 dX11_findFar_78 rfl rfl ?_
  obtain ⟨hk17, h⟩ := h
  obtain ⟨b18, hb18, h⟩ := h
  refine jx_getr jc_11 (j := 12) (by decide) rfl jwF_X11_43 dX11_findFar_79 hk17 hb18 ?_
  refine jx_iload_n 2 dX11_findFar_82 rfl rfl ?_
  refine jx_bipush (v := 6) dX11_findFar_83 (by decide) ?_
  refine jx_idiv dX11_findFar_85 (by decide) ?_
  refine jx_bipush (v := 6) dX11_findFar_86 (by decide) ?_
  refine jx_imul dX11_findFar_88 ?_
  refine jx_iload_n 1 dX11_findFar_89 rfl rfl ?_
  refine jx_iadd dX11_findFar_90 ?_
  obtain ⟨hk19, h⟩ := h
  obtain ⟨hi20, h⟩ := h
  refine jx_iald dX11_findFar_91 hk19 hi20 ?_
  refine jx_aload_n 0 dX11_findFar_92 rfl rfl ?_
  refine jx_getr jc_11 (j := 12) (by decide) rfl jwF_X11_43 dX11_findFar_93 hk17 hb18 ?_
  refine jx_bipush (v := 6) dX11_findFar_96 (by decide) ?_
  refine jx_iload_n 1 dX11_findFar_98 rfl rfl ?_
  refine jx_imul dX11_findFar_99 ?_
  refine jx_iload_n 2 dX11_findFar_100 rfl rfl ?_
  refine jx_bipush (v := 6) dX11_findFar_101 (by decide) ?_
  refine jx_irem dX11_findFar_103 (by decide) ?_
  refine jx_iadd dX11_findFar_104 ?_
  obtain ⟨hi21, h⟩ := h
  refine jx_iald dX11_findFar_105 hk19 hi21 ?_
  refine jx_iadd dX11_findFar_106 ?_
  refine jx_nm (fun y22 ey22 => ?_)
  replace h := h y22 ey22
  refine jx_istore_n (lv1 := [(3, .int y22), (0, .ref a0), (1, .int x1), (2, .int x2)]) dX11_findFar_107 rfl (by decide) rfl ?_
  refine jx_aload_n 1 dX11_findFar_108 rfl rfl ?_
  refine jx_getr jc_11 (j := 12) (by decide) rfl jwF_X11_43 dX11_findFar_109 hk17 hb18 ?_
  refine jx_iload_n 3 dX11_findFar_112 rfl rfl ?_
  refine jx_iload_n 0 dX11_findFar_113 rfl rfl ?_
  refine jx_aload_n 1 dX11_findFar_114 rfl rfl ?_
  refine jx_getr jc_11 (j := 12) (by decide) rfl jwF_X11_43 dX11_findFar_115 hk17 hb18 ?_
  refine jx_iload_n 3 dX11_findFar_118 rfl rfl ?_
  obtain ⟨hi23, h⟩ := h
  refine jx_iald dX11_findFar_119 hk19 hi23 ?_
  refine jx_icmp_ge (tgt := 127) dX11_findFar_120 (by decide) (fun c24 => ?_) (fun c24 => ?_)
  · replace h := h.1 c24
    refine jx_aload_n 1 dX11_findFar_127 rfl rfl ?_
    refine jx_getr jc_11 (j := 12) (by decide) rfl jwF_X11_43 dX11_findFar_128 hk17 hb18 ?_
    refine jx_iload_n 3 dX11_findFar_131 rfl rfl ?_
    refine jx_iald dX11_findFar_132 hk19 hi23 ?_
    refine jx_iast dX11_findFar_133 hk19 hi23 ?_
    refine jx_iinc 3 (v := (x2 + 1)) (lv1 := [(2, .int (x2 + 1)), (3, .int y22), (0, .ref a0), (1, .int x1)]) kd66.2.2.1 rfl rfl (by decide) rfl ?_
    refine jx_goto (tgt := 72) kd66.2.2.2.1 (by decide) ?_
    exact jx_lv [2, 3, 0] rfl h
  replace h := h.2 c24
  refine jx_iload_n 0 dX11_findFar_123 rfl rfl ?_
  refine jx_goto (tgt := 133) dX11_findFar_124 (by decide) ?_
  refine jx_iast dX11_findFar_133 hk19 hi23 ?_
  refine jx_iinc 3 (v := (x2 + 1)) (lv1 := [(2, .int (x2 + 1)), (3, .int y22), (0, .ref a0), (1, .int x1)]) kd66.2.2.1 rfl rfl (by decide) rfl ?_
  refine jx_goto (tgt := 72) kd66.2.2.2.1 (by decide) ?_
  exact jx_lv [2, 3, 0] rfl h
set_option maxRecDepth 100000 in
set_option maxHeartbeats 4000000 in
theorem T_X11_far {E : jEnv} {d : Nat} {Q : Int32 → jM → Prop} {a0 : Nat} {x1 : Int32} {x2 : Int32} {S : jM} (h : ((jist x1) = 0 → Q (-1000000001) S) ∧ (¬ (jist x1) = 0 → ((jist x2) = 0 → Q (-1000000001) S) ∧ (¬ (jist x2) = 0 → jk S a0 = 11 ∧ jFv E mX11_findFar d 0 0 [.ref a0] S (fun S10 => jk S10 a0 = 11 ∧ ∃ b12, jr S10 a0 12 = some b12 ∧ (jk S10 b12 = 12 ∧ vp_in ((6 * x1) + x2) (jl S10 b12) ∧ (((ji S10 b12 (Int32.toNatClampNeg ((6 * x1) + x2))) = 9999 → Q (-1000000005) S10) ∧ (¬ (ji S10 b12 (Int32.toNatClampNeg ((6 * x1) + x2))) = 9999 → Q (ji S10 b12 (Int32.toNatClampNeg ((6 * x1) + x2))) S10))))))) : jFi E mX11_far (d + 1) 0 0 [.ref a0, .int x1, .int x2] S Q := by
  refine jF_of (by decide) (jle rfl) ?_
  refine jx_lv (lv1 := [(0, .ref a0), (1, .int x1), (2, .int x2)]) [0, 1, 2] rfl ?_
  refine jx_iload_n 1 dX11_far_0 rfl rfl ?_
  refine jx_callSi (M' := mX11_isTown) (As := [.int x1]) jo_X11_isTown jwM_X11_78 jwS_X11_isTown dX11_far_1 (jRok_m _ _ _) rfl (jle rfl) ⟨jle rfl, jle rfl⟩ (c_X11_isTown (Q := fun v S' => v = (jist x1) ∧ S = S') ⟨rfl, rfl⟩) (fun r1 S2 hq3 => ?_)
  obtain ⟨rfl, rfl⟩ := hq3
  refine jx_if_eq (tgt := 14) dX11_far_4 (by decide) (fun c4 => ?_) (fun c4 => ?_)
  · replace h := h.1 c4
    refine jx_ldc jwC_X11_87 dX11_far_14 ?_
    exact jx_iret dX11_far_16 rfl rfl (jle rfl) (jle rfl) ⟨_, rfl, h⟩
  replace h := h.2 c4
  refine jx_iload_n 2 dX11_far_7 rfl rfl ?_
  refine jx_callSi (M' := mX11_isTown) (As := [.int x2]) jo_X11_isTown jwM_X11_78 jwS_X11_isTown dX11_far_8 (jRok_m _ _ _) rfl (jle rfl) ⟨jle rfl, jle rfl⟩ (c_X11_isTown (Q := fun v S' => v = (jist x2) ∧ S = S') ⟨rfl, rfl⟩) (fun r5 S6 hq7 => ?_)
  obtain ⟨rfl, rfl⟩ := hq7
  refine jx_if_ne (tgt := 17) dX11_far_11 (by decide) (fun c8 => ?_) (fun c8 => ?_)
  · replace h := h.2 c8
    refine jx_aload_n 0 dX11_far_17 rfl rfl ?_
    obtain ⟨hk9, h⟩ := h
    refine jx_callVv (M' := mX11_findFar) (As := []) jo_X11_findFar jc_11 rfl jwM_X11_137 jwN_X11_findFar jwX_X11_findFar dX11_far_18 (jRok_m _ _ _) rfl (jle rfl) ⟨jle rfl, jle rfl⟩ hk9 h (fun S10 h => ?_)
    refine jx_aload_n 0 dX11_far_21 rfl rfl ?_
    obtain ⟨hk11, h⟩ := h
    obtain ⟨b12, hb12, h⟩ := h
    refine jx_getr jc_11 (j := 12) (by decide) rfl jwF_X11_43 dX11_far_22 hk11 hb12 ?_
    refine jx_bipush (v := 6) dX11_far_25 (by decide) ?_
    refine jx_iload_n 1 dX11_far_27 rfl rfl ?_
    refine jx_imul dX11_far_28 ?_
    refine jx_iload_n 2 dX11_far_29 rfl rfl ?_
    refine jx_iadd dX11_far_30 ?_
    obtain ⟨hk13, h⟩ := h
    obtain ⟨hi14, h⟩ := h
    refine jx_iald dX11_far_31 hk13 hi14 ?_
    refine jx_istore_n (lv1 := [(3, .int (ji S10 b12 (Int32.toNatClampNeg ((6 * x1) + x2)))), (0, .ref a0), (1, .int x1), (2, .int x2)]) dX11_far_32 rfl (by decide) rfl ?_
    refine jx_iload_n 0 dX11_far_33 rfl rfl ?_
    refine jx_sipush (v := 9999) dX11_far_34 (by decide) ?_
    refine jx_icmp_ne (tgt := 45) dX11_far_37 (by decide) (fun c15 => ?_) (fun c15 => ?_)
    · replace h := h.2 c15
      refine jx_iload_n 0 dX11_far_45 rfl rfl ?_
      exact jx_iret dX11_far_46 rfl rfl (jle rfl) (jle rfl) ⟨_, rfl, h⟩
    replace h := h.1 c15
    refine jx_ldc jwC_X11_70 dX11_far_40 ?_
    refine jx_goto (tgt := 46) dX11_far_42 (by decide) ?_
    exact jx_iret dX11_far_46 rfl rfl (jle rfl) (jle rfl) ⟨_, rfl, h⟩
  replace h := h.1 c8
  refine jx_ldc jwC_X11_87 dX11_far_14 ?_
  exact jx_iret dX11_far_16 rfl rfl (jle rfl) (jle rfl) ⟨_, rfl, h⟩
/-- X11_deal at its loop's head 17 -/
abbrev L_X11_deal_17 (E : jEnv) (d : Nat) (Q : Int32 → jM → Prop) (a0 : Nat) (x1 : Int32) (x2 : Int32) (S : jM) : Prop := jX E mX11_deal (jRm (d + 1) 0 0) (jZm E (fun r S' => ∃ v : Int32, r = some (.int v) ∧ Q v S') 0 0) 17 [(0, .ref a0), (1, .int x1), (2, .int x2)] [] S 0 0
set_option maxRecDepth 100000 in
set_option maxHeartbeats 4000000 in
theorem T_X11_deal {E : jEnv} {d : Nat} {Q : Int32 → jM → Prop} {a0 : Nat} {x1 : Int32} {S : jM} (h : ((jisin (Int32.toInt64 x1) 1 9) = 0 → Q (-1000000001) S) ∧ (¬ (jisin (Int32.toInt64 x1) 1 9) = 0 → L_X11_deal_17 E d Q a0 x1 0 S)) : jFi E mX11_deal (d + 1) 0 0 [.ref a0, .int x1] S Q := by
  refine jF_of (by decide) (jle rfl) ?_
  refine jx_lv (lv1 := [(0, .ref a0), (1, .int x1)]) [0, 1] rfl ?_
  refine jx_iload_n 1 dX11_deal_0 rfl rfl ?_
  refine jx_i2l dX11_deal_1 ?_
  refine jx_lconst (v := 1) dX11_deal_2 (by decide) ?_
  refine jx_ldc2 jwL_X11_114 dX11_deal_3 ?_
  refine jx_callSi (M' := mX11_isIn) (As := [.long (Int32.toInt64 x1), .long 1, .long 9]) jo_X11_isIn jwM_X11_71 jwS_X11_isIn dX11_deal_6 (jRok_m _ _ _) rfl (jle rfl) ⟨jle rfl, jle rfl⟩ (c_X11_isIn (Q := fun v S' => v = (jisin (Int32.toInt64 x1) 1 9) ∧ S = S') ⟨rfl, rfl⟩) (fun r1 S2 hq3 => ?_)
  obtain ⟨rfl, rfl⟩ := hq3
  refine jx_if_ne (tgt := 15) dX11_deal_9 (by decide) (fun c4 => ?_) (fun c4 => ?_)
  · replace h := h.2 c4
    refine jx_iconst (v := 0) dX11_deal_15 (by decide) ?_
    refine jx_istore_n (lv1 := [(2, .int 0), (0, .ref a0), (1, .int x1)]) dX11_deal_16 rfl (by decide) rfl ?_
    exact jx_lv [1, 2, 0] rfl h
  replace h := h.1 c4
  refine jx_ldc jwC_X11_87 dX11_deal_12 ?_
  exact jx_iret dX11_deal_14 rfl rfl (jle rfl) (jle rfl) ⟨_, rfl, h⟩
set_option maxRecDepth 100000 in
set_option maxHeartbeats 4000000 in
theorem T_X11_deal_17 {E : jEnv} {d : Nat} {Q : Int32 → jM → Prop} {a0 : Nat} {x1 : Int32} {x2 : Int32} {S : jM} (h : (x1 ≤ x2 → Q x2 S) ∧ (¬ x1 ≤ x2 → jk S a0 = 11 ∧ ∃ b7, jr S a0 0 = some b7 ∧ (jk S b7 = 12 ∧ vp_in 0 (jl S b7) ∧ ((9 ≤ (ji S b7 (Int32.toNatClampNeg 0)) → Q x2 S) ∧ (¬ 9 ≤ (ji S b7 (Int32.toNatClampNeg 0)) → jFi E mX11_drawn d 0 0 [.ref a0] S (fun r12 S11 => jk S11 a0 = 11 ∧ jFi E mX11_drawn d 0 0 [.ref a0] S11 (fun r15 S14 => jk S14 a0 = 11 ∧ jFi E mX11_drawn d 0 0 [.ref a0] S14 (fun r18 S17 => jk S17 a0 = 11 ∧ jFi E mX11_drawn d 0 0 [.ref a0] S17 (fun r21 S20 => jk S20 a0 = 11 ∧ jFv E mX11_comes d 0 0 [.ref a0, .int (jrem r12 6), .int (jrem r15 6), .int (jrem r18 10), .int (jrem r21 40)] S20 (fun S23 => L_X11_deal_17 E d Q a0 x1 (x2 + 1) S23)))))))))) : L_X11_deal_17 E d Q a0 x1 x2 S := by
  show jX E mX11_deal (jRm (d + 1) 0 0) (jZm E (fun r S' => ∃ v : Int32, r = some (.int v) ∧ Q v S') 0 0) 17 [(0, .ref a0), (1, .int x1), (2, .int x2)] [] S 0 0
  refine jx_iload_n 2 dX11_deal_17 rfl rfl ?_
  refine jx_iload_n 1 dX11_deal_18 rfl rfl ?_
  refine jx_icmp_ge (tgt := 81) dX11_deal_19 (by decide) (fun c5 => ?_) (fun c5 => ?_)
  · replace h := h.1 c5
    refine jx_iload_n 2 dX11_deal_81 rfl rfl ?_
    exact jx_iret dX11_deal_82 rfl rfl (jle rfl) (jle rfl) ⟨_, rfl, h⟩
  replace h := h.2 c5
  refine jx_aload_n 0 dX11_deal_22 rfl rfl ?_
  obtain ⟨hk6, h⟩ := h
  obtain ⟨b7, hb7, h⟩ := h
  refine jx_getr jc_11 (j := 0) (by decide) rfl jwF_X11_7 dX11_deal_23 hk6 hb7 ?_
  refine jx_iconst (v := 0) dX11_deal_26 (by decide) ?_
  obtain ⟨hk8, h⟩ := h
  obtain ⟨hi9, h⟩ := h
  refine jx_iald dX11_deal_27 hk8 hi9 ?_
  refine jx_bipush (v := 9) dX11_deal_28 (by decide) ?_
  refine jx_icmp_ge (tgt := 81) dX11_deal_30 (by decide) (fun c10 => ?_) (fun c10 => ?_)
  · replace h := h.1 c10
    refine jx_iload_n 2 dX11_deal_81 rfl rfl ?_
    exact jx_iret dX11_deal_82 rfl rfl (jle rfl) (jle rfl) ⟨_, rfl, h⟩
  replace h := h.2 c10
  refine jx_aload_n 0 dX11_deal_33 rfl rfl ?_
  refine jx_callVi (M' := mX11_drawn) (As := []) jo_X11_drawn jc_11 rfl jwM_X11_140 jwN_X11_drawn jwX_X11_drawn dX11_deal_34 (jRok_m _ _ _) rfl (jle rfl) ⟨jle rfl, jle rfl⟩ hk6 h (fun r12 S11 h => ?_)
  refine jx_bipush (v := 6) dX11_deal_37 (by decide) ?_
  refine jx_irem dX11_deal_39 (by decide) ?_
  refine jx_istore_n (lv1 := [(3, .int (jrem r12 6)), (0, .ref a0), (1, .int x1), (2, .int x2)]) dX11_deal_40 rfl (by decide) rfl ?_
  refine jx_aload_n 1 dX11_deal_41 rfl rfl ?_
  obtain ⟨hk13, h⟩ := h
  refine jx_callVi (M' := mX11_drawn) (As := []) jo_X11_drawn jc_11 rfl jwM_X11_140 jwN_X11_drawn jwX_X11_drawn dX11_deal_42 (jRok_m _ _ _) rfl (jle rfl) ⟨jle rfl, jle rfl⟩ hk13 h (fun r15 S14 h => ?_)
  refine jx_bipush (v := 6) dX11_deal_45 (by decide) ?_
  refine jx_irem dX11_deal_47 (by decide) ?_
  refine jx_istore (lv1 := [(4, .int (jrem r15 6)), (3, .int (jrem r12 6)), (0, .ref a0), (1, .int x1), (2, .int x2)]) dX11_deal_48 (by decide) rfl ?_
  refine jx_aload_n 2 dX11_deal_50 rfl rfl ?_
  obtain ⟨hk16, h⟩ := h
  refine jx_callVi (M' := mX11_drawn) (As := []) jo_X11_drawn jc_11 rfl jwM_X11_140 jwN_X11_drawn jwX_X11_drawn dX11_deal_51 (jRok_m _ _ _) rfl (jle rfl) ⟨jle rfl, jle rfl⟩ hk16 h (fun r18 S17 h => ?_)
  refine jx_bipush (v := 10) dX11_deal_54 (by decide) ?_
  refine jx_irem dX11_deal_56 (by decide) ?_
  refine jx_istore (lv1 := [(5, .int (jrem r18 10)), (4, .int (jrem r15 6)), (3, .int (jrem r12 6)), (0, .ref a0), (1, .int x1), (2, .int x2)]) dX11_deal_57 (by decide) rfl ?_
  refine jx_aload_n 3 dX11_deal_59 rfl rfl ?_
  refine jx_iload_n 2 dX11_deal_60 rfl rfl ?_
  refine jx_iload 1 dX11_deal_61 rfl ?_
  refine jx_iload 0 dX11_deal_63 rfl ?_
  refine jx_aload_n 3 dX11_deal_65 rfl rfl ?_
  obtain ⟨hk19, h⟩ := h
  refine jx_callVi (M' := mX11_drawn) (As := []) jo_X11_drawn jc_11 rfl jwM_X11_140 jwN_X11_drawn jwX_X11_drawn dX11_deal_66 (jRok_m _ _ _) rfl (jle rfl) ⟨jle rfl, jle rfl⟩ hk19 h (fun r21 S20 h => ?_)
  refine jx_bipush (v := 40) dX11_deal_69 (by decide) ?_
  refine jx_irem dX11_deal_71 (by decide) ?_
  obtain ⟨hk22, h⟩ := h
  refine jx_callVv (M' := mX11_comes) (As := [.int (jrem r12 6), .int (jrem r15 6), .int (jrem r18 10), .int (jrem r21 40)]) jo_X11_comes jc_11 rfl jwM_X11_89 jwN_X11_comes jwX_X11_comes dX11_deal_72 (jRok_m _ _ _) rfl (jle rfl) ⟨jle rfl, jle rfl⟩ hk22 h (fun S23 h => ?_)
  refine jx_iinc 5 (v := (x2 + 1)) (lv1 := [(2, .int (x2 + 1)), (5, .int (jrem r18 10)), (4, .int (jrem r15 6)), (3, .int (jrem r12 6)), (0, .ref a0), (1, .int x1)]) kd67.1 rfl rfl (by decide) rfl ?_
  refine jx_goto (tgt := 17) kd67.2 (by decide) ?_
  exact jx_lv [4, 5, 0] rfl h
set_option maxRecDepth 100000 in
set_option maxHeartbeats 4000000 in
theorem T_X11_seed {E : jEnv} {d : Nat} {Q : Int32 → jM → Prop} {a0 : Nat} {x1 : Int32} {S : jM} (h : jk S a0 = 11 ∧ jFi E mX11_becomes d 0 0 [.ref a0, .int 8, .int x1] S (fun r3 S2 => Q r3 S2)) : jFi E mX11_seed (d + 1) 0 0 [.ref a0, .int x1] S Q := by
  refine jF_of (by decide) (jle rfl) ?_
  refine jx_lv (lv1 := [(0, .ref a0), (1, .int x1)]) [0, 1] rfl ?_
  refine jx_aload_n 0 dX11_seed_0 rfl rfl ?_
  refine jx_bipush (v := 8) dX11_seed_1 (by decide) ?_
  refine jx_iload_n 1 dX11_seed_3 rfl rfl ?_
  obtain ⟨hk1, h⟩ := h
  refine jx_callVi (M' := mX11_becomes) (As := [.int 8, .int x1]) jo_X11_becomes jc_11 rfl jwM_X11_130 jwN_X11_becomes jwX_X11_becomes dX11_seed_4 (jRok_m _ _ _) rfl (jle rfl) ⟨jle rfl, jle rfl⟩ hk1 h (fun r3 S2 h => ?_)
  exact jx_iret dX11_seed_7 rfl rfl (jle rfl) (jle rfl) ⟨_, rfl, h⟩
set_option maxRecDepth 100000 in
set_option maxHeartbeats 4000000 in
theorem T_X11_apprentice {E : jEnv} {d : Nat} {Q : Int32 → jM → Prop} {a0 : Nat} {x1 : Int32} {S : jM} (h : ((jisin (Int32.toInt64 x1) 0 3) = 0 → Q (-1000000001) S) ∧ (¬ (jisin (Int32.toInt64 x1) 0 3) = 0 → jk S a0 = 11 ∧ ∃ b6, jr S a0 0 = some b6 ∧ (jk S b6 = 12 ∧ vp_in (3 + x1) (jl S b6) ∧ (Q (ji S b6 (Int32.toNatClampNeg (3 + x1))) S)))) : jFi E mX11_apprentice (d + 1) 0 0 [.ref a0, .int x1] S Q := by
  refine jF_of (by decide) (jle rfl) ?_
  refine jx_lv (lv1 := [(0, .ref a0), (1, .int x1)]) [0, 1] rfl ?_
  refine jx_iload_n 1 dX11_apprentice_0 rfl rfl ?_
  refine jx_i2l dX11_apprentice_1 ?_
  refine jx_lconst (v := 0) dX11_apprentice_2 (by decide) ?_
  refine jx_ldc2 jwL_X11_144 dX11_apprentice_3 ?_
  refine jx_callSi (M' := mX11_isIn) (As := [.long (Int32.toInt64 x1), .long 0, .long 3]) jo_X11_isIn jwM_X11_71 jwS_X11_isIn dX11_apprentice_6 (jRok_m _ _ _) rfl (jle rfl) ⟨jle rfl, jle rfl⟩ (c_X11_isIn (Q := fun v S' => v = (jisin (Int32.toInt64 x1) 0 3) ∧ S = S') ⟨rfl, rfl⟩) (fun r1 S2 hq3 => ?_)
  obtain ⟨rfl, rfl⟩ := hq3
  refine jx_if_eq (tgt := 23) dX11_apprentice_9 (by decide) (fun c4 => ?_) (fun c4 => ?_)
  · replace h := h.1 c4
    refine jx_ldc jwC_X11_87 dX11_apprentice_23 ?_
    exact jx_iret dX11_apprentice_25 rfl rfl (jle rfl) (jle rfl) ⟨_, rfl, h⟩
  replace h := h.2 c4
  refine jx_aload_n 0 dX11_apprentice_12 rfl rfl ?_
  obtain ⟨hk5, h⟩ := h
  obtain ⟨b6, hb6, h⟩ := h
  refine jx_getr jc_11 (j := 0) (by decide) rfl jwF_X11_7 dX11_apprentice_13 hk5 hb6 ?_
  refine jx_iconst (v := 3) dX11_apprentice_16 (by decide) ?_
  refine jx_iload_n 1 dX11_apprentice_17 rfl rfl ?_
  refine jx_iadd dX11_apprentice_18 ?_
  obtain ⟨hk7, h⟩ := h
  obtain ⟨hi8, h⟩ := h
  refine jx_iald dX11_apprentice_19 hk7 hi8 ?_
  refine jx_goto (tgt := 25) dX11_apprentice_20 (by decide) ?_
  exact jx_iret dX11_apprentice_25 rfl rfl (jle rfl) (jle rfl) ⟨_, rfl, h⟩
set_option maxRecDepth 100000 in
set_option maxHeartbeats 4000000 in
theorem T_X11_has {E : jEnv} {d : Nat} {Q : Int32 → jM → Prop} {a0 : Nat} {x1 : Int32} {x2 : Int32} {S : jM} (h : ((jisin (Int32.toInt64 x1) 2 3) = 0 → Q (-1000000001) S) ∧ (¬ (jisin (Int32.toInt64 x1) 2 3) = 0 → (x1 = 2 → ((jisin (Int32.toInt64 x2) 0 9999) = 0 → Q (-1000000001) S) ∧ (¬ (jisin (Int32.toInt64 x2) 0 9999) = 0 → jk S a0 = 11 ∧ jFi E mX11_becomes d 0 0 [.ref a0, .int (3 + x1), .int x2] S (fun r19 S18 => Q r19 S18))) ∧ (¬ x1 = 2 → ((jisin (Int32.toInt64 x2) 0 99) = 0 → Q (-1000000001) S) ∧ (¬ (jisin (Int32.toInt64 x2) 0 99) = 0 → jk S a0 = 11 ∧ jFi E mX11_becomes d 0 0 [.ref a0, .int (3 + x1), .int x2] S (fun r12 S11 => Q r12 S11))))) : jFi E mX11_has (d + 1) 0 0 [.ref a0, .int x1, .int x2] S Q := by
  refine jF_of (by decide) (jle rfl) ?_
  refine jx_lv (lv1 := [(0, .ref a0), (1, .int x1), (2, .int x2)]) [0, 1, 2] rfl ?_
  refine jx_iload_n 1 dX11_has_0 rfl rfl ?_
  refine jx_i2l dX11_has_1 ?_
  refine jx_ldc2 jwL_X11_146 dX11_has_2 ?_
  refine jx_ldc2 jwL_X11_144 dX11_has_5 ?_
  refine jx_callSi (M' := mX11_isIn) (As := [.long (Int32.toInt64 x1), .long 2, .long 3]) jo_X11_isIn jwM_X11_71 jwS_X11_isIn dX11_has_8 (jRok_m _ _ _) rfl (jle rfl) ⟨jle rfl, jle rfl⟩ (c_X11_isIn (Q := fun v S' => v = (jisin (Int32.toInt64 x1) 2 3) ∧ S = S') ⟨rfl, rfl⟩) (fun r1 S2 hq3 => ?_)
  obtain ⟨rfl, rfl⟩ := hq3
  refine jx_if_eq (tgt := 48) dX11_has_11 (by decide) (fun c4 => ?_) (fun c4 => ?_)
  · replace h := h.1 c4
    refine jx_ldc jwC_X11_87 dX11_has_48 ?_
    exact jx_iret dX11_has_50 rfl rfl (jle rfl) (jle rfl) ⟨_, rfl, h⟩
  replace h := h.2 c4
  refine jx_iload_n 2 dX11_has_14 rfl rfl ?_
  refine jx_i2l dX11_has_15 ?_
  refine jx_lconst (v := 0) dX11_has_16 (by decide) ?_
  refine jx_iload_n 1 dX11_has_17 rfl rfl ?_
  refine jx_iconst (v := 2) dX11_has_18 (by decide) ?_
  refine jx_icmp_ne (tgt := 28) dX11_has_19 (by decide) (fun c5 => ?_) (fun c5 => ?_)
  · replace h := h.2 c5
    refine jx_ldc2 jwL_X11_85 dX11_has_28 ?_
    refine jx_callSi (M' := mX11_isIn) (As := [.long (Int32.toInt64 x2), .long 0, .long 99]) jo_X11_isIn jwM_X11_71 jwS_X11_isIn dX11_has_31 (jRok_m _ _ _) rfl (jle rfl) ⟨jle rfl, jle rfl⟩ (c_X11_isIn (Q := fun v S' => v = (jisin (Int32.toInt64 x2) 0 99) ∧ S = S') ⟨rfl, rfl⟩) (fun r6 S7 hq8 => ?_)
    obtain ⟨rfl, rfl⟩ := hq8
    refine jx_if_eq (tgt := 48) dX11_has_34 (by decide) (fun c9 => ?_) (fun c9 => ?_)
    · replace h := h.1 c9
      refine jx_ldc jwC_X11_87 dX11_has_48 ?_
      exact jx_iret dX11_has_50 rfl rfl (jle rfl) (jle rfl) ⟨_, rfl, h⟩
    replace h := h.2 c9
    refine jx_aload_n 0 dX11_has_37 rfl rfl ?_
    refine jx_iconst (v := 3) dX11_has_38 (by decide) ?_
    refine jx_iload_n 1 dX11_has_39 rfl rfl ?_
    refine jx_iadd dX11_has_40 ?_
    refine jx_iload_n 2 dX11_has_41 rfl rfl ?_
    obtain ⟨hk10, h⟩ := h
    refine jx_callVi (M' := mX11_becomes) (As := [.int (3 + x1), .int x2]) jo_X11_becomes jc_11 rfl jwM_X11_130 jwN_X11_becomes jwX_X11_becomes dX11_has_42 (jRok_m _ _ _) rfl (jle rfl) ⟨jle rfl, jle rfl⟩ hk10 h (fun r12 S11 h => ?_)
    refine jx_goto (tgt := 50) dX11_has_45 (by decide) ?_
    exact jx_iret dX11_has_50 rfl rfl (jle rfl) (jle rfl) ⟨_, rfl, h⟩
  replace h := h.1 c5
  refine jx_ldc2 jwL_X11_148 dX11_has_22 ?_
  refine jx_goto (tgt := 31) dX11_has_25 (by decide) ?_
  refine jx_callSi (M' := mX11_isIn) (As := [.long (Int32.toInt64 x2), .long 0, .long 9999]) jo_X11_isIn jwM_X11_71 jwS_X11_isIn dX11_has_31 (jRok_m _ _ _) rfl (jle rfl) ⟨jle rfl, jle rfl⟩ (c_X11_isIn (Q := fun v S' => v = (jisin (Int32.toInt64 x2) 0 9999) ∧ S = S') ⟨rfl, rfl⟩) (fun r13 S14 hq15 => ?_)
  obtain ⟨rfl, rfl⟩ := hq15
  refine jx_if_eq (tgt := 48) dX11_has_34 (by decide) (fun c16 => ?_) (fun c16 => ?_)
  · replace h := h.1 c16
    refine jx_ldc jwC_X11_87 dX11_has_48 ?_
    exact jx_iret dX11_has_50 rfl rfl (jle rfl) (jle rfl) ⟨_, rfl, h⟩
  replace h := h.2 c16
  refine jx_aload_n 0 dX11_has_37 rfl rfl ?_
  refine jx_iconst (v := 3) dX11_has_38 (by decide) ?_
  refine jx_iload_n 1 dX11_has_39 rfl rfl ?_
  refine jx_iadd dX11_has_40 ?_
  refine jx_iload_n 2 dX11_has_41 rfl rfl ?_
  obtain ⟨hk17, h⟩ := h
  refine jx_callVi (M' := mX11_becomes) (As := [.int (3 + x1), .int x2]) jo_X11_becomes jc_11 rfl jwM_X11_130 jwN_X11_becomes jwX_X11_becomes dX11_has_42 (jRok_m _ _ _) rfl (jle rfl) ⟨jle rfl, jle rfl⟩ hk17 h (fun r19 S18 h => ?_)
  refine jx_goto (tgt := 50) dX11_has_45 (by decide) ?_
  exact jx_iret dX11_has_50 rfl rfl (jle rfl) (jle rfl) ⟨_, rfl, h⟩
set_option maxRecDepth 100000 in
set_option maxHeartbeats 4000000 in
theorem T_X11_doesKnow {E : jEnv} {d : Nat} {Q : Int32 → jM → Prop} {a0 : Nat} {x1 : Int32} {S : jM} (h : jk S a0 = 11 ∧ ∃ b2, jr S a0 0 = some b2 ∧ (jk S b2 = 12 ∧ vp_in 4 (jl S b2) ∧ ((((jshr (ji S b2 (Int32.toNatClampNeg 4)) x1) &&& 1) = 1 → Q 1 S) ∧ (¬ ((jshr (ji S b2 (Int32.toNatClampNeg 4)) x1) &&& 1) = 1 → Q 0 S)))) : jFi E mX11_doesKnow d 0 0 [.ref a0, .int x1] S Q := by
  refine jF_of (by decide) (jle rfl) ?_
  refine jx_lv (lv1 := [(0, .ref a0), (1, .int x1)]) [0, 1] rfl ?_
  refine jx_aload_n 0 dX11_doesKnow_0 rfl rfl ?_
  obtain ⟨hk1, h⟩ := h
  obtain ⟨b2, hb2, h⟩ := h
  refine jx_getr jc_11 (j := 0) (by decide) rfl jwF_X11_7 dX11_doesKnow_1 hk1 hb2 ?_
  refine jx_iconst (v := 4) dX11_doesKnow_4 (by decide) ?_
  obtain ⟨hk3, h⟩ := h
  obtain ⟨hi4, h⟩ := h
  refine jx_iald dX11_doesKnow_5 hk3 hi4 ?_
  refine jx_iload_n 1 dX11_doesKnow_6 rfl rfl ?_
  refine jx_ishr dX11_doesKnow_7 ?_
  refine jx_iconst (v := 1) dX11_doesKnow_8 (by decide) ?_
  refine jx_iand dX11_doesKnow_9 ?_
  refine jx_iconst (v := 1) dX11_doesKnow_10 (by decide) ?_
  refine jx_icmp_ne (tgt := 18) dX11_doesKnow_11 (by decide) (fun c5 => ?_) (fun c5 => ?_)
  · replace h := h.2 c5
    refine jx_iconst (v := 0) dX11_doesKnow_18 (by decide) ?_
    exact jx_iret dX11_doesKnow_19 rfl (by decide) (jle rfl) (jle rfl) ⟨_, rfl, h⟩
  replace h := h.1 c5
  refine jx_iconst (v := 1) dX11_doesKnow_14 (by decide) ?_
  refine jx_goto (tgt := 19) dX11_doesKnow_15 (by decide) ?_
  exact jx_iret dX11_doesKnow_19 rfl (by decide) (jle rfl) (jle rfl) ⟨_, rfl, h⟩
set_option maxRecDepth 100000 in
set_option maxHeartbeats 4000000 in
theorem T_X11_knows {E : jEnv} {d : Nat} {Q : Int32 → jM → Prop} {a0 : Nat} {x1 : Int32} {x2 : Int32} {S : jM} (h : ((jisg x1) = 0 → Q (-1000000001) S) ∧ (¬ (jisg x1) = 0 → ((jisin (Int32.toInt64 x2) 0 1) = 0 → Q (-1000000001) S) ∧ (¬ (jisin (Int32.toInt64 x2) 0 1) = 0 → jk S a0 = 11 ∧ jFi E mX11_doesKnow d 0 0 [.ref a0, .int x1] S (fun r11 S10 => (r11 = 0 → Q (-1000000002) S10) ∧ (¬ r11 = 0 → jk S10 a0 = 11 ∧ ∃ b14, jr S10 a0 0 = some b14 ∧ ((x2 = 0 → jk S10 b14 = 12 ∧ vp_in (16 + x1) (jl S10 b14) ∧ (Q (ji S10 b14 (Int32.toNatClampNeg (16 + x1))) S10)) ∧ (¬ x2 = 0 → jk S10 b14 = 12 ∧ vp_in (26 + x1) (jl S10 b14) ∧ (Q (ji S10 b14 (Int32.toNatClampNeg (26 + x1))) S10)))))))) : jFi E mX11_knows (d + 1) 0 0 [.ref a0, .int x1, .int x2] S Q := by
  refine jF_of (by decide) (jle rfl) ?_
  refine jx_lv (lv1 := [(0, .ref a0), (1, .int x1), (2, .int x2)]) [0, 1, 2] rfl ?_
  refine jx_iload_n 1 dX11_knows_0 rfl rfl ?_
  refine jx_callSi (M' := mX11_isGesture) (As := [.int x1]) jo_X11_isGesture jwM_X11_82 jwS_X11_isGesture dX11_knows_1 (jRok_m _ _ _) rfl (jle rfl) ⟨jle rfl, jle rfl⟩ (c_X11_isGesture (Q := fun v S' => v = (jisg x1) ∧ S = S') ⟨rfl, rfl⟩) (fun r1 S2 hq3 => ?_)
  obtain ⟨rfl, rfl⟩ := hq3
  refine jx_if_eq (tgt := 17) dX11_knows_4 (by decide) (fun c4 => ?_) (fun c4 => ?_)
  · replace h := h.1 c4
    refine jx_ldc jwC_X11_87 dX11_knows_17 ?_
    exact jx_iret dX11_knows_19 rfl rfl (jle rfl) (jle rfl) ⟨_, rfl, h⟩
  replace h := h.2 c4
  refine jx_iload_n 2 dX11_knows_7 rfl rfl ?_
  refine jx_i2l dX11_knows_8 ?_
  refine jx_lconst (v := 0) dX11_knows_9 (by decide) ?_
  refine jx_lconst (v := 1) dX11_knows_10 (by decide) ?_
  refine jx_callSi (M' := mX11_isIn) (As := [.long (Int32.toInt64 x2), .long 0, .long 1]) jo_X11_isIn jwM_X11_71 jwS_X11_isIn dX11_knows_11 (jRok_m _ _ _) rfl (jle rfl) ⟨jle rfl, jle rfl⟩ (c_X11_isIn (Q := fun v S' => v = (jisin (Int32.toInt64 x2) 0 1) ∧ S = S') ⟨rfl, rfl⟩) (fun r5 S6 hq7 => ?_)
  obtain ⟨rfl, rfl⟩ := hq7
  refine jx_if_ne (tgt := 20) dX11_knows_14 (by decide) (fun c8 => ?_) (fun c8 => ?_)
  · replace h := h.2 c8
    refine jx_aload_n 0 dX11_knows_20 rfl rfl ?_
    refine jx_iload_n 1 dX11_knows_21 rfl rfl ?_
    obtain ⟨hk9, h⟩ := h
    refine jx_callVi (M' := mX11_doesKnow) (As := [.int x1]) jo_X11_doesKnow jc_11 rfl jwM_X11_150 jwN_X11_doesKnow jwX_X11_doesKnow dX11_knows_22 (jRok_m _ _ _) rfl (jle rfl) ⟨jle rfl, jle rfl⟩ hk9 h (fun r11 S10 h => ?_)
    refine jx_if_ne (tgt := 33) dX11_knows_25 (by decide) (fun c12 => ?_) (fun c12 => ?_)
    · replace h := h.2 c12
      refine jx_aload_n 0 dX11_knows_33 rfl rfl ?_
      obtain ⟨hk13, h⟩ := h
      obtain ⟨b14, hb14, h⟩ := h
      refine jx_getr jc_11 (j := 0) (by decide) rfl jwF_X11_7 dX11_knows_34 hk13 hb14 ?_
      refine jx_iload_n 2 dX11_knows_37 rfl rfl ?_
      refine jx_if_ne (tgt := 46) dX11_knows_38 (by decide) (fun c15 => ?_) (fun c15 => ?_)
      · replace h := h.2 c15
        refine jx_bipush (v := 26) dX11_knows_46 (by decide) ?_
        refine jx_iload_n 1 dX11_knows_48 rfl rfl ?_
        refine jx_iadd dX11_knows_49 ?_
        obtain ⟨hk16, h⟩ := h
        obtain ⟨hi17, h⟩ := h
        refine jx_iald dX11_knows_50 hk16 hi17 ?_
        exact jx_iret dX11_knows_51 rfl rfl (jle rfl) (jle rfl) ⟨_, rfl, h⟩
      replace h := h.1 c15
      refine jx_bipush (v := 16) dX11_knows_41 (by decide) ?_
      refine jx_goto (tgt := 48) dX11_knows_43 (by decide) ?_
      refine jx_iload_n 1 dX11_knows_48 rfl rfl ?_
      refine jx_iadd dX11_knows_49 ?_
      obtain ⟨hk18, h⟩ := h
      obtain ⟨hi19, h⟩ := h
      refine jx_iald dX11_knows_50 hk18 hi19 ?_
      exact jx_iret dX11_knows_51 rfl rfl (jle rfl) (jle rfl) ⟨_, rfl, h⟩
    replace h := h.1 c12
    refine jx_ldc jwC_X11_153 dX11_knows_28 ?_
    refine jx_goto (tgt := 51) dX11_knows_30 (by decide) ?_
    exact jx_iret dX11_knows_51 rfl rfl (jle rfl) (jle rfl) ⟨_, rfl, h⟩
  replace h := h.1 c8
  refine jx_ldc jwC_X11_87 dX11_knows_17 ?_
  exact jx_iret dX11_knows_19 rfl rfl (jle rfl) (jle rfl) ⟨_, rfl, h⟩
/-- X11_goesBy at its loop's head 23 -/
abbrev L_X11_goesBy_23 (E : jEnv) (d : Nat) (Q : jM → Prop) (a0 : Nat) (x1 : Int32) (x2 : Int32) (S : jM) : Prop := jX E mX11_goesBy (jRm (d + 1) 0 0) (jZm E (fun r S' => r = none ∧ Q S') 0 0) 23 [(0, .ref a0), (1, .int x1), (2, .int x2)] [] S 0 0
set_option maxRecDepth 100000 in
set_option maxHeartbeats 4000000 in
theorem T_X11_goesBy {E : jEnv} {d : Nat} {Q : jM → Prop} {a0 : Nat} {x1 : Int32} {S : jM} (h : jk S a0 = 11 ∧ ∃ b2, jr S a0 0 = some b2 ∧ (jk S b2 = 12 ∧ vp_in 2 (jl S b2) ∧ ((L_X11_goesBy_23 E d Q a0 x1 0 (jput S b2 (Int32.toNatClampNeg 2) (jclamp ((ji S b2 (Int32.toNatClampNeg 2)) + x1) 0 9999)))))) : jFv E mX11_goesBy (d + 1) 0 0 [.ref a0, .int x1] S Q := by
  refine jF_of (by decide) (jle rfl) ?_
  refine jx_lv (lv1 := [(0, .ref a0), (1, .int x1)]) [0, 1] rfl ?_
  refine jx_aload_n 0 dX11_goesBy_0 rfl rfl ?_
  obtain ⟨hk1, h⟩ := h
  obtain ⟨b2, hb2, h⟩ := h
  refine jx_getr jc_11 (j := 0) (by decide) rfl jwF_X11_7 dX11_goesBy_1 hk1 hb2 ?_
  refine jx_iconst (v := 2) dX11_goesBy_4 (by decide) ?_
  refine jx_aload_n 0 dX11_goesBy_5 rfl rfl ?_
  refine jx_getr jc_11 (j := 0) (by decide) rfl jwF_X11_7 dX11_goesBy_6 hk1 hb2 ?_
  refine jx_iconst (v := 2) dX11_goesBy_9 (by decide) ?_
  obtain ⟨hk3, h⟩ := h
  obtain ⟨hi4, h⟩ := h
  refine jx_iald dX11_goesBy_10 hk3 hi4 ?_
  refine jx_iload_n 1 dX11_goesBy_11 rfl rfl ?_
  refine jx_iadd dX11_goesBy_12 ?_
  refine jx_iconst (v := 0) dX11_goesBy_13 (by decide) ?_
  refine jx_sipush (v := 9999) dX11_goesBy_14 (by decide) ?_
  refine jx_callSi (M' := mX11_within) (As := [.int ((ji S b2 (Int32.toNatClampNeg 2)) + x1), .int 0, .int 9999]) jo_X11_within jwM_X11_104 jwS_X11_within dX11_goesBy_17 (jRok_m _ _ _) rfl (jle rfl) ⟨jle rfl, jle rfl⟩ (c_X11_within (Q := fun v S' => v = (jclamp ((ji S b2 (Int32.toNatClampNeg 2)) + x1) 0 9999) ∧ S = S') ⟨rfl, rfl⟩) (fun r5 S6 hq7 => ?_)
  obtain ⟨rfl, rfl⟩ := hq7
  refine jx_iast dX11_goesBy_20 hk3 hi4 ?_
  refine jx_iconst (v := 0) dX11_goesBy_21 (by decide) ?_
  refine jx_istore_n (lv1 := [(2, .int 0), (0, .ref a0), (1, .int x1)]) dX11_goesBy_22 rfl (by decide) rfl ?_
  exact jx_lv [1, 2, 0] rfl h
set_option maxRecDepth 100000 in
set_option maxHeartbeats 4000000 in
theorem T_X11_goesBy_23 {E : jEnv} {d : Nat} {Q : jM → Prop} {a0 : Nat} {x1 : Int32} {x2 : Int32} {S : jM} (h : (10 ≤ x2 → Q S) ∧ (¬ 10 ≤ x2 → jk S a0 = 11 ∧ jFi E mX11_doesKnow d 0 0 [.ref a0, .int x2] S (fun r11 S10 => (r11 = 0 → L_X11_goesBy_23 E d Q a0 x1 (x2 + 1) S10) ∧ (¬ r11 = 0 → jk S10 a0 = 11 ∧ ∃ b14, jr S10 a0 0 = some b14 ∧ (jk S10 b14 = 12 ∧ vp_in (26 + x2) (jl S10 b14) ∧ ((vp_in 4 (jl S10 b14) ∧ (vp_in 6 (jl S10 b14) ∧ (((ji (jput S10 b14 (Int32.toNatClampNeg (26 + x2)) ((ji S10 b14 (Int32.toNatClampNeg (26 + x2))) + x1)) b14 (Int32.toNatClampNeg 6)) ≤ 0 → (L_X11_goesBy_23 E d Q a0 x1 (x2 + 1) (jput (jput S10 b14 (Int32.toNatClampNeg (26 + x2)) ((ji S10 b14 (Int32.toNatClampNeg (26 + x2))) + x1)) b14 (Int32.toNatClampNeg 4) ((ji (jput S10 b14 (Int32.toNatClampNeg (26 + x2)) ((ji S10 b14 (Int32.toNatClampNeg (26 + x2))) + x1)) b14 (Int32.toNatClampNeg 4)) &&& (-1))))) ∧ (¬ (ji (jput S10 b14 (Int32.toNatClampNeg (26 + x2)) ((ji S10 b14 (Int32.toNatClampNeg (26 + x2))) + x1)) b14 (Int32.toNatClampNeg 6)) ≤ 0 → (((((ji S10 b14 (Int32.toNatClampNeg (26 + x2))) + x1) ≤ (ji (jput S10 b14 (Int32.toNatClampNeg (26 + x2)) ((ji S10 b14 (Int32.toNatClampNeg (26 + x2))) + x1)) b14 (Int32.toNatClampNeg 6)) → (L_X11_goesBy_23 E d Q a0 x1 (x2 + 1) (jput (jput S10 b14 (Int32.toNatClampNeg (26 + x2)) ((ji S10 b14 (Int32.toNatClampNeg (26 + x2))) + x1)) b14 (Int32.toNatClampNeg 4) ((ji (jput S10 b14 (Int32.toNatClampNeg (26 + x2)) ((ji S10 b14 (Int32.toNatClampNeg (26 + x2))) + x1)) b14 (Int32.toNatClampNeg 4)) &&& (-1))))) ∧ (¬ ((ji S10 b14 (Int32.toNatClampNeg (26 + x2))) + x1) ≤ (ji (jput S10 b14 (Int32.toNatClampNeg (26 + x2)) ((ji S10 b14 (Int32.toNatClampNeg (26 + x2))) + x1)) b14 (Int32.toNatClampNeg 6)) → (L_X11_goesBy_23 E d Q a0 x1 (x2 + 1) (jput (jput S10 b14 (Int32.toNatClampNeg (26 + x2)) ((ji S10 b14 (Int32.toNatClampNeg (26 + x2))) + x1)) b14 (Int32.toNatClampNeg 4) ((ji (jput S10 b14 (Int32.toNatClampNeg (26 + x2)) ((ji S10 b14 (Int32.toNatClampNeg (26 + x2))) + x1)) b14 (Int32.toNatClampNeg 4)) &&& ((jshl 1 x2) ^^^ (-1)))))))))))))))))) : L_X11_goesBy_23 E d Q a0 x1 x2 S := by
  show jX E mX11_goesBy (jRm (d + 1) 0 0) (jZm E (fun r S' => r = none ∧ Q S') 0 0) 23 [(0, .ref a0), (1, .int x1), (2, .int x2)] [] S 0 0
  refine jx_iload_n 2 dX11_goesBy_23 rfl rfl ?_
  refine jx_bipush (v := 10) dX11_goesBy_24 (by decide) ?_
  refine jx_icmp_ge (tgt := 103) dX11_goesBy_26 (by decide) (fun c8 => ?_) (fun c8 => ?_)
  · replace h := h.1 c8
    exact jx_vret dX11_goesBy_103 rfl (jle rfl) (jle rfl) ⟨rfl, h⟩
  replace h := h.2 c8
  refine jx_aload_n 0 dX11_goesBy_29 rfl rfl ?_
  refine jx_iload_n 2 dX11_goesBy_30 rfl rfl ?_
  obtain ⟨hk9, h⟩ := h
  refine jx_callVi (M' := mX11_doesKnow) (As := [.int x2]) jo_X11_doesKnow jc_11 rfl jwM_X11_150 jwN_X11_doesKnow jwX_X11_doesKnow dX11_goesBy_31 (jRok_m _ _ _) rfl (jle rfl) ⟨jle rfl, jle rfl⟩ hk9 h (fun r11 S10 h => ?_)
  refine jx_if_eq (tgt := 97) dX11_goesBy_34 (by decide) (fun c12 => ?_) (fun c12 => ?_)
  · replace h := h.1 c12
    refine jx_iinc 2 (v := (x2 + 1)) (lv1 := [(2, .int (x2 + 1)), (0, .ref a0), (1, .int x1)]) kd68.1 rfl rfl (by decide) rfl ?_
    refine jx_goto (tgt := 23) kd68.2 (by decide) ?_
    exact jx_lv [1, 2, 0] rfl h
  replace h := h.2 c12
  refine jx_aload_n 0 dX11_goesBy_37 rfl rfl ?_
  obtain ⟨hk13, h⟩ := h
  obtain ⟨b14, hb14, h⟩ := h
  refine jx_getr jc_11 (j := 0) (by decide) rfl jwF_X11_7 dX11_goesBy_38 hk13 hb14 ?_
  refine jx_bipush (v := 26) dX11_goesBy_41 (by decide) ?_
  refine jx_iload_n 2 dX11_goesBy_43 rfl rfl ?_
  refine jx_iadd dX11_goesBy_44 ?_
  refine jx_dup2 dX11_goesBy_45 rfl rfl ?_
  obtain ⟨hk15, h⟩ := h
  obtain ⟨hi16, h⟩ := h
  refine jx_iald dX11_goesBy_46 hk15 hi16 ?_
  refine jx_iload_n 1 dX11_goesBy_47 rfl rfl ?_
  refine jx_iadd dX11_goesBy_48 ?_
  refine jx_iast dX11_goesBy_49 hk15 hi16 ?_
  refine jx_aload_n 0 dX11_goesBy_50 rfl rfl ?_
  refine jx_getr jc_11 (j := 0) (by decide) rfl jwF_X11_7 dX11_goesBy_51 hk13 hb14 ?_
  refine jx_iconst (v := 4) dX11_goesBy_54 (by decide) ?_
  refine jx_dup2 dX11_goesBy_55 rfl rfl ?_
  obtain ⟨hi17, h⟩ := h
  refine jx_iald dX11_goesBy_56 hk15 hi17 ?_
  refine jx_aload_n 0 dX11_goesBy_57 rfl rfl ?_
  refine jx_getr jc_11 (j := 0) (by decide) rfl jwF_X11_7 dX11_goesBy_58 hk13 hb14 ?_
  refine jx_bipush (v := 6) dX11_goesBy_61 (by decide) ?_
  obtain ⟨hi18, h⟩ := h
  refine jx_iald dX11_goesBy_63 hk15 hi18 ?_
  refine jx_if_le (tgt := 94) dX11_goesBy_64 (by decide) (fun c19 => ?_) (fun c19 => ?_)
  · replace h := h.1 c19
    refine jx_iconst (v := (-1)) dX11_goesBy_94 (by decide) ?_
    refine jx_iand dX11_goesBy_95 ?_
    refine jx_iast dX11_goesBy_96 hk15 hi17 ?_
    refine jx_iinc 2 (v := (x2 + 1)) (lv1 := [(2, .int (x2 + 1)), (0, .ref a0), (1, .int x1)]) kd68.1 rfl rfl (by decide) rfl ?_
    refine jx_goto (tgt := 23) kd68.2 (by decide) ?_
    exact jx_lv [1, 2, 0] rfl h
  replace h := h.2 c19
  refine jx_aload_n 0 dX11_goesBy_67 rfl rfl ?_
  refine jx_getr jc_11 (j := 0) (by decide) rfl jwF_X11_7 dX11_goesBy_68 hk13 hb14 ?_
  refine jx_bipush (v := 26) dX11_goesBy_71 (by decide) ?_
  refine jx_iload_n 2 dX11_goesBy_73 rfl rfl ?_
  refine jx_iadd dX11_goesBy_74 ?_
  refine jx_iald dX11_goesBy_75 hk15 hi16 ?_
  refine jx_topi (y := ((ji S10 b14 (Int32.toNatClampNeg (26 + x2))) + x1)) (by simp [ji_put, ji_row, ji_putr]) ?_
  refine jx_aload_n 0 dX11_goesBy_76 rfl rfl ?_
  refine jx_getr jc_11 (j := 0) (by decide) rfl jwF_X11_7 dX11_goesBy_77 hk13 hb14 ?_
  refine jx_bipush (v := 6) dX11_goesBy_80 (by decide) ?_
  refine jx_iald dX11_goesBy_82 hk15 hi18 ?_
  refine jx_icmp_le (tgt := 94) dX11_goesBy_83 (by decide) (fun c20 => ?_) (fun c20 => ?_)
  · replace h := h.1 c20
    refine jx_iconst (v := (-1)) dX11_goesBy_94 (by decide) ?_
    refine jx_iand dX11_goesBy_95 ?_
    refine jx_iast dX11_goesBy_96 hk15 hi17 ?_
    refine jx_iinc 2 (v := (x2 + 1)) (lv1 := [(2, .int (x2 + 1)), (0, .ref a0), (1, .int x1)]) kd68.1 rfl rfl (by decide) rfl ?_
    refine jx_goto (tgt := 23) kd68.2 (by decide) ?_
    exact jx_lv [1, 2, 0] rfl h
  replace h := h.2 c20
  refine jx_iconst (v := 1) dX11_goesBy_86 (by decide) ?_
  refine jx_iload_n 2 dX11_goesBy_87 rfl rfl ?_
  refine jx_ishl dX11_goesBy_88 ?_
  refine jx_iconst (v := (-1)) dX11_goesBy_89 (by decide) ?_
  refine jx_ixor dX11_goesBy_90 ?_
  refine jx_goto (tgt := 95) dX11_goesBy_91 (by decide) ?_
  refine jx_iand dX11_goesBy_95 ?_
  refine jx_iast dX11_goesBy_96 hk15 hi17 ?_
  refine jx_iinc 2 (v := (x2 + 1)) (lv1 := [(2, .int (x2 + 1)), (0, .ref a0), (1, .int x1)]) kd68.1 rfl rfl (by decide) rfl ?_
  refine jx_goto (tgt := 23) kd68.2 (by decide) ?_
  exact jx_lv [1, 2, 0] rfl h
set_option maxRecDepth 100000 in
set_option maxHeartbeats 4000000 in
theorem T_X11_go {E : jEnv} {d : Nat} {Q : Int32 → jM → Prop} {a0 : Nat} {x1 : Int32} {S : jM} (h : ((jist x1) = 0 → Q (-1000000001) S) ∧ (¬ (jist x1) = 0 → jk S a0 = 11 ∧ ∃ b6, jr S a0 0 = some b6 ∧ (jk S b6 = 12 ∧ vp_in 3 (jl S b6) ∧ ((x1 = (ji S b6 (Int32.toNatClampNeg 3)) → Q (-1000000001) S) ∧ (¬ x1 = (ji S b6 (Int32.toNatClampNeg 3)) → (vp_in ((36 + (6 * (ji S b6 (Int32.toNatClampNeg 3)))) + x1) (jl S b6) ∧ (((ji S b6 (Int32.toNatClampNeg ((36 + (6 * (ji S b6 (Int32.toNatClampNeg 3)))) + x1))) = 0 → Q (-1000000002) S) ∧ (¬ (ji S b6 (Int32.toNatClampNeg ((36 + (6 * (ji S b6 (Int32.toNatClampNeg 3)))) + x1))) = 0 → jFv E mX11_goesBy d 0 0 [.ref a0, .int (ji S b6 (Int32.toNatClampNeg ((36 + (6 * (ji S b6 (Int32.toNatClampNeg 3)))) + x1)))] S (fun S12 => jk S12 a0 = 11 ∧ ∃ b14, jr S12 a0 0 = some b14 ∧ (jk S12 b14 = 12 ∧ vp_in 3 (jl S12 b14) ∧ (vp_in 2 (jl S12 b14) ∧ (Q (ji (jput S12 b14 (Int32.toNatClampNeg 3) x1) b14 (Int32.toNatClampNeg 2)) (jput S12 b14 (Int32.toNatClampNeg 3) x1))))))))))))) : jFi E mX11_go (d + 1) 0 0 [.ref a0, .int x1] S Q := by
  refine jF_of (by decide) (jle rfl) ?_
  refine jx_lv (lv1 := [(0, .ref a0), (1, .int x1)]) [0, 1] rfl ?_
  refine jx_iload_n 1 dX11_go_0 rfl rfl ?_
  refine jx_callSi (M' := mX11_isTown) (As := [.int x1]) jo_X11_isTown jwM_X11_78 jwS_X11_isTown dX11_go_1 (jRok_m _ _ _) rfl (jle rfl) ⟨jle rfl, jle rfl⟩ (c_X11_isTown (Q := fun v S' => v = (jist x1) ∧ S = S') ⟨rfl, rfl⟩) (fun r1 S2 hq3 => ?_)
  obtain ⟨rfl, rfl⟩ := hq3
  refine jx_if_eq (tgt := 17) dX11_go_4 (by decide) (fun c4 => ?_) (fun c4 => ?_)
  · replace h := h.1 c4
    refine jx_ldc jwC_X11_87 dX11_go_17 ?_
    exact jx_iret dX11_go_19 rfl rfl (jle rfl) (jle rfl) ⟨_, rfl, h⟩
  replace h := h.2 c4
  refine jx_iload_n 1 dX11_go_7 rfl rfl ?_
  refine jx_aload_n 0 dX11_go_8 rfl rfl ?_
  obtain ⟨hk5, h⟩ := h
  obtain ⟨b6, hb6, h⟩ := h
  refine jx_getr jc_11 (j := 0) (by decide) rfl jwF_X11_7 dX11_go_9 hk5 hb6 ?_
  refine jx_iconst (v := 3) dX11_go_12 (by decide) ?_
  obtain ⟨hk7, h⟩ := h
  obtain ⟨hi8, h⟩ := h
  refine jx_iald dX11_go_13 hk7 hi8 ?_
  refine jx_icmp_ne (tgt := 20) dX11_go_14 (by decide) (fun c9 => ?_) (fun c9 => ?_)
  · replace h := h.2 c9
    refine jx_aload_n 0 dX11_go_20 rfl rfl ?_
    refine jx_getr jc_11 (j := 0) (by decide) rfl jwF_X11_7 dX11_go_21 hk5 hb6 ?_
    refine jx_bipush (v := 36) dX11_go_24 (by decide) ?_
    refine jx_bipush (v := 6) dX11_go_26 (by decide) ?_
    refine jx_aload_n 0 dX11_go_28 rfl rfl ?_
    refine jx_getr jc_11 (j := 0) (by decide) rfl jwF_X11_7 dX11_go_29 hk5 hb6 ?_
    refine jx_iconst (v := 3) dX11_go_32 (by decide) ?_
    refine jx_iald dX11_go_33 hk7 hi8 ?_
    refine jx_imul dX11_go_34 ?_
    refine jx_iadd dX11_go_35 ?_
    refine jx_iload_n 1 dX11_go_36 rfl rfl ?_
    refine jx_iadd dX11_go_37 ?_
    obtain ⟨hi10, h⟩ := h
    refine jx_iald dX11_go_38 hk7 hi10 ?_
    refine jx_istore_n (lv1 := [(2, .int (ji S b6 (Int32.toNatClampNeg ((36 + (6 * (ji S b6 (Int32.toNatClampNeg 3)))) + x1)))), (0, .ref a0), (1, .int x1)]) dX11_go_39 rfl (by decide) rfl ?_
    refine jx_iload_n 0 dX11_go_40 rfl rfl ?_
    refine jx_if_ne (tgt := 47) dX11_go_41 (by decide) (fun c11 => ?_) (fun c11 => ?_)
    · replace h := h.2 c11
      refine jx_aload_n 1 dX11_go_47 rfl rfl ?_
      refine jx_iload_n 0 dX11_go_48 rfl rfl ?_
      refine jx_callVv (M' := mX11_goesBy) (As := [.int (ji S b6 (Int32.toNatClampNeg ((36 + (6 * (ji S b6 (Int32.toNatClampNeg 3)))) + x1)))]) jo_X11_goesBy jc_11 rfl jwM_X11_154 jwN_X11_goesBy jwX_X11_goesBy dX11_go_49 (jRok_m _ _ _) rfl (jle rfl) ⟨jle rfl, jle rfl⟩ hk5 h (fun S12 h => ?_)
      refine jx_aload_n 1 dX11_go_52 rfl rfl ?_
      obtain ⟨hk13, h⟩ := h
      obtain ⟨b14, hb14, h⟩ := h
      refine jx_getr jc_11 (j := 0) (by decide) rfl jwF_X11_7 dX11_go_53 hk13 hb14 ?_
      refine jx_iconst (v := 3) dX11_go_56 (by decide) ?_
      refine jx_iload_n 2 dX11_go_57 rfl rfl ?_
      obtain ⟨hk15, h⟩ := h
      obtain ⟨hi16, h⟩ := h
      refine jx_iast dX11_go_58 hk15 hi16 ?_
      refine jx_aload_n 1 dX11_go_59 rfl rfl ?_
      refine jx_getr jc_11 (j := 0) (by decide) rfl jwF_X11_7 dX11_go_60 hk13 hb14 ?_
      refine jx_iconst (v := 2) dX11_go_63 (by decide) ?_
      obtain ⟨hi17, h⟩ := h
      refine jx_iald dX11_go_64 hk15 hi17 ?_
      exact jx_iret dX11_go_65 rfl rfl (jle rfl) (jle rfl) ⟨_, rfl, h⟩
    replace h := h.1 c11
    refine jx_ldc jwC_X11_153 dX11_go_44 ?_
    exact jx_iret dX11_go_46 rfl rfl (jle rfl) (jle rfl) ⟨_, rfl, h⟩
  replace h := h.1 c9
  refine jx_ldc jwC_X11_87 dX11_go_17 ?_
  exact jx_iret dX11_go_19 rfl rfl (jle rfl) (jle rfl) ⟨_, rfl, h⟩
set_option maxRecDepth 100000 in
set_option maxHeartbeats 4000000 in
theorem T_X11_canLearn {E : jEnv} {d : Nat} {Q : Int32 → jM → Prop} {a0 : Nat} {x1 : Int32} {S : jM} (h : jk S a0 = 11 ∧ jFi E mX11_of d 0 0 [.ref a0, .int x1, .int 6] S (fun r3 S2 => (r3 = 0 → jk S2 a0 = 11 ∧ jFi E mX11_of d 0 0 [.ref a0, .int x1, .int 1] S2 (fun r7 S6 => jk S6 a0 = 11 ∧ ∃ b9, jr S6 a0 0 = some b9 ∧ (jk S6 b9 = 12 ∧ vp_in 3 (jl S6 b9) ∧ ((r7 = (ji S6 b9 (Int32.toNatClampNeg 3)) → vp_in 4 (jl S6 b9) ∧ (jFi E mX11_teaches d 0 0 [.ref a0, .int x1, .int (ji S6 b9 (Int32.toNatClampNeg 4))] S6 (fun r15 S14 => (r15 = 0 → Q 0 S14) ∧ (¬ r15 = 0 → jk S14 a0 = 11 ∧ jFi E mX11_of d 0 0 [.ref a0, .int x1, .int 2] S14 (fun r19 S18 => jk S18 a0 = 11 ∧ jFi E mX11_doesKnow d 0 0 [.ref a0, .int r19] S18 (fun r22 S21 => (r22 = 0 → jk S21 a0 = 11 ∧ jFi E mX11_of d 0 0 [.ref a0, .int x1, .int 4] S21 (fun r26 S25 => jk S25 a0 = 11 ∧ ∃ b28, jr S25 a0 0 = some b28 ∧ (jk S25 b28 = 12 ∧ vp_in 5 (jl S25 b28) ∧ (((ji S25 b28 (Int32.toNatClampNeg 5)) < r26 → Q 0 S25) ∧ (¬ (ji S25 b28 (Int32.toNatClampNeg 5)) < r26 → Q 1 S25))))) ∧ (¬ r22 = 0 → Q 0 S21))))))) ∧ (¬ r7 = (ji S6 b9 (Int32.toNatClampNeg 3)) → Q 0 S6))))) ∧ (¬ r3 = 0 → Q 0 S2))) : jFi E mX11_canLearn (d + 1) 0 0 [.ref a0, .int x1] S Q := by
  refine jF_of (by decide) (jle rfl) ?_
  refine jx_lv (lv1 := [(0, .ref a0), (1, .int x1)]) [0, 1] rfl ?_
  refine jx_aload_n 0 dX11_canLearn_0 rfl rfl ?_
  refine jx_iload_n 1 dX11_canLearn_1 rfl rfl ?_
  refine jx_bipush (v := 6) dX11_canLearn_2 (by decide) ?_
  obtain ⟨hk1, h⟩ := h
  refine jx_callVi (M' := mX11_of) (As := [.int x1, .int 6]) jo_X11_of jc_11 rfl jwM_X11_97 jwN_X11_of jwX_X11_of dX11_canLearn_4 (jRok_m _ _ _) rfl (jle rfl) ⟨jle rfl, jle rfl⟩ hk1 h (fun r3 S2 h => ?_)
  refine jx_if_ne (tgt := 71) dX11_canLearn_7 (by decide) (fun c4 => ?_) (fun c4 => ?_)
  · replace h := h.2 c4
    refine jx_iconst (v := 0) dX11_canLearn_71 (by decide) ?_
    exact jx_iret dX11_canLearn_72 rfl (by decide) (jle rfl) (jle rfl) ⟨_, rfl, h⟩
  replace h := h.1 c4
  refine jx_aload_n 0 dX11_canLearn_10 rfl rfl ?_
  refine jx_iload_n 1 dX11_canLearn_11 rfl rfl ?_
  refine jx_iconst (v := 1) dX11_canLearn_12 (by decide) ?_
  obtain ⟨hk5, h⟩ := h
  refine jx_callVi (M' := mX11_of) (As := [.int x1, .int 1]) jo_X11_of jc_11 rfl jwM_X11_97 jwN_X11_of jwX_X11_of dX11_canLearn_13 (jRok_m _ _ _) rfl (jle rfl) ⟨jle rfl, jle rfl⟩ hk5 h (fun r7 S6 h => ?_)
  refine jx_aload_n 0 dX11_canLearn_16 rfl rfl ?_
  obtain ⟨hk8, h⟩ := h
  obtain ⟨b9, hb9, h⟩ := h
  refine jx_getr jc_11 (j := 0) (by decide) rfl jwF_X11_7 dX11_canLearn_17 hk8 hb9 ?_
  refine jx_iconst (v := 3) dX11_canLearn_20 (by decide) ?_
  obtain ⟨hk10, h⟩ := h
  obtain ⟨hi11, h⟩ := h
  refine jx_iald dX11_canLearn_21 hk10 hi11 ?_
  refine jx_icmp_ne (tgt := 71) dX11_canLearn_22 (by decide) (fun c12 => ?_) (fun c12 => ?_)
  · replace h := h.2 c12
    refine jx_iconst (v := 0) dX11_canLearn_71 (by decide) ?_
    exact jx_iret dX11_canLearn_72 rfl (by decide) (jle rfl) (jle rfl) ⟨_, rfl, h⟩
  replace h := h.1 c12
  refine jx_aload_n 0 dX11_canLearn_25 rfl rfl ?_
  refine jx_iload_n 1 dX11_canLearn_26 rfl rfl ?_
  refine jx_aload_n 0 dX11_canLearn_27 rfl rfl ?_
  refine jx_getr jc_11 (j := 0) (by decide) rfl jwF_X11_7 dX11_canLearn_28 hk8 hb9 ?_
  refine jx_iconst (v := 4) dX11_canLearn_31 (by decide) ?_
  obtain ⟨hi13, h⟩ := h
  refine jx_iald dX11_canLearn_32 hk10 hi13 ?_
  refine jx_callVi (M' := mX11_teaches) (As := [.int x1, .int (ji S6 b9 (Int32.toNatClampNeg 4))]) jo_X11_teaches jc_11 rfl jwM_X11_122 jwN_X11_teaches jwX_X11_teaches dX11_canLearn_33 (jRok_m _ _ _) rfl (jle rfl) ⟨jle rfl, jle rfl⟩ hk8 h (fun r15 S14 h => ?_)
  refine jx_if_eq (tgt := 71) dX11_canLearn_36 (by decide) (fun c16 => ?_) (fun c16 => ?_)
  · replace h := h.1 c16
    refine jx_iconst (v := 0) dX11_canLearn_71 (by decide) ?_
    exact jx_iret dX11_canLearn_72 rfl (by decide) (jle rfl) (jle rfl) ⟨_, rfl, h⟩
  replace h := h.2 c16
  refine jx_aload_n 0 dX11_canLearn_39 rfl rfl ?_
  refine jx_aload_n 0 dX11_canLearn_40 rfl rfl ?_
  refine jx_iload_n 1 dX11_canLearn_41 rfl rfl ?_
  refine jx_iconst (v := 2) dX11_canLearn_42 (by decide) ?_
  obtain ⟨hk17, h⟩ := h
  refine jx_callVi (M' := mX11_of) (As := [.int x1, .int 2]) jo_X11_of jc_11 rfl jwM_X11_97 jwN_X11_of jwX_X11_of dX11_canLearn_43 (jRok_m _ _ _) rfl (jle rfl) ⟨jle rfl, jle rfl⟩ hk17 h (fun r19 S18 h => ?_)
  obtain ⟨hk20, h⟩ := h
  refine jx_callVi (M' := mX11_doesKnow) (As := [.int r19]) jo_X11_doesKnow jc_11 rfl jwM_X11_150 jwN_X11_doesKnow jwX_X11_doesKnow dX11_canLearn_46 (jRok_m _ _ _) rfl (jle rfl) ⟨jle rfl, jle rfl⟩ hk20 h (fun r22 S21 h => ?_)
  refine jx_if_ne (tgt := 71) dX11_canLearn_49 (by decide) (fun c23 => ?_) (fun c23 => ?_)
  · replace h := h.2 c23
    refine jx_iconst (v := 0) dX11_canLearn_71 (by decide) ?_
    exact jx_iret dX11_canLearn_72 rfl (by decide) (jle rfl) (jle rfl) ⟨_, rfl, h⟩
  replace h := h.1 c23
  refine jx_aload_n 0 dX11_canLearn_52 rfl rfl ?_
  refine jx_iload_n 1 dX11_canLearn_53 rfl rfl ?_
  refine jx_iconst (v := 4) dX11_canLearn_54 (by decide) ?_
  obtain ⟨hk24, h⟩ := h
  refine jx_callVi (M' := mX11_of) (As := [.int x1, .int 4]) jo_X11_of jc_11 rfl jwM_X11_97 jwN_X11_of jwX_X11_of dX11_canLearn_55 (jRok_m _ _ _) rfl (jle rfl) ⟨jle rfl, jle rfl⟩ hk24 h (fun r26 S25 h => ?_)
  refine jx_aload_n 0 dX11_canLearn_58 rfl rfl ?_
  obtain ⟨hk27, h⟩ := h
  obtain ⟨b28, hb28, h⟩ := h
  refine jx_getr jc_11 (j := 0) (by decide) rfl jwF_X11_7 dX11_canLearn_59 hk27 hb28 ?_
  refine jx_iconst (v := 5) dX11_canLearn_62 (by decide) ?_
  obtain ⟨hk29, h⟩ := h
  obtain ⟨hi30, h⟩ := h
  refine jx_iald dX11_canLearn_63 hk29 hi30 ?_
  refine jx_icmp_gt (tgt := 71) dX11_canLearn_64 (by decide) (fun c31 => ?_) (fun c31 => ?_)
  · replace h := h.1 c31
    refine jx_iconst (v := 0) dX11_canLearn_71 (by decide) ?_
    exact jx_iret dX11_canLearn_72 rfl (by decide) (jle rfl) (jle rfl) ⟨_, rfl, h⟩
  replace h := h.2 c31
  refine jx_iconst (v := 1) dX11_canLearn_67 (by decide) ?_
  refine jx_goto (tgt := 72) dX11_canLearn_68 (by decide) ?_
  exact jx_iret dX11_canLearn_72 rfl (by decide) (jle rfl) (jle rfl) ⟨_, rfl, h⟩
set_option maxRecDepth 100000 in
set_option maxHeartbeats 4000000 in
theorem T_X11_learns {E : jEnv} {d : Nat} {Q : Int32 → jM → Prop} {a0 : Nat} {x1 : Int32} {S : jM} (h : jk S a0 = 11 ∧ ∃ b2, jr S a0 0 = some b2 ∧ (jk S b2 = 12 ∧ vp_in 5 (jl S b2) ∧ (jFi E mX11_of d 0 0 [.ref a0, .int x1, .int 4] S (fun r6 S5 => jk S5 b2 = 12 ∧ vp_in 5 (jl S5 b2) ∧ (jk S5 a0 = 11 ∧ ∃ b10, jr S5 a0 0 = some b10 ∧ (jk S5 b10 = 12 ∧ vp_in 4 (jl S5 b10) ∧ (jFi E mX11_takes d 0 0 [.ref a0, .int x1, .int (jmany (ji (jput S5 b2 (Int32.toNatClampNeg 5) ((ji S b2 (Int32.toNatClampNeg 5)) - r6)) b10 (Int32.toNatClampNeg 4)))] (jput S5 b2 (Int32.toNatClampNeg 5) ((ji S b2 (Int32.toNatClampNeg 5)) - r6)) (fun r17 S16 => jk S16 a0 = 11 ∧ jFv E mX11_goesBy d 0 0 [.ref a0, .int r17] S16 (fun S19 => jk S19 a0 = 11 ∧ jFi E mX11_of d 0 0 [.ref a0, .int x1, .int 2] S19 (fun r22 S21 => jk S21 a0 = 11 ∧ ∃ b24, jr S21 a0 0 = some b24 ∧ (jk S21 b24 = 12 ∧ vp_in 4 (jl S21 b24) ∧ (jFi E mX11_behindLesson d 0 0 [.ref a0, .int x1, .int (ji S21 b24 (Int32.toNatClampNeg 4))] S21 (fun r28 S27 => jk S27 b24 = 12 ∧ vp_in 4 (jl S27 b24) ∧ (jk S27 a0 = 11 ∧ ∃ b32, jr S27 a0 0 = some b32 ∧ (jk S27 b32 = 12 ∧ vp_in (16 + r22) (jl S27 b32) ∧ (vp_in (26 + r22) (jl S27 b32) ∧ (Q r17 (jput (jput (jput S27 b24 (Int32.toNatClampNeg 4) r28) b32 (Int32.toNatClampNeg (16 + r22)) x1) b32 (Int32.toNatClampNeg (26 + r22)) 0)))))))))))))))))) : jFi E mX11_learns (d + 1) 0 0 [.ref a0, .int x1] S Q := by
  refine jF_of (by decide) (jle rfl) ?_
  refine jx_lv (lv1 := [(0, .ref a0), (1, .int x1)]) [0, 1] rfl ?_
  refine jx_aload_n 0 dX11_learns_0 rfl rfl ?_
  obtain ⟨hk1, h⟩ := h
  obtain ⟨b2, hb2, h⟩ := h
  refine jx_getr jc_11 (j := 0) (by decide) rfl jwF_X11_7 dX11_learns_1 hk1 hb2 ?_
  refine jx_iconst (v := 5) dX11_learns_4 (by decide) ?_
  refine jx_dup2 dX11_learns_5 rfl rfl ?_
  obtain ⟨hk3, h⟩ := h
  obtain ⟨hi4, h⟩ := h
  refine jx_iald dX11_learns_6 hk3 hi4 ?_
  refine jx_aload_n 0 dX11_learns_7 rfl rfl ?_
  refine jx_iload_n 1 dX11_learns_8 rfl rfl ?_
  refine jx_iconst (v := 4) dX11_learns_9 (by decide) ?_
  refine jx_callVi (M' := mX11_of) (As := [.int x1, .int 4]) jo_X11_of jc_11 rfl jwM_X11_97 jwN_X11_of jwX_X11_of dX11_learns_10 (jRok_m _ _ _) rfl (jle rfl) ⟨jle rfl, jle rfl⟩ hk1 h (fun r6 S5 h => ?_)
  refine jx_isub dX11_learns_13 ?_
  obtain ⟨hk7, h⟩ := h
  obtain ⟨hi8, h⟩ := h
  refine jx_iast dX11_learns_14 hk7 hi8 ?_
  refine jx_aload_n 0 dX11_learns_15 rfl rfl ?_
  refine jx_iload_n 1 dX11_learns_16 rfl rfl ?_
  refine jx_aload_n 0 dX11_learns_17 rfl rfl ?_
  obtain ⟨hk9, h⟩ := h
  obtain ⟨b10, hb10, h⟩ := h
  refine jx_getr jc_11 (j := 0) (by decide) rfl jwF_X11_7 dX11_learns_18 hk9 hb10 ?_
  refine jx_iconst (v := 4) dX11_learns_21 (by decide) ?_
  obtain ⟨hk11, h⟩ := h
  obtain ⟨hi12, h⟩ := h
  refine jx_iald dX11_learns_22 hk11 hi12 ?_
  refine jx_callSi (M' := mX11_manyIn) (As := [.int (ji (jput S5 b2 (Int32.toNatClampNeg 5) ((ji S b2 (Int32.toNatClampNeg 5)) - r6)) b10 (Int32.toNatClampNeg 4))]) jo_X11_manyIn jwM_X11_108 jwS_X11_manyIn dX11_learns_23 (jRok_m _ _ _) rfl (jle rfl) ⟨jle rfl, jle rfl⟩ (c_X11_manyIn (Q := fun v S' => v = (jmany (ji (jput S5 b2 (Int32.toNatClampNeg 5) ((ji S b2 (Int32.toNatClampNeg 5)) - r6)) b10 (Int32.toNatClampNeg 4))) ∧ (jput S5 b2 (Int32.toNatClampNeg 5) ((ji S b2 (Int32.toNatClampNeg 5)) - r6)) = S') ⟨rfl, rfl⟩) (fun r13 S14 hq15 => ?_)
  obtain ⟨rfl, rfl⟩ := hq15
  refine jx_callVi (M' := mX11_takes) (As := [.int x1, .int (jmany (ji (jput S5 b2 (Int32.toNatClampNeg 5) ((ji S b2 (Int32.toNatClampNeg 5)) - r6)) b10 (Int32.toNatClampNeg 4)))]) jo_X11_takes jc_11 rfl jwM_X11_116 jwN_X11_takes jwX_X11_takes dX11_learns_26 (jRok_m _ _ _) rfl (jle rfl) ⟨jle rfl, jle rfl⟩ hk9 h (fun r17 S16 h => ?_)
  refine jx_istore_n (lv1 := [(2, .int r17), (0, .ref a0), (1, .int x1)]) dX11_learns_29 rfl (by decide) rfl ?_
  refine jx_aload_n 1 dX11_learns_30 rfl rfl ?_
  refine jx_iload_n 0 dX11_learns_31 rfl rfl ?_
  obtain ⟨hk18, h⟩ := h
  refine jx_callVv (M' := mX11_goesBy) (As := [.int r17]) jo_X11_goesBy jc_11 rfl jwM_X11_154 jwN_X11_goesBy jwX_X11_goesBy dX11_learns_32 (jRok_m _ _ _) rfl (jle rfl) ⟨jle rfl, jle rfl⟩ hk18 h (fun S19 h => ?_)
  refine jx_aload_n 1 dX11_learns_35 rfl rfl ?_
  refine jx_iload_n 2 dX11_learns_36 rfl rfl ?_
  refine jx_iconst (v := 2) dX11_learns_37 (by decide) ?_
  obtain ⟨hk20, h⟩ := h
  refine jx_callVi (M' := mX11_of) (As := [.int x1, .int 2]) jo_X11_of jc_11 rfl jwM_X11_97 jwN_X11_of jwX_X11_of dX11_learns_38 (jRok_m _ _ _) rfl (jle rfl) ⟨jle rfl, jle rfl⟩ hk20 h (fun r22 S21 h => ?_)
  refine jx_istore_n (lv1 := [(3, .int r22), (2, .int r17), (0, .ref a0), (1, .int x1)]) dX11_learns_41 rfl (by decide) rfl ?_
  refine jx_aload_n 2 dX11_learns_42 rfl rfl ?_
  obtain ⟨hk23, h⟩ := h
  obtain ⟨b24, hb24, h⟩ := h
  refine jx_getr jc_11 (j := 0) (by decide) rfl jwF_X11_7 dX11_learns_43 hk23 hb24 ?_
  refine jx_iconst (v := 4) dX11_learns_46 (by decide) ?_
  refine jx_aload_n 2 dX11_learns_47 rfl rfl ?_
  refine jx_iload_n 3 dX11_learns_48 rfl rfl ?_
  refine jx_aload_n 2 dX11_learns_49 rfl rfl ?_
  refine jx_getr jc_11 (j := 0) (by decide) rfl jwF_X11_7 dX11_learns_50 hk23 hb24 ?_
  refine jx_iconst (v := 4) dX11_learns_53 (by decide) ?_
  obtain ⟨hk25, h⟩ := h
  obtain ⟨hi26, h⟩ := h
  refine jx_iald dX11_learns_54 hk25 hi26 ?_
  refine jx_callVi (M' := mX11_behindLesson) (As := [.int x1, .int (ji S21 b24 (Int32.toNatClampNeg 4))]) jo_X11_behindLesson jc_11 rfl jwM_X11_158 jwN_X11_behindLesson jwX_X11_behindLesson dX11_learns_55 (jRok_m _ _ _) rfl (jle rfl) ⟨jle rfl, jle rfl⟩ hk23 h (fun r28 S27 h => ?_)
  obtain ⟨hk29, h⟩ := h
  obtain ⟨hi30, h⟩ := h
  refine jx_iast dX11_learns_58 hk29 hi30 ?_
  refine jx_aload_n 2 dX11_learns_59 rfl rfl ?_
  obtain ⟨hk31, h⟩ := h
  obtain ⟨b32, hb32, h⟩ := h
  refine jx_getr jc_11 (j := 0) (by decide) rfl jwF_X11_7 dX11_learns_60 hk31 hb32 ?_
  refine jx_bipush (v := 16) dX11_learns_63 (by decide) ?_
  refine jx_iload_n 0 dX11_learns_65 rfl rfl ?_
  refine jx_iadd dX11_learns_66 ?_
  refine jx_iload_n 3 dX11_learns_67 rfl rfl ?_
  obtain ⟨hk33, h⟩ := h
  obtain ⟨hi34, h⟩ := h
  refine jx_iast dX11_learns_68 hk33 hi34 ?_
  refine jx_aload_n 2 dX11_learns_69 rfl rfl ?_
  refine jx_getr jc_11 (j := 0) (by decide) rfl jwF_X11_7 dX11_learns_70 hk31 hb32 ?_
  refine jx_bipush (v := 26) dX11_learns_73 (by decide) ?_
  refine jx_iload_n 0 dX11_learns_75 rfl rfl ?_
  refine jx_iadd dX11_learns_76 ?_
  refine jx_iconst (v := 0) dX11_learns_77 (by decide) ?_
  obtain ⟨hi35, h⟩ := h
  refine jx_iast dX11_learns_78 hk33 hi35 ?_
  refine jx_iload_n 1 dX11_learns_79 rfl rfl ?_
  exact jx_iret dX11_learns_80 rfl rfl (jle rfl) (jle rfl) ⟨_, rfl, h⟩
set_option maxRecDepth 100000 in
set_option maxHeartbeats 4000000 in
theorem T_X11_learn {E : jEnv} {d : Nat} {Q : Int32 → jM → Prop} {a0 : Nat} {x1 : Int32} {S : jM} (h : jk S a0 = 11 ∧ jFi E mX11_isMaster d 0 0 [.ref a0, .int x1] S (fun r3 S2 => (r3 = 0 → Q (-1000000001) S2) ∧ (¬ r3 = 0 → jk S2 a0 = 11 ∧ jFi E mX11_canLearn d 0 0 [.ref a0, .int x1] S2 (fun r7 S6 => (r7 = 0 → Q (-1000000002) S6) ∧ (¬ r7 = 0 → jk S6 a0 = 11 ∧ jFi E mX11_learns d 0 0 [.ref a0, .int x1] S6 (fun r11 S10 => jk S10 a0 = 11 ∧ ∃ b13, jr S10 a0 0 = some b13 ∧ (jk S10 b13 = 12 ∧ vp_in 4 (jl S10 b13) ∧ (Q (ji S10 b13 (Int32.toNatClampNeg 4)) S10)))))))) : jFi E mX11_learn (d + 1) 0 0 [.ref a0, .int x1] S Q := by
  refine jF_of (by decide) (jle rfl) ?_
  refine jx_lv (lv1 := [(0, .ref a0), (1, .int x1)]) [0, 1] rfl ?_
  refine jx_aload_n 0 dX11_learn_0 rfl rfl ?_
  refine jx_iload_n 1 dX11_learn_1 rfl rfl ?_
  obtain ⟨hk1, h⟩ := h
  refine jx_callVi (M' := mX11_isMaster) (As := [.int x1]) jo_X11_isMaster jc_11 rfl jwM_X11_111 jwN_X11_isMaster jwX_X11_isMaster dX11_learn_2 (jRok_m _ _ _) rfl (jle rfl) ⟨jle rfl, jle rfl⟩ hk1 h (fun r3 S2 h => ?_)
  refine jx_if_ne (tgt := 11) dX11_learn_5 (by decide) (fun c4 => ?_) (fun c4 => ?_)
  · replace h := h.2 c4
    refine jx_aload_n 0 dX11_learn_11 rfl rfl ?_
    refine jx_iload_n 1 dX11_learn_12 rfl rfl ?_
    obtain ⟨hk5, h⟩ := h
    refine jx_callVi (M' := mX11_canLearn) (As := [.int x1]) jo_X11_canLearn jc_11 rfl jwM_X11_161 jwN_X11_canLearn jwX_X11_canLearn dX11_learn_13 (jRok_m _ _ _) rfl (jle rfl) ⟨jle rfl, jle rfl⟩ hk5 h (fun r7 S6 h => ?_)
    refine jx_if_ne (tgt := 22) dX11_learn_16 (by decide) (fun c8 => ?_) (fun c8 => ?_)
    · replace h := h.2 c8
      refine jx_aload_n 0 dX11_learn_22 rfl rfl ?_
      refine jx_iload_n 1 dX11_learn_23 rfl rfl ?_
      obtain ⟨hk9, h⟩ := h
      refine jx_callVi (M' := mX11_learns) (As := [.int x1]) jo_X11_learns jc_11 rfl jwM_X11_164 jwN_X11_learns jwX_X11_learns dX11_learn_24 (jRok_m _ _ _) rfl (jle rfl) ⟨jle rfl, jle rfl⟩ hk9 h (fun r11 S10 h => ?_)
      refine jx_istore_n (lv1 := [(2, .int r11), (0, .ref a0), (1, .int x1)]) dX11_learn_27 rfl (by decide) rfl ?_
      refine jx_aload_n 1 dX11_learn_28 rfl rfl ?_
      obtain ⟨hk12, h⟩ := h
      obtain ⟨b13, hb13, h⟩ := h
      refine jx_getr jc_11 (j := 0) (by decide) rfl jwF_X11_7 dX11_learn_29 hk12 hb13 ?_
      refine jx_iconst (v := 4) dX11_learn_32 (by decide) ?_
      obtain ⟨hk14, h⟩ := h
      obtain ⟨hi15, h⟩ := h
      refine jx_iald dX11_learn_33 hk14 hi15 ?_
      exact jx_iret dX11_learn_34 rfl rfl (jle rfl) (jle rfl) ⟨_, rfl, h⟩
    replace h := h.1 c8
    refine jx_ldc jwC_X11_153 dX11_learn_19 ?_
    exact jx_iret dX11_learn_21 rfl rfl (jle rfl) (jle rfl) ⟨_, rfl, h⟩
  replace h := h.1 c4
  refine jx_ldc jwC_X11_87 dX11_learn_8 ?_
  exact jx_iret dX11_learn_10 rfl rfl (jle rfl) (jle rfl) ⟨_, rfl, h⟩
set_option maxRecDepth 100000 in
set_option maxHeartbeats 4000000 in
theorem T_X11_uses {E : jEnv} {d : Nat} {Q : jM → Prop} {a0 : Nat} {x1 : Int32} {S : jM} (h : jk S a0 = 11 ∧ ∃ b2, jr S a0 0 = some b2 ∧ (jk S b2 = 12 ∧ vp_in (26 + x1) (jl S b2) ∧ (jFv E mX11_goesBy d 0 0 [.ref a0, .int 1] (jput S b2 (Int32.toNatClampNeg (26 + x1)) 0) (fun S5 => Q S5)))) : jFv E mX11_uses (d + 1) 0 0 [.ref a0, .int x1] S Q := by
  refine jF_of (by decide) (jle rfl) ?_
  refine jx_lv (lv1 := [(0, .ref a0), (1, .int x1)]) [0, 1] rfl ?_
  refine jx_aload_n 0 dX11_uses_0 rfl rfl ?_
  obtain ⟨hk1, h⟩ := h
  obtain ⟨b2, hb2, h⟩ := h
  refine jx_getr jc_11 (j := 0) (by decide) rfl jwF_X11_7 dX11_uses_1 hk1 hb2 ?_
  refine jx_bipush (v := 26) dX11_uses_4 (by decide) ?_
  refine jx_iload_n 1 dX11_uses_6 rfl rfl ?_
  refine jx_iadd dX11_uses_7 ?_
  refine jx_iconst (v := 0) dX11_uses_8 (by decide) ?_
  obtain ⟨hk3, h⟩ := h
  obtain ⟨hi4, h⟩ := h
  refine jx_iast dX11_uses_9 hk3 hi4 ?_
  refine jx_aload_n 0 dX11_uses_10 rfl rfl ?_
  refine jx_iconst (v := 1) dX11_uses_11 (by decide) ?_
  refine jx_callVv (M' := mX11_goesBy) (As := [.int 1]) jo_X11_goesBy jc_11 rfl jwM_X11_154 jwN_X11_goesBy jwX_X11_goesBy dX11_uses_12 (jRok_m _ _ _) rfl (jle rfl) ⟨jle rfl, jle rfl⟩ hk1 h (fun S5 h => ?_)
  exact jx_vret dX11_uses_15 rfl (jle rfl) (jle rfl) ⟨rfl, h⟩
set_option maxRecDepth 100000 in
set_option maxHeartbeats 4000000 in
theorem T_X11_use {E : jEnv} {d : Nat} {Q : Int32 → jM → Prop} {a0 : Nat} {x1 : Int32} {S : jM} (h : ((jisg x1) = 0 → Q (-1000000001) S) ∧ (¬ (jisg x1) = 0 → jk S a0 = 11 ∧ jFi E mX11_doesKnow d 0 0 [.ref a0, .int x1] S (fun r7 S6 => (r7 = 0 → Q (-1000000002) S6) ∧ (¬ r7 = 0 → jk S6 a0 = 11 ∧ jFv E mX11_uses d 0 0 [.ref a0, .int x1] S6 (fun S10 => jk S10 a0 = 11 ∧ ∃ b12, jr S10 a0 0 = some b12 ∧ (jk S10 b12 = 12 ∧ vp_in 4 (jl S10 b12) ∧ (Q (ji S10 b12 (Int32.toNatClampNeg 4)) S10))))))) : jFi E mX11_use (d + 1) 0 0 [.ref a0, .int x1] S Q := by
  refine jF_of (by decide) (jle rfl) ?_
  refine jx_lv (lv1 := [(0, .ref a0), (1, .int x1)]) [0, 1] rfl ?_
  refine jx_iload_n 1 dX11_use_0 rfl rfl ?_
  refine jx_callSi (M' := mX11_isGesture) (As := [.int x1]) jo_X11_isGesture jwM_X11_82 jwS_X11_isGesture dX11_use_1 (jRok_m _ _ _) rfl (jle rfl) ⟨jle rfl, jle rfl⟩ (c_X11_isGesture (Q := fun v S' => v = (jisg x1) ∧ S = S') ⟨rfl, rfl⟩) (fun r1 S2 hq3 => ?_)
  obtain ⟨rfl, rfl⟩ := hq3
  refine jx_if_ne (tgt := 10) dX11_use_4 (by decide) (fun c4 => ?_) (fun c4 => ?_)
  · replace h := h.2 c4
    refine jx_aload_n 0 dX11_use_10 rfl rfl ?_
    refine jx_iload_n 1 dX11_use_11 rfl rfl ?_
    obtain ⟨hk5, h⟩ := h
    refine jx_callVi (M' := mX11_doesKnow) (As := [.int x1]) jo_X11_doesKnow jc_11 rfl jwM_X11_150 jwN_X11_doesKnow jwX_X11_doesKnow dX11_use_12 (jRok_m _ _ _) rfl (jle rfl) ⟨jle rfl, jle rfl⟩ hk5 h (fun r7 S6 h => ?_)
    refine jx_if_ne (tgt := 21) dX11_use_15 (by decide) (fun c8 => ?_) (fun c8 => ?_)
    · replace h := h.2 c8
      refine jx_aload_n 0 dX11_use_21 rfl rfl ?_
      refine jx_iload_n 1 dX11_use_22 rfl rfl ?_
      obtain ⟨hk9, h⟩ := h
      refine jx_callVv (M' := mX11_uses) (As := [.int x1]) jo_X11_uses jc_11 rfl jwM_X11_167 jwN_X11_uses jwX_X11_uses dX11_use_23 (jRok_m _ _ _) rfl (jle rfl) ⟨jle rfl, jle rfl⟩ hk9 h (fun S10 h => ?_)
      refine jx_aload_n 0 dX11_use_26 rfl rfl ?_
      obtain ⟨hk11, h⟩ := h
      obtain ⟨b12, hb12, h⟩ := h
      refine jx_getr jc_11 (j := 0) (by decide) rfl jwF_X11_7 dX11_use_27 hk11 hb12 ?_
      refine jx_iconst (v := 4) dX11_use_30 (by decide) ?_
      obtain ⟨hk13, h⟩ := h
      obtain ⟨hi14, h⟩ := h
      refine jx_iald dX11_use_31 hk13 hi14 ?_
      exact jx_iret dX11_use_32 rfl rfl (jle rfl) (jle rfl) ⟨_, rfl, h⟩
    replace h := h.1 c8
    refine jx_ldc jwC_X11_153 dX11_use_18 ?_
    exact jx_iret dX11_use_20 rfl rfl (jle rfl) (jle rfl) ⟨_, rfl, h⟩
  replace h := h.1 c4
  refine jx_ldc jwC_X11_87 dX11_use_7 ?_
  exact jx_iret dX11_use_9 rfl rfl (jle rfl) (jle rfl) ⟨_, rfl, h⟩
set_option maxRecDepth 100000 in
set_option maxHeartbeats 4000000 in
theorem T_X11_rests {E : jEnv} {d : Nat} {Q : Int32 → jM → Prop} {a0 : Nat} {x1 : Int32} {S : jM} (h : ((jisin (Int32.toInt64 x1) 1 100) = 0 → Q (-1000000001) S) ∧ (¬ (jisin (Int32.toInt64 x1) 1 100) = 0 → jk S a0 = 11 ∧ jFv E mX11_goesBy d 0 0 [.ref a0, .int x1] S (fun S6 => jk S6 a0 = 11 ∧ ∃ b8, jr S6 a0 0 = some b8 ∧ (jk S6 b8 = 12 ∧ vp_in 4 (jl S6 b8) ∧ (Q (ji S6 b8 (Int32.toNatClampNeg 4)) S6))))) : jFi E mX11_rests (d + 1) 0 0 [.ref a0, .int x1] S Q := by
  refine jF_of (by decide) (jle rfl) ?_
  refine jx_lv (lv1 := [(0, .ref a0), (1, .int x1)]) [0, 1] rfl ?_
  refine jx_iload_n 1 dX11_rests_0 rfl rfl ?_
  refine jx_i2l dX11_rests_1 ?_
  refine jx_lconst (v := 1) dX11_rests_2 (by decide) ?_
  refine jx_ldc2 jwL_X11_170 dX11_rests_3 ?_
  refine jx_callSi (M' := mX11_isIn) (As := [.long (Int32.toInt64 x1), .long 1, .long 100]) jo_X11_isIn jwM_X11_71 jwS_X11_isIn dX11_rests_6 (jRok_m _ _ _) rfl (jle rfl) ⟨jle rfl, jle rfl⟩ (c_X11_isIn (Q := fun v S' => v = (jisin (Int32.toInt64 x1) 1 100) ∧ S = S') ⟨rfl, rfl⟩) (fun r1 S2 hq3 => ?_)
  obtain ⟨rfl, rfl⟩ := hq3
  refine jx_if_ne (tgt := 15) dX11_rests_9 (by decide) (fun c4 => ?_) (fun c4 => ?_)
  · replace h := h.2 c4
    refine jx_aload_n 0 dX11_rests_15 rfl rfl ?_
    refine jx_iload_n 1 dX11_rests_16 rfl rfl ?_
    obtain ⟨hk5, h⟩ := h
    refine jx_callVv (M' := mX11_goesBy) (As := [.int x1]) jo_X11_goesBy jc_11 rfl jwM_X11_154 jwN_X11_goesBy jwX_X11_goesBy dX11_rests_17 (jRok_m _ _ _) rfl (jle rfl) ⟨jle rfl, jle rfl⟩ hk5 h (fun S6 h => ?_)
    refine jx_aload_n 0 dX11_rests_20 rfl rfl ?_
    obtain ⟨hk7, h⟩ := h
    obtain ⟨b8, hb8, h⟩ := h
    refine jx_getr jc_11 (j := 0) (by decide) rfl jwF_X11_7 dX11_rests_21 hk7 hb8 ?_
    refine jx_iconst (v := 4) dX11_rests_24 (by decide) ?_
    obtain ⟨hk9, h⟩ := h
    obtain ⟨hi10, h⟩ := h
    refine jx_iald dX11_rests_25 hk9 hi10 ?_
    exact jx_iret dX11_rests_26 rfl rfl (jle rfl) (jle rfl) ⟨_, rfl, h⟩
  replace h := h.1 c4
  refine jx_ldc jwC_X11_87 dX11_rests_12 ?_
  exact jx_iret dX11_rests_14 rfl rfl (jle rfl) (jle rfl) ⟨_, rfl, h⟩
set_option maxRecDepth 100000 in
set_option maxHeartbeats 4000000 in
theorem T_X11_wants {E : jEnv} {d : Nat} {Q : Int32 → jM → Prop} {a0 : Nat} {x1 : Int32} {S : jM} (h : ((jisg x1) = 0 → Q (-1000000001) S) ∧ (¬ (jisg x1) = 0 → jk S a0 = 11 ∧ ∃ b6, jr S a0 0 = some b6 ∧ (jk S b6 = 12 ∧ vp_in 7 (jl S b6) ∧ (((ji S b6 (Int32.toNatClampNeg 7)) = 6 → Q (-1000000003) S) ∧ (¬ (ji S b6 (Int32.toNatClampNeg 7)) = 6 → (vp_in (9 + (ji S b6 (Int32.toNatClampNeg 7))) (jl S b6) ∧ ((((Q ((ji (jput S b6 (Int32.toNatClampNeg (9 + (ji S b6 (Int32.toNatClampNeg 7)))) x1) b6 (Int32.toNatClampNeg 7)) + 1) (jput (jput S b6 (Int32.toNatClampNeg (9 + (ji S b6 (Int32.toNatClampNeg 7)))) x1) b6 (Int32.toNatClampNeg 7) ((ji (jput S b6 (Int32.toNatClampNeg (9 + (ji S b6 (Int32.toNatClampNeg 7)))) x1) b6 (Int32.toNatClampNeg 7)) + 1)))))))))))) : jFi E mX11_wants (d + 1) 0 0 [.ref a0, .int x1] S Q := by
  refine jF_of (by decide) (jle rfl) ?_
  refine jx_lv (lv1 := [(0, .ref a0), (1, .int x1)]) [0, 1] rfl ?_
  refine jx_iload_n 1 dX11_wants_0 rfl rfl ?_
  refine jx_callSi (M' := mX11_isGesture) (As := [.int x1]) jo_X11_isGesture jwM_X11_82 jwS_X11_isGesture dX11_wants_1 (jRok_m _ _ _) rfl (jle rfl) ⟨jle rfl, jle rfl⟩ (c_X11_isGesture (Q := fun v S' => v = (jisg x1) ∧ S = S') ⟨rfl, rfl⟩) (fun r1 S2 hq3 => ?_)
  obtain ⟨rfl, rfl⟩ := hq3
  refine jx_if_ne (tgt := 10) dX11_wants_4 (by decide) (fun c4 => ?_) (fun c4 => ?_)
  · replace h := h.2 c4
    refine jx_aload_n 0 dX11_wants_10 rfl rfl ?_
    obtain ⟨hk5, h⟩ := h
    obtain ⟨b6, hb6, h⟩ := h
    refine jx_getr jc_11 (j := 0) (by decide) rfl jwF_X11_7 dX11_wants_11 hk5 hb6 ?_
    refine jx_bipush (v := 7) dX11_wants_14 (by decide) ?_
    obtain ⟨hk7, h⟩ := h
    obtain ⟨hi8, h⟩ := h
    refine jx_iald dX11_wants_16 hk7 hi8 ?_
    refine jx_bipush (v := 6) dX11_wants_17 (by decide) ?_
    refine jx_icmp_ne (tgt := 25) dX11_wants_19 (by decide) (fun c9 => ?_) (fun c9 => ?_)
    · replace h := h.2 c9
      refine jx_aload_n 0 dX11_wants_25 rfl rfl ?_
      refine jx_getr jc_11 (j := 0) (by decide) rfl jwF_X11_7 dX11_wants_26 hk5 hb6 ?_
      refine jx_bipush (v := 9) dX11_wants_29 (by decide) ?_
      refine jx_aload_n 0 dX11_wants_31 rfl rfl ?_
      refine jx_getr jc_11 (j := 0) (by decide) rfl jwF_X11_7 dX11_wants_32 hk5 hb6 ?_
      refine jx_bipush (v := 7) dX11_wants_35 (by decide) ?_
      refine jx_iald dX11_wants_37 hk7 hi8 ?_
      refine jx_iadd dX11_wants_38 ?_
      refine jx_iload_n 1 dX11_wants_39 rfl rfl ?_
      obtain ⟨hi10, h⟩ := h
      refine jx_iast dX11_wants_40 hk7 hi10 ?_
      refine jx_aload_n 0 dX11_wants_41 rfl rfl ?_
      refine jx_getr jc_11 (j := 0) (by decide) rfl jwF_X11_7 dX11_wants_42 hk5 hb6 ?_
      refine jx_bipush (v := 7) dX11_wants_45 (by decide) ?_
      refine jx_dup2 dX11_wants_47 rfl rfl ?_
      refine jx_iald dX11_wants_48 hk7 hi8 ?_
      refine jx_iconst (v := 1) dX11_wants_49 (by decide) ?_
      refine jx_iadd dX11_wants_50 ?_
      refine jx_iast dX11_wants_51 hk7 hi8 ?_
      refine jx_aload_n 0 dX11_wants_52 rfl rfl ?_
      refine jx_getr jc_11 (j := 0) (by decide) rfl jwF_X11_7 dX11_wants_53 hk5 hb6 ?_
      refine jx_bipush (v := 7) dX11_wants_56 (by decide) ?_
      refine jx_iald dX11_wants_58 hk7 hi8 ?_
      refine jx_topi (y := ((ji (jput S b6 (Int32.toNatClampNeg (9 + (ji S b6 (Int32.toNatClampNeg 7)))) x1) b6 (Int32.toNatClampNeg 7)) + 1)) (by simp [ji_put, ji_row, ji_putr]) ?_
      exact jx_iret dX11_wants_59 rfl rfl (jle rfl) (jle rfl) ⟨_, rfl, h⟩
    replace h := h.1 c9
    refine jx_ldc jwC_X11_88 dX11_wants_22 ?_
    exact jx_iret dX11_wants_24 rfl rfl (jle rfl) (jle rfl) ⟨_, rfl, h⟩
  replace h := h.1 c4
  refine jx_ldc jwC_X11_87 dX11_wants_7 ?_
  exact jx_iret dX11_wants_9 rfl rfl (jle rfl) (jle rfl) ⟨_, rfl, h⟩
set_option maxRecDepth 100000 in
set_option maxHeartbeats 4000000 in
theorem T_X11_clear {E : jEnv} {d : Nat} {Q : Int32 → jM → Prop} {a0 : Nat} {S : jM} (h : jk S a0 = 11 ∧ jFi E mX11_becomes d 0 0 [.ref a0, .int 7, .int 0] S (fun r3 S2 => Q r3 S2)) : jFi E mX11_clear (d + 1) 0 0 [.ref a0] S Q := by
  refine jF_of (by decide) (jle rfl) ?_
  refine jx_lv (lv1 := [(0, .ref a0)]) [0] rfl ?_
  refine jx_aload_n 0 dX11_clear_0 rfl rfl ?_
  refine jx_bipush (v := 7) dX11_clear_1 (by decide) ?_
  refine jx_iconst (v := 0) dX11_clear_3 (by decide) ?_
  obtain ⟨hk1, h⟩ := h
  refine jx_callVi (M' := mX11_becomes) (As := [.int 7, .int 0]) jo_X11_becomes jc_11 rfl jwM_X11_130 jwN_X11_becomes jwX_X11_becomes dX11_clear_4 (jRok_m _ _ _) rfl (jle rfl) ⟨jle rfl, jle rfl⟩ hk1 h (fun r3 S2 h => ?_)
  exact jx_iret dX11_clear_7 rfl rfl (jle rfl) (jle rfl) ⟨_, rfl, h⟩
/-- X11_can at its loop's head 2 -/
abbrev L_X11_can_2 (E : jEnv) (d : Nat) (Q : Int32 → jM → Prop) (a0 : Nat) (x1 : Int32) (S : jM) : Prop := jX E mX11_can (jRm (d + 1) 0 0) (jZm E (fun r S' => ∃ v : Int32, r = some (.int v) ∧ Q v S') 0 0) 2 [(0, .ref a0), (1, .int x1)] [] S 0 0
set_option maxRecDepth 100000 in
set_option maxHeartbeats 4000000 in
theorem T_X11_can {E : jEnv} {d : Nat} {Q : Int32 → jM → Prop} {a0 : Nat} {S : jM} (h : L_X11_can_2 E d Q a0 0 S) : jFi E mX11_can (d + 1) 0 0 [.ref a0] S Q := by
  refine jF_of (by decide) (jle rfl) ?_
  refine jx_lv (lv1 := [(0, .ref a0)]) [0] rfl ?_
  refine jx_iconst (v := 0) dX11_can_0 (by decide) ?_
  refine jx_istore_n (lv1 := [(1, .int 0), (0, .ref a0)]) dX11_can_1 rfl (by decide) rfl ?_
  exact jx_lv [1, 0] rfl h
set_option maxRecDepth 100000 in
set_option maxHeartbeats 4000000 in
theorem T_X11_can_2 {E : jEnv} {d : Nat} {Q : Int32 → jM → Prop} {a0 : Nat} {x1 : Int32} {S : jM} (h : jk S a0 = 11 ∧ ∃ b2, jr S a0 0 = some b2 ∧ (jk S b2 = 12 ∧ vp_in 7 (jl S b2) ∧ (((ji S b2 (Int32.toNatClampNeg 7)) ≤ x1 → Q 1 S) ∧ (¬ (ji S b2 (Int32.toNatClampNeg 7)) ≤ x1 → vp_in (9 + x1) (jl S b2) ∧ (jFi E mX11_doesKnow d 0 0 [.ref a0, .int (ji S b2 (Int32.toNatClampNeg (9 + x1)))] S (fun r8 S7 => (r8 = 0 → Q 0 S7) ∧ (¬ r8 = 0 → L_X11_can_2 E d Q a0 (x1 + 1) S7))))))) : L_X11_can_2 E d Q a0 x1 S := by
  show jX E mX11_can (jRm (d + 1) 0 0) (jZm E (fun r S' => ∃ v : Int32, r = some (.int v) ∧ Q v S') 0 0) 2 [(0, .ref a0), (1, .int x1)] [] S 0 0
  refine jx_iload_n 1 dX11_can_2 rfl rfl ?_
  refine jx_aload_n 0 dX11_can_3 rfl rfl ?_
  obtain ⟨hk1, h⟩ := h
  obtain ⟨b2, hb2, h⟩ := h
  refine jx_getr jc_11 (j := 0) (by decide) rfl jwF_X11_7 dX11_can_4 hk1 hb2 ?_
  refine jx_bipush (v := 7) dX11_can_7 (by decide) ?_
  obtain ⟨hk3, h⟩ := h
  obtain ⟨hi4, h⟩ := h
  refine jx_iald dX11_can_9 hk3 hi4 ?_
  refine jx_icmp_ge (tgt := 37) dX11_can_10 (by decide) (fun c5 => ?_) (fun c5 => ?_)
  · replace h := h.1 c5
    refine jx_iconst (v := 1) dX11_can_37 (by decide) ?_
    exact jx_iret dX11_can_38 rfl (by decide) (jle rfl) (jle rfl) ⟨_, rfl, h⟩
  replace h := h.2 c5
  refine jx_aload_n 0 dX11_can_13 rfl rfl ?_
  refine jx_aload_n 0 dX11_can_14 rfl rfl ?_
  refine jx_getr jc_11 (j := 0) (by decide) rfl jwF_X11_7 dX11_can_15 hk1 hb2 ?_
  refine jx_bipush (v := 9) dX11_can_18 (by decide) ?_
  refine jx_iload_n 1 dX11_can_20 rfl rfl ?_
  refine jx_iadd dX11_can_21 ?_
  obtain ⟨hi6, h⟩ := h
  refine jx_iald dX11_can_22 hk3 hi6 ?_
  refine jx_callVi (M' := mX11_doesKnow) (As := [.int (ji S b2 (Int32.toNatClampNeg (9 + x1)))]) jo_X11_doesKnow jc_11 rfl jwM_X11_150 jwN_X11_doesKnow jwX_X11_doesKnow dX11_can_23 (jRok_m _ _ _) rfl (jle rfl) ⟨jle rfl, jle rfl⟩ hk1 h (fun r8 S7 h => ?_)
  refine jx_if_ne (tgt := 31) dX11_can_26 (by decide) (fun c9 => ?_) (fun c9 => ?_)
  · replace h := h.2 c9
    refine jx_iinc 1 (v := (x1 + 1)) (lv1 := [(1, .int (x1 + 1)), (0, .ref a0)]) kd69.1 rfl rfl (by decide) rfl ?_
    refine jx_goto (tgt := 2) kd69.2 (by decide) ?_
    exact jx_lv [1, 0] rfl h
  replace h := h.1 c9
  refine jx_iconst (v := 0) dX11_can_29 (by decide) ?_
  exact jx_iret dX11_can_30 rfl (by decide) (jle rfl) (jle rfl) ⟨_, rfl, h⟩
/-- X11_made at its loop's head 12 -/
abbrev L_X11_made_12 (E : jEnv) (d : Nat) (Q : Int32 → jM → Prop) (a0 : Nat) (x1 : Int32) (S : jM) : Prop := jX E mX11_made (jRm (d + 1) 0 0) (jZm E (fun r S' => ∃ v : Int32, r = some (.int v) ∧ Q v S') 0 0) 12 [(0, .ref a0), (1, .int x1)] [] S 0 0
set_option maxRecDepth 100000 in
set_option maxHeartbeats 4000000 in
theorem T_X11_made {E : jEnv} {d : Nat} {Q : Int32 → jM → Prop} {a0 : Nat} {S : jM} (h : jk S a0 = 11 ∧ jFi E mX11_can d 0 0 [.ref a0] S (fun r3 S2 => (r3 = 0 → Q (-1000000002) S2) ∧ (¬ r3 = 0 → L_X11_made_12 E d Q a0 0 S2))) : jFi E mX11_made (d + 1) 0 0 [.ref a0] S Q := by
  refine jF_of (by decide) (jle rfl) ?_
  refine jx_lv (lv1 := [(0, .ref a0)]) [0] rfl ?_
  refine jx_aload_n 0 dX11_made_0 rfl rfl ?_
  obtain ⟨hk1, h⟩ := h
  refine jx_callVi (M' := mX11_can) (As := []) jo_X11_can jc_11 rfl jwM_X11_172 jwN_X11_can jwX_X11_can dX11_made_1 (jRok_m _ _ _) rfl (jle rfl) ⟨jle rfl, jle rfl⟩ hk1 h (fun r3 S2 h => ?_)
  refine jx_if_ne (tgt := 10) dX11_made_4 (by decide) (fun c4 => ?_) (fun c4 => ?_)
  · replace h := h.2 c4
    refine jx_iconst (v := 0) dX11_made_10 (by decide) ?_
    refine jx_istore_n (lv1 := [(1, .int 0), (0, .ref a0)]) dX11_made_11 rfl (by decide) rfl ?_
    exact jx_lv [1, 0] rfl h
  replace h := h.1 c4
  refine jx_ldc jwC_X11_153 dX11_made_7 ?_
  exact jx_iret dX11_made_9 rfl rfl (jle rfl) (jle rfl) ⟨_, rfl, h⟩
set_option maxRecDepth 100000 in
set_option maxHeartbeats 4000000 in
theorem T_X11_made_12 {E : jEnv} {d : Nat} {Q : Int32 → jM → Prop} {a0 : Nat} {x1 : Int32} {S : jM} (h : jk S a0 = 11 ∧ ∃ b6, jr S a0 0 = some b6 ∧ (jk S b6 = 12 ∧ vp_in 7 (jl S b6) ∧ (((ji S b6 (Int32.toNatClampNeg 7)) ≤ x1 → vp_in 2 (jl S b6) ∧ (Q (ji S b6 (Int32.toNatClampNeg 2)) S)) ∧ (¬ (ji S b6 (Int32.toNatClampNeg 7)) ≤ x1 → vp_in (9 + x1) (jl S b6) ∧ (jFi E mX11_doesKnow d 0 0 [.ref a0, .int (ji S b6 (Int32.toNatClampNeg (9 + x1)))] S (fun r13 S12 => (r13 = 0 → L_X11_made_12 E d Q a0 (x1 + 1) S12) ∧ (¬ r13 = 0 → jk S12 a0 = 11 ∧ ∃ b16, jr S12 a0 0 = some b16 ∧ (jk S12 b16 = 12 ∧ vp_in (9 + x1) (jl S12 b16) ∧ (jFv E mX11_uses d 0 0 [.ref a0, .int (ji S12 b16 (Int32.toNatClampNeg (9 + x1)))] S12 (fun S19 => L_X11_made_12 E d Q a0 (x1 + 1) S19)))))))))) : L_X11_made_12 E d Q a0 x1 S := by
  show jX E mX11_made (jRm (d + 1) 0 0) (jZm E (fun r S' => ∃ v : Int32, r = some (.int v) ∧ Q v S') 0 0) 12 [(0, .ref a0), (1, .int x1)] [] S 0 0
  refine jx_iload_n 1 dX11_made_12 rfl rfl ?_
  refine jx_aload_n 0 dX11_made_13 rfl rfl ?_
  obtain ⟨hk5, h⟩ := h
  obtain ⟨b6, hb6, h⟩ := h
  refine jx_getr jc_11 (j := 0) (by decide) rfl jwF_X11_7 dX11_made_14 hk5 hb6 ?_
  refine jx_bipush (v := 7) dX11_made_17 (by decide) ?_
  obtain ⟨hk7, h⟩ := h
  obtain ⟨hi8, h⟩ := h
  refine jx_iald dX11_made_19 hk7 hi8 ?_
  refine jx_icmp_ge (tgt := 58) dX11_made_20 (by decide) (fun c9 => ?_) (fun c9 => ?_)
  · replace h := h.1 c9
    refine jx_aload_n 0 dX11_made_58 rfl rfl ?_
    refine jx_getr jc_11 (j := 0) (by decide) rfl jwF_X11_7 dX11_made_59 hk5 hb6 ?_
    refine jx_iconst (v := 2) dX11_made_62 (by decide) ?_
    obtain ⟨hi10, h⟩ := h
    refine jx_iald dX11_made_63 hk7 hi10 ?_
    exact jx_iret dX11_made_64 rfl rfl (jle rfl) (jle rfl) ⟨_, rfl, h⟩
  replace h := h.2 c9
  refine jx_aload_n 0 dX11_made_23 rfl rfl ?_
  refine jx_aload_n 0 dX11_made_24 rfl rfl ?_
  refine jx_getr jc_11 (j := 0) (by decide) rfl jwF_X11_7 dX11_made_25 hk5 hb6 ?_
  refine jx_bipush (v := 9) dX11_made_28 (by decide) ?_
  refine jx_iload_n 1 dX11_made_30 rfl rfl ?_
  refine jx_iadd dX11_made_31 ?_
  obtain ⟨hi11, h⟩ := h
  refine jx_iald dX11_made_32 hk7 hi11 ?_
  refine jx_callVi (M' := mX11_doesKnow) (As := [.int (ji S b6 (Int32.toNatClampNeg (9 + x1)))]) jo_X11_doesKnow jc_11 rfl jwM_X11_150 jwN_X11_doesKnow jwX_X11_doesKnow dX11_made_33 (jRok_m _ _ _) rfl (jle rfl) ⟨jle rfl, jle rfl⟩ hk5 h (fun r13 S12 h => ?_)
  refine jx_if_eq (tgt := 52) dX11_made_36 (by decide) (fun c14 => ?_) (fun c14 => ?_)
  · replace h := h.1 c14
    refine jx_iinc 1 (v := (x1 + 1)) (lv1 := [(1, .int (x1 + 1)), (0, .ref a0)]) kd70.1 rfl rfl (by decide) rfl ?_
    refine jx_goto (tgt := 12) kd70.2 (by decide) ?_
    exact jx_lv [1, 0] rfl h
  replace h := h.2 c14
  refine jx_aload_n 0 dX11_made_39 rfl rfl ?_
  refine jx_aload_n 0 dX11_made_40 rfl rfl ?_
  obtain ⟨hk15, h⟩ := h
  obtain ⟨b16, hb16, h⟩ := h
  refine jx_getr jc_11 (j := 0) (by decide) rfl jwF_X11_7 dX11_made_41 hk15 hb16 ?_
  refine jx_bipush (v := 9) dX11_made_44 (by decide) ?_
  refine jx_iload_n 1 dX11_made_46 rfl rfl ?_
  refine jx_iadd dX11_made_47 ?_
  obtain ⟨hk17, h⟩ := h
  obtain ⟨hi18, h⟩ := h
  refine jx_iald dX11_made_48 hk17 hi18 ?_
  refine jx_callVv (M' := mX11_uses) (As := [.int (ji S12 b16 (Int32.toNatClampNeg (9 + x1)))]) jo_X11_uses jc_11 rfl jwM_X11_167 jwN_X11_uses jwX_X11_uses dX11_made_49 (jRok_m _ _ _) rfl (jle rfl) ⟨jle rfl, jle rfl⟩ hk15 h (fun S19 h => ?_)
  refine jx_iinc 1 (v := (x1 + 1)) (lv1 := [(1, .int (x1 + 1)), (0, .ref a0)]) kd70.1 rfl rfl (by decide) rfl ?_
  refine jx_goto (tgt := 12) kd70.2 (by decide) ?_
  exact jx_lv [1, 0] rfl h
/-- X11_laysBy at its loop's head 2 -/
abbrev L_X11_laysBy_2 (E : jEnv) (d : Nat) (Q : jM → Prop) (a0 : Nat) (x1 : Int32) (S : jM) : Prop := jX E mX11_laysBy (jRm d 0 0) (jZm E (fun r S' => r = none ∧ Q S') 0 0) 2 [(0, .ref a0), (1, .int x1)] [] S 0 0
set_option maxRecDepth 100000 in
set_option maxHeartbeats 4000000 in
theorem T_X11_laysBy {E : jEnv} {d : Nat} {Q : jM → Prop} {a0 : Nat} {S : jM} (h : L_X11_laysBy_2 E d Q a0 0 S) : jFv E mX11_laysBy d 0 0 [.ref a0] S Q := by
  refine jF_of (by decide) (jle rfl) ?_
  refine jx_lv (lv1 := [(0, .ref a0)]) [0] rfl ?_
  refine jx_iconst (v := 0) dX11_laysBy_0 (by decide) ?_
  refine jx_istore_n (lv1 := [(1, .int 0), (0, .ref a0)]) dX11_laysBy_1 rfl (by decide) rfl ?_
  exact jx_lv [1, 0] rfl h
set_option maxRecDepth 100000 in
set_option maxHeartbeats 4000000 in
theorem T_X11_laysBy_2 {E : jEnv} {d : Nat} {Q : jM → Prop} {a0 : Nat} {x1 : Int32} {S : jM} (h : (135 ≤ x1 → Q S) ∧ (¬ 135 ≤ x1 → jk S a0 = 11 ∧ ∃ b3, jr S a0 13 = some b3 ∧ (∃ b4, jr S a0 0 = some b4 ∧ (jk S b4 = 12 ∧ vp_in x1 (jl S b4) ∧ (jk S b3 = 12 ∧ vp_in x1 (jl S b3) ∧ (L_X11_laysBy_2 E d Q a0 (x1 + 1) (jput S b3 (Int32.toNatClampNeg x1) (ji S b4 (Int32.toNatClampNeg x1))))))))) : L_X11_laysBy_2 E d Q a0 x1 S := by
  show jX E mX11_laysBy (jRm d 0 0) (jZm E (fun r S' => r = none ∧ Q S') 0 0) 2 [(0, .ref a0), (1, .int x1)] [] S 0 0
  refine jx_iload_n 1 dX11_laysBy_2 rfl rfl ?_
  refine jx_sipush (v := 135) dX11_laysBy_3 (by decide) ?_
  refine jx_icmp_ge (tgt := 27) dX11_laysBy_6 (by decide) (fun c1 => ?_) (fun c1 => ?_)
  · replace h := h.1 c1
    exact jx_vret dX11_laysBy_27 rfl (jle rfl) (jle rfl) ⟨rfl, h⟩
  replace h := h.2 c1
  refine jx_aload_n 0 dX11_laysBy_9 rfl rfl ?_
  obtain ⟨hk2, h⟩ := h
  obtain ⟨b3, hb3, h⟩ := h
  refine jx_getr jc_11 (j := 13) (by decide) rfl jwF_X11_46 dX11_laysBy_10 hk2 hb3 ?_
  refine jx_iload_n 1 dX11_laysBy_13 rfl rfl ?_
  refine jx_aload_n 0 dX11_laysBy_14 rfl rfl ?_
  obtain ⟨b4, hb4, h⟩ := h
  refine jx_getr jc_11 (j := 0) (by decide) rfl jwF_X11_7 dX11_laysBy_15 hk2 hb4 ?_
  refine jx_iload_n 1 dX11_laysBy_18 rfl rfl ?_
  obtain ⟨hk5, h⟩ := h
  obtain ⟨hi6, h⟩ := h
  refine jx_iald dX11_laysBy_19 hk5 hi6 ?_
  obtain ⟨hk7, h⟩ := h
  obtain ⟨hi8, h⟩ := h
  refine jx_iast dX11_laysBy_20 hk7 hi8 ?_
  refine jx_iinc 1 (v := (x1 + 1)) (lv1 := [(1, .int (x1 + 1)), (0, .ref a0)]) kd71.1 rfl rfl (by decide) rfl ?_
  refine jx_goto (tgt := 2) kd71.2 (by decide) ?_
  exact jx_lv [1, 0] rfl h
/-- X11_laysBack at its loop's head 2 -/
abbrev L_X11_laysBack_2 (E : jEnv) (d : Nat) (Q : jM → Prop) (a0 : Nat) (x1 : Int32) (S : jM) : Prop := jX E mX11_laysBack (jRm d 0 0) (jZm E (fun r S' => r = none ∧ Q S') 0 0) 2 [(0, .ref a0), (1, .int x1)] [] S 0 0
set_option maxRecDepth 100000 in
set_option maxHeartbeats 4000000 in
theorem T_X11_laysBack {E : jEnv} {d : Nat} {Q : jM → Prop} {a0 : Nat} {S : jM} (h : L_X11_laysBack_2 E d Q a0 0 S) : jFv E mX11_laysBack d 0 0 [.ref a0] S Q := by
  refine jF_of (by decide) (jle rfl) ?_
  refine jx_lv (lv1 := [(0, .ref a0)]) [0] rfl ?_
  refine jx_iconst (v := 0) dX11_laysBack_0 (by decide) ?_
  refine jx_istore_n (lv1 := [(1, .int 0), (0, .ref a0)]) dX11_laysBack_1 rfl (by decide) rfl ?_
  exact jx_lv [1, 0] rfl h
set_option maxRecDepth 100000 in
set_option maxHeartbeats 4000000 in
theorem T_X11_laysBack_2 {E : jEnv} {d : Nat} {Q : jM → Prop} {a0 : Nat} {x1 : Int32} {S : jM} (h : (135 ≤ x1 → Q S) ∧ (¬ 135 ≤ x1 → jk S a0 = 11 ∧ ∃ b3, jr S a0 0 = some b3 ∧ (∃ b4, jr S a0 13 = some b4 ∧ (jk S b4 = 12 ∧ vp_in x1 (jl S b4) ∧ (jk S b3 = 12 ∧ vp_in x1 (jl S b3) ∧ (L_X11_laysBack_2 E d Q a0 (x1 + 1) (jput S b3 (Int32.toNatClampNeg x1) (ji S b4 (Int32.toNatClampNeg x1))))))))) : L_X11_laysBack_2 E d Q a0 x1 S := by
  show jX E mX11_laysBack (jRm d 0 0) (jZm E (fun r S' => r = none ∧ Q S') 0 0) 2 [(0, .ref a0), (1, .int x1)] [] S 0 0
  refine jx_iload_n 1 dX11_laysBack_2 rfl rfl ?_
  refine jx_sipush (v := 135) dX11_laysBack_3 (by decide) ?_
  refine jx_icmp_ge (tgt := 27) dX11_laysBack_6 (by decide) (fun c1 => ?_) (fun c1 => ?_)
  · replace h := h.1 c1
    exact jx_vret dX11_laysBack_27 rfl (jle rfl) (jle rfl) ⟨rfl, h⟩
  replace h := h.2 c1
  refine jx_aload_n 0 dX11_laysBack_9 rfl rfl ?_
  obtain ⟨hk2, h⟩ := h
  obtain ⟨b3, hb3, h⟩ := h
  refine jx_getr jc_11 (j := 0) (by decide) rfl jwF_X11_7 dX11_laysBack_10 hk2 hb3 ?_
  refine jx_iload_n 1 dX11_laysBack_13 rfl rfl ?_
  refine jx_aload_n 0 dX11_laysBack_14 rfl rfl ?_
  obtain ⟨b4, hb4, h⟩ := h
  refine jx_getr jc_11 (j := 13) (by decide) rfl jwF_X11_46 dX11_laysBack_15 hk2 hb4 ?_
  refine jx_iload_n 1 dX11_laysBack_18 rfl rfl ?_
  obtain ⟨hk5, h⟩ := h
  obtain ⟨hi6, h⟩ := h
  refine jx_iald dX11_laysBack_19 hk5 hi6 ?_
  obtain ⟨hk7, h⟩ := h
  obtain ⟨hi8, h⟩ := h
  refine jx_iast dX11_laysBack_20 hk7 hi8 ?_
  refine jx_iinc 1 (v := (x1 + 1)) (lv1 := [(1, .int (x1 + 1)), (0, .ref a0)]) kd72.1 rfl rfl (by decide) rfl ?_
  refine jx_goto (tgt := 2) kd72.2 (by decide) ?_
  exact jx_lv [1, 0] rfl h
/-- X11_goesWay at its loop's head 4 -/
abbrev L_X11_goesWay_4 (E : jEnv) (d : Nat) (Q : Int32 → jM → Prop) (a0 : Nat) (x1 : Int32) (x2 : Int32) (S : jM) : Prop := jX E mX11_goesWay (jRm (d + 1) 0 0) (jZm E (fun r S' => ∃ v : Int32, r = some (.int v) ∧ Q v S') 0 0) 4 [(0, .ref a0), (1, .int x1), (2, .int x2)] [] S 0 0
set_option maxRecDepth 100000 in
set_option maxHeartbeats 4000000 in
theorem T_X11_goesWay {E : jEnv} {d : Nat} {Q : Int32 → jM → Prop} {a0 : Nat} {S : jM} (h : L_X11_goesWay_4 E d Q a0 0 0 S) : jFi E mX11_goesWay (d + 1) 0 0 [.ref a0] S Q := by
  refine jF_of (by decide) (jle rfl) ?_
  refine jx_lv (lv1 := [(0, .ref a0)]) [0] rfl ?_
  refine jx_iconst (v := 0) dX11_goesWay_0 (by decide) ?_
  refine jx_istore_n (lv1 := [(1, .int 0), (0, .ref a0)]) dX11_goesWay_1 rfl (by decide) rfl ?_
  refine jx_iconst (v := 0) dX11_goesWay_2 (by decide) ?_
  refine jx_istore_n (lv1 := [(2, .int 0), (1, .int 0), (0, .ref a0)]) dX11_goesWay_3 rfl (by decide) rfl ?_
  exact jx_lv [2, 1, 0] rfl h
set_option maxRecDepth 100000 in
set_option maxHeartbeats 4000000 in
theorem T_X11_goesWay_4 {E : jEnv} {d : Nat} {Q : Int32 → jM → Prop} {a0 : Nat} {x1 : Int32} {x2 : Int32} {S : jM} (h : (4 ≤ x2 → Q 3 S) ∧ (¬ 4 ≤ x2 → jk S a0 = 11 ∧ ∃ b3, jr S a0 14 = some b3 ∧ (jk S b3 = 12 ∧ vp_in x2 (jl S b3) ∧ (∃ b6, jr S a0 12 = some b6 ∧ (∃ b7, jr S a0 0 = some b7 ∧ (jk S b7 = 12 ∧ vp_in 3 (jl S b7) ∧ (jFi E mX11_of d 0 0 [.ref a0, .int (ji S b3 (Int32.toNatClampNeg x2)), .int 1] S (fun r11 S10 => jk S10 b6 = 12 ∧ vp_in ((6 * (ji S b7 (Int32.toNatClampNeg 3))) + r11) (jl S10 b6) ∧ (((ji S10 b6 (Int32.toNatClampNeg ((6 * (ji S b7 (Int32.toNatClampNeg 3))) + r11))) = 9999 → Q x2 S10) ∧ (¬ (ji S10 b6 (Int32.toNatClampNeg ((6 * (ji S b7 (Int32.toNatClampNeg 3))) + r11))) = 9999 → jk S10 a0 = 11 ∧ jFv E mX11_goesBy d 0 0 [.ref a0, .int (ji S10 b6 (Int32.toNatClampNeg ((6 * (ji S b7 (Int32.toNatClampNeg 3))) + r11)))] S10 (fun S16 => jk S16 a0 = 11 ∧ ∃ b18, jr S16 a0 0 = some b18 ∧ (jFi E mX11_of d 0 0 [.ref a0, .int (ji S b3 (Int32.toNatClampNeg x2)), .int 1] S16 (fun r20 S19 => jk S19 b18 = 12 ∧ vp_in 3 (jl S19 b18) ∧ (jk S19 a0 = 11 ∧ jFi E mX11_canLearn d 0 0 [.ref a0, .int (ji S b3 (Int32.toNatClampNeg x2))] (jput S19 b18 (Int32.toNatClampNeg 3) r20) (fun r25 S24 => (r25 = 0 → Q x2 S24) ∧ (¬ r25 = 0 → jk S24 a0 = 11 ∧ jFi E mX11_learns d 0 0 [.ref a0, .int (ji S b3 (Int32.toNatClampNeg x2))] S24 (fun r29 S28 => ∀ y30 : Int32, y30 = (x1 + ((ji S10 b6 (Int32.toNatClampNeg ((6 * (ji S b7 (Int32.toNatClampNeg 3))) + r11))) + r29)) → jk S28 a0 = 11 ∧ jFi E mX11_can d 0 0 [.ref a0] S28 (fun r33 S32 => (r33 = 0 → L_X11_goesWay_4 E d Q a0 y30 (x2 + 1) S32) ∧ (¬ r33 = 0 → jk S32 a0 = 11 ∧ ∃ b36, jr S32 a0 13 = some b36 ∧ (jk S32 b36 = 12 ∧ vp_in 5 (jl S32 b36) ∧ (∃ b39, jr S32 a0 0 = some b39 ∧ (jk S32 b39 = 12 ∧ vp_in 5 (jl S32 b39) ∧ (((ji S32 a0 15) < 0 → ∃ b43, jr S32 a0 14 = some b43 ∧ (jk S32 b43 = 12 ∧ vp_in 0 (jl S32 b43) ∧ (Q x2 (jput (jput (jput S32 a0 15 y30) a0 16 ((ji S32 b36 (Int32.toNatClampNeg 5)) - (ji S32 b39 (Int32.toNatClampNeg 5)))) a0 17 (ji S32 b43 (Int32.toNatClampNeg 0)))))) ∧ (¬ (ji S32 a0 15) < 0 → (y30 < (ji S32 a0 15) → ∃ b47, jr S32 a0 14 = some b47 ∧ (jk S32 b47 = 12 ∧ vp_in 0 (jl S32 b47) ∧ (Q x2 (jput (jput (jput S32 a0 15 y30) a0 16 ((ji S32 b36 (Int32.toNatClampNeg 5)) - (ji S32 b39 (Int32.toNatClampNeg 5)))) a0 17 (ji S32 b47 (Int32.toNatClampNeg 0)))))) ∧ (¬ y30 < (ji S32 a0 15) → (y30 = (ji S32 a0 15) → (((ji S32 b36 (Int32.toNatClampNeg 5)) - (ji S32 b39 (Int32.toNatClampNeg 5))) < (ji S32 a0 16) → ∃ b52, jr S32 a0 14 = some b52 ∧ (jk S32 b52 = 12 ∧ vp_in 0 (jl S32 b52) ∧ (Q x2 (jput (jput (jput S32 a0 15 y30) a0 16 ((ji S32 b36 (Int32.toNatClampNeg 5)) - (ji S32 b39 (Int32.toNatClampNeg 5)))) a0 17 (ji S32 b52 (Int32.toNatClampNeg 0)))))) ∧ (¬ ((ji S32 b36 (Int32.toNatClampNeg 5)) - (ji S32 b39 (Int32.toNatClampNeg 5))) < (ji S32 a0 16) → (((ji S32 b36 (Int32.toNatClampNeg 5)) - (ji S32 b39 (Int32.toNatClampNeg 5))) = (ji S32 a0 16) → ∃ b56, jr S32 a0 14 = some b56 ∧ (jk S32 b56 = 12 ∧ vp_in 0 (jl S32 b56) ∧ (((ji S32 a0 17) ≤ (ji S32 b56 (Int32.toNatClampNeg 0)) → Q x2 (jput (jput (jput S32 a0 15 (ji S32 a0 15)) a0 16 (ji S32 a0 16)) a0 17 (ji S32 a0 17))) ∧ (¬ (ji S32 a0 17) ≤ (ji S32 b56 (Int32.toNatClampNeg 0)) → (Q x2 (jput (jput (jput S32 a0 15 y30) a0 16 ((ji S32 b36 (Int32.toNatClampNeg 5)) - (ji S32 b39 (Int32.toNatClampNeg 5)))) a0 17 (ji S32 b56 (Int32.toNatClampNeg 0)))))))) ∧ (¬ ((ji S32 b36 (Int32.toNatClampNeg 5)) - (ji S32 b39 (Int32.toNatClampNeg 5))) = (ji S32 a0 16) → Q x2 (jput (jput (jput S32 a0 15 (ji S32 a0 15)) a0 16 (ji S32 a0 16)) a0 17 (ji S32 a0 17))))) ∧ (¬ y30 = (ji S32 a0 15) → Q x2 (jput (jput (jput S32 a0 15 (ji S32 a0 15)) a0 16 (ji S32 a0 16)) a0 17 (ji S32 a0 17)))))))))))))))))))))))))))) : L_X11_goesWay_4 E d Q a0 x1 x2 S := by
  show jX E mX11_goesWay (jRm (d + 1) 0 0) (jZm E (fun r S' => ∃ v : Int32, r = some (.int v) ∧ Q v S') 0 0) 4 [(0, .ref a0), (1, .int x1), (2, .int x2)] [] S 0 0
  refine jx_iload_n 2 dX11_goesWay_4 rfl rfl ?_
  refine jx_iconst (v := 4) dX11_goesWay_5 (by decide) ?_
  refine jx_icmp_ge (tgt := 236) dX11_goesWay_6 (by decide) (fun c1 => ?_) (fun c1 => ?_)
  · replace h := h.1 c1
    refine jx_iconst (v := 3) dX11_goesWay_236 (by decide) ?_
    exact jx_iret dX11_goesWay_237 rfl rfl (jle rfl) (jle rfl) ⟨_, rfl, h⟩
  replace h := h.2 c1
  refine jx_aload_n 0 dX11_goesWay_9 rfl rfl ?_
  obtain ⟨hk2, h⟩ := h
  obtain ⟨b3, hb3, h⟩ := h
  refine jx_getr jc_11 (j := 14) (by decide) rfl jwF_X11_49 dX11_goesWay_10 hk2 hb3 ?_
  refine jx_iload_n 2 dX11_goesWay_13 rfl rfl ?_
  obtain ⟨hk4, h⟩ := h
  obtain ⟨hi5, h⟩ := h
  refine jx_iald dX11_goesWay_14 hk4 hi5 ?_
  refine jx_istore_n (lv1 := [(3, .int (ji S b3 (Int32.toNatClampNeg x2))), (0, .ref a0), (1, .int x1), (2, .int x2)]) dX11_goesWay_15 rfl (by decide) rfl ?_
  refine jx_aload_n 1 dX11_goesWay_16 rfl rfl ?_
  obtain ⟨b6, hb6, h⟩ := h
  refine jx_getr jc_11 (j := 12) (by decide) rfl jwF_X11_43 dX11_goesWay_17 hk2 hb6 ?_
  refine jx_bipush (v := 6) dX11_goesWay_20 (by decide) ?_
  refine jx_aload_n 1 dX11_goesWay_22 rfl rfl ?_
  obtain ⟨b7, hb7, h⟩ := h
  refine jx_getr jc_11 (j := 0) (by decide) rfl jwF_X11_7 dX11_goesWay_23 hk2 hb7 ?_
  refine jx_iconst (v := 3) dX11_goesWay_26 (by decide) ?_
  obtain ⟨hk8, h⟩ := h
  obtain ⟨hi9, h⟩ := h
  refine jx_iald dX11_goesWay_27 hk8 hi9 ?_
  refine jx_imul dX11_goesWay_28 ?_
  refine jx_aload_n 1 dX11_goesWay_29 rfl rfl ?_
  refine jx_iload_n 0 dX11_goesWay_30 rfl rfl ?_
  refine jx_iconst (v := 1) dX11_goesWay_31 (by decide) ?_
  refine jx_callVi (M' := mX11_of) (As := [.int (ji S b3 (Int32.toNatClampNeg x2)), .int 1]) jo_X11_of jc_11 rfl jwM_X11_97 jwN_X11_of jwX_X11_of dX11_goesWay_32 (jRok_m _ _ _) rfl (jle rfl) ⟨jle rfl, jle rfl⟩ hk2 h (fun r11 S10 h => ?_)
  refine jx_iadd dX11_goesWay_35 ?_
  obtain ⟨hk12, h⟩ := h
  obtain ⟨hi13, h⟩ := h
  refine jx_iald dX11_goesWay_36 hk12 hi13 ?_
  refine jx_istore (lv1 := [(4, .int (ji S10 b6 (Int32.toNatClampNeg ((6 * (ji S b7 (Int32.toNatClampNeg 3))) + r11)))), (3, .int (ji S b3 (Int32.toNatClampNeg x2))), (0, .ref a0), (1, .int x1), (2, .int x2)]) dX11_goesWay_37 (by decide) rfl ?_
  refine jx_iload 0 dX11_goesWay_39 rfl ?_
  refine jx_sipush (v := 9999) dX11_goesWay_41 (by decide) ?_
  refine jx_icmp_ne (tgt := 49) dX11_goesWay_44 (by decide) (fun c14 => ?_) (fun c14 => ?_)
  · replace h := h.2 c14
    refine jx_aload_n 2 dX11_goesWay_49 rfl rfl ?_
    refine jx_iload 0 dX11_goesWay_50 rfl ?_
    obtain ⟨hk15, h⟩ := h
    refine jx_callVv (M' := mX11_goesBy) (As := [.int (ji S10 b6 (Int32.toNatClampNeg ((6 * (ji S b7 (Int32.toNatClampNeg 3))) + r11)))]) jo_X11_goesBy jc_11 rfl jwM_X11_154 jwN_X11_goesBy jwX_X11_goesBy dX11_goesWay_52 (jRok_m _ _ _) rfl (jle rfl) ⟨jle rfl, jle rfl⟩ hk15 h (fun S16 h => ?_)
    refine jx_aload_n 2 dX11_goesWay_55 rfl rfl ?_
    obtain ⟨hk17, h⟩ := h
    obtain ⟨b18, hb18, h⟩ := h
    refine jx_getr jc_11 (j := 0) (by decide) rfl jwF_X11_7 dX11_goesWay_56 hk17 hb18 ?_
    refine jx_iconst (v := 3) dX11_goesWay_59 (by decide) ?_
    refine jx_aload_n 2 dX11_goesWay_60 rfl rfl ?_
    refine jx_iload_n 1 dX11_goesWay_61 rfl rfl ?_
    refine jx_iconst (v := 1) dX11_goesWay_62 (by decide) ?_
    refine jx_callVi (M' := mX11_of) (As := [.int (ji S b3 (Int32.toNatClampNeg x2)), .int 1]) jo_X11_of jc_11 rfl jwM_X11_97 jwN_X11_of jwX_X11_of dX11_goesWay_63 (jRok_m _ _ _) rfl (jle rfl) ⟨jle rfl, jle rfl⟩ hk17 h (fun r20 S19 h => ?_)
    obtain ⟨hk21, h⟩ := h
    obtain ⟨hi22, h⟩ := h
    refine jx_iast dX11_goesWay_66 hk21 hi22 ?_
    refine jx_aload_n 2 dX11_goesWay_67 rfl rfl ?_
    refine jx_iload_n 1 dX11_goesWay_68 rfl rfl ?_
    obtain ⟨hk23, h⟩ := h
    refine jx_callVi (M' := mX11_canLearn) (As := [.int (ji S b3 (Int32.toNatClampNeg x2))]) jo_X11_canLearn jc_11 rfl jwM_X11_161 jwN_X11_canLearn jwX_X11_canLearn dX11_goesWay_69 (jRok_m _ _ _) rfl (jle rfl) ⟨jle rfl, jle rfl⟩ hk23 h (fun r25 S24 h => ?_)
    refine jx_if_ne (tgt := 77) dX11_goesWay_72 (by decide) (fun c26 => ?_) (fun c26 => ?_)
    · replace h := h.2 c26
      refine jx_iload_n 3 dX11_goesWay_77 rfl rfl ?_
      refine jx_iload 0 dX11_goesWay_78 rfl ?_
      refine jx_aload_n 2 dX11_goesWay_80 rfl rfl ?_
      refine jx_iload_n 1 dX11_goesWay_81 rfl rfl ?_
      obtain ⟨hk27, h⟩ := h
      refine jx_callVi (M' := mX11_learns) (As := [.int (ji S b3 (Int32.toNatClampNeg x2))]) jo_X11_learns jc_11 rfl jwM_X11_164 jwN_X11_learns jwX_X11_learns dX11_goesWay_82 (jRok_m _ _ _) rfl (jle rfl) ⟨jle rfl, jle rfl⟩ hk27 h (fun r29 S28 h => ?_)
      refine jx_iadd dX11_goesWay_85 ?_
      refine jx_iadd dX11_goesWay_86 ?_
      refine jx_nm (fun y30 ey30 => ?_)
      replace h := h y30 ey30
      refine jx_istore_n (lv1 := [(1, .int y30), (4, .int (ji S10 b6 (Int32.toNatClampNeg ((6 * (ji S b7 (Int32.toNatClampNeg 3))) + r11)))), (3, .int (ji S b3 (Int32.toNatClampNeg x2))), (0, .ref a0), (2, .int x2)]) dX11_goesWay_87 rfl (by decide) rfl ?_
      refine jx_aload_n 3 dX11_goesWay_88 rfl rfl ?_
      obtain ⟨hk31, h⟩ := h
      refine jx_callVi (M' := mX11_can) (As := []) jo_X11_can jc_11 rfl jwM_X11_172 jwN_X11_can jwX_X11_can dX11_goesWay_89 (jRok_m _ _ _) rfl (jle rfl) ⟨jle rfl, jle rfl⟩ hk31 h (fun r33 S32 h => ?_)
      refine jx_if_eq (tgt := 230) dX11_goesWay_92 (by decide) (fun c34 => ?_) (fun c34 => ?_)
      · replace h := h.1 c34
        refine jx_iinc 4 (v := (x2 + 1)) (lv1 := [(2, .int (x2 + 1)), (1, .int y30), (4, .int (ji S10 b6 (Int32.toNatClampNeg ((6 * (ji S b7 (Int32.toNatClampNeg 3))) + r11)))), (3, .int (ji S b3 (Int32.toNatClampNeg x2))), (0, .ref a0)]) kd73.1 rfl rfl (by decide) rfl ?_
        refine jx_goto (tgt := 4) kd73.2 (by decide) ?_
        exact jx_lv [4, 1, 0] rfl h
      replace h := h.2 c34
      refine jx_aload_n 3 dX11_goesWay_95 rfl rfl ?_
      obtain ⟨hk35, h⟩ := h
      obtain ⟨b36, hb36, h⟩ := h
      refine jx_getr jc_11 (j := 13) (by decide) rfl jwF_X11_46 dX11_goesWay_96 hk35 hb36 ?_
      refine jx_iconst (v := 5) dX11_goesWay_99 (by decide) ?_
      obtain ⟨hk37, h⟩ := h
      obtain ⟨hi38, h⟩ := h
      refine jx_iald dX11_goesWay_100 hk37 hi38 ?_
      refine jx_aload_n 3 dX11_goesWay_101 rfl rfl ?_
      obtain ⟨b39, hb39, h⟩ := h
      refine jx_getr jc_11 (j := 0) (by decide) rfl jwF_X11_7 dX11_goesWay_102 hk35 hb39 ?_
      refine jx_iconst (v := 5) dX11_goesWay_105 (by decide) ?_
      obtain ⟨hk40, h⟩ := h
      obtain ⟨hi41, h⟩ := h
      refine jx_iald dX11_goesWay_106 hk40 hi41 ?_
      refine jx_isub dX11_goesWay_107 ?_
      refine jx_istore (lv1 := [(5, .int ((ji S32 b36 (Int32.toNatClampNeg 5)) - (ji S32 b39 (Int32.toNatClampNeg 5)))), (1, .int y30), (4, .int (ji S10 b6 (Int32.toNatClampNeg ((6 * (ji S b7 (Int32.toNatClampNeg 3))) + r11)))), (3, .int (ji S b3 (Int32.toNatClampNeg x2))), (0, .ref a0), (2, .int x2)]) dX11_goesWay_108 (by decide) rfl ?_
      refine jx_aload_n 4 dX11_goesWay_110 rfl rfl ?_
      refine jx_geti jc_11 (j := 15) (by decide) rfl jwF_X11_176 dX11_goesWay_111 hk35 ?_
      refine jx_if_lt (tgt := 164) dX11_goesWay_114 (by decide) (fun c42 => ?_) (fun c42 => ?_)
      · replace h := h.1 c42
        refine jx_iconst (v := 1) dX11_goesWay_164 (by decide) ?_
        refine jx_goto (tgt := 169) dX11_goesWay_165 (by decide) ?_
        refine jx_istore (lv1 := [(6, .int 1), (5, .int ((ji S32 b36 (Int32.toNatClampNeg 5)) - (ji S32 b39 (Int32.toNatClampNeg 5)))), (1, .int y30), (4, .int (ji S10 b6 (Int32.toNatClampNeg ((6 * (ji S b7 (Int32.toNatClampNeg 3))) + r11)))), (3, .int (ji S b3 (Int32.toNatClampNeg x2))), (0, .ref a0), (2, .int x2)]) dX11_goesWay_169 (by decide) rfl ?_
        refine jx_aload_n 5 dX11_goesWay_171 rfl rfl ?_
        refine jx_iload 0 dX11_goesWay_172 rfl ?_
        refine jx_if_eq (tgt := 181) dX11_goesWay_174 (by decide) (fun z9 => absurd z9 (by decide)) (fun _ => ?_)
        refine jx_iload_n 2 dX11_goesWay_177 rfl rfl ?_
        refine jx_goto (tgt := 185) dX11_goesWay_178 (by decide) ?_
        refine jx_puti jc_11 (j := 15) (by decide) rfl jwF_X11_176 rfl rfl rfl dX11_goesWay_185 hk35 ?_
        refine jx_aload_n 5 dX11_goesWay_188 rfl rfl ?_
        refine jx_iload 0 dX11_goesWay_189 rfl ?_
        refine jx_if_eq (tgt := 199) dX11_goesWay_191 (by decide) (fun z9 => absurd z9 (by decide)) (fun _ => ?_)
        refine jx_iload 1 dX11_goesWay_194 rfl ?_
        refine jx_goto (tgt := 203) dX11_goesWay_196 (by decide) ?_
        refine jx_puti jc_11 (j := 16) (by decide) rfl jwF_X11_180 rfl rfl rfl dX11_goesWay_203 hk35 ?_
        refine jx_aload_n 5 dX11_goesWay_206 rfl rfl ?_
        refine jx_iload 0 dX11_goesWay_207 rfl ?_
        refine jx_if_eq (tgt := 221) dX11_goesWay_209 (by decide) (fun z9 => absurd z9 (by decide)) (fun _ => ?_)
        refine jx_aload_n 5 dX11_goesWay_212 rfl rfl ?_
        obtain ⟨b43, hb43, h⟩ := h
        refine jx_getr jc_11 (j := 14) (by decide) rfl jwF_X11_49 dX11_goesWay_213 hk35 hb43 ?_
        refine jx_iconst (v := 0) dX11_goesWay_216 (by decide) ?_
        obtain ⟨hk44, h⟩ := h
        obtain ⟨hi45, h⟩ := h
        refine jx_iald dX11_goesWay_217 hk44 hi45 ?_
        refine jx_topi (y := (ji S32 b43 (Int32.toNatClampNeg 0))) (by simp [ji_put, ji_row, ji_putr, jne hk44 hk35 (by decide), jne hk44 hk35 (by decide)]) ?_
        refine jx_goto (tgt := 225) dX11_goesWay_218 (by decide) ?_
        refine jx_puti jc_11 (j := 17) (by decide) rfl jwF_X11_183 rfl rfl rfl dX11_goesWay_225 hk35 ?_
        refine jx_iload_n 6 dX11_goesWay_228 rfl rfl ?_
        exact jx_iret dX11_goesWay_229 rfl rfl (jle rfl) (jle rfl) ⟨_, rfl, h⟩
      replace h := h.2 c42
      refine jx_iload_n 1 dX11_goesWay_117 rfl rfl ?_
      refine jx_aload_n 4 dX11_goesWay_118 rfl rfl ?_
      refine jx_geti jc_11 (j := 15) (by decide) rfl jwF_X11_176 dX11_goesWay_119 hk35 ?_
      refine jx_icmp_lt (tgt := 164) dX11_goesWay_122 (by decide) (fun c46 => ?_) (fun c46 => ?_)
      · replace h := h.1 c46
        refine jx_iconst (v := 1) dX11_goesWay_164 (by decide) ?_
        refine jx_goto (tgt := 169) dX11_goesWay_165 (by decide) ?_
        refine jx_istore (lv1 := [(6, .int 1), (5, .int ((ji S32 b36 (Int32.toNatClampNeg 5)) - (ji S32 b39 (Int32.toNatClampNeg 5)))), (1, .int y30), (4, .int (ji S10 b6 (Int32.toNatClampNeg ((6 * (ji S b7 (Int32.toNatClampNeg 3))) + r11)))), (3, .int (ji S b3 (Int32.toNatClampNeg x2))), (0, .ref a0), (2, .int x2)]) dX11_goesWay_169 (by decide) rfl ?_
        refine jx_aload_n 5 dX11_goesWay_171 rfl rfl ?_
        refine jx_iload 0 dX11_goesWay_172 rfl ?_
        refine jx_if_eq (tgt := 181) dX11_goesWay_174 (by decide) (fun z9 => absurd z9 (by decide)) (fun _ => ?_)
        refine jx_iload_n 2 dX11_goesWay_177 rfl rfl ?_
        refine jx_goto (tgt := 185) dX11_goesWay_178 (by decide) ?_
        refine jx_puti jc_11 (j := 15) (by decide) rfl jwF_X11_176 rfl rfl rfl dX11_goesWay_185 hk35 ?_
        refine jx_aload_n 5 dX11_goesWay_188 rfl rfl ?_
        refine jx_iload 0 dX11_goesWay_189 rfl ?_
        refine jx_if_eq (tgt := 199) dX11_goesWay_191 (by decide) (fun z9 => absurd z9 (by decide)) (fun _ => ?_)
        refine jx_iload 1 dX11_goesWay_194 rfl ?_
        refine jx_goto (tgt := 203) dX11_goesWay_196 (by decide) ?_
        refine jx_puti jc_11 (j := 16) (by decide) rfl jwF_X11_180 rfl rfl rfl dX11_goesWay_203 hk35 ?_
        refine jx_aload_n 5 dX11_goesWay_206 rfl rfl ?_
        refine jx_iload 0 dX11_goesWay_207 rfl ?_
        refine jx_if_eq (tgt := 221) dX11_goesWay_209 (by decide) (fun z9 => absurd z9 (by decide)) (fun _ => ?_)
        refine jx_aload_n 5 dX11_goesWay_212 rfl rfl ?_
        obtain ⟨b47, hb47, h⟩ := h
        refine jx_getr jc_11 (j := 14) (by decide) rfl jwF_X11_49 dX11_goesWay_213 hk35 hb47 ?_
        refine jx_iconst (v := 0) dX11_goesWay_216 (by decide) ?_
        obtain ⟨hk48, h⟩ := h
        obtain ⟨hi49, h⟩ := h
        refine jx_iald dX11_goesWay_217 hk48 hi49 ?_
        refine jx_topi (y := (ji S32 b47 (Int32.toNatClampNeg 0))) (by simp [ji_put, ji_row, ji_putr, jne hk48 hk35 (by decide), jne hk48 hk35 (by decide)]) ?_
        refine jx_goto (tgt := 225) dX11_goesWay_218 (by decide) ?_
        refine jx_puti jc_11 (j := 17) (by decide) rfl jwF_X11_183 rfl rfl rfl dX11_goesWay_225 hk35 ?_
        refine jx_iload_n 6 dX11_goesWay_228 rfl rfl ?_
        exact jx_iret dX11_goesWay_229 rfl rfl (jle rfl) (jle rfl) ⟨_, rfl, h⟩
      replace h := h.2 c46
      refine jx_iload_n 1 dX11_goesWay_125 rfl rfl ?_
      refine jx_aload_n 4 dX11_goesWay_126 rfl rfl ?_
      refine jx_geti jc_11 (j := 15) (by decide) rfl jwF_X11_176 dX11_goesWay_127 hk35 ?_
      refine jx_icmp_ne (tgt := 168) dX11_goesWay_130 (by decide) (fun c50 => ?_) (fun c50 => ?_)
      · replace h := h.2 c50
        refine jx_iconst (v := 0) dX11_goesWay_168 (by decide) ?_
        refine jx_istore (lv1 := [(6, .int 0), (5, .int ((ji S32 b36 (Int32.toNatClampNeg 5)) - (ji S32 b39 (Int32.toNatClampNeg 5)))), (1, .int y30), (4, .int (ji S10 b6 (Int32.toNatClampNeg ((6 * (ji S b7 (Int32.toNatClampNeg 3))) + r11)))), (3, .int (ji S b3 (Int32.toNatClampNeg x2))), (0, .ref a0), (2, .int x2)]) dX11_goesWay_169 (by decide) rfl ?_
        refine jx_aload_n 5 dX11_goesWay_171 rfl rfl ?_
        refine jx_iload 0 dX11_goesWay_172 rfl ?_
        refine jx_if_eq (tgt := 181) dX11_goesWay_174 (by decide) (fun _ => ?_) (fun z9 => absurd z9 (by decide))
        refine jx_aload_n 5 dX11_goesWay_181 rfl rfl ?_
        refine jx_geti jc_11 (j := 15) (by decide) rfl jwF_X11_176 dX11_goesWay_182 hk35 ?_
        refine jx_puti jc_11 (j := 15) (by decide) rfl jwF_X11_176 rfl rfl rfl dX11_goesWay_185 hk35 ?_
        refine jx_aload_n 5 dX11_goesWay_188 rfl rfl ?_
        refine jx_iload 0 dX11_goesWay_189 rfl ?_
        refine jx_if_eq (tgt := 199) dX11_goesWay_191 (by decide) (fun _ => ?_) (fun z9 => absurd z9 (by decide))
        refine jx_aload_n 5 dX11_goesWay_199 rfl rfl ?_
        refine jx_geti jc_11 (j := 16) (by decide) rfl jwF_X11_180 dX11_goesWay_200 hk35 ?_
        refine jx_topi (y := (ji S32 a0 16)) (by simp [ji_put, ji_row, ji_putr]) ?_
        refine jx_puti jc_11 (j := 16) (by decide) rfl jwF_X11_180 rfl rfl rfl dX11_goesWay_203 hk35 ?_
        refine jx_aload_n 5 dX11_goesWay_206 rfl rfl ?_
        refine jx_iload 0 dX11_goesWay_207 rfl ?_
        refine jx_if_eq (tgt := 221) dX11_goesWay_209 (by decide) (fun _ => ?_) (fun z9 => absurd z9 (by decide))
        refine jx_aload_n 5 dX11_goesWay_221 rfl rfl ?_
        refine jx_geti jc_11 (j := 17) (by decide) rfl jwF_X11_183 dX11_goesWay_222 hk35 ?_
        refine jx_topi (y := (ji S32 a0 17)) (by simp [ji_put, ji_row, ji_putr]) ?_
        refine jx_puti jc_11 (j := 17) (by decide) rfl jwF_X11_183 rfl rfl rfl dX11_goesWay_225 hk35 ?_
        refine jx_iload_n 6 dX11_goesWay_228 rfl rfl ?_
        exact jx_iret dX11_goesWay_229 rfl rfl (jle rfl) (jle rfl) ⟨_, rfl, h⟩
      replace h := h.1 c50
      refine jx_iload 0 dX11_goesWay_133 rfl ?_
      refine jx_aload_n 4 dX11_goesWay_135 rfl rfl ?_
      refine jx_geti jc_11 (j := 16) (by decide) rfl jwF_X11_180 dX11_goesWay_136 hk35 ?_
      refine jx_icmp_lt (tgt := 164) dX11_goesWay_139 (by decide) (fun c51 => ?_) (fun c51 => ?_)
      · replace h := h.1 c51
        refine jx_iconst (v := 1) dX11_goesWay_164 (by decide) ?_
        refine jx_goto (tgt := 169) dX11_goesWay_165 (by decide) ?_
        refine jx_istore (lv1 := [(6, .int 1), (5, .int ((ji S32 b36 (Int32.toNatClampNeg 5)) - (ji S32 b39 (Int32.toNatClampNeg 5)))), (1, .int y30), (4, .int (ji S10 b6 (Int32.toNatClampNeg ((6 * (ji S b7 (Int32.toNatClampNeg 3))) + r11)))), (3, .int (ji S b3 (Int32.toNatClampNeg x2))), (0, .ref a0), (2, .int x2)]) dX11_goesWay_169 (by decide) rfl ?_
        refine jx_aload_n 5 dX11_goesWay_171 rfl rfl ?_
        refine jx_iload 0 dX11_goesWay_172 rfl ?_
        refine jx_if_eq (tgt := 181) dX11_goesWay_174 (by decide) (fun z9 => absurd z9 (by decide)) (fun _ => ?_)
        refine jx_iload_n 2 dX11_goesWay_177 rfl rfl ?_
        refine jx_goto (tgt := 185) dX11_goesWay_178 (by decide) ?_
        refine jx_puti jc_11 (j := 15) (by decide) rfl jwF_X11_176 rfl rfl rfl dX11_goesWay_185 hk35 ?_
        refine jx_aload_n 5 dX11_goesWay_188 rfl rfl ?_
        refine jx_iload 0 dX11_goesWay_189 rfl ?_
        refine jx_if_eq (tgt := 199) dX11_goesWay_191 (by decide) (fun z9 => absurd z9 (by decide)) (fun _ => ?_)
        refine jx_iload 1 dX11_goesWay_194 rfl ?_
        refine jx_goto (tgt := 203) dX11_goesWay_196 (by decide) ?_
        refine jx_puti jc_11 (j := 16) (by decide) rfl jwF_X11_180 rfl rfl rfl dX11_goesWay_203 hk35 ?_
        refine jx_aload_n 5 dX11_goesWay_206 rfl rfl ?_
        refine jx_iload 0 dX11_goesWay_207 rfl ?_
        refine jx_if_eq (tgt := 221) dX11_goesWay_209 (by decide) (fun z9 => absurd z9 (by decide)) (fun _ => ?_)
        refine jx_aload_n 5 dX11_goesWay_212 rfl rfl ?_
        obtain ⟨b52, hb52, h⟩ := h
        refine jx_getr jc_11 (j := 14) (by decide) rfl jwF_X11_49 dX11_goesWay_213 hk35 hb52 ?_
        refine jx_iconst (v := 0) dX11_goesWay_216 (by decide) ?_
        obtain ⟨hk53, h⟩ := h
        obtain ⟨hi54, h⟩ := h
        refine jx_iald dX11_goesWay_217 hk53 hi54 ?_
        refine jx_topi (y := (ji S32 b52 (Int32.toNatClampNeg 0))) (by simp [ji_put, ji_row, ji_putr, jne hk53 hk35 (by decide), jne hk53 hk35 (by decide)]) ?_
        refine jx_goto (tgt := 225) dX11_goesWay_218 (by decide) ?_
        refine jx_puti jc_11 (j := 17) (by decide) rfl jwF_X11_183 rfl rfl rfl dX11_goesWay_225 hk35 ?_
        refine jx_iload_n 6 dX11_goesWay_228 rfl rfl ?_
        exact jx_iret dX11_goesWay_229 rfl rfl (jle rfl) (jle rfl) ⟨_, rfl, h⟩
      replace h := h.2 c51
      refine jx_iload 0 dX11_goesWay_142 rfl ?_
      refine jx_aload_n 4 dX11_goesWay_144 rfl rfl ?_
      refine jx_geti jc_11 (j := 16) (by decide) rfl jwF_X11_180 dX11_goesWay_145 hk35 ?_
      refine jx_icmp_ne (tgt := 168) dX11_goesWay_148 (by decide) (fun c55 => ?_) (fun c55 => ?_)
      · replace h := h.2 c55
        refine jx_iconst (v := 0) dX11_goesWay_168 (by decide) ?_
        refine jx_istore (lv1 := [(6, .int 0), (5, .int ((ji S32 b36 (Int32.toNatClampNeg 5)) - (ji S32 b39 (Int32.toNatClampNeg 5)))), (1, .int y30), (4, .int (ji S10 b6 (Int32.toNatClampNeg ((6 * (ji S b7 (Int32.toNatClampNeg 3))) + r11)))), (3, .int (ji S b3 (Int32.toNatClampNeg x2))), (0, .ref a0), (2, .int x2)]) dX11_goesWay_169 (by decide) rfl ?_
        refine jx_aload_n 5 dX11_goesWay_171 rfl rfl ?_
        refine jx_iload 0 dX11_goesWay_172 rfl ?_
        refine jx_if_eq (tgt := 181) dX11_goesWay_174 (by decide) (fun _ => ?_) (fun z9 => absurd z9 (by decide))
        refine jx_aload_n 5 dX11_goesWay_181 rfl rfl ?_
        refine jx_geti jc_11 (j := 15) (by decide) rfl jwF_X11_176 dX11_goesWay_182 hk35 ?_
        refine jx_puti jc_11 (j := 15) (by decide) rfl jwF_X11_176 rfl rfl rfl dX11_goesWay_185 hk35 ?_
        refine jx_aload_n 5 dX11_goesWay_188 rfl rfl ?_
        refine jx_iload 0 dX11_goesWay_189 rfl ?_
        refine jx_if_eq (tgt := 199) dX11_goesWay_191 (by decide) (fun _ => ?_) (fun z9 => absurd z9 (by decide))
        refine jx_aload_n 5 dX11_goesWay_199 rfl rfl ?_
        refine jx_geti jc_11 (j := 16) (by decide) rfl jwF_X11_180 dX11_goesWay_200 hk35 ?_
        refine jx_topi (y := (ji S32 a0 16)) (by simp [ji_put, ji_row, ji_putr]) ?_
        refine jx_puti jc_11 (j := 16) (by decide) rfl jwF_X11_180 rfl rfl rfl dX11_goesWay_203 hk35 ?_
        refine jx_aload_n 5 dX11_goesWay_206 rfl rfl ?_
        refine jx_iload 0 dX11_goesWay_207 rfl ?_
        refine jx_if_eq (tgt := 221) dX11_goesWay_209 (by decide) (fun _ => ?_) (fun z9 => absurd z9 (by decide))
        refine jx_aload_n 5 dX11_goesWay_221 rfl rfl ?_
        refine jx_geti jc_11 (j := 17) (by decide) rfl jwF_X11_183 dX11_goesWay_222 hk35 ?_
        refine jx_topi (y := (ji S32 a0 17)) (by simp [ji_put, ji_row, ji_putr]) ?_
        refine jx_puti jc_11 (j := 17) (by decide) rfl jwF_X11_183 rfl rfl rfl dX11_goesWay_225 hk35 ?_
        refine jx_iload_n 6 dX11_goesWay_228 rfl rfl ?_
        exact jx_iret dX11_goesWay_229 rfl rfl (jle rfl) (jle rfl) ⟨_, rfl, h⟩
      replace h := h.1 c55
      refine jx_aload_n 4 dX11_goesWay_151 rfl rfl ?_
      obtain ⟨b56, hb56, h⟩ := h
      refine jx_getr jc_11 (j := 14) (by decide) rfl jwF_X11_49 dX11_goesWay_152 hk35 hb56 ?_
      refine jx_iconst (v := 0) dX11_goesWay_155 (by decide) ?_
      obtain ⟨hk57, h⟩ := h
      obtain ⟨hi58, h⟩ := h
      refine jx_iald dX11_goesWay_156 hk57 hi58 ?_
      refine jx_aload_n 4 dX11_goesWay_157 rfl rfl ?_
      refine jx_geti jc_11 (j := 17) (by decide) rfl jwF_X11_183 dX11_goesWay_158 hk35 ?_
      refine jx_icmp_ge (tgt := 168) dX11_goesWay_161 (by decide) (fun c59 => ?_) (fun c59 => ?_)
      · replace h := h.1 c59
        refine jx_iconst (v := 0) dX11_goesWay_168 (by decide) ?_
        refine jx_istore (lv1 := [(6, .int 0), (5, .int ((ji S32 b36 (Int32.toNatClampNeg 5)) - (ji S32 b39 (Int32.toNatClampNeg 5)))), (1, .int y30), (4, .int (ji S10 b6 (Int32.toNatClampNeg ((6 * (ji S b7 (Int32.toNatClampNeg 3))) + r11)))), (3, .int (ji S b3 (Int32.toNatClampNeg x2))), (0, .ref a0), (2, .int x2)]) dX11_goesWay_169 (by decide) rfl ?_
        refine jx_aload_n 5 dX11_goesWay_171 rfl rfl ?_
        refine jx_iload 0 dX11_goesWay_172 rfl ?_
        refine jx_if_eq (tgt := 181) dX11_goesWay_174 (by decide) (fun _ => ?_) (fun z9 => absurd z9 (by decide))
        refine jx_aload_n 5 dX11_goesWay_181 rfl rfl ?_
        refine jx_geti jc_11 (j := 15) (by decide) rfl jwF_X11_176 dX11_goesWay_182 hk35 ?_
        refine jx_puti jc_11 (j := 15) (by decide) rfl jwF_X11_176 rfl rfl rfl dX11_goesWay_185 hk35 ?_
        refine jx_aload_n 5 dX11_goesWay_188 rfl rfl ?_
        refine jx_iload 0 dX11_goesWay_189 rfl ?_
        refine jx_if_eq (tgt := 199) dX11_goesWay_191 (by decide) (fun _ => ?_) (fun z9 => absurd z9 (by decide))
        refine jx_aload_n 5 dX11_goesWay_199 rfl rfl ?_
        refine jx_geti jc_11 (j := 16) (by decide) rfl jwF_X11_180 dX11_goesWay_200 hk35 ?_
        refine jx_topi (y := (ji S32 a0 16)) (by simp [ji_put, ji_row, ji_putr]) ?_
        refine jx_puti jc_11 (j := 16) (by decide) rfl jwF_X11_180 rfl rfl rfl dX11_goesWay_203 hk35 ?_
        refine jx_aload_n 5 dX11_goesWay_206 rfl rfl ?_
        refine jx_iload 0 dX11_goesWay_207 rfl ?_
        refine jx_if_eq (tgt := 221) dX11_goesWay_209 (by decide) (fun _ => ?_) (fun z9 => absurd z9 (by decide))
        refine jx_aload_n 5 dX11_goesWay_221 rfl rfl ?_
        refine jx_geti jc_11 (j := 17) (by decide) rfl jwF_X11_183 dX11_goesWay_222 hk35 ?_
        refine jx_topi (y := (ji S32 a0 17)) (by simp [ji_put, ji_row, ji_putr]) ?_
        refine jx_puti jc_11 (j := 17) (by decide) rfl jwF_X11_183 rfl rfl rfl dX11_goesWay_225 hk35 ?_
        refine jx_iload_n 6 dX11_goesWay_228 rfl rfl ?_
        exact jx_iret dX11_goesWay_229 rfl rfl (jle rfl) (jle rfl) ⟨_, rfl, h⟩
      replace h := h.2 c59
      refine jx_iconst (v := 1) dX11_goesWay_164 (by decide) ?_
      refine jx_goto (tgt := 169) dX11_goesWay_165 (by decide) ?_
      refine jx_istore (lv1 := [(6, .int 1), (5, .int ((ji S32 b36 (Int32.toNatClampNeg 5)) - (ji S32 b39 (Int32.toNatClampNeg 5)))), (1, .int y30), (4, .int (ji S10 b6 (Int32.toNatClampNeg ((6 * (ji S b7 (Int32.toNatClampNeg 3))) + r11)))), (3, .int (ji S b3 (Int32.toNatClampNeg x2))), (0, .ref a0), (2, .int x2)]) dX11_goesWay_169 (by decide) rfl ?_
      refine jx_aload_n 5 dX11_goesWay_171 rfl rfl ?_
      refine jx_iload 0 dX11_goesWay_172 rfl ?_
      refine jx_if_eq (tgt := 181) dX11_goesWay_174 (by decide) (fun z9 => absurd z9 (by decide)) (fun _ => ?_)
      refine jx_iload_n 2 dX11_goesWay_177 rfl rfl ?_
      refine jx_goto (tgt := 185) dX11_goesWay_178 (by decide) ?_
      refine jx_puti jc_11 (j := 15) (by decide) rfl jwF_X11_176 rfl rfl rfl dX11_goesWay_185 hk35 ?_
      refine jx_aload_n 5 dX11_goesWay_188 rfl rfl ?_
      refine jx_iload 0 dX11_goesWay_189 rfl ?_
      refine jx_if_eq (tgt := 199) dX11_goesWay_191 (by decide) (fun z9 => absurd z9 (by decide)) (fun _ => ?_)
      refine jx_iload 1 dX11_goesWay_194 rfl ?_
      refine jx_goto (tgt := 203) dX11_goesWay_196 (by decide) ?_
      refine jx_puti jc_11 (j := 16) (by decide) rfl jwF_X11_180 rfl rfl rfl dX11_goesWay_203 hk35 ?_
      refine jx_aload_n 5 dX11_goesWay_206 rfl rfl ?_
      refine jx_iload 0 dX11_goesWay_207 rfl ?_
      refine jx_if_eq (tgt := 221) dX11_goesWay_209 (by decide) (fun z9 => absurd z9 (by decide)) (fun _ => ?_)
      refine jx_aload_n 5 dX11_goesWay_212 rfl rfl ?_
      refine jx_getr jc_11 (j := 14) (by decide) rfl jwF_X11_49 dX11_goesWay_213 hk35 hb56 ?_
      refine jx_iconst (v := 0) dX11_goesWay_216 (by decide) ?_
      refine jx_iald dX11_goesWay_217 hk57 hi58 ?_
      refine jx_topi (y := (ji S32 b56 (Int32.toNatClampNeg 0))) (by simp [ji_put, ji_row, ji_putr, jne hk57 hk35 (by decide), jne hk57 hk35 (by decide)]) ?_
      refine jx_goto (tgt := 225) dX11_goesWay_218 (by decide) ?_
      refine jx_puti jc_11 (j := 17) (by decide) rfl jwF_X11_183 rfl rfl rfl dX11_goesWay_225 hk35 ?_
      refine jx_iload_n 6 dX11_goesWay_228 rfl rfl ?_
      exact jx_iret dX11_goesWay_229 rfl rfl (jle rfl) (jle rfl) ⟨_, rfl, h⟩
    replace h := h.1 c26
    refine jx_iload_n 4 dX11_goesWay_75 rfl rfl ?_
    exact jx_iret dX11_goesWay_76 rfl rfl (jle rfl) (jle rfl) ⟨_, rfl, h⟩
  replace h := h.1 c14
  refine jx_iload_n 4 dX11_goesWay_47 rfl rfl ?_
  exact jx_iret dX11_goesWay_48 rfl rfl (jle rfl) (jle rfl) ⟨_, rfl, h⟩
/-- X11_findSoonest at its loop's head 15 -/
abbrev L_X11_findSoonest_15 (E : jEnv) (d : Nat) (Q : jM → Prop) (a0 : Nat) (x1 : Int32) (S : jM) : Prop := jX E mX11_findSoonest (jRm (d + 1) 0 0) (jZm E (fun r S' => r = none ∧ Q S') 0 0) 15 [(0, .ref a0), (1, .int x1)] [] S 0 0
/-- X11_findSoonest at its loop's head 33 -/
abbrev L_X11_findSoonest_33 (E : jEnv) (d : Nat) (Q : jM → Prop) (a0 : Nat) (S : jM) : Prop := jX E mX11_findSoonest (jRm (d + 1) 0 0) (jZm E (fun r S' => r = none ∧ Q S') 0 0) 33 [(0, .ref a0)] [] S 0 0
/-- X11_findSoonest at its loop's head 80 -/
abbrev L_X11_findSoonest_80 (E : jEnv) (d : Nat) (Q : jM → Prop) (a0 : Nat) (x1 : Int32) (x2 : Int32) (S : jM) : Prop := jX E mX11_findSoonest (jRm (d + 1) 0 0) (jZm E (fun r S' => r = none ∧ Q S') 0 0) 80 [(0, .ref a0), (1, .int x1), (2, .int x2)] [] S 0 0
/-- X11_findSoonest at its loop's head 100 -/
abbrev L_X11_findSoonest_100 (E : jEnv) (d : Nat) (Q : jM → Prop) (a0 : Nat) (x2 : Int32) (S : jM) : Prop := jX E mX11_findSoonest (jRm (d + 1) 0 0) (jZm E (fun r S' => r = none ∧ Q S') 0 0) 100 [(0, .ref a0), (2, .int x2)] [] S 0 0
set_option maxRecDepth 100000 in
set_option maxHeartbeats 4000000 in
theorem T_X11_findSoonest {E : jEnv} {d : Nat} {Q : jM → Prop} {a0 : Nat} {S : jM} (h : jk S a0 = 11 ∧ jFv E mX11_findFar d 0 0 [.ref a0] (jput S a0 15 (-1)) (fun S2 => jk S2 a0 = 11 ∧ jFv E mX11_laysBy d 0 0 [.ref a0] S2 (fun S4 => L_X11_findSoonest_15 E d Q a0 0 S4))) : jFv E mX11_findSoonest (d + 1) 0 0 [.ref a0] S Q := by
  refine jF_of (by decide) (jle rfl) ?_
  refine jx_lv (lv1 := [(0, .ref a0)]) [0] rfl ?_
  refine jx_aload_n 0 dX11_findSoonest_0 rfl rfl ?_
  refine jx_iconst (v := (-1)) dX11_findSoonest_1 (by decide) ?_
  obtain ⟨hk1, h⟩ := h
  refine jx_puti jc_11 (j := 15) (by decide) rfl jwF_X11_176 rfl rfl rfl dX11_findSoonest_2 hk1 ?_
  refine jx_aload_n 0 dX11_findSoonest_5 rfl rfl ?_
  refine jx_callVv (M' := mX11_findFar) (As := []) jo_X11_findFar jc_11 rfl jwM_X11_137 jwN_X11_findFar jwX_X11_findFar dX11_findSoonest_6 (jRok_m _ _ _) rfl (jle rfl) ⟨jle rfl, jle rfl⟩ hk1 h (fun S2 h => ?_)
  refine jx_aload_n 0 dX11_findSoonest_9 rfl rfl ?_
  obtain ⟨hk3, h⟩ := h
  refine jx_callVv (M' := mX11_laysBy) (As := []) jo_X11_laysBy jc_11 rfl jwM_X11_186 jwN_X11_laysBy jwX_X11_laysBy dX11_findSoonest_10 (jRok_m _ _ _) rfl (jle rfl) ⟨jle rfl, jle rfl⟩ hk3 h (fun S4 h => ?_)
  refine jx_iconst (v := 0) dX11_findSoonest_13 (by decide) ?_
  refine jx_istore_n (lv1 := [(1, .int 0), (0, .ref a0)]) dX11_findSoonest_14 rfl (by decide) rfl ?_
  exact jx_lv [1, 0] rfl h
set_option maxRecDepth 100000 in
set_option maxHeartbeats 4000000 in
theorem T_X11_findSoonest_15 {E : jEnv} {d : Nat} {Q : jM → Prop} {a0 : Nat} {x1 : Int32} {S : jM} (h : (4 ≤ x1 → L_X11_findSoonest_33 E d Q a0 S) ∧ (¬ 4 ≤ x1 → jk S a0 = 11 ∧ ∃ b7, jr S a0 14 = some b7 ∧ (jk S b7 = 12 ∧ vp_in x1 (jl S b7) ∧ (L_X11_findSoonest_15 E d Q a0 (x1 + 1) (jput S b7 (Int32.toNatClampNeg x1) 0))))) : L_X11_findSoonest_15 E d Q a0 x1 S := by
  show jX E mX11_findSoonest (jRm (d + 1) 0 0) (jZm E (fun r S' => r = none ∧ Q S') 0 0) 15 [(0, .ref a0), (1, .int x1)] [] S 0 0
  refine jx_iload_n 1 dX11_findSoonest_15 rfl rfl ?_
  refine jx_iconst (v := 4) dX11_findSoonest_16 (by decide) ?_
  refine jx_icmp_ge (tgt := 33) dX11_findSoonest_17 (by decide) (fun c5 => ?_) (fun c5 => ?_)
  · replace h := h.1 c5
    exact jx_lv [0] rfl h
  replace h := h.2 c5
  refine jx_aload_n 0 dX11_findSoonest_20 rfl rfl ?_
  obtain ⟨hk6, h⟩ := h
  obtain ⟨b7, hb7, h⟩ := h
  refine jx_getr jc_11 (j := 14) (by decide) rfl jwF_X11_49 dX11_findSoonest_21 hk6 hb7 ?_
  refine jx_iload_n 1 dX11_findSoonest_24 rfl rfl ?_
  refine jx_iconst (v := 0) dX11_findSoonest_25 (by decide) ?_
  obtain ⟨hk8, h⟩ := h
  obtain ⟨hi9, h⟩ := h
  refine jx_iast dX11_findSoonest_26 hk8 hi9 ?_
  refine jx_iinc 1 (v := (x1 + 1)) (lv1 := [(1, .int (x1 + 1)), (0, .ref a0)]) kd74.1 rfl rfl (by decide) rfl ?_
  refine jx_goto (tgt := 15) kd74.2.1 (by decide) ?_
  exact jx_lv [1, 0] rfl h
set_option maxRecDepth 100000 in
set_option maxHeartbeats 4000000 in
theorem T_X11_findSoonest_33 {E : jEnv} {d : Nat} {Q : jM → Prop} {a0 : Nat} {S : jM} (h : jk S a0 = 11 ∧ ∃ b11, jr S a0 0 = some b11 ∧ (jk S b11 = 12 ∧ vp_in 0 (jl S b11) ∧ (((ji S b11 (Int32.toNatClampNeg 0)) ≤ 0 → Q S) ∧ (¬ (ji S b11 (Int32.toNatClampNeg 0)) ≤ 0 → ∃ b15, jr S a0 14 = some b15 ∧ (jk S b15 = 12 ∧ vp_in 0 (jl S b15) ∧ ((((ji S b11 (Int32.toNatClampNeg 0)) ≤ (ji S b15 (Int32.toNatClampNeg 0)) → Q S) ∧ (¬ (ji S b11 (Int32.toNatClampNeg 0)) ≤ (ji S b15 (Int32.toNatClampNeg 0)) → jFi E mX11_goesWay d 0 0 [.ref a0] S (fun r20 S19 => jk S19 a0 = 11 ∧ jFv E mX11_laysBack d 0 0 [.ref a0] S19 (fun S22 => jk S22 a0 = 11 ∧ ∃ b24, jr S22 a0 14 = some b24 ∧ (jk S22 b24 = 12 ∧ vp_in r20 (jl S22 b24) ∧ ((L_X11_findSoonest_80 E d Q a0 r20 (r20 + 1) (jput S22 b24 (Int32.toNatClampNeg r20) ((ji S22 b24 (Int32.toNatClampNeg r20)) + 1))))))))))))))) : L_X11_findSoonest_33 E d Q a0 S := by
  show jX E mX11_findSoonest (jRm (d + 1) 0 0) (jZm E (fun r S' => r = none ∧ Q S') 0 0) 33 [(0, .ref a0)] [] S 0 0
  refine jx_aload_n 0 dX11_findSoonest_33 rfl rfl ?_
  obtain ⟨hk10, h⟩ := h
  obtain ⟨b11, hb11, h⟩ := h
  refine jx_getr jc_11 (j := 0) (by decide) rfl jwF_X11_7 dX11_findSoonest_34 hk10 hb11 ?_
  refine jx_iconst (v := 0) dX11_findSoonest_37 (by decide) ?_
  obtain ⟨hk12, h⟩ := h
  obtain ⟨hi13, h⟩ := h
  refine jx_iald dX11_findSoonest_38 hk12 hi13 ?_
  refine jx_if_le (tgt := 147) dX11_findSoonest_39 (by decide) (fun c14 => ?_) (fun c14 => ?_)
  · replace h := h.1 c14
    exact jx_vret dX11_findSoonest_147 rfl (jle rfl) (jle rfl) ⟨rfl, h⟩
  replace h := h.2 c14
  refine jx_aload_n 0 dX11_findSoonest_42 rfl rfl ?_
  obtain ⟨b15, hb15, h⟩ := h
  refine jx_getr jc_11 (j := 14) (by decide) rfl jwF_X11_49 dX11_findSoonest_43 hk10 hb15 ?_
  refine jx_iconst (v := 0) dX11_findSoonest_46 (by decide) ?_
  obtain ⟨hk16, h⟩ := h
  obtain ⟨hi17, h⟩ := h
  refine jx_iald dX11_findSoonest_47 hk16 hi17 ?_
  refine jx_aload_n 0 dX11_findSoonest_48 rfl rfl ?_
  refine jx_getr jc_11 (j := 0) (by decide) rfl jwF_X11_7 dX11_findSoonest_49 hk10 hb11 ?_
  refine jx_iconst (v := 0) dX11_findSoonest_52 (by decide) ?_
  refine jx_iald dX11_findSoonest_53 hk12 hi13 ?_
  refine jx_icmp_ge (tgt := 147) dX11_findSoonest_54 (by decide) (fun c18 => ?_) (fun c18 => ?_)
  · replace h := h.1 c18
    exact jx_vret dX11_findSoonest_147 rfl (jle rfl) (jle rfl) ⟨rfl, h⟩
  replace h := h.2 c18
  refine jx_aload_n 0 dX11_findSoonest_57 rfl rfl ?_
  refine jx_callVi (M' := mX11_goesWay) (As := []) jo_X11_goesWay jc_11 rfl jwM_X11_189 jwN_X11_goesWay jwX_X11_goesWay dX11_findSoonest_58 (jRok_m _ _ _) rfl (jle rfl) ⟨jle rfl, jle rfl⟩ hk10 h (fun r20 S19 h => ?_)
  refine jx_istore_n (lv1 := [(1, .int r20), (0, .ref a0)]) dX11_findSoonest_61 rfl (by decide) rfl ?_
  refine jx_aload_n 1 dX11_findSoonest_62 rfl rfl ?_
  obtain ⟨hk21, h⟩ := h
  refine jx_callVv (M' := mX11_laysBack) (As := []) jo_X11_laysBack jc_11 rfl jwM_X11_192 jwN_X11_laysBack jwX_X11_laysBack dX11_findSoonest_63 (jRok_m _ _ _) rfl (jle rfl) ⟨jle rfl, jle rfl⟩ hk21 h (fun S22 h => ?_)
  refine jx_aload_n 1 dX11_findSoonest_66 rfl rfl ?_
  obtain ⟨hk23, h⟩ := h
  obtain ⟨b24, hb24, h⟩ := h
  refine jx_getr jc_11 (j := 14) (by decide) rfl jwF_X11_49 dX11_findSoonest_67 hk23 hb24 ?_
  refine jx_iload_n 0 dX11_findSoonest_70 rfl rfl ?_
  refine jx_dup2 dX11_findSoonest_71 rfl rfl ?_
  obtain ⟨hk25, h⟩ := h
  obtain ⟨hi26, h⟩ := h
  refine jx_iald dX11_findSoonest_72 hk25 hi26 ?_
  refine jx_iconst (v := 1) dX11_findSoonest_73 (by decide) ?_
  refine jx_iadd dX11_findSoonest_74 ?_
  refine jx_iast dX11_findSoonest_75 hk25 hi26 ?_
  refine jx_iload_n 0 dX11_findSoonest_76 rfl rfl ?_
  refine jx_iconst (v := 1) dX11_findSoonest_77 (by decide) ?_
  refine jx_iadd dX11_findSoonest_78 ?_
  refine jx_istore_n (lv1 := [(2, .int (r20 + 1)), (1, .int r20), (0, .ref a0)]) dX11_findSoonest_79 rfl (by decide) rfl ?_
  exact jx_lv [2, 1, 0] rfl h
set_option maxRecDepth 100000 in
set_option maxHeartbeats 4000000 in
theorem T_X11_findSoonest_80 {E : jEnv} {d : Nat} {Q : jM → Prop} {a0 : Nat} {x1 : Int32} {x2 : Int32} {S : jM} (h : (4 ≤ x2 → L_X11_findSoonest_100 E d Q a0 x1 S) ∧ (¬ 4 ≤ x2 → jk S a0 = 11 ∧ ∃ b29, jr S a0 14 = some b29 ∧ (jk S b29 = 12 ∧ vp_in x2 (jl S b29) ∧ (L_X11_findSoonest_80 E d Q a0 x1 (x2 + 1) (jput S b29 (Int32.toNatClampNeg x2) 0))))) : L_X11_findSoonest_80 E d Q a0 x1 x2 S := by
  show jX E mX11_findSoonest (jRm (d + 1) 0 0) (jZm E (fun r S' => r = none ∧ Q S') 0 0) 80 [(0, .ref a0), (1, .int x1), (2, .int x2)] [] S 0 0
  refine jx_iload_n 2 dX11_findSoonest_80 rfl rfl ?_
  refine jx_iconst (v := 4) dX11_findSoonest_81 (by decide) ?_
  refine jx_icmp_ge (tgt := 98) dX11_findSoonest_82 (by decide) (fun c27 => ?_) (fun c27 => ?_)
  · replace h := h.1 c27
    refine jx_iload_n 1 dX11_findSoonest_98 rfl rfl ?_
    refine jx_istore_n (lv1 := [(2, .int x1), (0, .ref a0), (1, .int x1)]) dX11_findSoonest_99 rfl (by decide) rfl ?_
    exact jx_lv [1, 0] rfl h
  replace h := h.2 c27
  refine jx_aload_n 0 dX11_findSoonest_85 rfl rfl ?_
  obtain ⟨hk28, h⟩ := h
  obtain ⟨b29, hb29, h⟩ := h
  refine jx_getr jc_11 (j := 14) (by decide) rfl jwF_X11_49 dX11_findSoonest_86 hk28 hb29 ?_
  refine jx_iload_n 2 dX11_findSoonest_89 rfl rfl ?_
  refine jx_iconst (v := 0) dX11_findSoonest_90 (by decide) ?_
  obtain ⟨hk30, h⟩ := h
  obtain ⟨hi31, h⟩ := h
  refine jx_iast dX11_findSoonest_91 hk30 hi31 ?_
  refine jx_iinc 2 (v := (x2 + 1)) (lv1 := [(2, .int (x2 + 1)), (0, .ref a0), (1, .int x1)]) kd74.2.2.1 rfl rfl (by decide) rfl ?_
  refine jx_goto (tgt := 80) kd74.2.2.2.1 (by decide) ?_
  exact jx_lv [1, 2, 0] rfl h
set_option maxRecDepth 100000 in
set_option maxHeartbeats 4000000 in
theorem T_X11_findSoonest_100 {E : jEnv} {d : Nat} {Q : jM → Prop} {a0 : Nat} {x2 : Int32} {S : jM} (h : (x2 ≤ 0 → L_X11_findSoonest_33 E d Q a0 S) ∧ (¬ x2 ≤ 0 → jk S a0 = 11 ∧ ∃ b34, jr S a0 14 = some b34 ∧ (jk S b34 = 12 ∧ vp_in x2 (jl S b34) ∧ (∃ b37, jr S a0 0 = some b37 ∧ (jk S b37 = 12 ∧ vp_in 0 (jl S b37) ∧ (((ji S b34 (Int32.toNatClampNeg x2)) = (ji S b37 (Int32.toNatClampNeg 0)) → (vp_in (x2 - 1) (jl S b34) ∧ ((L_X11_findSoonest_100 E d Q a0 (x2 + (-1)) (jput (jput S b34 (Int32.toNatClampNeg x2) 0) b34 (Int32.toNatClampNeg (x2 - 1)) ((ji (jput S b34 (Int32.toNatClampNeg x2) 0) b34 (Int32.toNatClampNeg (x2 - 1))) + 1)))))) ∧ (¬ (ji S b34 (Int32.toNatClampNeg x2)) = (ji S b37 (Int32.toNatClampNeg 0)) → L_X11_findSoonest_33 E d Q a0 S))))))) : L_X11_findSoonest_100 E d Q a0 x2 S := by
  show jX E mX11_findSoonest (jRm (d + 1) 0 0) (jZm E (fun r S' => r = none ∧ Q S') 0 0) 100 [(0, .ref a0), (2, .int x2)] [] S 0 0
  refine jx_iload_n 1 dX11_findSoonest_100 rfl rfl ?_
  refine jx_if_le (tgt := 144) dX11_findSoonest_101 (by decide) (fun c32 => ?_) (fun c32 => ?_)
  · replace h := h.1 c32
    refine jx_goto (tgt := 33) kd74.2.2.2.2.2.2 (by decide) ?_
    exact jx_lv [0] rfl h
  replace h := h.2 c32
  refine jx_aload_n 0 dX11_findSoonest_104 rfl rfl ?_
  obtain ⟨hk33, h⟩ := h
  obtain ⟨b34, hb34, h⟩ := h
  refine jx_getr jc_11 (j := 14) (by decide) rfl jwF_X11_49 dX11_findSoonest_105 hk33 hb34 ?_
  refine jx_iload_n 1 dX11_findSoonest_108 rfl rfl ?_
  obtain ⟨hk35, h⟩ := h
  obtain ⟨hi36, h⟩ := h
  refine jx_iald dX11_findSoonest_109 hk35 hi36 ?_
  refine jx_aload_n 0 dX11_findSoonest_110 rfl rfl ?_
  obtain ⟨b37, hb37, h⟩ := h
  refine jx_getr jc_11 (j := 0) (by decide) rfl jwF_X11_7 dX11_findSoonest_111 hk33 hb37 ?_
  refine jx_iconst (v := 0) dX11_findSoonest_114 (by decide) ?_
  obtain ⟨hk38, h⟩ := h
  obtain ⟨hi39, h⟩ := h
  refine jx_iald dX11_findSoonest_115 hk38 hi39 ?_
  refine jx_icmp_ne (tgt := 144) dX11_findSoonest_116 (by decide) (fun c40 => ?_) (fun c40 => ?_)
  · replace h := h.2 c40
    refine jx_goto (tgt := 33) kd74.2.2.2.2.2.2 (by decide) ?_
    exact jx_lv [0] rfl h
  replace h := h.1 c40
  refine jx_aload_n 0 dX11_findSoonest_119 rfl rfl ?_
  refine jx_getr jc_11 (j := 14) (by decide) rfl jwF_X11_49 dX11_findSoonest_120 hk33 hb34 ?_
  refine jx_iload_n 1 dX11_findSoonest_123 rfl rfl ?_
  refine jx_iconst (v := 0) dX11_findSoonest_124 (by decide) ?_
  refine jx_iast dX11_findSoonest_125 hk35 hi36 ?_
  refine jx_aload_n 0 dX11_findSoonest_126 rfl rfl ?_
  refine jx_getr jc_11 (j := 14) (by decide) rfl jwF_X11_49 dX11_findSoonest_127 hk33 hb34 ?_
  refine jx_iload_n 1 dX11_findSoonest_130 rfl rfl ?_
  refine jx_iconst (v := 1) dX11_findSoonest_131 (by decide) ?_
  refine jx_isub dX11_findSoonest_132 ?_
  refine jx_dup2 dX11_findSoonest_133 rfl rfl ?_
  obtain ⟨hi41, h⟩ := h
  refine jx_iald dX11_findSoonest_134 hk35 hi41 ?_
  refine jx_iconst (v := 1) dX11_findSoonest_135 (by decide) ?_
  refine jx_iadd dX11_findSoonest_136 ?_
  refine jx_iast dX11_findSoonest_137 hk35 hi41 ?_
  refine jx_iinc 1 (v := (x2 + (-1))) (lv1 := [(2, .int (x2 + (-1))), (0, .ref a0)]) kd74.2.2.2.2.1 rfl rfl (by decide) rfl ?_
  refine jx_goto (tgt := 100) kd74.2.2.2.2.2.1 (by decide) ?_
  exact jx_lv [1, 0] rfl h
set_option maxRecDepth 100000 in
set_option maxHeartbeats 4000000 in
theorem T_X11_soonest {E : jEnv} {d : Nat} {Q : Int32 → jM → Prop} {a0 : Nat} {x1 : Int32} {S : jM} (h : ((jisin (Int32.toInt64 x1) 0 2) = 0 → Q (-1000000001) S) ∧ (¬ (jisin (Int32.toInt64 x1) 0 2) = 0 → jk S a0 = 11 ∧ jFi E mX11_can d 0 0 [.ref a0] S (fun r7 S6 => (r7 = 0 → jk S6 a0 = 11 ∧ jFv E mX11_findSoonest d 0 0 [.ref a0] S6 (fun S10 => jk S10 a0 = 11 ∧ (0 ≤ (ji S10 a0 15) → (x1 = 0 → Q (ji S10 a0 15) S10) ∧ (¬ x1 = 0 → (x1 = 1 → Q (ji S10 a0 16) S10) ∧ (¬ x1 = 1 → Q (ji S10 a0 17) S10))) ∧ (¬ 0 ≤ (ji S10 a0 15) → Q (-1000000005) S10))) ∧ (¬ r7 = 0 → (x1 = 2 → Q (-1000000005) S6) ∧ (¬ x1 = 2 → Q 0 S6))))) : jFi E mX11_soonest (d + 1) 0 0 [.ref a0, .int x1] S Q := by
  refine jF_of (by decide) (jle rfl) ?_
  refine jx_lv (lv1 := [(0, .ref a0), (1, .int x1)]) [0, 1] rfl ?_
  refine jx_iload_n 1 dX11_soonest_0 rfl rfl ?_
  refine jx_i2l dX11_soonest_1 ?_
  refine jx_lconst (v := 0) dX11_soonest_2 (by decide) ?_
  refine jx_ldc2 jwL_X11_146 dX11_soonest_3 ?_
  refine jx_callSi (M' := mX11_isIn) (As := [.long (Int32.toInt64 x1), .long 0, .long 2]) jo_X11_isIn jwM_X11_71 jwS_X11_isIn dX11_soonest_6 (jRok_m _ _ _) rfl (jle rfl) ⟨jle rfl, jle rfl⟩ (c_X11_isIn (Q := fun v S' => v = (jisin (Int32.toInt64 x1) 0 2) ∧ S = S') ⟨rfl, rfl⟩) (fun r1 S2 hq3 => ?_)
  obtain ⟨rfl, rfl⟩ := hq3
  refine jx_if_ne (tgt := 15) dX11_soonest_9 (by decide) (fun c4 => ?_) (fun c4 => ?_)
  · replace h := h.2 c4
    refine jx_aload_n 0 dX11_soonest_15 rfl rfl ?_
    obtain ⟨hk5, h⟩ := h
    refine jx_callVi (M' := mX11_can) (As := []) jo_X11_can jc_11 rfl jwM_X11_172 jwN_X11_can jwX_X11_can dX11_soonest_16 (jRok_m _ _ _) rfl (jle rfl) ⟨jle rfl, jle rfl⟩ hk5 h (fun r7 S6 h => ?_)
    refine jx_if_eq (tgt := 34) dX11_soonest_19 (by decide) (fun c8 => ?_) (fun c8 => ?_)
    · replace h := h.1 c8
      refine jx_aload_n 0 dX11_soonest_34 rfl rfl ?_
      obtain ⟨hk9, h⟩ := h
      refine jx_callVv (M' := mX11_findSoonest) (As := []) jo_X11_findSoonest jc_11 rfl jwM_X11_195 jwN_X11_findSoonest jwX_X11_findSoonest dX11_soonest_35 (jRok_m _ _ _) rfl (jle rfl) ⟨jle rfl, jle rfl⟩ hk9 h (fun S10 h => ?_)
      refine jx_aload_n 0 dX11_soonest_38 rfl rfl ?_
      obtain ⟨hk11, h⟩ := h
      refine jx_geti jc_11 (j := 15) (by decide) rfl jwF_X11_176 dX11_soonest_39 hk11 ?_
      refine jx_if_ge (tgt := 50) dX11_soonest_42 (by decide) (fun c12 => ?_) (fun c12 => ?_)
      · replace h := h.1 c12
        refine jx_iload_n 1 dX11_soonest_50 rfl rfl ?_
        refine jx_if_ne (tgt := 61) dX11_soonest_51 (by decide) (fun c13 => ?_) (fun c13 => ?_)
        · replace h := h.2 c13
          refine jx_iload_n 1 dX11_soonest_61 rfl rfl ?_
          refine jx_iconst (v := 1) dX11_soonest_62 (by decide) ?_
          refine jx_icmp_ne (tgt := 73) dX11_soonest_63 (by decide) (fun c14 => ?_) (fun c14 => ?_)
          · replace h := h.2 c14
            refine jx_aload_n 0 dX11_soonest_73 rfl rfl ?_
            refine jx_geti jc_11 (j := 17) (by decide) rfl jwF_X11_183 dX11_soonest_74 hk11 ?_
            exact jx_iret dX11_soonest_77 rfl rfl (jle rfl) (jle rfl) ⟨_, rfl, h⟩
          replace h := h.1 c14
          refine jx_aload_n 0 dX11_soonest_66 rfl rfl ?_
          refine jx_geti jc_11 (j := 16) (by decide) rfl jwF_X11_180 dX11_soonest_67 hk11 ?_
          refine jx_goto (tgt := 77) dX11_soonest_70 (by decide) ?_
          exact jx_iret dX11_soonest_77 rfl rfl (jle rfl) (jle rfl) ⟨_, rfl, h⟩
        replace h := h.1 c13
        refine jx_aload_n 0 dX11_soonest_54 rfl rfl ?_
        refine jx_geti jc_11 (j := 15) (by decide) rfl jwF_X11_176 dX11_soonest_55 hk11 ?_
        refine jx_goto (tgt := 77) dX11_soonest_58 (by decide) ?_
        exact jx_iret dX11_soonest_77 rfl rfl (jle rfl) (jle rfl) ⟨_, rfl, h⟩
      replace h := h.2 c12
      refine jx_ldc jwC_X11_70 dX11_soonest_45 ?_
      refine jx_goto (tgt := 77) dX11_soonest_47 (by decide) ?_
      exact jx_iret dX11_soonest_77 rfl rfl (jle rfl) (jle rfl) ⟨_, rfl, h⟩
    replace h := h.2 c8
    refine jx_iload_n 1 dX11_soonest_22 rfl rfl ?_
    refine jx_iconst (v := 2) dX11_soonest_23 (by decide) ?_
    refine jx_icmp_ne (tgt := 32) dX11_soonest_24 (by decide) (fun c15 => ?_) (fun c15 => ?_)
    · replace h := h.2 c15
      refine jx_iconst (v := 0) dX11_soonest_32 (by decide) ?_
      exact jx_iret dX11_soonest_33 rfl rfl (jle rfl) (jle rfl) ⟨_, rfl, h⟩
    replace h := h.1 c15
    refine jx_ldc jwC_X11_70 dX11_soonest_27 ?_
    refine jx_goto (tgt := 33) dX11_soonest_29 (by decide) ?_
    exact jx_iret dX11_soonest_33 rfl rfl (jle rfl) (jle rfl) ⟨_, rfl, h⟩
  replace h := h.1 c4
  refine jx_ldc jwC_X11_87 dX11_soonest_12 ?_
  exact jx_iret dX11_soonest_14 rfl rfl (jle rfl) (jle rfl) ⟨_, rfl, h⟩
/-- X11_areTogether at its loop's head 10 -/
abbrev L_X11_areTogether_10 (E : jEnv) (d : Nat) (Q : Int32 → jM → Prop) (a0 : Nat) (x1 : Int32) (x2 : Int32) (x3 : Int32) (x4 : Int32) (S : jM) : Prop := jX E mX11_areTogether (jRm (d + 1) 0 0) (jZm E (fun r S' => ∃ v : Int32, r = some (.int v) ∧ Q v S') 0 0) 10 [(0, .ref a0), (1, .int x1), (2, .int x2), (3, .int x3), (4, .int x4)] [] S 0 0
/-- X11_areTogether at its loop's head 34 -/
abbrev L_X11_areTogether_34 (E : jEnv) (d : Nat) (Q : Int32 → jM → Prop) (a0 : Nat) (x1 : Int32) (x2 : Int32) (x3 : Int32) (x4 : Int32) (S : jM) : Prop := jX E mX11_areTogether (jRm (d + 1) 0 0) (jZm E (fun r S' => ∃ v : Int32, r = some (.int v) ∧ Q v S') 0 0) 34 [(0, .ref a0), (1, .int x1), (2, .int x2), (3, .int x3), (4, .int x4)] [] S 0 0
/-- X11_areTogether at its loop's head 53 -/
abbrev L_X11_areTogether_53 (E : jEnv) (d : Nat) (Q : Int32 → jM → Prop) (a0 : Nat) (x1 : Int32) (x2 : Int32) (x3 : Int32) (x4 : Int32) (x5 : Int32) (x6 : Int32) (x7 : Int32) (x8 : Int32) (S : jM) : Prop := jX E mX11_areTogether (jRm (d + 1) 0 0) (jZm E (fun r S' => ∃ v : Int32, r = some (.int v) ∧ Q v S') 0 0) 53 [(0, .ref a0), (1, .int x1), (2, .int x2), (3, .int x3), (4, .int x4), (5, .int x5), (6, .int x6), (7, .int x7), (8, .int x8)] [] S 0 0
set_option maxRecDepth 100000 in
set_option maxHeartbeats 4000000 in
theorem T_X11_areTogether {E : jEnv} {d : Nat} {Q : Int32 → jM → Prop} {a0 : Nat} {x1 : Int32} {S : jM} (h : L_X11_areTogether_10 E d Q a0 x1 (jmany x1) 1 0 S) : jFi E mX11_areTogether (d + 1) 0 0 [.ref a0, .int x1] S Q := by
  refine jF_of (by decide) (jle rfl) ?_
  refine jx_lv (lv1 := [(0, .ref a0), (1, .int x1)]) [0, 1] rfl ?_
  refine jx_iload_n 1 dX11_areTogether_0 rfl rfl ?_
  refine jx_callSi (M' := mX11_manyIn) (As := [.int x1]) jo_X11_manyIn jwM_X11_108 jwS_X11_manyIn dX11_areTogether_1 (jRok_m _ _ _) rfl (jle rfl) ⟨jle rfl, jle rfl⟩ (c_X11_manyIn (Q := fun v S' => v = (jmany x1) ∧ S = S') ⟨rfl, rfl⟩) (fun r1 S2 hq3 => ?_)
  obtain ⟨rfl, rfl⟩ := hq3
  refine jx_istore_n (lv1 := [(2, .int (jmany x1)), (0, .ref a0), (1, .int x1)]) dX11_areTogether_4 rfl (by decide) rfl ?_
  refine jx_iconst (v := 1) dX11_areTogether_5 (by decide) ?_
  refine jx_istore_n (lv1 := [(3, .int 1), (2, .int (jmany x1)), (0, .ref a0), (1, .int x1)]) dX11_areTogether_6 rfl (by decide) rfl ?_
  refine jx_iconst (v := 0) dX11_areTogether_7 (by decide) ?_
  refine jx_istore (lv1 := [(4, .int 0), (3, .int 1), (2, .int (jmany x1)), (0, .ref a0), (1, .int x1)]) dX11_areTogether_8 (by decide) rfl ?_
  exact jx_lv [3, 4, 2, 1, 0] rfl h
set_option maxRecDepth 100000 in
set_option maxHeartbeats 4000000 in
theorem T_X11_areTogether_10 {E : jEnv} {d : Nat} {Q : Int32 → jM → Prop} {a0 : Nat} {x1 : Int32} {x2 : Int32} {x3 : Int32} {x4 : Int32} {S : jM} (h : (x2 ≤ x4 → L_X11_areTogether_34 E d Q a0 x1 x2 x3 0 S) ∧ (¬ x2 ≤ x4 → jk S a0 = 11 ∧ ∃ b6, jr S a0 0 = some b6 ∧ (jk S b6 = 12 ∧ vp_in 0 (jl S b6) ∧ (L_X11_areTogether_10 E d Q a0 x1 x2 (x3 * (ji S b6 (Int32.toNatClampNeg 0))) (x4 + 1) S)))) : L_X11_areTogether_10 E d Q a0 x1 x2 x3 x4 S := by
  show jX E mX11_areTogether (jRm (d + 1) 0 0) (jZm E (fun r S' => ∃ v : Int32, r = some (.int v) ∧ Q v S') 0 0) 10 [(0, .ref a0), (1, .int x1), (2, .int x2), (3, .int x3), (4, .int x4)] [] S 0 0
  refine jx_iload 4 dX11_areTogether_10 rfl ?_
  refine jx_iload_n 2 dX11_areTogether_12 rfl rfl ?_
  refine jx_icmp_ge (tgt := 31) dX11_areTogether_13 (by decide) (fun c4 => ?_) (fun c4 => ?_)
  · replace h := h.1 c4
    refine jx_iconst (v := 0) dX11_areTogether_31 (by decide) ?_
    refine jx_istore (lv1 := [(4, .int 0), (0, .ref a0), (1, .int x1), (2, .int x2), (3, .int x3)]) dX11_areTogether_32 (by decide) rfl ?_
    exact jx_lv [1, 2, 3, 4, 0] rfl h
  replace h := h.2 c4
  refine jx_iload_n 3 dX11_areTogether_16 rfl rfl ?_
  refine jx_aload_n 0 dX11_areTogether_17 rfl rfl ?_
  obtain ⟨hk5, h⟩ := h
  obtain ⟨b6, hb6, h⟩ := h
  refine jx_getr jc_11 (j := 0) (by decide) rfl jwF_X11_7 dX11_areTogether_18 hk5 hb6 ?_
  refine jx_iconst (v := 0) dX11_areTogether_21 (by decide) ?_
  obtain ⟨hk7, h⟩ := h
  obtain ⟨hi8, h⟩ := h
  refine jx_iald dX11_areTogether_22 hk7 hi8 ?_
  refine jx_imul dX11_areTogether_23 ?_
  refine jx_istore_n (lv1 := [(3, .int (x3 * (ji S b6 (Int32.toNatClampNeg 0)))), (0, .ref a0), (1, .int x1), (2, .int x2), (4, .int x4)]) dX11_areTogether_24 rfl (by decide) rfl ?_
  refine jx_iinc 4 (v := (x4 + 1)) (lv1 := [(4, .int (x4 + 1)), (3, .int (x3 * (ji S b6 (Int32.toNatClampNeg 0)))), (0, .ref a0), (1, .int x1), (2, .int x2)]) kd75.1 rfl rfl (by decide) rfl ?_
  refine jx_goto (tgt := 10) kd75.2.1 (by decide) ?_
  exact jx_lv [2, 3, 4, 1, 0] rfl h
set_option maxRecDepth 100000 in
set_option maxHeartbeats 4000000 in
theorem T_X11_areTogether_34 {E : jEnv} {d : Nat} {Q : Int32 → jM → Prop} {a0 : Nat} {x1 : Int32} {x2 : Int32} {x3 : Int32} {x4 : Int32} {S : jM} (h : (x3 ≤ x4 → Q 0 S) ∧ (¬ x3 ≤ x4 → L_X11_areTogether_53 E d Q a0 x1 x2 x3 x4 x4 0 0 0 S)) : L_X11_areTogether_34 E d Q a0 x1 x2 x3 x4 S := by
  show jX E mX11_areTogether (jRm (d + 1) 0 0) (jZm E (fun r S' => ∃ v : Int32, r = some (.int v) ∧ Q v S') 0 0) 34 [(0, .ref a0), (1, .int x1), (2, .int x2), (3, .int x3), (4, .int x4)] [] S 0 0
  refine jx_iload 4 dX11_areTogether_34 rfl ?_
  refine jx_iload_n 3 dX11_areTogether_36 rfl rfl ?_
  refine jx_icmp_ge (tgt := 202) dX11_areTogether_37 (by decide) (fun c9 => ?_) (fun c9 => ?_)
  · replace h := h.1 c9
    refine jx_iconst (v := 0) dX11_areTogether_202 (by decide) ?_
    exact jx_iret dX11_areTogether_203 rfl (by decide) (jle rfl) (jle rfl) ⟨_, rfl, h⟩
  replace h := h.2 c9
  refine jx_iload 4 dX11_areTogether_40 rfl ?_
  refine jx_istore (lv1 := [(5, .int x4), (0, .ref a0), (1, .int x1), (2, .int x2), (3, .int x3), (4, .int x4)]) dX11_areTogether_42 (by decide) rfl ?_
  refine jx_iconst (v := 0) dX11_areTogether_44 (by decide) ?_
  refine jx_istore (lv1 := [(6, .int 0), (5, .int x4), (0, .ref a0), (1, .int x1), (2, .int x2), (3, .int x3), (4, .int x4)]) dX11_areTogether_45 (by decide) rfl ?_
  refine jx_iconst (v := 0) dX11_areTogether_47 (by decide) ?_
  refine jx_istore (lv1 := [(7, .int 0), (6, .int 0), (5, .int x4), (0, .ref a0), (1, .int x1), (2, .int x2), (3, .int x3), (4, .int x4)]) dX11_areTogether_48 (by decide) rfl ?_
  refine jx_iconst (v := 0) dX11_areTogether_50 (by decide) ?_
  refine jx_istore (lv1 := [(8, .int 0), (7, .int 0), (6, .int 0), (5, .int x4), (0, .ref a0), (1, .int x1), (2, .int x2), (3, .int x3), (4, .int x4)]) dX11_areTogether_51 (by decide) rfl ?_
  exact jx_lv [4, 5, 6, 7, 8, 3, 2, 1, 0] rfl h
set_option maxRecDepth 100000 in
set_option maxHeartbeats 4000000 in
theorem T_X11_areTogether_53 {E : jEnv} {d : Nat} {Q : Int32 → jM → Prop} {a0 : Nat} {x1 : Int32} {x2 : Int32} {x3 : Int32} {x4 : Int32} {x5 : Int32} {x6 : Int32} {x7 : Int32} {x8 : Int32} {S : jM} (h : (x2 ≤ x8 → (x7 = x1 → (x6 = x1 → Q 1 S) ∧ (¬ x6 = x1 → L_X11_areTogether_34 E d Q a0 x1 x2 x3 (x4 + 1) S)) ∧ (¬ x7 = x1 → L_X11_areTogether_34 E d Q a0 x1 x2 x3 (x4 + 1) S)) ∧ (¬ x2 ≤ x8 → jk S a0 = 11 ∧ ∃ b14, jr S a0 0 = some b14 ∧ (jk S b14 = 12 ∧ vp_in 0 (jl S b14) ∧ ((¬ (ji S b14 (Int32.toNatClampNeg 0)) = 0) ∧ (((¬ (ji S b14 (Int32.toNatClampNeg 0)) = 0) ∧ (jFi E mX11_of d 0 0 [.ref a0, .int (jrem x5 (ji S b14 (Int32.toNatClampNeg 0))), .int 2] S (fun r20 S19 => (x7 < 0 → L_X11_areTogether_53 E d Q a0 x1 x2 x3 x4 (x5 / (ji S b14 (Int32.toNatClampNeg 0))) 0 (-1) (x8 + 1) S19) ∧ (¬ x7 < 0 → jk S19 a0 = 11 ∧ jFi E mX11_of d 0 0 [.ref a0, .int (jrem x5 (ji S b14 (Int32.toNatClampNeg 0))), .int 6] S19 (fun r24 S23 => (r24 = 0 → ((x1 &&& (jshl 1 r20)) = 0 → L_X11_areTogether_53 E d Q a0 x1 x2 x3 x4 (x5 / (ji S b14 (Int32.toNatClampNeg 0))) 0 (-1) (x8 + 1) S23) ∧ (¬ (x1 &&& (jshl 1 r20)) = 0 → ((x7 &&& (jshl 1 r20)) = 0 → jk S23 a0 = 11 ∧ jFi E mX11_teaches d 0 0 [.ref a0, .int (jrem x5 (ji S b14 (Int32.toNatClampNeg 0))), .int x6] S23 (fun r30 S29 => (r30 = 0 → L_X11_areTogether_53 E d Q a0 x1 x2 x3 x4 (x5 / (ji S b14 (Int32.toNatClampNeg 0))) 0 (-1) (x8 + 1) S29) ∧ (¬ r30 = 0 → jk S29 a0 = 11 ∧ jFi E mX11_behindLesson d 0 0 [.ref a0, .int (jrem x5 (ji S b14 (Int32.toNatClampNeg 0))), .int x6] S29 (fun r34 S33 => L_X11_areTogether_53 E d Q a0 x1 x2 x3 x4 (x5 / (ji S b14 (Int32.toNatClampNeg 0))) r34 (x7 ||| (jshl 1 r20)) (x8 + 1) S33)))) ∧ (¬ (x7 &&& (jshl 1 r20)) = 0 → L_X11_areTogether_53 E d Q a0 x1 x2 x3 x4 (x5 / (ji S b14 (Int32.toNatClampNeg 0))) 0 (-1) (x8 + 1) S23))) ∧ (¬ r24 = 0 → L_X11_areTogether_53 E d Q a0 x1 x2 x3 x4 (x5 / (ji S b14 (Int32.toNatClampNeg 0))) 0 (-1) (x8 + 1) S23))))))))))) : L_X11_areTogether_53 E d Q a0 x1 x2 x3 x4 x5 x6 x7 x8 S := by
  show jX E mX11_areTogether (jRm (d + 1) 0 0) (jZm E (fun r S' => ∃ v : Int32, r = some (.int v) ∧ Q v S') 0 0) 53 [(0, .ref a0), (1, .int x1), (2, .int x2), (3, .int x3), (4, .int x4), (5, .int x5), (6, .int x6), (7, .int x7), (8, .int x8)] [] S 0 0
  refine jx_iload 8 dX11_areTogether_53 rfl ?_
  refine jx_iload_n 2 dX11_areTogether_55 rfl rfl ?_
  refine jx_icmp_ge (tgt := 182) dX11_areTogether_56 (by decide) (fun c10 => ?_) (fun c10 => ?_)
  · replace h := h.1 c10
    refine jx_iload 7 dX11_areTogether_182 rfl ?_
    refine jx_iload_n 1 dX11_areTogether_184 rfl rfl ?_
    refine jx_icmp_ne (tgt := 196) dX11_areTogether_185 (by decide) (fun c11 => ?_) (fun c11 => ?_)
    · replace h := h.2 c11
      refine jx_iinc 4 (v := (x4 + 1)) (lv1 := [(4, .int (x4 + 1)), (0, .ref a0), (1, .int x1), (2, .int x2), (3, .int x3), (5, .int x5), (6, .int x6), (7, .int x7), (8, .int x8)]) kd75.2.2.2.2.1 rfl rfl (by decide) rfl ?_
      refine jx_goto (tgt := 34) kd75.2.2.2.2.2 (by decide) ?_
      exact jx_lv [1, 2, 3, 4, 0] rfl h
    replace h := h.1 c11
    refine jx_iload 6 dX11_areTogether_188 rfl ?_
    refine jx_iload_n 1 dX11_areTogether_190 rfl rfl ?_
    refine jx_icmp_ne (tgt := 196) dX11_areTogether_191 (by decide) (fun c12 => ?_) (fun c12 => ?_)
    · replace h := h.2 c12
      refine jx_iinc 4 (v := (x4 + 1)) (lv1 := [(4, .int (x4 + 1)), (0, .ref a0), (1, .int x1), (2, .int x2), (3, .int x3), (5, .int x5), (6, .int x6), (7, .int x7), (8, .int x8)]) kd75.2.2.2.2.1 rfl rfl (by decide) rfl ?_
      refine jx_goto (tgt := 34) kd75.2.2.2.2.2 (by decide) ?_
      exact jx_lv [1, 2, 3, 4, 0] rfl h
    replace h := h.1 c12
    refine jx_iconst (v := 1) dX11_areTogether_194 (by decide) ?_
    exact jx_iret dX11_areTogether_195 rfl (by decide) (jle rfl) (jle rfl) ⟨_, rfl, h⟩
  replace h := h.2 c10
  refine jx_iload 5 dX11_areTogether_59 rfl ?_
  refine jx_aload_n 0 dX11_areTogether_61 rfl rfl ?_
  obtain ⟨hk13, h⟩ := h
  obtain ⟨b14, hb14, h⟩ := h
  refine jx_getr jc_11 (j := 0) (by decide) rfl jwF_X11_7 dX11_areTogether_62 hk13 hb14 ?_
  refine jx_iconst (v := 0) dX11_areTogether_65 (by decide) ?_
  obtain ⟨hk15, h⟩ := h
  obtain ⟨hi16, h⟩ := h
  refine jx_iald dX11_areTogether_66 hk15 hi16 ?_
  obtain ⟨hz17, h⟩ := h
  refine jx_irem dX11_areTogether_67 hz17 ?_
  refine jx_istore (lv1 := [(9, .int (jrem x5 (ji S b14 (Int32.toNatClampNeg 0)))), (0, .ref a0), (1, .int x1), (2, .int x2), (3, .int x3), (4, .int x4), (5, .int x5), (6, .int x6), (7, .int x7), (8, .int x8)]) dX11_areTogether_68 (by decide) rfl ?_
  refine jx_iload 6 dX11_areTogether_70 rfl ?_
  refine jx_aload_n 1 dX11_areTogether_72 rfl rfl ?_
  refine jx_getr jc_11 (j := 0) (by decide) rfl jwF_X11_7 dX11_areTogether_73 hk13 hb14 ?_
  refine jx_iconst (v := 0) dX11_areTogether_76 (by decide) ?_
  refine jx_iald dX11_areTogether_77 hk15 hi16 ?_
  obtain ⟨hz18, h⟩ := h
  refine jx_idiv dX11_areTogether_78 hz18 ?_
  refine jx_istore (lv1 := [(5, .int (x5 / (ji S b14 (Int32.toNatClampNeg 0)))), (9, .int (jrem x5 (ji S b14 (Int32.toNatClampNeg 0)))), (0, .ref a0), (1, .int x1), (2, .int x2), (3, .int x3), (4, .int x4), (6, .int x6), (7, .int x7), (8, .int x8)]) dX11_areTogether_79 (by decide) rfl ?_
  refine jx_iconst (v := 1) dX11_areTogether_81 (by decide) ?_
  refine jx_aload_n 2 dX11_areTogether_82 rfl rfl ?_
  refine jx_iload 1 dX11_areTogether_83 rfl ?_
  refine jx_iconst (v := 2) dX11_areTogether_85 (by decide) ?_
  refine jx_callVi (M' := mX11_of) (As := [.int (jrem x5 (ji S b14 (Int32.toNatClampNeg 0))), .int 2]) jo_X11_of jc_11 rfl jwM_X11_97 jwN_X11_of jwX_X11_of dX11_areTogether_86 (jRok_m _ _ _) rfl (jle rfl) ⟨jle rfl, jle rfl⟩ hk13 h (fun r20 S19 h => ?_)
  refine jx_ishl dX11_areTogether_89 ?_
  refine jx_istore (lv1 := [(10, .int (jshl 1 r20)), (5, .int (x5 / (ji S b14 (Int32.toNatClampNeg 0)))), (9, .int (jrem x5 (ji S b14 (Int32.toNatClampNeg 0)))), (0, .ref a0), (1, .int x1), (2, .int x2), (3, .int x3), (4, .int x4), (6, .int x6), (7, .int x7), (8, .int x8)]) dX11_areTogether_90 (by decide) rfl ?_
  refine jx_iload 9 dX11_areTogether_92 rfl ?_
  refine jx_if_lt (tgt := 138) dX11_areTogether_94 (by decide) (fun c21 => ?_) (fun c21 => ?_)
  · replace h := h.1 c21
    refine jx_iconst (v := 0) dX11_areTogether_138 (by decide) ?_
    refine jx_istore (lv1 := [(11, .int 0), (10, .int (jshl 1 r20)), (5, .int (x5 / (ji S b14 (Int32.toNatClampNeg 0)))), (9, .int (jrem x5 (ji S b14 (Int32.toNatClampNeg 0)))), (0, .ref a0), (1, .int x1), (2, .int x2), (3, .int x3), (4, .int x4), (6, .int x6), (7, .int x7), (8, .int x8)]) dX11_areTogether_139 (by decide) rfl ?_
    refine jx_iload 0 dX11_areTogether_141 rfl ?_
    refine jx_if_eq (tgt := 157) dX11_areTogether_143 (by decide) (fun _ => ?_) (fun z9 => absurd z9 (by decide))
    refine jx_iconst (v := 0) dX11_areTogether_157 (by decide) ?_
    refine jx_istore (lv1 := [(6, .int 0), (11, .int 0), (10, .int (jshl 1 r20)), (5, .int (x5 / (ji S b14 (Int32.toNatClampNeg 0)))), (9, .int (jrem x5 (ji S b14 (Int32.toNatClampNeg 0)))), (0, .ref a0), (1, .int x1), (2, .int x2), (3, .int x3), (4, .int x4), (7, .int x7), (8, .int x8)]) dX11_areTogether_158 (by decide) rfl ?_
    refine jx_iload 1 dX11_areTogether_160 rfl ?_
    refine jx_if_eq (tgt := 173) dX11_areTogether_162 (by decide) (fun _ => ?_) (fun z9 => absurd z9 (by decide))
    refine jx_iconst (v := (-1)) dX11_areTogether_173 (by decide) ?_
    refine jx_istore (lv1 := [(7, .int (-1)), (6, .int 0), (11, .int 0), (10, .int (jshl 1 r20)), (5, .int (x5 / (ji S b14 (Int32.toNatClampNeg 0)))), (9, .int (jrem x5 (ji S b14 (Int32.toNatClampNeg 0)))), (0, .ref a0), (1, .int x1), (2, .int x2), (3, .int x3), (4, .int x4), (8, .int x8)]) dX11_areTogether_174 (by decide) rfl ?_
    refine jx_iinc 11 (v := (x8 + 1)) (lv1 := [(8, .int (x8 + 1)), (7, .int (-1)), (6, .int 0), (11, .int 0), (10, .int (jshl 1 r20)), (5, .int (x5 / (ji S b14 (Int32.toNatClampNeg 0)))), (9, .int (jrem x5 (ji S b14 (Int32.toNatClampNeg 0)))), (0, .ref a0), (1, .int x1), (2, .int x2), (3, .int x3), (4, .int x4)]) kd75.2.2.1 rfl rfl (by decide) rfl ?_
    refine jx_goto (tgt := 53) kd75.2.2.2.1 (by decide) ?_
    exact jx_lv [7, 8, 9, 10, 11, 5, 2, 1, 0] rfl h
  replace h := h.2 c21
  refine jx_aload_n 3 dX11_areTogether_97 rfl rfl ?_
  refine jx_iload 2 dX11_areTogether_98 rfl ?_
  refine jx_bipush (v := 6) dX11_areTogether_100 (by decide) ?_
  obtain ⟨hk22, h⟩ := h
  refine jx_callVi (M' := mX11_of) (As := [.int (jrem x5 (ji S b14 (Int32.toNatClampNeg 0))), .int 6]) jo_X11_of jc_11 rfl jwM_X11_97 jwN_X11_of jwX_X11_of dX11_areTogether_102 (jRok_m _ _ _) rfl (jle rfl) ⟨jle rfl, jle rfl⟩ hk22 h (fun r24 S23 h => ?_)
  refine jx_if_ne (tgt := 138) dX11_areTogether_105 (by decide) (fun c25 => ?_) (fun c25 => ?_)
  · replace h := h.2 c25
    refine jx_iconst (v := 0) dX11_areTogether_138 (by decide) ?_
    refine jx_istore (lv1 := [(11, .int 0), (10, .int (jshl 1 r20)), (5, .int (x5 / (ji S b14 (Int32.toNatClampNeg 0)))), (9, .int (jrem x5 (ji S b14 (Int32.toNatClampNeg 0)))), (0, .ref a0), (1, .int x1), (2, .int x2), (3, .int x3), (4, .int x4), (6, .int x6), (7, .int x7), (8, .int x8)]) dX11_areTogether_139 (by decide) rfl ?_
    refine jx_iload 0 dX11_areTogether_141 rfl ?_
    refine jx_if_eq (tgt := 157) dX11_areTogether_143 (by decide) (fun _ => ?_) (fun z9 => absurd z9 (by decide))
    refine jx_iconst (v := 0) dX11_areTogether_157 (by decide) ?_
    refine jx_istore (lv1 := [(6, .int 0), (11, .int 0), (10, .int (jshl 1 r20)), (5, .int (x5 / (ji S b14 (Int32.toNatClampNeg 0)))), (9, .int (jrem x5 (ji S b14 (Int32.toNatClampNeg 0)))), (0, .ref a0), (1, .int x1), (2, .int x2), (3, .int x3), (4, .int x4), (7, .int x7), (8, .int x8)]) dX11_areTogether_158 (by decide) rfl ?_
    refine jx_iload 1 dX11_areTogether_160 rfl ?_
    refine jx_if_eq (tgt := 173) dX11_areTogether_162 (by decide) (fun _ => ?_) (fun z9 => absurd z9 (by decide))
    refine jx_iconst (v := (-1)) dX11_areTogether_173 (by decide) ?_
    refine jx_istore (lv1 := [(7, .int (-1)), (6, .int 0), (11, .int 0), (10, .int (jshl 1 r20)), (5, .int (x5 / (ji S b14 (Int32.toNatClampNeg 0)))), (9, .int (jrem x5 (ji S b14 (Int32.toNatClampNeg 0)))), (0, .ref a0), (1, .int x1), (2, .int x2), (3, .int x3), (4, .int x4), (8, .int x8)]) dX11_areTogether_174 (by decide) rfl ?_
    refine jx_iinc 11 (v := (x8 + 1)) (lv1 := [(8, .int (x8 + 1)), (7, .int (-1)), (6, .int 0), (11, .int 0), (10, .int (jshl 1 r20)), (5, .int (x5 / (ji S b14 (Int32.toNatClampNeg 0)))), (9, .int (jrem x5 (ji S b14 (Int32.toNatClampNeg 0)))), (0, .ref a0), (1, .int x1), (2, .int x2), (3, .int x3), (4, .int x4)]) kd75.2.2.1 rfl rfl (by decide) rfl ?_
    refine jx_goto (tgt := 53) kd75.2.2.2.1 (by decide) ?_
    exact jx_lv [7, 8, 9, 10, 11, 5, 2, 1, 0] rfl h
  replace h := h.1 c25
  refine jx_iload_n 4 dX11_areTogether_108 rfl rfl ?_
  refine jx_iload 0 dX11_areTogether_109 rfl ?_
  refine jx_iand dX11_areTogether_111 ?_
  refine jx_if_eq (tgt := 138) dX11_areTogether_112 (by decide) (fun c26 => ?_) (fun c26 => ?_)
  · replace h := h.1 c26
    refine jx_iconst (v := 0) dX11_areTogether_138 (by decide) ?_
    refine jx_istore (lv1 := [(11, .int 0), (10, .int (jshl 1 r20)), (5, .int (x5 / (ji S b14 (Int32.toNatClampNeg 0)))), (9, .int (jrem x5 (ji S b14 (Int32.toNatClampNeg 0)))), (0, .ref a0), (1, .int x1), (2, .int x2), (3, .int x3), (4, .int x4), (6, .int x6), (7, .int x7), (8, .int x8)]) dX11_areTogether_139 (by decide) rfl ?_
    refine jx_iload 0 dX11_areTogether_141 rfl ?_
    refine jx_if_eq (tgt := 157) dX11_areTogether_143 (by decide) (fun _ => ?_) (fun z9 => absurd z9 (by decide))
    refine jx_iconst (v := 0) dX11_areTogether_157 (by decide) ?_
    refine jx_istore (lv1 := [(6, .int 0), (11, .int 0), (10, .int (jshl 1 r20)), (5, .int (x5 / (ji S b14 (Int32.toNatClampNeg 0)))), (9, .int (jrem x5 (ji S b14 (Int32.toNatClampNeg 0)))), (0, .ref a0), (1, .int x1), (2, .int x2), (3, .int x3), (4, .int x4), (7, .int x7), (8, .int x8)]) dX11_areTogether_158 (by decide) rfl ?_
    refine jx_iload 1 dX11_areTogether_160 rfl ?_
    refine jx_if_eq (tgt := 173) dX11_areTogether_162 (by decide) (fun _ => ?_) (fun z9 => absurd z9 (by decide))
    refine jx_iconst (v := (-1)) dX11_areTogether_173 (by decide) ?_
    refine jx_istore (lv1 := [(7, .int (-1)), (6, .int 0), (11, .int 0), (10, .int (jshl 1 r20)), (5, .int (x5 / (ji S b14 (Int32.toNatClampNeg 0)))), (9, .int (jrem x5 (ji S b14 (Int32.toNatClampNeg 0)))), (0, .ref a0), (1, .int x1), (2, .int x2), (3, .int x3), (4, .int x4), (8, .int x8)]) dX11_areTogether_174 (by decide) rfl ?_
    refine jx_iinc 11 (v := (x8 + 1)) (lv1 := [(8, .int (x8 + 1)), (7, .int (-1)), (6, .int 0), (11, .int 0), (10, .int (jshl 1 r20)), (5, .int (x5 / (ji S b14 (Int32.toNatClampNeg 0)))), (9, .int (jrem x5 (ji S b14 (Int32.toNatClampNeg 0)))), (0, .ref a0), (1, .int x1), (2, .int x2), (3, .int x3), (4, .int x4)]) kd75.2.2.1 rfl rfl (by decide) rfl ?_
    refine jx_goto (tgt := 53) kd75.2.2.2.1 (by decide) ?_
    exact jx_lv [7, 8, 9, 10, 11, 5, 2, 1, 0] rfl h
  replace h := h.2 c26
  refine jx_iload 9 dX11_areTogether_115 rfl ?_
  refine jx_iload 0 dX11_areTogether_117 rfl ?_
  refine jx_iand dX11_areTogether_119 ?_
  refine jx_if_ne (tgt := 138) dX11_areTogether_120 (by decide) (fun c27 => ?_) (fun c27 => ?_)
  · replace h := h.2 c27
    refine jx_iconst (v := 0) dX11_areTogether_138 (by decide) ?_
    refine jx_istore (lv1 := [(11, .int 0), (10, .int (jshl 1 r20)), (5, .int (x5 / (ji S b14 (Int32.toNatClampNeg 0)))), (9, .int (jrem x5 (ji S b14 (Int32.toNatClampNeg 0)))), (0, .ref a0), (1, .int x1), (2, .int x2), (3, .int x3), (4, .int x4), (6, .int x6), (7, .int x7), (8, .int x8)]) dX11_areTogether_139 (by decide) rfl ?_
    refine jx_iload 0 dX11_areTogether_141 rfl ?_
    refine jx_if_eq (tgt := 157) dX11_areTogether_143 (by decide) (fun _ => ?_) (fun z9 => absurd z9 (by decide))
    refine jx_iconst (v := 0) dX11_areTogether_157 (by decide) ?_
    refine jx_istore (lv1 := [(6, .int 0), (11, .int 0), (10, .int (jshl 1 r20)), (5, .int (x5 / (ji S b14 (Int32.toNatClampNeg 0)))), (9, .int (jrem x5 (ji S b14 (Int32.toNatClampNeg 0)))), (0, .ref a0), (1, .int x1), (2, .int x2), (3, .int x3), (4, .int x4), (7, .int x7), (8, .int x8)]) dX11_areTogether_158 (by decide) rfl ?_
    refine jx_iload 1 dX11_areTogether_160 rfl ?_
    refine jx_if_eq (tgt := 173) dX11_areTogether_162 (by decide) (fun _ => ?_) (fun z9 => absurd z9 (by decide))
    refine jx_iconst (v := (-1)) dX11_areTogether_173 (by decide) ?_
    refine jx_istore (lv1 := [(7, .int (-1)), (6, .int 0), (11, .int 0), (10, .int (jshl 1 r20)), (5, .int (x5 / (ji S b14 (Int32.toNatClampNeg 0)))), (9, .int (jrem x5 (ji S b14 (Int32.toNatClampNeg 0)))), (0, .ref a0), (1, .int x1), (2, .int x2), (3, .int x3), (4, .int x4), (8, .int x8)]) dX11_areTogether_174 (by decide) rfl ?_
    refine jx_iinc 11 (v := (x8 + 1)) (lv1 := [(8, .int (x8 + 1)), (7, .int (-1)), (6, .int 0), (11, .int 0), (10, .int (jshl 1 r20)), (5, .int (x5 / (ji S b14 (Int32.toNatClampNeg 0)))), (9, .int (jrem x5 (ji S b14 (Int32.toNatClampNeg 0)))), (0, .ref a0), (1, .int x1), (2, .int x2), (3, .int x3), (4, .int x4)]) kd75.2.2.1 rfl rfl (by decide) rfl ?_
    refine jx_goto (tgt := 53) kd75.2.2.2.1 (by decide) ?_
    exact jx_lv [7, 8, 9, 10, 11, 5, 2, 1, 0] rfl h
  replace h := h.1 c27
  refine jx_aload_n 3 dX11_areTogether_123 rfl rfl ?_
  refine jx_iload 2 dX11_areTogether_124 rfl ?_
  refine jx_iload 8 dX11_areTogether_126 rfl ?_
  obtain ⟨hk28, h⟩ := h
  refine jx_callVi (M' := mX11_teaches) (As := [.int (jrem x5 (ji S b14 (Int32.toNatClampNeg 0))), .int x6]) jo_X11_teaches jc_11 rfl jwM_X11_122 jwN_X11_teaches jwX_X11_teaches dX11_areTogether_128 (jRok_m _ _ _) rfl (jle rfl) ⟨jle rfl, jle rfl⟩ hk28 h (fun r30 S29 h => ?_)
  refine jx_if_eq (tgt := 138) dX11_areTogether_131 (by decide) (fun c31 => ?_) (fun c31 => ?_)
  · replace h := h.1 c31
    refine jx_iconst (v := 0) dX11_areTogether_138 (by decide) ?_
    refine jx_istore (lv1 := [(11, .int 0), (10, .int (jshl 1 r20)), (5, .int (x5 / (ji S b14 (Int32.toNatClampNeg 0)))), (9, .int (jrem x5 (ji S b14 (Int32.toNatClampNeg 0)))), (0, .ref a0), (1, .int x1), (2, .int x2), (3, .int x3), (4, .int x4), (6, .int x6), (7, .int x7), (8, .int x8)]) dX11_areTogether_139 (by decide) rfl ?_
    refine jx_iload 0 dX11_areTogether_141 rfl ?_
    refine jx_if_eq (tgt := 157) dX11_areTogether_143 (by decide) (fun _ => ?_) (fun z9 => absurd z9 (by decide))
    refine jx_iconst (v := 0) dX11_areTogether_157 (by decide) ?_
    refine jx_istore (lv1 := [(6, .int 0), (11, .int 0), (10, .int (jshl 1 r20)), (5, .int (x5 / (ji S b14 (Int32.toNatClampNeg 0)))), (9, .int (jrem x5 (ji S b14 (Int32.toNatClampNeg 0)))), (0, .ref a0), (1, .int x1), (2, .int x2), (3, .int x3), (4, .int x4), (7, .int x7), (8, .int x8)]) dX11_areTogether_158 (by decide) rfl ?_
    refine jx_iload 1 dX11_areTogether_160 rfl ?_
    refine jx_if_eq (tgt := 173) dX11_areTogether_162 (by decide) (fun _ => ?_) (fun z9 => absurd z9 (by decide))
    refine jx_iconst (v := (-1)) dX11_areTogether_173 (by decide) ?_
    refine jx_istore (lv1 := [(7, .int (-1)), (6, .int 0), (11, .int 0), (10, .int (jshl 1 r20)), (5, .int (x5 / (ji S b14 (Int32.toNatClampNeg 0)))), (9, .int (jrem x5 (ji S b14 (Int32.toNatClampNeg 0)))), (0, .ref a0), (1, .int x1), (2, .int x2), (3, .int x3), (4, .int x4), (8, .int x8)]) dX11_areTogether_174 (by decide) rfl ?_
    refine jx_iinc 11 (v := (x8 + 1)) (lv1 := [(8, .int (x8 + 1)), (7, .int (-1)), (6, .int 0), (11, .int 0), (10, .int (jshl 1 r20)), (5, .int (x5 / (ji S b14 (Int32.toNatClampNeg 0)))), (9, .int (jrem x5 (ji S b14 (Int32.toNatClampNeg 0)))), (0, .ref a0), (1, .int x1), (2, .int x2), (3, .int x3), (4, .int x4)]) kd75.2.2.1 rfl rfl (by decide) rfl ?_
    refine jx_goto (tgt := 53) kd75.2.2.2.1 (by decide) ?_
    exact jx_lv [7, 8, 9, 10, 11, 5, 2, 1, 0] rfl h
  replace h := h.2 c31
  refine jx_iconst (v := 1) dX11_areTogether_134 (by decide) ?_
  refine jx_goto (tgt := 139) dX11_areTogether_135 (by decide) ?_
  refine jx_istore (lv1 := [(11, .int 1), (10, .int (jshl 1 r20)), (5, .int (x5 / (ji S b14 (Int32.toNatClampNeg 0)))), (9, .int (jrem x5 (ji S b14 (Int32.toNatClampNeg 0)))), (0, .ref a0), (1, .int x1), (2, .int x2), (3, .int x3), (4, .int x4), (6, .int x6), (7, .int x7), (8, .int x8)]) dX11_areTogether_139 (by decide) rfl ?_
  refine jx_iload 0 dX11_areTogether_141 rfl ?_
  refine jx_if_eq (tgt := 157) dX11_areTogether_143 (by decide) (fun z9 => absurd z9 (by decide)) (fun _ => ?_)
  refine jx_aload_n 4 dX11_areTogether_146 rfl rfl ?_
  refine jx_iload 3 dX11_areTogether_147 rfl ?_
  refine jx_iload 9 dX11_areTogether_149 rfl ?_
  obtain ⟨hk32, h⟩ := h
  refine jx_callVi (M' := mX11_behindLesson) (As := [.int (jrem x5 (ji S b14 (Int32.toNatClampNeg 0))), .int x6]) jo_X11_behindLesson jc_11 rfl jwM_X11_158 jwN_X11_behindLesson jwX_X11_behindLesson dX11_areTogether_151 (jRok_m _ _ _) rfl (jle rfl) ⟨jle rfl, jle rfl⟩ hk32 h (fun r34 S33 h => ?_)
  refine jx_goto (tgt := 158) dX11_areTogether_154 (by decide) ?_
  refine jx_istore (lv1 := [(6, .int r34), (11, .int 1), (10, .int (jshl 1 r20)), (5, .int (x5 / (ji S b14 (Int32.toNatClampNeg 0)))), (9, .int (jrem x5 (ji S b14 (Int32.toNatClampNeg 0)))), (0, .ref a0), (1, .int x1), (2, .int x2), (3, .int x3), (4, .int x4), (7, .int x7), (8, .int x8)]) dX11_areTogether_158 (by decide) rfl ?_
  refine jx_iload 1 dX11_areTogether_160 rfl ?_
  refine jx_if_eq (tgt := 173) dX11_areTogether_162 (by decide) (fun z9 => absurd z9 (by decide)) (fun _ => ?_)
  refine jx_iload 10 dX11_areTogether_165 rfl ?_
  refine jx_iload 2 dX11_areTogether_167 rfl ?_
  refine jx_ior dX11_areTogether_169 ?_
  refine jx_goto (tgt := 174) dX11_areTogether_170 (by decide) ?_
  refine jx_istore (lv1 := [(7, .int (x7 ||| (jshl 1 r20))), (6, .int r34), (11, .int 1), (10, .int (jshl 1 r20)), (5, .int (x5 / (ji S b14 (Int32.toNatClampNeg 0)))), (9, .int (jrem x5 (ji S b14 (Int32.toNatClampNeg 0)))), (0, .ref a0), (1, .int x1), (2, .int x2), (3, .int x3), (4, .int x4), (8, .int x8)]) dX11_areTogether_174 (by decide) rfl ?_
  refine jx_iinc 11 (v := (x8 + 1)) (lv1 := [(8, .int (x8 + 1)), (7, .int (x7 ||| (jshl 1 r20))), (6, .int r34), (11, .int 1), (10, .int (jshl 1 r20)), (5, .int (x5 / (ji S b14 (Int32.toNatClampNeg 0)))), (9, .int (jrem x5 (ji S b14 (Int32.toNatClampNeg 0)))), (0, .ref a0), (1, .int x1), (2, .int x2), (3, .int x3), (4, .int x4)]) kd75.2.2.1 rfl rfl (by decide) rfl ?_
  refine jx_goto (tgt := 53) kd75.2.2.2.1 (by decide) ?_
  exact jx_lv [7, 8, 9, 10, 11, 5, 2, 1, 0] rfl h
set_option maxRecDepth 100000 in
set_option maxHeartbeats 4000000 in
theorem T_X11_together {E : jEnv} {d : Nat} {Q : Int32 → jM → Prop} {a0 : Nat} {x1 : Int32} {S : jM} (h : ((jisin (Int32.toInt64 x1) 0 1023) = 0 → Q (-1000000001) S) ∧ (¬ (jisin (Int32.toInt64 x1) 0 1023) = 0 → ((jmany x1) ≤ 3 → jk S a0 = 11 ∧ jFi E mX11_areTogether d 0 0 [.ref a0, .int x1] S (fun r11 S10 => (r11 = 0 → Q 0 S10) ∧ (¬ r11 = 0 → Q 1 S10))) ∧ (¬ (jmany x1) ≤ 3 → Q (-1000000001) S))) : jFi E mX11_together (d + 1) 0 0 [.ref a0, .int x1] S Q := by
  refine jF_of (by decide) (jle rfl) ?_
  refine jx_lv (lv1 := [(0, .ref a0), (1, .int x1)]) [0, 1] rfl ?_
  refine jx_iload_n 1 dX11_together_0 rfl rfl ?_
  refine jx_i2l dX11_together_1 ?_
  refine jx_lconst (v := 0) dX11_together_2 (by decide) ?_
  refine jx_ldc2 jwL_X11_198 dX11_together_3 ?_
  refine jx_callSi (M' := mX11_isIn) (As := [.long (Int32.toInt64 x1), .long 0, .long 1023]) jo_X11_isIn jwM_X11_71 jwS_X11_isIn dX11_together_6 (jRok_m _ _ _) rfl (jle rfl) ⟨jle rfl, jle rfl⟩ (c_X11_isIn (Q := fun v S' => v = (jisin (Int32.toInt64 x1) 0 1023) ∧ S = S') ⟨rfl, rfl⟩) (fun r1 S2 hq3 => ?_)
  obtain ⟨rfl, rfl⟩ := hq3
  refine jx_if_eq (tgt := 20) dX11_together_9 (by decide) (fun c4 => ?_) (fun c4 => ?_)
  · replace h := h.1 c4
    refine jx_ldc jwC_X11_87 dX11_together_20 ?_
    exact jx_iret dX11_together_22 rfl rfl (jle rfl) (jle rfl) ⟨_, rfl, h⟩
  replace h := h.2 c4
  refine jx_iload_n 1 dX11_together_12 rfl rfl ?_
  refine jx_callSi (M' := mX11_manyIn) (As := [.int x1]) jo_X11_manyIn jwM_X11_108 jwS_X11_manyIn dX11_together_13 (jRok_m _ _ _) rfl (jle rfl) ⟨jle rfl, jle rfl⟩ (c_X11_manyIn (Q := fun v S' => v = (jmany x1) ∧ S = S') ⟨rfl, rfl⟩) (fun r5 S6 hq7 => ?_)
  obtain ⟨rfl, rfl⟩ := hq7
  refine jx_iconst (v := 3) dX11_together_16 (by decide) ?_
  refine jx_icmp_le (tgt := 23) dX11_together_17 (by decide) (fun c8 => ?_) (fun c8 => ?_)
  · replace h := h.1 c8
    refine jx_aload_n 0 dX11_together_23 rfl rfl ?_
    refine jx_iload_n 1 dX11_together_24 rfl rfl ?_
    obtain ⟨hk9, h⟩ := h
    refine jx_callVi (M' := mX11_areTogether) (As := [.int x1]) jo_X11_areTogether jc_11 rfl jwM_X11_200 jwN_X11_areTogether jwX_X11_areTogether dX11_together_25 (jRok_m _ _ _) rfl (jle rfl) ⟨jle rfl, jle rfl⟩ hk9 h (fun r11 S10 h => ?_)
    refine jx_if_eq (tgt := 35) dX11_together_28 (by decide) (fun c12 => ?_) (fun c12 => ?_)
    · replace h := h.1 c12
      refine jx_iconst (v := 0) dX11_together_35 (by decide) ?_
      exact jx_iret dX11_together_36 rfl rfl (jle rfl) (jle rfl) ⟨_, rfl, h⟩
    replace h := h.2 c12
    refine jx_iconst (v := 1) dX11_together_31 (by decide) ?_
    refine jx_goto (tgt := 36) dX11_together_32 (by decide) ?_
    exact jx_iret dX11_together_36 rfl rfl (jle rfl) (jle rfl) ⟨_, rfl, h⟩
  replace h := h.2 c8
  refine jx_ldc jwC_X11_87 dX11_together_20 ?_
  exact jx_iret dX11_together_22 rfl rfl (jle rfl) (jle rfl) ⟨_, rfl, h⟩
end
section
/-- X11_taughtNow at its loop's head 4 -/
abbrev L_X11_taughtNow_4 (E : jEnv) (d : Nat) (Q : Int32 → jM → Prop) (a0 : Nat) (x1 : Int32) (x2 : Int32) (S : jM) : Prop := jX E mX11_taughtNow (jRm (d + 1) 0 0) (jZm E (fun r S' => ∃ v : Int32, r = some (.int v) ∧ Q v S') 0 0) 4 [(0, .ref a0), (1, .int x1), (2, .int x2)] [] S 0 0
set_option maxRecDepth 100000 in
set_option maxHeartbeats 4000000 in
theorem T_X11_taughtNow {E : jEnv} {d : Nat} {Q : Int32 → jM → Prop} {a0 : Nat} {S : jM} (h : L_X11_taughtNow_4 E d Q a0 0 0 S) : jFi E mX11_taughtNow (d + 1) 0 0 [.ref a0] S Q := by
  refine jF_of (by decide) (jle rfl) ?_
  refine jx_lv (lv1 := [(0, .ref a0)]) [0] rfl ?_
  refine jx_iconst (v := 0) dX11_taughtNow_0 (by decide) ?_
  refine jx_istore_n (lv1 := [(1, .int 0), (0, .ref a0)]) dX11_taughtNow_1 rfl (by decide) rfl ?_
  refine jx_iconst (v := 0) dX11_taughtNow_2 (by decide) ?_
  refine jx_istore_n (lv1 := [(2, .int 0), (1, .int 0), (0, .ref a0)]) dX11_taughtNow_3 rfl (by decide) rfl ?_
  exact jx_lv [2, 1, 0] rfl h
set_option maxRecDepth 100000 in
set_option maxHeartbeats 4000000 in
theorem T_X11_taughtNow_4 {E : jEnv} {d : Nat} {Q : Int32 → jM → Prop} {a0 : Nat} {x1 : Int32} {x2 : Int32} {S : jM} (h : jk S a0 = 11 ∧ ∃ b2, jr S a0 0 = some b2 ∧ (jk S b2 = 12 ∧ vp_in 0 (jl S b2) ∧ (((ji S b2 (Int32.toNatClampNeg 0)) ≤ x2 → Q x1 S) ∧ (¬ (ji S b2 (Int32.toNatClampNeg 0)) ≤ x2 → jFi E mX11_of d 0 0 [.ref a0, .int x2, .int 6] S (fun r7 S6 => (r7 = 0 → jk S6 a0 = 11 ∧ jFi E mX11_of d 0 0 [.ref a0, .int x2, .int 2] S6 (fun r11 S10 => L_X11_taughtNow_4 E d Q a0 (x1 ||| (jshl 1 r11)) (x2 + 1) S10)) ∧ (¬ r7 = 0 → L_X11_taughtNow_4 E d Q a0 (x1 ||| 0) (x2 + 1) S6)))))) : L_X11_taughtNow_4 E d Q a0 x1 x2 S := by
  show jX E mX11_taughtNow (jRm (d + 1) 0 0) (jZm E (fun r S' => ∃ v : Int32, r = some (.int v) ∧ Q v S') 0 0) 4 [(0, .ref a0), (1, .int x1), (2, .int x2)] [] S 0 0
  refine jx_iload_n 2 dX11_taughtNow_4 rfl rfl ?_
  refine jx_aload_n 0 dX11_taughtNow_5 rfl rfl ?_
  obtain ⟨hk1, h⟩ := h
  obtain ⟨b2, hb2, h⟩ := h
  refine jx_getr jc_11 (j := 0) (by decide) rfl jwF_X11_7 dX11_taughtNow_6 hk1 hb2 ?_
  refine jx_iconst (v := 0) dX11_taughtNow_9 (by decide) ?_
  obtain ⟨hk3, h⟩ := h
  obtain ⟨hi4, h⟩ := h
  refine jx_iald dX11_taughtNow_10 hk3 hi4 ?_
  refine jx_icmp_ge (tgt := 45) dX11_taughtNow_11 (by decide) (fun c5 => ?_) (fun c5 => ?_)
  · replace h := h.1 c5
    refine jx_iload_n 1 dX11_taughtNow_45 rfl rfl ?_
    exact jx_iret dX11_taughtNow_46 rfl rfl (jle rfl) (jle rfl) ⟨_, rfl, h⟩
  replace h := h.2 c5
  refine jx_iload_n 1 dX11_taughtNow_14 rfl rfl ?_
  refine jx_aload_n 0 dX11_taughtNow_15 rfl rfl ?_
  refine jx_iload_n 2 dX11_taughtNow_16 rfl rfl ?_
  refine jx_bipush (v := 6) dX11_taughtNow_17 (by decide) ?_
  refine jx_callVi (M' := mX11_of) (As := [.int x2, .int 6]) jo_X11_of jc_11 rfl jwM_X11_97 jwN_X11_of jwX_X11_of dX11_taughtNow_19 (jRok_m _ _ _) rfl (jle rfl) ⟨jle rfl, jle rfl⟩ hk1 h (fun r7 S6 h => ?_)
  refine jx_if_ne (tgt := 36) dX11_taughtNow_22 (by decide) (fun c8 => ?_) (fun c8 => ?_)
  · replace h := h.2 c8
    refine jx_iconst (v := 0) dX11_taughtNow_36 (by decide) ?_
    refine jx_ior dX11_taughtNow_37 ?_
    refine jx_istore_n (lv1 := [(1, .int (x1 ||| 0)), (0, .ref a0), (2, .int x2)]) dX11_taughtNow_38 rfl (by decide) rfl ?_
    refine jx_iinc 2 (v := (x2 + 1)) (lv1 := [(2, .int (x2 + 1)), (1, .int (x1 ||| 0)), (0, .ref a0)]) kd76.1 rfl rfl (by decide) rfl ?_
    refine jx_goto (tgt := 4) kd76.2 (by decide) ?_
    exact jx_lv [2, 1, 0] rfl h
  replace h := h.1 c8
  refine jx_iconst (v := 1) dX11_taughtNow_25 (by decide) ?_
  refine jx_aload_n 0 dX11_taughtNow_26 rfl rfl ?_
  refine jx_iload_n 2 dX11_taughtNow_27 rfl rfl ?_
  refine jx_iconst (v := 2) dX11_taughtNow_28 (by decide) ?_
  obtain ⟨hk9, h⟩ := h
  refine jx_callVi (M' := mX11_of) (As := [.int x2, .int 2]) jo_X11_of jc_11 rfl jwM_X11_97 jwN_X11_of jwX_X11_of dX11_taughtNow_29 (jRok_m _ _ _) rfl (jle rfl) ⟨jle rfl, jle rfl⟩ hk9 h (fun r11 S10 h => ?_)
  refine jx_ishl dX11_taughtNow_32 ?_
  refine jx_goto (tgt := 37) dX11_taughtNow_33 (by decide) ?_
  refine jx_ior dX11_taughtNow_37 ?_
  refine jx_istore_n (lv1 := [(1, .int (x1 ||| (jshl 1 r11))), (0, .ref a0), (2, .int x2)]) dX11_taughtNow_38 rfl (by decide) rfl ?_
  refine jx_iinc 2 (v := (x2 + 1)) (lv1 := [(2, .int (x2 + 1)), (1, .int (x1 ||| (jshl 1 r11))), (0, .ref a0)]) kd76.1 rfl rfl (by decide) rfl ?_
  refine jx_goto (tgt := 4) kd76.2 (by decide) ?_
  exact jx_lv [2, 1, 0] rfl h
/-- X11_never at its loop's head 7 -/
abbrev L_X11_never_7 (E : jEnv) (d : Nat) (Q : Int32 → jM → Prop) (a0 : Nat) (x1 : Int32) (x2 : Int32) (S : jM) : Prop := jX E mX11_never (jRm (d + 1) 0 0) (jZm E (fun r S' => ∃ v : Int32, r = some (.int v) ∧ Q v S') 0 0) 7 [(0, .ref a0), (1, .int x1), (2, .int x2)] [] S 0 0
/-- X11_never at its loop's head 17 -/
abbrev L_X11_never_17 (E : jEnv) (d : Nat) (Q : Int32 → jM → Prop) (a0 : Nat) (x1 : Int32) (x2 : Int32) (x3 : Int32) (S : jM) : Prop := jX E mX11_never (jRm (d + 1) 0 0) (jZm E (fun r S' => ∃ v : Int32, r = some (.int v) ∧ Q v S') 0 0) 17 [(0, .ref a0), (1, .int x1), (2, .int x2), (3, .int x3)] [] S 0 0
set_option maxRecDepth 100000 in
set_option maxHeartbeats 4000000 in
theorem T_X11_never {E : jEnv} {d : Nat} {Q : Int32 → jM → Prop} {a0 : Nat} {S : jM} (h : jk S a0 = 11 ∧ jFi E mX11_taughtNow d 0 0 [.ref a0] S (fun r3 S2 => L_X11_never_7 E d Q a0 r3 0 S2)) : jFi E mX11_never (d + 1) 0 0 [.ref a0] S Q := by
  refine jF_of (by decide) (jle rfl) ?_
  refine jx_lv (lv1 := [(0, .ref a0)]) [0] rfl ?_
  refine jx_aload_n 0 dX11_never_0 rfl rfl ?_
  obtain ⟨hk1, h⟩ := h
  refine jx_callVi (M' := mX11_taughtNow) (As := []) jo_X11_taughtNow jc_11 rfl jwM_X11_203 jwN_X11_taughtNow jwX_X11_taughtNow dX11_never_1 (jRok_m _ _ _) rfl (jle rfl) ⟨jle rfl, jle rfl⟩ hk1 h (fun r3 S2 h => ?_)
  refine jx_istore_n (lv1 := [(1, .int r3), (0, .ref a0)]) dX11_never_4 rfl (by decide) rfl ?_
  refine jx_iconst (v := 0) dX11_never_5 (by decide) ?_
  refine jx_istore_n (lv1 := [(2, .int 0), (1, .int r3), (0, .ref a0)]) dX11_never_6 rfl (by decide) rfl ?_
  exact jx_lv [2, 1, 0] rfl h
set_option maxRecDepth 100000 in
set_option maxHeartbeats 4000000 in
theorem T_X11_never_7 {E : jEnv} {d : Nat} {Q : Int32 → jM → Prop} {a0 : Nat} {x1 : Int32} {x2 : Int32} {S : jM} (h : (10 ≤ x2 → Q (-1000000005) S) ∧ (¬ 10 ≤ x2 → L_X11_never_17 E d Q a0 x1 x2 (x2 + 1) S)) : L_X11_never_7 E d Q a0 x1 x2 S := by
  show jX E mX11_never (jRm (d + 1) 0 0) (jZm E (fun r S' => ∃ v : Int32, r = some (.int v) ∧ Q v S') 0 0) 7 [(0, .ref a0), (1, .int x1), (2, .int x2)] [] S 0 0
  refine jx_iload_n 2 dX11_never_7 rfl rfl ?_
  refine jx_bipush (v := 10) dX11_never_8 (by decide) ?_
  refine jx_icmp_ge (tgt := 69) dX11_never_10 (by decide) (fun c4 => ?_) (fun c4 => ?_)
  · replace h := h.1 c4
    refine jx_ldc jwC_X11_70 dX11_never_69 ?_
    exact jx_iret dX11_never_71 rfl rfl (jle rfl) (jle rfl) ⟨_, rfl, h⟩
  replace h := h.2 c4
  refine jx_iload_n 2 dX11_never_13 rfl rfl ?_
  refine jx_iconst (v := 1) dX11_never_14 (by decide) ?_
  refine jx_iadd dX11_never_15 ?_
  refine jx_istore_n (lv1 := [(3, .int (x2 + 1)), (0, .ref a0), (1, .int x1), (2, .int x2)]) dX11_never_16 rfl (by decide) rfl ?_
  exact jx_lv [1, 2, 3, 0] rfl h
set_option maxRecDepth 100000 in
set_option maxHeartbeats 4000000 in
theorem T_X11_never_17 {E : jEnv} {d : Nat} {Q : Int32 → jM → Prop} {a0 : Nat} {x1 : Int32} {x2 : Int32} {x3 : Int32} {S : jM} (h : (10 ≤ x3 → L_X11_never_7 E d Q a0 x1 (x2 + 1) S) ∧ (¬ 10 ≤ x3 → ((x1 &&& ((jshl 1 x2) ||| (jshl 1 x3))) = ((jshl 1 x2) ||| (jshl 1 x3)) → jk S a0 = 11 ∧ jFi E mX11_areTogether d 0 0 [.ref a0, .int ((jshl 1 x2) ||| (jshl 1 x3))] S (fun r9 S8 => (r9 = 0 → Q ((10 * x2) + x3) S8) ∧ (¬ r9 = 0 → L_X11_never_17 E d Q a0 x1 x2 (x3 + 1) S8))) ∧ (¬ (x1 &&& ((jshl 1 x2) ||| (jshl 1 x3))) = ((jshl 1 x2) ||| (jshl 1 x3)) → L_X11_never_17 E d Q a0 x1 x2 (x3 + 1) S))) : L_X11_never_17 E d Q a0 x1 x2 x3 S := by
  show jX E mX11_never (jRm (d + 1) 0 0) (jZm E (fun r S' => ∃ v : Int32, r = some (.int v) ∧ Q v S') 0 0) 17 [(0, .ref a0), (1, .int x1), (2, .int x2), (3, .int x3)] [] S 0 0
  refine jx_iload_n 3 dX11_never_17 rfl rfl ?_
  refine jx_bipush (v := 10) dX11_never_18 (by decide) ?_
  refine jx_icmp_ge (tgt := 63) dX11_never_20 (by decide) (fun c5 => ?_) (fun c5 => ?_)
  · replace h := h.1 c5
    refine jx_iinc 2 (v := (x2 + 1)) (lv1 := [(2, .int (x2 + 1)), (0, .ref a0), (1, .int x1), (3, .int x3)]) kd77.2.2.1 rfl rfl (by decide) rfl ?_
    refine jx_goto (tgt := 7) kd77.2.2.2 (by decide) ?_
    exact jx_lv [1, 2, 0] rfl h
  replace h := h.2 c5
  refine jx_iconst (v := 1) dX11_never_23 (by decide) ?_
  refine jx_iload_n 2 dX11_never_24 rfl rfl ?_
  refine jx_ishl dX11_never_25 ?_
  refine jx_iconst (v := 1) dX11_never_26 (by decide) ?_
  refine jx_iload_n 3 dX11_never_27 rfl rfl ?_
  refine jx_ishl dX11_never_28 ?_
  refine jx_ior dX11_never_29 ?_
  refine jx_istore (lv1 := [(4, .int ((jshl 1 x2) ||| (jshl 1 x3))), (0, .ref a0), (1, .int x1), (2, .int x2), (3, .int x3)]) dX11_never_30 (by decide) rfl ?_
  refine jx_iload_n 2 dX11_never_32 rfl rfl ?_
  refine jx_iload 0 dX11_never_33 rfl ?_
  refine jx_iand dX11_never_35 ?_
  refine jx_iload 0 dX11_never_36 rfl ?_
  refine jx_icmp_ne (tgt := 57) dX11_never_38 (by decide) (fun c6 => ?_) (fun c6 => ?_)
  · replace h := h.2 c6
    refine jx_iinc 4 (v := (x3 + 1)) (lv1 := [(3, .int (x3 + 1)), (4, .int ((jshl 1 x2) ||| (jshl 1 x3))), (0, .ref a0), (1, .int x1), (2, .int x2)]) kd77.1 rfl rfl (by decide) rfl ?_
    refine jx_goto (tgt := 17) kd77.2.1 (by decide) ?_
    exact jx_lv [2, 3, 4, 0] rfl h
  replace h := h.1 c6
  refine jx_aload_n 1 dX11_never_41 rfl rfl ?_
  refine jx_iload 0 dX11_never_42 rfl ?_
  obtain ⟨hk7, h⟩ := h
  refine jx_callVi (M' := mX11_areTogether) (As := [.int ((jshl 1 x2) ||| (jshl 1 x3))]) jo_X11_areTogether jc_11 rfl jwM_X11_200 jwN_X11_areTogether jwX_X11_areTogether dX11_never_44 (jRok_m _ _ _) rfl (jle rfl) ⟨jle rfl, jle rfl⟩ hk7 h (fun r9 S8 h => ?_)
  refine jx_if_ne (tgt := 57) dX11_never_47 (by decide) (fun c10 => ?_) (fun c10 => ?_)
  · replace h := h.2 c10
    refine jx_iinc 4 (v := (x3 + 1)) (lv1 := [(3, .int (x3 + 1)), (4, .int ((jshl 1 x2) ||| (jshl 1 x3))), (0, .ref a0), (1, .int x1), (2, .int x2)]) kd77.1 rfl rfl (by decide) rfl ?_
    refine jx_goto (tgt := 17) kd77.2.1 (by decide) ?_
    exact jx_lv [2, 3, 4, 0] rfl h
  replace h := h.1 c10
  refine jx_bipush (v := 10) dX11_never_50 (by decide) ?_
  refine jx_iload_n 3 dX11_never_52 rfl rfl ?_
  refine jx_imul dX11_never_53 ?_
  refine jx_iload_n 4 dX11_never_54 rfl rfl ?_
  refine jx_iadd dX11_never_55 ?_
  exact jx_iret dX11_never_56 rfl rfl (jle rfl) (jle rfl) ⟨_, rfl, h⟩
/-- X11_last at its loop's head 17 -/
abbrev L_X11_last_17 (E : jEnv) (d : Nat) (Q : Int32 → jM → Prop) (a0 : Nat) (x1 : Int32) (x2 : Int32) (x3 : Int32) (x4 : Int32) (S : jM) : Prop := jX E mX11_last (jRm (d + 1) 0 0) (jZm E (fun r S' => ∃ v : Int32, r = some (.int v) ∧ Q v S') 0 0) 17 [(0, .ref a0), (1, .int x1), (2, .int x2), (3, .int x3), (4, .int x4)] [] S 0 0
set_option maxRecDepth 100000 in
set_option maxHeartbeats 4000000 in
theorem T_X11_last {E : jEnv} {d : Nat} {Q : Int32 → jM → Prop} {a0 : Nat} {x1 : Int32} {S : jM} (h : ((jisg x1) = 0 → Q (-1000000001) S) ∧ (¬ (jisg x1) = 0 → L_X11_last_17 E d Q a0 x1 (-1) 0 0 S)) : jFi E mX11_last (d + 1) 0 0 [.ref a0, .int x1] S Q := by
  refine jF_of (by decide) (jle rfl) ?_
  refine jx_lv (lv1 := [(0, .ref a0), (1, .int x1)]) [0, 1] rfl ?_
  refine jx_iload_n 1 dX11_last_0 rfl rfl ?_
  refine jx_callSi (M' := mX11_isGesture) (As := [.int x1]) jo_X11_isGesture jwM_X11_82 jwS_X11_isGesture dX11_last_1 (jRok_m _ _ _) rfl (jle rfl) ⟨jle rfl, jle rfl⟩ (c_X11_isGesture (Q := fun v S' => v = (jisg x1) ∧ S = S') ⟨rfl, rfl⟩) (fun r1 S2 hq3 => ?_)
  obtain ⟨rfl, rfl⟩ := hq3
  refine jx_if_ne (tgt := 10) dX11_last_4 (by decide) (fun c4 => ?_) (fun c4 => ?_)
  · replace h := h.2 c4
    refine jx_iconst (v := (-1)) dX11_last_10 (by decide) ?_
    refine jx_istore_n (lv1 := [(2, .int (-1)), (0, .ref a0), (1, .int x1)]) dX11_last_11 rfl (by decide) rfl ?_
    refine jx_iconst (v := 0) dX11_last_12 (by decide) ?_
    refine jx_istore_n (lv1 := [(3, .int 0), (2, .int (-1)), (0, .ref a0), (1, .int x1)]) dX11_last_13 rfl (by decide) rfl ?_
    refine jx_iconst (v := 0) dX11_last_14 (by decide) ?_
    refine jx_istore (lv1 := [(4, .int 0), (3, .int 0), (2, .int (-1)), (0, .ref a0), (1, .int x1)]) dX11_last_15 (by decide) rfl ?_
    exact jx_lv [3, 4, 2, 1, 0] rfl h
  replace h := h.1 c4
  refine jx_ldc jwC_X11_87 dX11_last_7 ?_
  exact jx_iret dX11_last_9 rfl rfl (jle rfl) (jle rfl) ⟨_, rfl, h⟩
set_option maxRecDepth 100000 in
set_option maxHeartbeats 4000000 in
theorem T_X11_last_17 {E : jEnv} {d : Nat} {Q : Int32 → jM → Prop} {a0 : Nat} {x1 : Int32} {x2 : Int32} {x3 : Int32} {x4 : Int32} {S : jM} (h : jk S a0 = 11 ∧ ∃ b6, jr S a0 0 = some b6 ∧ (jk S b6 = 12 ∧ vp_in 0 (jl S b6) ∧ (((ji S b6 (Int32.toNatClampNeg 0)) ≤ x4 → (x3 = 1 → Q x2 S) ∧ (¬ x3 = 1 → Q (-1000000005) S)) ∧ (¬ (ji S b6 (Int32.toNatClampNeg 0)) ≤ x4 → jFi E mX11_of d 0 0 [.ref a0, .int x4, .int 6] S (fun r12 S11 => (r12 = 0 → jk S11 a0 = 11 ∧ jFi E mX11_of d 0 0 [.ref a0, .int x4, .int 2] S11 (fun r16 S15 => (r16 = x1 → L_X11_last_17 E d Q a0 x1 x4 (x3 + 1) (x4 + 1) S15) ∧ (¬ r16 = x1 → L_X11_last_17 E d Q a0 x1 x2 x3 (x4 + 1) S15))) ∧ (¬ r12 = 0 → L_X11_last_17 E d Q a0 x1 x2 x3 (x4 + 1) S11)))))) : L_X11_last_17 E d Q a0 x1 x2 x3 x4 S := by
  show jX E mX11_last (jRm (d + 1) 0 0) (jZm E (fun r S' => ∃ v : Int32, r = some (.int v) ∧ Q v S') 0 0) 17 [(0, .ref a0), (1, .int x1), (2, .int x2), (3, .int x3), (4, .int x4)] [] S 0 0
  refine jx_iload 4 dX11_last_17 rfl ?_
  refine jx_aload_n 0 dX11_last_19 rfl rfl ?_
  obtain ⟨hk5, h⟩ := h
  obtain ⟨b6, hb6, h⟩ := h
  refine jx_getr jc_11 (j := 0) (by decide) rfl jwF_X11_7 dX11_last_20 hk5 hb6 ?_
  refine jx_iconst (v := 0) dX11_last_23 (by decide) ?_
  obtain ⟨hk7, h⟩ := h
  obtain ⟨hi8, h⟩ := h
  refine jx_iald dX11_last_24 hk7 hi8 ?_
  refine jx_icmp_ge (tgt := 62) dX11_last_25 (by decide) (fun c9 => ?_) (fun c9 => ?_)
  · replace h := h.1 c9
    refine jx_iload_n 3 dX11_last_62 rfl rfl ?_
    refine jx_iconst (v := 1) dX11_last_63 (by decide) ?_
    refine jx_icmp_ne (tgt := 71) dX11_last_64 (by decide) (fun c10 => ?_) (fun c10 => ?_)
    · replace h := h.2 c10
      refine jx_ldc jwC_X11_70 dX11_last_71 ?_
      exact jx_iret dX11_last_73 rfl rfl (jle rfl) (jle rfl) ⟨_, rfl, h⟩
    replace h := h.1 c10
    refine jx_iload_n 2 dX11_last_67 rfl rfl ?_
    refine jx_goto (tgt := 73) dX11_last_68 (by decide) ?_
    exact jx_iret dX11_last_73 rfl rfl (jle rfl) (jle rfl) ⟨_, rfl, h⟩
  replace h := h.2 c9
  refine jx_aload_n 0 dX11_last_28 rfl rfl ?_
  refine jx_iload 4 dX11_last_29 rfl ?_
  refine jx_bipush (v := 6) dX11_last_31 (by decide) ?_
  refine jx_callVi (M' := mX11_of) (As := [.int x4, .int 6]) jo_X11_of jc_11 rfl jwM_X11_97 jwN_X11_of jwX_X11_of dX11_last_33 (jRok_m _ _ _) rfl (jle rfl) ⟨jle rfl, jle rfl⟩ hk5 h (fun r12 S11 h => ?_)
  refine jx_if_ne (tgt := 56) dX11_last_36 (by decide) (fun c13 => ?_) (fun c13 => ?_)
  · replace h := h.2 c13
    refine jx_iinc 4 (v := (x4 + 1)) (lv1 := [(4, .int (x4 + 1)), (0, .ref a0), (1, .int x1), (2, .int x2), (3, .int x3)]) kd78.2.1 rfl rfl (by decide) rfl ?_
    refine jx_goto (tgt := 17) kd78.2.2 (by decide) ?_
    exact jx_lv [1, 2, 3, 4, 0] rfl h
  replace h := h.1 c13
  refine jx_aload_n 0 dX11_last_39 rfl rfl ?_
  refine jx_iload 4 dX11_last_40 rfl ?_
  refine jx_iconst (v := 2) dX11_last_42 (by decide) ?_
  obtain ⟨hk14, h⟩ := h
  refine jx_callVi (M' := mX11_of) (As := [.int x4, .int 2]) jo_X11_of jc_11 rfl jwM_X11_97 jwN_X11_of jwX_X11_of dX11_last_43 (jRok_m _ _ _) rfl (jle rfl) ⟨jle rfl, jle rfl⟩ hk14 h (fun r16 S15 h => ?_)
  refine jx_iload_n 1 dX11_last_46 rfl rfl ?_
  refine jx_icmp_ne (tgt := 56) dX11_last_47 (by decide) (fun c17 => ?_) (fun c17 => ?_)
  · replace h := h.2 c17
    refine jx_iinc 4 (v := (x4 + 1)) (lv1 := [(4, .int (x4 + 1)), (0, .ref a0), (1, .int x1), (2, .int x2), (3, .int x3)]) kd78.2.1 rfl rfl (by decide) rfl ?_
    refine jx_goto (tgt := 17) kd78.2.2 (by decide) ?_
    exact jx_lv [1, 2, 3, 4, 0] rfl h
  replace h := h.1 c17
  refine jx_iload 4 dX11_last_50 rfl ?_
  refine jx_istore_n (lv1 := [(2, .int x4), (0, .ref a0), (1, .int x1), (3, .int x3), (4, .int x4)]) dX11_last_52 rfl (by decide) rfl ?_
  refine jx_iinc 3 (v := (x3 + 1)) (lv1 := [(3, .int (x3 + 1)), (2, .int x4), (0, .ref a0), (1, .int x1), (4, .int x4)]) kd78.1 rfl rfl (by decide) rfl ?_
  refine jx_iinc 4 (v := (x4 + 1)) (lv1 := [(4, .int (x4 + 1)), (3, .int (x3 + 1)), (2, .int x4), (0, .ref a0), (1, .int x1)]) kd78.2.1 rfl rfl (by decide) rfl ?_
  refine jx_goto (tgt := 17) kd78.2.2 (by decide) ?_
  exact jx_lv [3, 4, 2, 1, 0] rfl h
/-- X11_year at its loop's head 4 -/
abbrev L_X11_year_4 (E : jEnv) (d : Nat) (Q : Int32 → jM → Prop) (a0 : Nat) (x1 : Int32) (x2 : Int32) (S : jM) : Prop := jX E mX11_year (jRm (d + 1) 0 0) (jZm E (fun r S' => ∃ v : Int32, r = some (.int v) ∧ Q v S') 0 0) 4 [(0, .ref a0), (1, .int x1), (2, .int x2)] [] S 0 0
set_option maxRecDepth 100000 in
set_option maxHeartbeats 4000000 in
theorem T_X11_year {E : jEnv} {d : Nat} {Q : Int32 → jM → Prop} {a0 : Nat} {S : jM} (h : L_X11_year_4 E d Q a0 0 0 S) : jFi E mX11_year (d + 1) 0 0 [.ref a0] S Q := by
  refine jF_of (by decide) (jle rfl) ?_
  refine jx_lv (lv1 := [(0, .ref a0)]) [0] rfl ?_
  refine jx_iconst (v := 0) dX11_year_0 (by decide) ?_
  refine jx_istore_n (lv1 := [(1, .int 0), (0, .ref a0)]) dX11_year_1 rfl (by decide) rfl ?_
  refine jx_iconst (v := 0) dX11_year_2 (by decide) ?_
  refine jx_istore_n (lv1 := [(2, .int 0), (1, .int 0), (0, .ref a0)]) dX11_year_3 rfl (by decide) rfl ?_
  exact jx_lv [2, 1, 0] rfl h
set_option maxRecDepth 100000 in
set_option maxHeartbeats 4000000 in
theorem T_X11_year_4 {E : jEnv} {d : Nat} {Q : Int32 → jM → Prop} {a0 : Nat} {x1 : Int32} {x2 : Int32} {S : jM} (h : jk S a0 = 11 ∧ ∃ b2, jr S a0 0 = some b2 ∧ (jk S b2 = 12 ∧ vp_in 0 (jl S b2) ∧ (((ji S b2 (Int32.toNatClampNeg 0)) ≤ x2 → Q x1 S) ∧ (¬ (ji S b2 (Int32.toNatClampNeg 0)) ≤ x2 → vp_in ((72 + (7 * x2)) + 6) (jl S b2) ∧ (((ji S b2 (Int32.toNatClampNeg ((72 + (7 * x2)) + 6))) = 0 → jFi E mX11_drawn d 0 0 [.ref a0] S (fun r9 S8 => jk S8 a0 = 11 ∧ ∃ b11, jr S8 a0 0 = some b11 ∧ (jk S8 b11 = 12 ∧ vp_in ((72 + (7 * x2)) + 5) (jl S8 b11) ∧ ((((ji S8 b11 (Int32.toNatClampNeg ((72 + (7 * x2)) + 5))) - 50) ≤ (jrem r9 100) → ((L_X11_year_4 E d Q a0 x1 (x2 + 1) (jput S8 b11 (Int32.toNatClampNeg ((72 + (7 * x2)) + 5)) (jclamp ((ji S8 b11 (Int32.toNatClampNeg ((72 + (7 * x2)) + 5))) + 1) 0 99))))) ∧ (¬ ((ji S8 b11 (Int32.toNatClampNeg ((72 + (7 * x2)) + 5))) - 50) ≤ (jrem r9 100) → vp_in ((72 + (7 * x2)) + 6) (jl S8 b11) ∧ (L_X11_year_4 E d Q a0 (x1 + 1) (x2 + 1) (jput S8 b11 (Int32.toNatClampNeg ((72 + (7 * x2)) + 6)) 1))))))) ∧ (¬ (ji S b2 (Int32.toNatClampNeg ((72 + (7 * x2)) + 6))) = 0 → L_X11_year_4 E d Q a0 x1 (x2 + 1) S)))))) : L_X11_year_4 E d Q a0 x1 x2 S := by
  show jX E mX11_year (jRm (d + 1) 0 0) (jZm E (fun r S' => ∃ v : Int32, r = some (.int v) ∧ Q v S') 0 0) 4 [(0, .ref a0), (1, .int x1), (2, .int x2)] [] S 0 0
  refine jx_iload_n 2 dX11_year_4 rfl rfl ?_
  refine jx_aload_n 0 dX11_year_5 rfl rfl ?_
  obtain ⟨hk1, h⟩ := h
  obtain ⟨b2, hb2, h⟩ := h
  refine jx_getr jc_11 (j := 0) (by decide) rfl jwF_X11_7 dX11_year_6 hk1 hb2 ?_
  refine jx_iconst (v := 0) dX11_year_9 (by decide) ?_
  obtain ⟨hk3, h⟩ := h
  obtain ⟨hi4, h⟩ := h
  refine jx_iald dX11_year_10 hk3 hi4 ?_
  refine jx_icmp_ge (tgt := 101) dX11_year_11 (by decide) (fun c5 => ?_) (fun c5 => ?_)
  · replace h := h.1 c5
    refine jx_iload_n 1 dX11_year_101 rfl rfl ?_
    exact jx_iret dX11_year_102 rfl rfl (jle rfl) (jle rfl) ⟨_, rfl, h⟩
  replace h := h.2 c5
  refine jx_bipush (v := 72) dX11_year_14 (by decide) ?_
  refine jx_bipush (v := 7) dX11_year_16 (by decide) ?_
  refine jx_iload_n 2 dX11_year_18 rfl rfl ?_
  refine jx_imul dX11_year_19 ?_
  refine jx_iadd dX11_year_20 ?_
  refine jx_istore_n (lv1 := [(3, .int (72 + (7 * x2))), (0, .ref a0), (1, .int x1), (2, .int x2)]) dX11_year_21 rfl (by decide) rfl ?_
  refine jx_aload_n 1 dX11_year_22 rfl rfl ?_
  refine jx_getr jc_11 (j := 0) (by decide) rfl jwF_X11_7 dX11_year_23 hk1 hb2 ?_
  refine jx_iload_n 0 dX11_year_26 rfl rfl ?_
  refine jx_bipush (v := 6) dX11_year_27 (by decide) ?_
  refine jx_iadd dX11_year_29 ?_
  obtain ⟨hi6, h⟩ := h
  refine jx_iald dX11_year_30 hk3 hi6 ?_
  refine jx_if_ne (tgt := 95) dX11_year_31 (by decide) (fun c7 => ?_) (fun c7 => ?_)
  · replace h := h.2 c7
    refine jx_iinc 3 (v := (x2 + 1)) (lv1 := [(2, .int (x2 + 1)), (3, .int (72 + (7 * x2))), (0, .ref a0), (1, .int x1)]) kd79.2.1 rfl rfl (by decide) rfl ?_
    refine jx_goto (tgt := 4) kd79.2.2 (by decide) ?_
    exact jx_lv [2, 3, 0] rfl h
  replace h := h.1 c7
  refine jx_aload_n 1 dX11_year_34 rfl rfl ?_
  refine jx_callVi (M' := mX11_drawn) (As := []) jo_X11_drawn jc_11 rfl jwM_X11_140 jwN_X11_drawn jwX_X11_drawn dX11_year_35 (jRok_m _ _ _) rfl (jle rfl) ⟨jle rfl, jle rfl⟩ hk1 h (fun r9 S8 h => ?_)
  refine jx_bipush (v := 100) dX11_year_38 (by decide) ?_
  refine jx_irem dX11_year_40 (by decide) ?_
  refine jx_aload_n 1 dX11_year_41 rfl rfl ?_
  obtain ⟨hk10, h⟩ := h
  obtain ⟨b11, hb11, h⟩ := h
  refine jx_getr jc_11 (j := 0) (by decide) rfl jwF_X11_7 dX11_year_42 hk10 hb11 ?_
  refine jx_iload_n 0 dX11_year_45 rfl rfl ?_
  refine jx_iconst (v := 5) dX11_year_46 (by decide) ?_
  refine jx_iadd dX11_year_47 ?_
  obtain ⟨hk12, h⟩ := h
  obtain ⟨hi13, h⟩ := h
  refine jx_iald dX11_year_48 hk12 hi13 ?_
  refine jx_bipush (v := 50) dX11_year_49 (by decide) ?_
  refine jx_isub dX11_year_51 ?_
  refine jx_icmp_ge (tgt := 71) dX11_year_52 (by decide) (fun c14 => ?_) (fun c14 => ?_)
  · replace h := h.1 c14
    refine jx_aload_n 1 dX11_year_71 rfl rfl ?_
    refine jx_getr jc_11 (j := 0) (by decide) rfl jwF_X11_7 dX11_year_72 hk10 hb11 ?_
    refine jx_iload_n 0 dX11_year_75 rfl rfl ?_
    refine jx_iconst (v := 5) dX11_year_76 (by decide) ?_
    refine jx_iadd dX11_year_77 ?_
    refine jx_aload_n 1 dX11_year_78 rfl rfl ?_
    refine jx_getr jc_11 (j := 0) (by decide) rfl jwF_X11_7 dX11_year_79 hk10 hb11 ?_
    refine jx_iload_n 0 dX11_year_82 rfl rfl ?_
    refine jx_iconst (v := 5) dX11_year_83 (by decide) ?_
    refine jx_iadd dX11_year_84 ?_
    refine jx_iald dX11_year_85 hk12 hi13 ?_
    refine jx_iconst (v := 1) dX11_year_86 (by decide) ?_
    refine jx_iadd dX11_year_87 ?_
    refine jx_iconst (v := 0) dX11_year_88 (by decide) ?_
    refine jx_bipush (v := 99) dX11_year_89 (by decide) ?_
    refine jx_callSi (M' := mX11_within) (As := [.int ((ji S8 b11 (Int32.toNatClampNeg ((72 + (7 * x2)) + 5))) + 1), .int 0, .int 99]) jo_X11_within jwM_X11_104 jwS_X11_within dX11_year_91 (jRok_m _ _ _) rfl (jle rfl) ⟨jle rfl, jle rfl⟩ (c_X11_within (Q := fun v S' => v = (jclamp ((ji S8 b11 (Int32.toNatClampNeg ((72 + (7 * x2)) + 5))) + 1) 0 99) ∧ S8 = S') ⟨rfl, rfl⟩) (fun r15 S16 hq17 => ?_)
    obtain ⟨rfl, rfl⟩ := hq17
    refine jx_iast dX11_year_94 hk12 hi13 ?_
    refine jx_iinc 3 (v := (x2 + 1)) (lv1 := [(2, .int (x2 + 1)), (3, .int (72 + (7 * x2))), (0, .ref a0), (1, .int x1)]) kd79.2.1 rfl rfl (by decide) rfl ?_
    refine jx_goto (tgt := 4) kd79.2.2 (by decide) ?_
    exact jx_lv [2, 3, 0] rfl h
  replace h := h.2 c14
  refine jx_aload_n 1 dX11_year_55 rfl rfl ?_
  refine jx_getr jc_11 (j := 0) (by decide) rfl jwF_X11_7 dX11_year_56 hk10 hb11 ?_
  refine jx_iload_n 0 dX11_year_59 rfl rfl ?_
  refine jx_bipush (v := 6) dX11_year_60 (by decide) ?_
  refine jx_iadd dX11_year_62 ?_
  refine jx_iconst (v := 1) dX11_year_63 (by decide) ?_
  obtain ⟨hi18, h⟩ := h
  refine jx_iast dX11_year_64 hk12 hi18 ?_
  refine jx_iinc 2 (v := (x1 + 1)) (lv1 := [(1, .int (x1 + 1)), (3, .int (72 + (7 * x2))), (0, .ref a0), (2, .int x2)]) kd79.1 rfl rfl (by decide) rfl ?_
  refine jx_goto (tgt := 95) dX11_year_68 (by decide) ?_
  refine jx_iinc 3 (v := (x2 + 1)) (lv1 := [(2, .int (x2 + 1)), (1, .int (x1 + 1)), (3, .int (72 + (7 * x2))), (0, .ref a0)]) kd79.2.1 rfl rfl (by decide) rfl ?_
  refine jx_goto (tgt := 4) kd79.2.2 (by decide) ?_
  exact jx_lv [3, 1, 0] rfl h
/-- X11_years at its loop's head 19 -/
abbrev L_X11_years_19 (E : jEnv) (d : Nat) (Q : Int32 → jM → Prop) (a0 : Nat) (x1 : Int32) (x2 : Int32) (x3 : Int32) (S : jM) : Prop := jX E mX11_years (jRm (d + 1) 0 0) (jZm E (fun r S' => ∃ v : Int32, r = some (.int v) ∧ Q v S') 0 0) 19 [(0, .ref a0), (1, .int x1), (2, .int x2), (3, .int x3)] [] S 0 0
set_option maxRecDepth 100000 in
set_option maxHeartbeats 4000000 in
theorem T_X11_years {E : jEnv} {d : Nat} {Q : Int32 → jM → Prop} {a0 : Nat} {x1 : Int32} {S : jM} (h : ((jisin (Int32.toInt64 x1) 1 60) = 0 → Q (-1000000001) S) ∧ (¬ (jisin (Int32.toInt64 x1) 1 60) = 0 → L_X11_years_19 E d Q a0 x1 0 0 S)) : jFi E mX11_years (d + 1) 0 0 [.ref a0, .int x1] S Q := by
  refine jF_of (by decide) (jle rfl) ?_
  refine jx_lv (lv1 := [(0, .ref a0), (1, .int x1)]) [0, 1] rfl ?_
  refine jx_iload_n 1 dX11_years_0 rfl rfl ?_
  refine jx_i2l dX11_years_1 ?_
  refine jx_lconst (v := 1) dX11_years_2 (by decide) ?_
  refine jx_ldc2 jwL_X11_206 dX11_years_3 ?_
  refine jx_callSi (M' := mX11_isIn) (As := [.long (Int32.toInt64 x1), .long 1, .long 60]) jo_X11_isIn jwM_X11_71 jwS_X11_isIn dX11_years_6 (jRok_m _ _ _) rfl (jle rfl) ⟨jle rfl, jle rfl⟩ (c_X11_isIn (Q := fun v S' => v = (jisin (Int32.toInt64 x1) 1 60) ∧ S = S') ⟨rfl, rfl⟩) (fun r1 S2 hq3 => ?_)
  obtain ⟨rfl, rfl⟩ := hq3
  refine jx_if_ne (tgt := 15) dX11_years_9 (by decide) (fun c4 => ?_) (fun c4 => ?_)
  · replace h := h.2 c4
    refine jx_iconst (v := 0) dX11_years_15 (by decide) ?_
    refine jx_istore_n (lv1 := [(2, .int 0), (0, .ref a0), (1, .int x1)]) dX11_years_16 rfl (by decide) rfl ?_
    refine jx_iconst (v := 0) dX11_years_17 (by decide) ?_
    refine jx_istore_n (lv1 := [(3, .int 0), (2, .int 0), (0, .ref a0), (1, .int x1)]) dX11_years_18 rfl (by decide) rfl ?_
    exact jx_lv [2, 3, 1, 0] rfl h
  replace h := h.1 c4
  refine jx_ldc jwC_X11_87 dX11_years_12 ?_
  exact jx_iret dX11_years_14 rfl rfl (jle rfl) (jle rfl) ⟨_, rfl, h⟩
set_option maxRecDepth 100000 in
set_option maxHeartbeats 4000000 in
theorem T_X11_years_19 {E : jEnv} {d : Nat} {Q : Int32 → jM → Prop} {a0 : Nat} {x1 : Int32} {x2 : Int32} {x3 : Int32} {S : jM} (h : (x1 ≤ x3 → Q x2 S) ∧ (¬ x1 ≤ x3 → jk S a0 = 11 ∧ jFi E mX11_year d 0 0 [.ref a0] S (fun r8 S7 => L_X11_years_19 E d Q a0 x1 (x2 + r8) (x3 + 1) S7))) : L_X11_years_19 E d Q a0 x1 x2 x3 S := by
  show jX E mX11_years (jRm (d + 1) 0 0) (jZm E (fun r S' => ∃ v : Int32, r = some (.int v) ∧ Q v S') 0 0) 19 [(0, .ref a0), (1, .int x1), (2, .int x2), (3, .int x3)] [] S 0 0
  refine jx_iload_n 3 dX11_years_19 rfl rfl ?_
  refine jx_iload_n 1 dX11_years_20 rfl rfl ?_
  refine jx_icmp_ge (tgt := 37) dX11_years_21 (by decide) (fun c5 => ?_) (fun c5 => ?_)
  · replace h := h.1 c5
    refine jx_iload_n 2 dX11_years_37 rfl rfl ?_
    exact jx_iret dX11_years_38 rfl rfl (jle rfl) (jle rfl) ⟨_, rfl, h⟩
  replace h := h.2 c5
  refine jx_iload_n 2 dX11_years_24 rfl rfl ?_
  refine jx_aload_n 0 dX11_years_25 rfl rfl ?_
  obtain ⟨hk6, h⟩ := h
  refine jx_callVi (M' := mX11_year) (As := []) jo_X11_year jc_11 rfl jwM_X11_208 jwN_X11_year jwX_X11_year dX11_years_26 (jRok_m _ _ _) rfl (jle rfl) ⟨jle rfl, jle rfl⟩ hk6 h (fun r8 S7 h => ?_)
  refine jx_iadd dX11_years_29 ?_
  refine jx_istore_n (lv1 := [(2, .int (x2 + r8)), (0, .ref a0), (1, .int x1), (3, .int x3)]) dX11_years_30 rfl (by decide) rfl ?_
  refine jx_iinc 3 (v := (x3 + 1)) (lv1 := [(3, .int (x3 + 1)), (2, .int (x2 + r8)), (0, .ref a0), (1, .int x1)]) kd80.1 rfl rfl (by decide) rfl ?_
  refine jx_goto (tgt := 19) kd80.2 (by decide) ?_
  exact jx_lv [2, 3, 1, 0] rfl h
/-- X11_gone at its loop's head 29 -/
abbrev L_X11_gone_29 (E : jEnv) (d : Nat) (Q : Int32 → jM → Prop) (a0 : Nat) (x1 : Int32) (x2 : Int32) (x3 : Int32) (x4 : Int32) (S : jM) : Prop := jX E mX11_gone (jRm (d + 1) 0 0) (jZm E (fun r S' => ∃ v : Int32, r = some (.int v) ∧ Q v S') 0 0) 29 [(0, .ref a0), (1, .int x1), (2, .int x2), (3, .int x3), (4, .int x4)] [] S 0 0
set_option maxRecDepth 100000 in
set_option maxHeartbeats 4000000 in
theorem T_X11_gone {E : jEnv} {d : Nat} {Q : Int32 → jM → Prop} {a0 : Nat} {x1 : Int32} {S : jM} (h : ((jisin (Int32.toInt64 x1) 0 60) = 0 → Q (-1000000001) S) ∧ (¬ (jisin (Int32.toInt64 x1) 0 60) = 0 → jk S a0 = 11 ∧ jFv E mX11_laysBy d 0 0 [.ref a0] S (fun S6 => jk S6 a0 = 11 ∧ jFi E mX11_taughtNow d 0 0 [.ref a0] S6 (fun r9 S8 => L_X11_gone_29 E d Q a0 x1 r9 0 0 S8)))) : jFi E mX11_gone (d + 1) 0 0 [.ref a0, .int x1] S Q := by
  refine jF_of (by decide) (jle rfl) ?_
  refine jx_lv (lv1 := [(0, .ref a0), (1, .int x1)]) [0, 1] rfl ?_
  refine jx_iload_n 1 dX11_gone_0 rfl rfl ?_
  refine jx_i2l dX11_gone_1 ?_
  refine jx_lconst (v := 0) dX11_gone_2 (by decide) ?_
  refine jx_ldc2 jwL_X11_206 dX11_gone_3 ?_
  refine jx_callSi (M' := mX11_isIn) (As := [.long (Int32.toInt64 x1), .long 0, .long 60]) jo_X11_isIn jwM_X11_71 jwS_X11_isIn dX11_gone_6 (jRok_m _ _ _) rfl (jle rfl) ⟨jle rfl, jle rfl⟩ (c_X11_isIn (Q := fun v S' => v = (jisin (Int32.toInt64 x1) 0 60) ∧ S = S') ⟨rfl, rfl⟩) (fun r1 S2 hq3 => ?_)
  obtain ⟨rfl, rfl⟩ := hq3
  refine jx_if_ne (tgt := 15) dX11_gone_9 (by decide) (fun c4 => ?_) (fun c4 => ?_)
  · replace h := h.2 c4
    refine jx_aload_n 0 dX11_gone_15 rfl rfl ?_
    obtain ⟨hk5, h⟩ := h
    refine jx_callVv (M' := mX11_laysBy) (As := []) jo_X11_laysBy jc_11 rfl jwM_X11_186 jwN_X11_laysBy jwX_X11_laysBy dX11_gone_16 (jRok_m _ _ _) rfl (jle rfl) ⟨jle rfl, jle rfl⟩ hk5 h (fun S6 h => ?_)
    refine jx_aload_n 0 dX11_gone_19 rfl rfl ?_
    obtain ⟨hk7, h⟩ := h
    refine jx_callVi (M' := mX11_taughtNow) (As := []) jo_X11_taughtNow jc_11 rfl jwM_X11_203 jwN_X11_taughtNow jwX_X11_taughtNow dX11_gone_20 (jRok_m _ _ _) rfl (jle rfl) ⟨jle rfl, jle rfl⟩ hk7 h (fun r9 S8 h => ?_)
    refine jx_istore_n (lv1 := [(2, .int r9), (0, .ref a0), (1, .int x1)]) dX11_gone_23 rfl (by decide) rfl ?_
    refine jx_iconst (v := 0) dX11_gone_24 (by decide) ?_
    refine jx_istore_n (lv1 := [(3, .int 0), (2, .int r9), (0, .ref a0), (1, .int x1)]) dX11_gone_25 rfl (by decide) rfl ?_
    refine jx_iconst (v := 0) dX11_gone_26 (by decide) ?_
    refine jx_istore (lv1 := [(4, .int 0), (3, .int 0), (2, .int r9), (0, .ref a0), (1, .int x1)]) dX11_gone_27 (by decide) rfl ?_
    exact jx_lv [3, 4, 2, 1, 0] rfl h
  replace h := h.1 c4
  refine jx_ldc jwC_X11_87 dX11_gone_12 ?_
  exact jx_iret dX11_gone_14 rfl rfl (jle rfl) (jle rfl) ⟨_, rfl, h⟩
set_option maxRecDepth 100000 in
set_option maxHeartbeats 4000000 in
theorem T_X11_gone_29 {E : jEnv} {d : Nat} {Q : Int32 → jM → Prop} {a0 : Nat} {x1 : Int32} {x2 : Int32} {x3 : Int32} {x4 : Int32} {S : jM} (h : (x1 ≤ x4 → jk S a0 = 11 ∧ jFi E mX11_taughtNow d 0 0 [.ref a0] S (fun r13 S12 => jk S12 a0 = 11 ∧ jFv E mX11_laysBack d 0 0 [.ref a0] S12 (fun S18 => Q (jmany (x2 &&& (r13 ^^^ (-1)))) S18))) ∧ (¬ x1 ≤ x4 → jk S a0 = 11 ∧ jFi E mX11_year d 0 0 [.ref a0] S (fun r21 S20 => L_X11_gone_29 E d Q a0 x1 x2 (x3 + r21) (x4 + 1) S20))) : L_X11_gone_29 E d Q a0 x1 x2 x3 x4 S := by
  show jX E mX11_gone (jRm (d + 1) 0 0) (jZm E (fun r S' => ∃ v : Int32, r = some (.int v) ∧ Q v S') 0 0) 29 [(0, .ref a0), (1, .int x1), (2, .int x2), (3, .int x3), (4, .int x4)] [] S 0 0
  refine jx_iload 4 dX11_gone_29 rfl ?_
  refine jx_iload_n 1 dX11_gone_31 rfl rfl ?_
  refine jx_icmp_ge (tgt := 48) dX11_gone_32 (by decide) (fun c10 => ?_) (fun c10 => ?_)
  · replace h := h.1 c10
    refine jx_iload_n 2 dX11_gone_48 rfl rfl ?_
    refine jx_aload_n 0 dX11_gone_49 rfl rfl ?_
    obtain ⟨hk11, h⟩ := h
    refine jx_callVi (M' := mX11_taughtNow) (As := []) jo_X11_taughtNow jc_11 rfl jwM_X11_203 jwN_X11_taughtNow jwX_X11_taughtNow dX11_gone_50 (jRok_m _ _ _) rfl (jle rfl) ⟨jle rfl, jle rfl⟩ hk11 h (fun r13 S12 h => ?_)
    refine jx_iconst (v := (-1)) dX11_gone_53 (by decide) ?_
    refine jx_ixor dX11_gone_54 ?_
    refine jx_iand dX11_gone_55 ?_
    refine jx_callSi (M' := mX11_manyIn) (As := [.int (x2 &&& (r13 ^^^ (-1)))]) jo_X11_manyIn jwM_X11_108 jwS_X11_manyIn dX11_gone_56 (jRok_m _ _ _) rfl (jle rfl) ⟨jle rfl, jle rfl⟩ (c_X11_manyIn (Q := fun v S' => v = (jmany (x2 &&& (r13 ^^^ (-1)))) ∧ S12 = S') ⟨rfl, rfl⟩) (fun r14 S15 hq16 => ?_)
    obtain ⟨rfl, rfl⟩ := hq16
    refine jx_istore (lv1 := [(4, .int (jmany (x2 &&& (r13 ^^^ (-1))))), (0, .ref a0), (1, .int x1), (2, .int x2), (3, .int x3)]) dX11_gone_59 (by decide) rfl ?_
    refine jx_aload_n 1 dX11_gone_61 rfl rfl ?_
    obtain ⟨hk17, h⟩ := h
    refine jx_callVv (M' := mX11_laysBack) (As := []) jo_X11_laysBack jc_11 rfl jwM_X11_192 jwN_X11_laysBack jwX_X11_laysBack dX11_gone_62 (jRok_m _ _ _) rfl (jle rfl) ⟨jle rfl, jle rfl⟩ hk17 h (fun S18 h => ?_)
    refine jx_iload 0 dX11_gone_65 rfl ?_
    exact jx_iret dX11_gone_67 rfl rfl (jle rfl) (jle rfl) ⟨_, rfl, h⟩
  replace h := h.2 c10
  refine jx_iload_n 3 dX11_gone_35 rfl rfl ?_
  refine jx_aload_n 0 dX11_gone_36 rfl rfl ?_
  obtain ⟨hk19, h⟩ := h
  refine jx_callVi (M' := mX11_year) (As := []) jo_X11_year jc_11 rfl jwM_X11_208 jwN_X11_year jwX_X11_year dX11_gone_37 (jRok_m _ _ _) rfl (jle rfl) ⟨jle rfl, jle rfl⟩ hk19 h (fun r21 S20 h => ?_)
  refine jx_iadd dX11_gone_40 ?_
  refine jx_istore_n (lv1 := [(3, .int (x3 + r21)), (0, .ref a0), (1, .int x1), (2, .int x2), (4, .int x4)]) dX11_gone_41 rfl (by decide) rfl ?_
  refine jx_iinc 4 (v := (x4 + 1)) (lv1 := [(4, .int (x4 + 1)), (3, .int (x3 + r21)), (0, .ref a0), (1, .int x1), (2, .int x2)]) kd81.1 rfl rfl (by decide) rfl ?_
  refine jx_goto (tgt := 29) kd81.2 (by decide) ?_
  exact jx_lv [2, 3, 4, 1, 0] rfl h
/-- X11_farFrom at its loop's head 4 -/
abbrev L_X11_farFrom_4 (E : jEnv) (d : Nat) (Q : Int32 → jM → Prop) (a0 : Nat) (x1 : Int32) (x2 : Int32) (x3 : Int32) (S : jM) : Prop := jX E mX11_farFrom (jRm (d + 1) 0 0) (jZm E (fun r S' => ∃ v : Int32, r = some (.int v) ∧ Q v S') 0 0) 4 [(0, .ref a0), (1, .int x1), (2, .int x2), (3, .int x3)] [] S 0 0
set_option maxRecDepth 100000 in
set_option maxHeartbeats 4000000 in
theorem T_X11_farFrom {E : jEnv} {d : Nat} {Q : Int32 → jM → Prop} {a0 : Nat} {x1 : Int32} {S : jM} (h : L_X11_farFrom_4 E d Q a0 x1 0 0 S) : jFi E mX11_farFrom (d + 1) 0 0 [.ref a0, .int x1] S Q := by
  refine jF_of (by decide) (jle rfl) ?_
  refine jx_lv (lv1 := [(0, .ref a0), (1, .int x1)]) [0, 1] rfl ?_
  refine jx_iconst (v := 0) dX11_farFrom_0 (by decide) ?_
  refine jx_istore_n (lv1 := [(2, .int 0), (0, .ref a0), (1, .int x1)]) dX11_farFrom_1 rfl (by decide) rfl ?_
  refine jx_iconst (v := 0) dX11_farFrom_2 (by decide) ?_
  refine jx_istore_n (lv1 := [(3, .int 0), (2, .int 0), (0, .ref a0), (1, .int x1)]) dX11_farFrom_3 rfl (by decide) rfl ?_
  exact jx_lv [2, 3, 1, 0] rfl h
set_option maxRecDepth 100000 in
set_option maxHeartbeats 4000000 in
theorem T_X11_farFrom_4 {E : jEnv} {d : Nat} {Q : Int32 → jM → Prop} {a0 : Nat} {x1 : Int32} {x2 : Int32} {x3 : Int32} {S : jM} (h : jk S a0 = 11 ∧ ∃ b2, jr S a0 0 = some b2 ∧ (jk S b2 = 12 ∧ vp_in 0 (jl S b2) ∧ (((ji S b2 (Int32.toNatClampNeg 0)) ≤ x3 → Q x2 S) ∧ (¬ (ji S b2 (Int32.toNatClampNeg 0)) ≤ x3 → jFi E mX11_of d 0 0 [.ref a0, .int x3, .int 6] S (fun r7 S6 => (r7 = 0 → jk S6 a0 = 11 ∧ ∃ b10, jr S6 a0 12 = some b10 ∧ (jFi E mX11_of d 0 0 [.ref a0, .int x3, .int 1] S6 (fun r12 S11 => jk S11 b10 = 12 ∧ vp_in ((6 * x1) + r12) (jl S11 b10) ∧ (L_X11_farFrom_4 E d Q a0 x1 (x2 + (ji S11 b10 (Int32.toNatClampNeg ((6 * x1) + r12)))) (x3 + 1) S11)))) ∧ (¬ r7 = 0 → L_X11_farFrom_4 E d Q a0 x1 (x2 + 0) (x3 + 1) S6)))))) : L_X11_farFrom_4 E d Q a0 x1 x2 x3 S := by
  show jX E mX11_farFrom (jRm (d + 1) 0 0) (jZm E (fun r S' => ∃ v : Int32, r = some (.int v) ∧ Q v S') 0 0) 4 [(0, .ref a0), (1, .int x1), (2, .int x2), (3, .int x3)] [] S 0 0
  refine jx_iload_n 3 dX11_farFrom_4 rfl rfl ?_
  refine jx_aload_n 0 dX11_farFrom_5 rfl rfl ?_
  obtain ⟨hk1, h⟩ := h
  obtain ⟨b2, hb2, h⟩ := h
  refine jx_getr jc_11 (j := 0) (by decide) rfl jwF_X11_7 dX11_farFrom_6 hk1 hb2 ?_
  refine jx_iconst (v := 0) dX11_farFrom_9 (by decide) ?_
  obtain ⟨hk3, h⟩ := h
  obtain ⟨hi4, h⟩ := h
  refine jx_iald dX11_farFrom_10 hk3 hi4 ?_
  refine jx_icmp_ge (tgt := 53) dX11_farFrom_11 (by decide) (fun c5 => ?_) (fun c5 => ?_)
  · replace h := h.1 c5
    refine jx_iload_n 2 dX11_farFrom_53 rfl rfl ?_
    exact jx_iret dX11_farFrom_54 rfl rfl (jle rfl) (jle rfl) ⟨_, rfl, h⟩
  replace h := h.2 c5
  refine jx_iload_n 2 dX11_farFrom_14 rfl rfl ?_
  refine jx_aload_n 0 dX11_farFrom_15 rfl rfl ?_
  refine jx_iload_n 3 dX11_farFrom_16 rfl rfl ?_
  refine jx_bipush (v := 6) dX11_farFrom_17 (by decide) ?_
  refine jx_callVi (M' := mX11_of) (As := [.int x3, .int 6]) jo_X11_of jc_11 rfl jwM_X11_97 jwN_X11_of jwX_X11_of dX11_farFrom_19 (jRok_m _ _ _) rfl (jle rfl) ⟨jle rfl, jle rfl⟩ hk1 h (fun r7 S6 h => ?_)
  refine jx_if_ne (tgt := 44) dX11_farFrom_22 (by decide) (fun c8 => ?_) (fun c8 => ?_)
  · replace h := h.2 c8
    refine jx_iconst (v := 0) dX11_farFrom_44 (by decide) ?_
    refine jx_iadd dX11_farFrom_45 ?_
    refine jx_istore_n (lv1 := [(2, .int (x2 + 0)), (0, .ref a0), (1, .int x1), (3, .int x3)]) dX11_farFrom_46 rfl (by decide) rfl ?_
    refine jx_iinc 3 (v := (x3 + 1)) (lv1 := [(3, .int (x3 + 1)), (2, .int (x2 + 0)), (0, .ref a0), (1, .int x1)]) kd82.1 rfl rfl (by decide) rfl ?_
    refine jx_goto (tgt := 4) kd82.2 (by decide) ?_
    exact jx_lv [2, 3, 1, 0] rfl h
  replace h := h.1 c8
  refine jx_aload_n 0 dX11_farFrom_25 rfl rfl ?_
  obtain ⟨hk9, h⟩ := h
  obtain ⟨b10, hb10, h⟩ := h
  refine jx_getr jc_11 (j := 12) (by decide) rfl jwF_X11_43 dX11_farFrom_26 hk9 hb10 ?_
  refine jx_bipush (v := 6) dX11_farFrom_29 (by decide) ?_
  refine jx_iload_n 1 dX11_farFrom_31 rfl rfl ?_
  refine jx_imul dX11_farFrom_32 ?_
  refine jx_aload_n 0 dX11_farFrom_33 rfl rfl ?_
  refine jx_iload_n 3 dX11_farFrom_34 rfl rfl ?_
  refine jx_iconst (v := 1) dX11_farFrom_35 (by decide) ?_
  refine jx_callVi (M' := mX11_of) (As := [.int x3, .int 1]) jo_X11_of jc_11 rfl jwM_X11_97 jwN_X11_of jwX_X11_of dX11_farFrom_36 (jRok_m _ _ _) rfl (jle rfl) ⟨jle rfl, jle rfl⟩ hk9 h (fun r12 S11 h => ?_)
  refine jx_iadd dX11_farFrom_39 ?_
  obtain ⟨hk13, h⟩ := h
  obtain ⟨hi14, h⟩ := h
  refine jx_iald dX11_farFrom_40 hk13 hi14 ?_
  refine jx_goto (tgt := 45) dX11_farFrom_41 (by decide) ?_
  refine jx_iadd dX11_farFrom_45 ?_
  refine jx_istore_n (lv1 := [(2, .int (x2 + (ji S11 b10 (Int32.toNatClampNeg ((6 * x1) + r12))))), (0, .ref a0), (1, .int x1), (3, .int x3)]) dX11_farFrom_46 rfl (by decide) rfl ?_
  refine jx_iinc 3 (v := (x3 + 1)) (lv1 := [(3, .int (x3 + 1)), (2, .int (x2 + (ji S11 b10 (Int32.toNatClampNeg ((6 * x1) + r12))))), (0, .ref a0), (1, .int x1)]) kd82.1 rfl rfl (by decide) rfl ?_
  refine jx_goto (tgt := 4) kd82.2 (by decide) ?_
  exact jx_lv [2, 3, 1, 0] rfl h
/-- X11_fresh at its loop's head 8 -/
abbrev L_X11_fresh_8 (E : jEnv) (d : Nat) (Q : Int32 → jM → Prop) (a0 : Nat) (x1 : Int32) (x2 : Int32) (S : jM) : Prop := jX E mX11_fresh (jRm (d + 1) 0 0) (jZm E (fun r S' => ∃ v : Int32, r = some (.int v) ∧ Q v S') 0 0) 8 [(0, .ref a0), (1, .int x1), (2, .int x2)] [] S 0 0
set_option maxRecDepth 100000 in
set_option maxHeartbeats 4000000 in
theorem T_X11_fresh {E : jEnv} {d : Nat} {Q : Int32 → jM → Prop} {a0 : Nat} {S : jM} (h : jk S a0 = 11 ∧ jFv E mX11_findFar d 0 0 [.ref a0] S (fun S2 => L_X11_fresh_8 E d Q a0 0 1 S2)) : jFi E mX11_fresh (d + 1) 0 0 [.ref a0] S Q := by
  refine jF_of (by decide) (jle rfl) ?_
  refine jx_lv (lv1 := [(0, .ref a0)]) [0] rfl ?_
  refine jx_aload_n 0 dX11_fresh_0 rfl rfl ?_
  obtain ⟨hk1, h⟩ := h
  refine jx_callVv (M' := mX11_findFar) (As := []) jo_X11_findFar jc_11 rfl jwM_X11_137 jwN_X11_findFar jwX_X11_findFar dX11_fresh_1 (jRok_m _ _ _) rfl (jle rfl) ⟨jle rfl, jle rfl⟩ hk1 h (fun S2 h => ?_)
  refine jx_iconst (v := 0) dX11_fresh_4 (by decide) ?_
  refine jx_istore_n (lv1 := [(1, .int 0), (0, .ref a0)]) dX11_fresh_5 rfl (by decide) rfl ?_
  refine jx_iconst (v := 1) dX11_fresh_6 (by decide) ?_
  refine jx_istore_n (lv1 := [(2, .int 1), (1, .int 0), (0, .ref a0)]) dX11_fresh_7 rfl (by decide) rfl ?_
  exact jx_lv [2, 1, 0] rfl h
set_option maxRecDepth 100000 in
set_option maxHeartbeats 4000000 in
theorem T_X11_fresh_8 {E : jEnv} {d : Nat} {Q : Int32 → jM → Prop} {a0 : Nat} {x1 : Int32} {x2 : Int32} {S : jM} (h : (6 ≤ x2 → Q x1 S) ∧ (¬ 6 ≤ x2 → jk S a0 = 11 ∧ jFi E mX11_farFrom d 0 0 [.ref a0, .int x2] S (fun r6 S5 => jk S5 a0 = 11 ∧ jFi E mX11_farFrom d 0 0 [.ref a0, .int x1] S5 (fun r9 S8 => (r9 ≤ r6 → L_X11_fresh_8 E d Q a0 x1 (x2 + 1) S8) ∧ (¬ r9 ≤ r6 → L_X11_fresh_8 E d Q a0 x2 (x2 + 1) S8))))) : L_X11_fresh_8 E d Q a0 x1 x2 S := by
  show jX E mX11_fresh (jRm (d + 1) 0 0) (jZm E (fun r S' => ∃ v : Int32, r = some (.int v) ∧ Q v S') 0 0) 8 [(0, .ref a0), (1, .int x1), (2, .int x2)] [] S 0 0
  refine jx_iload_n 2 dX11_fresh_8 rfl rfl ?_
  refine jx_bipush (v := 6) dX11_fresh_9 (by decide) ?_
  refine jx_icmp_ge (tgt := 39) dX11_fresh_11 (by decide) (fun c3 => ?_) (fun c3 => ?_)
  · replace h := h.1 c3
    refine jx_iload_n 1 dX11_fresh_39 rfl rfl ?_
    exact jx_iret dX11_fresh_40 rfl rfl (jle rfl) (jle rfl) ⟨_, rfl, h⟩
  replace h := h.2 c3
  refine jx_aload_n 0 dX11_fresh_14 rfl rfl ?_
  refine jx_iload_n 2 dX11_fresh_15 rfl rfl ?_
  obtain ⟨hk4, h⟩ := h
  refine jx_callVi (M' := mX11_farFrom) (As := [.int x2]) jo_X11_farFrom jc_11 rfl jwM_X11_211 jwN_X11_farFrom jwX_X11_farFrom dX11_fresh_16 (jRok_m _ _ _) rfl (jle rfl) ⟨jle rfl, jle rfl⟩ hk4 h (fun r6 S5 h => ?_)
  refine jx_aload_n 0 dX11_fresh_19 rfl rfl ?_
  refine jx_iload_n 1 dX11_fresh_20 rfl rfl ?_
  obtain ⟨hk7, h⟩ := h
  refine jx_callVi (M' := mX11_farFrom) (As := [.int x1]) jo_X11_farFrom jc_11 rfl jwM_X11_211 jwN_X11_farFrom jwX_X11_farFrom dX11_fresh_21 (jRok_m _ _ _) rfl (jle rfl) ⟨jle rfl, jle rfl⟩ hk7 h (fun r9 S8 h => ?_)
  refine jx_icmp_ge (tgt := 31) dX11_fresh_24 (by decide) (fun c10 => ?_) (fun c10 => ?_)
  · replace h := h.1 c10
    refine jx_iload_n 1 dX11_fresh_31 rfl rfl ?_
    refine jx_istore_n (lv1 := [(1, .int x1), (0, .ref a0), (2, .int x2)]) dX11_fresh_32 rfl (by decide) rfl ?_
    refine jx_iinc 2 (v := (x2 + 1)) (lv1 := [(2, .int (x2 + 1)), (1, .int x1), (0, .ref a0)]) kd83.1 rfl rfl (by decide) rfl ?_
    refine jx_goto (tgt := 8) kd83.2 (by decide) ?_
    exact jx_lv [2, 1, 0] rfl h
  replace h := h.2 c10
  refine jx_iload_n 2 dX11_fresh_27 rfl rfl ?_
  refine jx_goto (tgt := 32) dX11_fresh_28 (by decide) ?_
  refine jx_istore_n (lv1 := [(1, .int x2), (0, .ref a0), (2, .int x2)]) dX11_fresh_32 rfl (by decide) rfl ?_
  refine jx_iinc 2 (v := (x2 + 1)) (lv1 := [(2, .int (x2 + 1)), (1, .int x2), (0, .ref a0)]) kd83.1 rfl rfl (by decide) rfl ?_
  refine jx_goto (tgt := 8) kd83.2 (by decide) ?_
  exact jx_lv [2, 1, 0] rfl h
set_option maxRecDepth 100000 in
set_option maxHeartbeats 4000000 in
theorem T_X11_fame {E : jEnv} {d : Nat} {Q : Int32 → jM → Prop} {a0 : Nat} {x1 : Int32} {S : jM} (h : jk S a0 = 11 ∧ jFi E mX11_isMaster d 0 0 [.ref a0, .int x1] S (fun r3 S2 => (r3 = 0 → Q (-1000000001) S2) ∧ (¬ r3 = 0 → jk S2 a0 = 11 ∧ jFi E mX11_counts d 0 0 [.ref a0, .int 1] S2 (fun r7 S6 => (0 ≤ r7 → jk S6 a0 = 11 ∧ ∃ b10, jr S6 a0 30 = some b10 ∧ (jFi E mX11_of d 0 0 [.ref a0, .int x1, .int 4] S6 (fun r12 S11 => jk S11 b10 = 12 ∧ vp_in 102 (jl S11 b10) ∧ (jk S11 a0 = 11 ∧ ∃ b16, jr S11 a0 30 = some b16 ∧ (jFi E mX11_of d 0 0 [.ref a0, .int x1, .int 5] (jput S11 b10 (Int32.toNatClampNeg 102) r12) (fun r18 S17 => jk S17 b16 = 12 ∧ vp_in 97 (jl S17 b16) ∧ (jk S17 a0 = 11 ∧ jFi E mX11_worked d 0 0 [.ref a0, .int r7] (jput S17 b16 (Int32.toNatClampNeg 97) r18) (fun r23 S22 => Q r23 S22)))))))) ∧ (¬ 0 ≤ r7 → jk S6 a0 = 11 ∧ jFi E mX11_of d 0 0 [.ref a0, .int x1, .int 4] S6 (fun r26 S25 => Q r26 S25)))))) : jFi E mX11_fame (d + 1) 0 0 [.ref a0, .int x1] S Q := by
  refine jF_of (by decide) (jle rfl) ?_
  refine jx_lv (lv1 := [(0, .ref a0), (1, .int x1)]) [0, 1] rfl ?_
  refine jx_aload_n 0 dX11_fame_0 rfl rfl ?_
  refine jx_iload_n 1 dX11_fame_1 rfl rfl ?_
  obtain ⟨hk1, h⟩ := h
  refine jx_callVi (M' := mX11_isMaster) (As := [.int x1]) jo_X11_isMaster jc_11 rfl jwM_X11_111 jwN_X11_isMaster jwX_X11_isMaster dX11_fame_2 (jRok_m _ _ _) rfl (jle rfl) ⟨jle rfl, jle rfl⟩ hk1 h (fun r3 S2 h => ?_)
  refine jx_if_ne (tgt := 11) dX11_fame_5 (by decide) (fun c4 => ?_) (fun c4 => ?_)
  · replace h := h.2 c4
    refine jx_aload_n 0 dX11_fame_11 rfl rfl ?_
    refine jx_iconst (v := 1) dX11_fame_12 (by decide) ?_
    obtain ⟨hk5, h⟩ := h
    refine jx_callVi (M' := mX11_counts) (As := [.int 1]) jo_X11_counts jc_11 rfl jwM_X11_93 jwN_X11_counts jwX_X11_counts dX11_fame_13 (jRok_m _ _ _) rfl (jle rfl) ⟨jle rfl, jle rfl⟩ hk5 h (fun r7 S6 h => ?_)
    refine jx_istore_n (lv1 := [(2, .int r7), (0, .ref a0), (1, .int x1)]) dX11_fame_16 rfl (by decide) rfl ?_
    refine jx_iload_n 0 dX11_fame_17 rfl rfl ?_
    refine jx_if_ge (tgt := 28) dX11_fame_18 (by decide) (fun c8 => ?_) (fun c8 => ?_)
    · replace h := h.1 c8
      refine jx_aload_n 1 dX11_fame_28 rfl rfl ?_
      obtain ⟨hk9, h⟩ := h
      obtain ⟨b10, hb10, h⟩ := h
      refine jx_getr jc_11 (j := 30) (by decide) rfl jwF_X11_55 dX11_fame_29 hk9 hb10 ?_
      refine jx_bipush (v := 102) dX11_fame_32 (by decide) ?_
      refine jx_aload_n 1 dX11_fame_34 rfl rfl ?_
      refine jx_iload_n 2 dX11_fame_35 rfl rfl ?_
      refine jx_iconst (v := 4) dX11_fame_36 (by decide) ?_
      refine jx_callVi (M' := mX11_of) (As := [.int x1, .int 4]) jo_X11_of jc_11 rfl jwM_X11_97 jwN_X11_of jwX_X11_of dX11_fame_37 (jRok_m _ _ _) rfl (jle rfl) ⟨jle rfl, jle rfl⟩ hk9 h (fun r12 S11 h => ?_)
      obtain ⟨hk13, h⟩ := h
      obtain ⟨hi14, h⟩ := h
      refine jx_iast dX11_fame_40 hk13 hi14 ?_
      refine jx_aload_n 1 dX11_fame_41 rfl rfl ?_
      obtain ⟨hk15, h⟩ := h
      obtain ⟨b16, hb16, h⟩ := h
      refine jx_getr jc_11 (j := 30) (by decide) rfl jwF_X11_55 dX11_fame_42 hk15 hb16 ?_
      refine jx_bipush (v := 97) dX11_fame_45 (by decide) ?_
      refine jx_aload_n 1 dX11_fame_47 rfl rfl ?_
      refine jx_iload_n 2 dX11_fame_48 rfl rfl ?_
      refine jx_iconst (v := 5) dX11_fame_49 (by decide) ?_
      refine jx_callVi (M' := mX11_of) (As := [.int x1, .int 5]) jo_X11_of jc_11 rfl jwM_X11_97 jwN_X11_of jwX_X11_of dX11_fame_50 (jRok_m _ _ _) rfl (jle rfl) ⟨jle rfl, jle rfl⟩ hk15 h (fun r18 S17 h => ?_)
      obtain ⟨hk19, h⟩ := h
      obtain ⟨hi20, h⟩ := h
      refine jx_iast dX11_fame_53 hk19 hi20 ?_
      refine jx_aload_n 1 dX11_fame_54 rfl rfl ?_
      refine jx_iload_n 0 dX11_fame_55 rfl rfl ?_
      obtain ⟨hk21, h⟩ := h
      refine jx_callVi (M' := mX11_worked) (As := [.int r7]) jo_X11_worked jc_11 rfl jwM_X11_101 jwN_X11_worked jwX_X11_worked dX11_fame_56 (jRok_m _ _ _) rfl (jle rfl) ⟨jle rfl, jle rfl⟩ hk21 h (fun r23 S22 h => ?_)
      exact jx_iret dX11_fame_59 rfl rfl (jle rfl) (jle rfl) ⟨_, rfl, h⟩
    replace h := h.2 c8
    refine jx_aload_n 1 dX11_fame_21 rfl rfl ?_
    refine jx_iload_n 2 dX11_fame_22 rfl rfl ?_
    refine jx_iconst (v := 4) dX11_fame_23 (by decide) ?_
    obtain ⟨hk24, h⟩ := h
    refine jx_callVi (M' := mX11_of) (As := [.int x1, .int 4]) jo_X11_of jc_11 rfl jwM_X11_97 jwN_X11_of jwX_X11_of dX11_fame_24 (jRok_m _ _ _) rfl (jle rfl) ⟨jle rfl, jle rfl⟩ hk24 h (fun r26 S25 h => ?_)
    exact jx_iret dX11_fame_27 rfl rfl (jle rfl) (jle rfl) ⟨_, rfl, h⟩
  replace h := h.1 c4
  refine jx_ldc jwC_X11_87 dX11_fame_8 ?_
  exact jx_iret dX11_fame_10 rfl rfl (jle rfl) (jle rfl) ⟨_, rfl, h⟩
set_option maxRecDepth 100000 in
set_option maxHeartbeats 4000000 in
theorem T_X11_fine {E : jEnv} {d : Nat} {Q : Int32 → jM → Prop} {a0 : Nat} {S : jM} (h : jk S a0 = 11 ∧ jFi E mX11_counts d 0 0 [.ref a0, .int 2] S (fun r3 S2 => (0 ≤ r3 → jk S2 a0 = 11 ∧ ∃ b6, jr S2 a0 30 = some b6 ∧ (∃ b7, jr S2 a0 0 = some b7 ∧ (jk S2 b7 = 12 ∧ vp_in 5 (jl S2 b7) ∧ (jk S2 b6 = 12 ∧ vp_in 99 (jl S2 b6) ∧ (vp_in 2 (jl S2 b7) ∧ (vp_in 100 (jl S2 b6) ∧ (jFi E mX11_worked d 0 0 [.ref a0, .int r3] (jput (jput S2 b6 (Int32.toNatClampNeg 99) (ji S2 b7 (Int32.toNatClampNeg 5))) b6 (Int32.toNatClampNeg 100) (ji (jput S2 b6 (Int32.toNatClampNeg 99) (ji S2 b7 (Int32.toNatClampNeg 5))) b7 (Int32.toNatClampNeg 2))) (fun r15 S14 => Q r15 S14)))))))) ∧ (¬ 0 ≤ r3 → jk S2 a0 = 11 ∧ ∃ b17, jr S2 a0 0 = some b17 ∧ (jk S2 b17 = 12 ∧ vp_in 5 (jl S2 b17) ∧ (Q (ji S2 b17 (Int32.toNatClampNeg 5)) S2))))) : jFi E mX11_fine (d + 1) 0 0 [.ref a0] S Q := by
  refine jF_of (by decide) (jle rfl) ?_
  refine jx_lv (lv1 := [(0, .ref a0)]) [0] rfl ?_
  refine jx_aload_n 0 dX11_fine_0 rfl rfl ?_
  refine jx_iconst (v := 2) dX11_fine_1 (by decide) ?_
  obtain ⟨hk1, h⟩ := h
  refine jx_callVi (M' := mX11_counts) (As := [.int 2]) jo_X11_counts jc_11 rfl jwM_X11_93 jwN_X11_counts jwX_X11_counts dX11_fine_2 (jRok_m _ _ _) rfl (jle rfl) ⟨jle rfl, jle rfl⟩ hk1 h (fun r3 S2 h => ?_)
  refine jx_istore_n (lv1 := [(1, .int r3), (0, .ref a0)]) dX11_fine_5 rfl (by decide) rfl ?_
  refine jx_iload_n 0 dX11_fine_6 rfl rfl ?_
  refine jx_if_ge (tgt := 17) dX11_fine_7 (by decide) (fun c4 => ?_) (fun c4 => ?_)
  · replace h := h.1 c4
    refine jx_aload_n 1 dX11_fine_17 rfl rfl ?_
    obtain ⟨hk5, h⟩ := h
    obtain ⟨b6, hb6, h⟩ := h
    refine jx_getr jc_11 (j := 30) (by decide) rfl jwF_X11_55 dX11_fine_18 hk5 hb6 ?_
    refine jx_bipush (v := 99) dX11_fine_21 (by decide) ?_
    refine jx_aload_n 1 dX11_fine_23 rfl rfl ?_
    obtain ⟨b7, hb7, h⟩ := h
    refine jx_getr jc_11 (j := 0) (by decide) rfl jwF_X11_7 dX11_fine_24 hk5 hb7 ?_
    refine jx_iconst (v := 5) dX11_fine_27 (by decide) ?_
    obtain ⟨hk8, h⟩ := h
    obtain ⟨hi9, h⟩ := h
    refine jx_iald dX11_fine_28 hk8 hi9 ?_
    obtain ⟨hk10, h⟩ := h
    obtain ⟨hi11, h⟩ := h
    refine jx_iast dX11_fine_29 hk10 hi11 ?_
    refine jx_aload_n 1 dX11_fine_30 rfl rfl ?_
    refine jx_getr jc_11 (j := 30) (by decide) rfl jwF_X11_55 dX11_fine_31 hk5 hb6 ?_
    refine jx_bipush (v := 100) dX11_fine_34 (by decide) ?_
    refine jx_aload_n 1 dX11_fine_36 rfl rfl ?_
    refine jx_getr jc_11 (j := 0) (by decide) rfl jwF_X11_7 dX11_fine_37 hk5 hb7 ?_
    refine jx_iconst (v := 2) dX11_fine_40 (by decide) ?_
    obtain ⟨hi12, h⟩ := h
    refine jx_iald dX11_fine_41 hk8 hi12 ?_
    obtain ⟨hi13, h⟩ := h
    refine jx_iast dX11_fine_42 hk10 hi13 ?_
    refine jx_aload_n 1 dX11_fine_43 rfl rfl ?_
    refine jx_iload_n 0 dX11_fine_44 rfl rfl ?_
    refine jx_callVi (M' := mX11_worked) (As := [.int r3]) jo_X11_worked jc_11 rfl jwM_X11_101 jwN_X11_worked jwX_X11_worked dX11_fine_45 (jRok_m _ _ _) rfl (jle rfl) ⟨jle rfl, jle rfl⟩ hk5 h (fun r15 S14 h => ?_)
    exact jx_iret dX11_fine_48 rfl rfl (jle rfl) (jle rfl) ⟨_, rfl, h⟩
  replace h := h.2 c4
  refine jx_aload_n 1 dX11_fine_10 rfl rfl ?_
  obtain ⟨hk16, h⟩ := h
  obtain ⟨b17, hb17, h⟩ := h
  refine jx_getr jc_11 (j := 0) (by decide) rfl jwF_X11_7 dX11_fine_11 hk16 hb17 ?_
  refine jx_iconst (v := 5) dX11_fine_14 (by decide) ?_
  obtain ⟨hk18, h⟩ := h
  obtain ⟨hi19, h⟩ := h
  refine jx_iald dX11_fine_15 hk18 hi19 ?_
  exact jx_iret dX11_fine_16 rfl rfl (jle rfl) (jle rfl) ⟨_, rfl, h⟩
/-- X11_feed at its loop's head 18 -/
abbrev L_X11_feed_18 (E : jEnv) (d : Nat) (Q : Int32 → jM → Prop) (a0 : Nat) (x1 : Int32) (x2 : Int32) (x3 : Int32) (x4 : Int32) (S : jM) : Prop := jX E mX11_feed (jRm d 0 0) (jZm E (fun r S' => ∃ v : Int32, r = some (.int v) ∧ Q v S') 0 0) 18 [(0, .ref a0), (1, .int x1), (2, .int x2), (3, .int x3), (4, .int x4)] [] S 0 0
set_option maxRecDepth 100000 in
set_option maxHeartbeats 4000000 in
theorem T_X11_feed {E : jEnv} {d : Nat} {Q : Int32 → jM → Prop} {a0 : Nat} {x1 : Int32} {x2 : Int32} {x3 : Int32} {S : jM} (h : jk S a0 = 11 ∧ (((ji S a0 19) + 12) ≤ 96 → L_X11_feed_18 E d Q a0 x1 x2 x3 0 S) ∧ (¬ ((ji S a0 19) + 12) ≤ 96 → Q (-1000000003) S)) : jFi E mX11_feed d 0 0 [.ref a0, .int x1, .int x2, .int x3] S Q := by
  refine jF_of (by decide) (jle rfl) ?_
  refine jx_lv (lv1 := [(0, .ref a0), (1, .int x1), (2, .int x2), (3, .int x3)]) [0, 1, 2, 3] rfl ?_
  refine jx_aload_n 0 dX11_feed_0 rfl rfl ?_
  obtain ⟨hk1, h⟩ := h
  refine jx_geti jc_11 (j := 19) (by decide) rfl jwF_X11_214 dX11_feed_1 hk1 ?_
  refine jx_bipush (v := 12) dX11_feed_4 (by decide) ?_
  refine jx_iadd dX11_feed_6 ?_
  refine jx_bipush (v := 96) dX11_feed_7 (by decide) ?_
  refine jx_icmp_le (tgt := 15) dX11_feed_9 (by decide) (fun c2 => ?_) (fun c2 => ?_)
  · replace h := h.1 c2
    refine jx_iconst (v := 0) dX11_feed_15 (by decide) ?_
    refine jx_istore (lv1 := [(4, .int 0), (0, .ref a0), (1, .int x1), (2, .int x2), (3, .int x3)]) dX11_feed_16 (by decide) rfl ?_
    exact jx_lv [1, 2, 3, 4, 0] rfl h
  replace h := h.2 c2
  refine jx_ldc jwC_X11_88 dX11_feed_12 ?_
  exact jx_iret dX11_feed_14 rfl rfl (jle rfl) (jle rfl) ⟨_, rfl, h⟩
set_option maxRecDepth 100000 in
set_option maxHeartbeats 4000000 in
theorem T_X11_feed_18 {E : jEnv} {d : Nat} {Q : Int32 → jM → Prop} {a0 : Nat} {x1 : Int32} {x2 : Int32} {x3 : Int32} {x4 : Int32} {S : jM} (h : (12 ≤ x4 → jk S a0 = 11 ∧ Q (ji S a0 19) S) ∧ (¬ 12 ≤ x4 → (4 ≤ x4 → (8 ≤ x4 → jk S a0 = 11 ∧ ∃ b8, jr S a0 18 = some b8 ∧ (jk S b8 = 12 ∧ vp_in (ji S a0 19) (jl S b8) ∧ (L_X11_feed_18 E d Q a0 x1 x2 x3 (x4 + 1) (jput (jput S b8 (Int32.toNatClampNeg (ji S a0 19)) ((jshr x3 (24 - (8 * (jrem x4 4)))) &&& 255)) a0 19 ((ji S a0 19) + 1))))) ∧ (¬ 8 ≤ x4 → jk S a0 = 11 ∧ ∃ b12, jr S a0 18 = some b12 ∧ (jk S b12 = 12 ∧ vp_in (ji S a0 19) (jl S b12) ∧ (L_X11_feed_18 E d Q a0 x1 x2 x3 (x4 + 1) (jput (jput S b12 (Int32.toNatClampNeg (ji S a0 19)) ((jshr x2 (24 - (8 * (jrem x4 4)))) &&& 255)) a0 19 ((ji S a0 19) + 1)))))) ∧ (¬ 4 ≤ x4 → jk S a0 = 11 ∧ ∃ b16, jr S a0 18 = some b16 ∧ (jk S b16 = 12 ∧ vp_in (ji S a0 19) (jl S b16) ∧ (L_X11_feed_18 E d Q a0 x1 x2 x3 (x4 + 1) (jput (jput S b16 (Int32.toNatClampNeg (ji S a0 19)) ((jshr x1 (24 - (8 * (jrem x4 4)))) &&& 255)) a0 19 ((ji S a0 19) + 1))))))) : L_X11_feed_18 E d Q a0 x1 x2 x3 x4 S := by
  show jX E mX11_feed (jRm d 0 0) (jZm E (fun r S' => ∃ v : Int32, r = some (.int v) ∧ Q v S') 0 0) 18 [(0, .ref a0), (1, .int x1), (2, .int x2), (3, .int x3), (4, .int x4)] [] S 0 0
  refine jx_iload 4 dX11_feed_18 rfl ?_
  refine jx_bipush (v := 12) dX11_feed_20 (by decide) ?_
  refine jx_icmp_ge (tgt := 91) dX11_feed_22 (by decide) (fun c3 => ?_) (fun c3 => ?_)
  · replace h := h.1 c3
    refine jx_aload_n 0 dX11_feed_91 rfl rfl ?_
    obtain ⟨hk4, h⟩ := h
    refine jx_geti jc_11 (j := 19) (by decide) rfl jwF_X11_214 dX11_feed_92 hk4 ?_
    exact jx_iret dX11_feed_95 rfl rfl (jle rfl) (jle rfl) ⟨_, rfl, h⟩
  replace h := h.2 c3
  refine jx_iload 4 dX11_feed_25 rfl ?_
  refine jx_iconst (v := 4) dX11_feed_27 (by decide) ?_
  refine jx_icmp_ge (tgt := 35) dX11_feed_28 (by decide) (fun c5 => ?_) (fun c5 => ?_)
  · replace h := h.1 c5
    refine jx_iload 4 dX11_feed_35 rfl ?_
    refine jx_bipush (v := 8) dX11_feed_37 (by decide) ?_
    refine jx_icmp_ge (tgt := 46) dX11_feed_39 (by decide) (fun c6 => ?_) (fun c6 => ?_)
    · replace h := h.1 c6
      refine jx_iload_n 3 dX11_feed_46 rfl rfl ?_
      refine jx_istore (lv1 := [(5, .int x3), (0, .ref a0), (1, .int x1), (2, .int x2), (3, .int x3), (4, .int x4)]) dX11_feed_47 (by decide) rfl ?_
      refine jx_aload_n 1 dX11_feed_49 rfl rfl ?_
      obtain ⟨hk7, h⟩ := h
      obtain ⟨b8, hb8, h⟩ := h
      refine jx_getr jc_11 (j := 18) (by decide) rfl jwF_X11_52 dX11_feed_50 hk7 hb8 ?_
      refine jx_aload_n 1 dX11_feed_53 rfl rfl ?_
      refine jx_geti jc_11 (j := 19) (by decide) rfl jwF_X11_214 dX11_feed_54 hk7 ?_
      refine jx_iload 0 dX11_feed_57 rfl ?_
      refine jx_bipush (v := 24) dX11_feed_59 (by decide) ?_
      refine jx_bipush (v := 8) dX11_feed_61 (by decide) ?_
      refine jx_iload 5 dX11_feed_63 rfl ?_
      refine jx_iconst (v := 4) dX11_feed_65 (by decide) ?_
      refine jx_irem dX11_feed_66 (by decide) ?_
      refine jx_imul dX11_feed_67 ?_
      refine jx_isub dX11_feed_68 ?_
      refine jx_ishr dX11_feed_69 ?_
      refine jx_sipush (v := 255) dX11_feed_70 (by decide) ?_
      refine jx_iand dX11_feed_73 ?_
      obtain ⟨hk9, h⟩ := h
      obtain ⟨hi10, h⟩ := h
      refine jx_iast dX11_feed_74 hk9 hi10 ?_
      refine jx_aload_n 1 dX11_feed_75 rfl rfl ?_
      refine jx_dup dX11_feed_76 rfl ?_
      refine jx_geti jc_11 (j := 19) (by decide) rfl jwF_X11_214 dX11_feed_77 hk7 ?_
      refine jx_topi (y := (ji S a0 19)) (by simp [ji_put, ji_row, ji_putr, jne hk7 hk9 (by decide)]) ?_
      refine jx_iconst (v := 1) dX11_feed_80 (by decide) ?_
      refine jx_iadd dX11_feed_81 ?_
      refine jx_puti jc_11 (j := 19) (by decide) rfl jwF_X11_214 rfl rfl rfl dX11_feed_82 hk7 ?_
      refine jx_iinc 5 (v := (x4 + 1)) (lv1 := [(4, .int (x4 + 1)), (5, .int x3), (0, .ref a0), (1, .int x1), (2, .int x2), (3, .int x3)]) kd84.1 rfl rfl (by decide) rfl ?_
      refine jx_goto (tgt := 18) kd84.2 (by decide) ?_
      exact jx_lv [2, 3, 4, 5, 0] rfl h
    replace h := h.2 c6
    refine jx_iload_n 2 dX11_feed_42 rfl rfl ?_
    refine jx_goto (tgt := 47) dX11_feed_43 (by decide) ?_
    refine jx_istore (lv1 := [(5, .int x2), (0, .ref a0), (1, .int x1), (2, .int x2), (3, .int x3), (4, .int x4)]) dX11_feed_47 (by decide) rfl ?_
    refine jx_aload_n 1 dX11_feed_49 rfl rfl ?_
    obtain ⟨hk11, h⟩ := h
    obtain ⟨b12, hb12, h⟩ := h
    refine jx_getr jc_11 (j := 18) (by decide) rfl jwF_X11_52 dX11_feed_50 hk11 hb12 ?_
    refine jx_aload_n 1 dX11_feed_53 rfl rfl ?_
    refine jx_geti jc_11 (j := 19) (by decide) rfl jwF_X11_214 dX11_feed_54 hk11 ?_
    refine jx_iload 0 dX11_feed_57 rfl ?_
    refine jx_bipush (v := 24) dX11_feed_59 (by decide) ?_
    refine jx_bipush (v := 8) dX11_feed_61 (by decide) ?_
    refine jx_iload 5 dX11_feed_63 rfl ?_
    refine jx_iconst (v := 4) dX11_feed_65 (by decide) ?_
    refine jx_irem dX11_feed_66 (by decide) ?_
    refine jx_imul dX11_feed_67 ?_
    refine jx_isub dX11_feed_68 ?_
    refine jx_ishr dX11_feed_69 ?_
    refine jx_sipush (v := 255) dX11_feed_70 (by decide) ?_
    refine jx_iand dX11_feed_73 ?_
    obtain ⟨hk13, h⟩ := h
    obtain ⟨hi14, h⟩ := h
    refine jx_iast dX11_feed_74 hk13 hi14 ?_
    refine jx_aload_n 1 dX11_feed_75 rfl rfl ?_
    refine jx_dup dX11_feed_76 rfl ?_
    refine jx_geti jc_11 (j := 19) (by decide) rfl jwF_X11_214 dX11_feed_77 hk11 ?_
    refine jx_topi (y := (ji S a0 19)) (by simp [ji_put, ji_row, ji_putr, jne hk11 hk13 (by decide)]) ?_
    refine jx_iconst (v := 1) dX11_feed_80 (by decide) ?_
    refine jx_iadd dX11_feed_81 ?_
    refine jx_puti jc_11 (j := 19) (by decide) rfl jwF_X11_214 rfl rfl rfl dX11_feed_82 hk11 ?_
    refine jx_iinc 5 (v := (x4 + 1)) (lv1 := [(4, .int (x4 + 1)), (5, .int x2), (0, .ref a0), (1, .int x1), (2, .int x2), (3, .int x3)]) kd84.1 rfl rfl (by decide) rfl ?_
    refine jx_goto (tgt := 18) kd84.2 (by decide) ?_
    exact jx_lv [2, 3, 4, 5, 0] rfl h
  replace h := h.2 c5
  refine jx_iload_n 1 dX11_feed_31 rfl rfl ?_
  refine jx_goto (tgt := 47) dX11_feed_32 (by decide) ?_
  refine jx_istore (lv1 := [(5, .int x1), (0, .ref a0), (1, .int x1), (2, .int x2), (3, .int x3), (4, .int x4)]) dX11_feed_47 (by decide) rfl ?_
  refine jx_aload_n 1 dX11_feed_49 rfl rfl ?_
  obtain ⟨hk15, h⟩ := h
  obtain ⟨b16, hb16, h⟩ := h
  refine jx_getr jc_11 (j := 18) (by decide) rfl jwF_X11_52 dX11_feed_50 hk15 hb16 ?_
  refine jx_aload_n 1 dX11_feed_53 rfl rfl ?_
  refine jx_geti jc_11 (j := 19) (by decide) rfl jwF_X11_214 dX11_feed_54 hk15 ?_
  refine jx_iload 0 dX11_feed_57 rfl ?_
  refine jx_bipush (v := 24) dX11_feed_59 (by decide) ?_
  refine jx_bipush (v := 8) dX11_feed_61 (by decide) ?_
  refine jx_iload 5 dX11_feed_63 rfl ?_
  refine jx_iconst (v := 4) dX11_feed_65 (by decide) ?_
  refine jx_irem dX11_feed_66 (by decide) ?_
  refine jx_imul dX11_feed_67 ?_
  refine jx_isub dX11_feed_68 ?_
  refine jx_ishr dX11_feed_69 ?_
  refine jx_sipush (v := 255) dX11_feed_70 (by decide) ?_
  refine jx_iand dX11_feed_73 ?_
  obtain ⟨hk17, h⟩ := h
  obtain ⟨hi18, h⟩ := h
  refine jx_iast dX11_feed_74 hk17 hi18 ?_
  refine jx_aload_n 1 dX11_feed_75 rfl rfl ?_
  refine jx_dup dX11_feed_76 rfl ?_
  refine jx_geti jc_11 (j := 19) (by decide) rfl jwF_X11_214 dX11_feed_77 hk15 ?_
  refine jx_topi (y := (ji S a0 19)) (by simp [ji_put, ji_row, ji_putr, jne hk15 hk17 (by decide)]) ?_
  refine jx_iconst (v := 1) dX11_feed_80 (by decide) ?_
  refine jx_iadd dX11_feed_81 ?_
  refine jx_puti jc_11 (j := 19) (by decide) rfl jwF_X11_214 rfl rfl rfl dX11_feed_82 hk15 ?_
  refine jx_iinc 5 (v := (x4 + 1)) (lv1 := [(4, .int (x4 + 1)), (5, .int x1), (0, .ref a0), (1, .int x1), (2, .int x2), (3, .int x3)]) kd84.1 rfl rfl (by decide) rfl ?_
  refine jx_goto (tgt := 18) kd84.2 (by decide) ?_
  exact jx_lv [2, 3, 4, 5, 0] rfl h
set_option maxRecDepth 100000 in
set_option maxHeartbeats 4000000 in
theorem T_X11_trim {E : jEnv} {d : Nat} {Q : Int32 → jM → Prop} {a0 : Nat} {x1 : Int32} {S : jM} (h : jk S a0 = 11 ∧ ((jisin (Int32.toInt64 x1) 0 (Int32.toInt64 (ji S a0 19))) = 0 → Q (-1000000001) S) ∧ (¬ (jisin (Int32.toInt64 x1) 0 (Int32.toInt64 (ji S a0 19))) = 0 → Q x1 (jput S a0 19 x1))) : jFi E mX11_trim (d + 1) 0 0 [.ref a0, .int x1] S Q := by
  refine jF_of (by decide) (jle rfl) ?_
  refine jx_lv (lv1 := [(0, .ref a0), (1, .int x1)]) [0, 1] rfl ?_
  refine jx_iload_n 1 dX11_trim_0 rfl rfl ?_
  refine jx_i2l dX11_trim_1 ?_
  refine jx_lconst (v := 0) dX11_trim_2 (by decide) ?_
  refine jx_aload_n 0 dX11_trim_3 rfl rfl ?_
  obtain ⟨hk1, h⟩ := h
  refine jx_geti jc_11 (j := 19) (by decide) rfl jwF_X11_214 dX11_trim_4 hk1 ?_
  refine jx_i2l dX11_trim_7 ?_
  refine jx_callSi (M' := mX11_isIn) (As := [.long (Int32.toInt64 x1), .long 0, .long (Int32.toInt64 (ji S a0 19))]) jo_X11_isIn jwM_X11_71 jwS_X11_isIn dX11_trim_8 (jRok_m _ _ _) rfl (jle rfl) ⟨jle rfl, jle rfl⟩ (c_X11_isIn (Q := fun v S' => v = (jisin (Int32.toInt64 x1) 0 (Int32.toInt64 (ji S a0 19))) ∧ S = S') ⟨rfl, rfl⟩) (fun r2 S3 hq4 => ?_)
  obtain ⟨rfl, rfl⟩ := hq4
  refine jx_if_ne (tgt := 17) dX11_trim_11 (by decide) (fun c5 => ?_) (fun c5 => ?_)
  · replace h := h.2 c5
    refine jx_aload_n 0 dX11_trim_17 rfl rfl ?_
    refine jx_iload_n 1 dX11_trim_18 rfl rfl ?_
    refine jx_puti jc_11 (j := 19) (by decide) rfl jwF_X11_214 rfl rfl rfl dX11_trim_19 hk1 ?_
    refine jx_iload_n 1 dX11_trim_22 rfl rfl ?_
    exact jx_iret dX11_trim_23 rfl rfl (jle rfl) (jle rfl) ⟨_, rfl, h⟩
  replace h := h.1 c5
  refine jx_ldc jwC_X11_87 dX11_trim_14 ?_
  exact jx_iret dX11_trim_16 rfl rfl (jle rfl) (jle rfl) ⟨_, rfl, h⟩
set_option maxRecDepth 100000 in
set_option maxHeartbeats 4000000 in
theorem T_X11_isLetter {E : jEnv} {d : Nat} {Q : Int32 → jM → Prop} {a0 : Nat} {x1 : Int32} {S : jM} (h : jk S a0 = 11 ∧ ((ji S a0 19) ≤ x1 → Q 0 S) ∧ (¬ (ji S a0 19) ≤ x1 → ∃ b3, jr S a0 18 = some b3 ∧ (jk S b3 = 12 ∧ vp_in x1 (jl S b3) ∧ (((jisin (Int32.toInt64 (ji S b3 (Int32.toNatClampNeg x1))) 97 122) = 0 → Q 0 S) ∧ (¬ (jisin (Int32.toInt64 (ji S b3 (Int32.toNatClampNeg x1))) 97 122) = 0 → Q 1 S))))) : jFi E mX11_isLetter (d + 1) 0 0 [.ref a0, .int x1] S Q := by
  refine jF_of (by decide) (jle rfl) ?_
  refine jx_lv (lv1 := [(0, .ref a0), (1, .int x1)]) [0, 1] rfl ?_
  refine jx_iload_n 1 dX11_isLetter_0 rfl rfl ?_
  refine jx_aload_n 0 dX11_isLetter_1 rfl rfl ?_
  obtain ⟨hk1, h⟩ := h
  refine jx_geti jc_11 (j := 19) (by decide) rfl jwF_X11_214 dX11_isLetter_2 hk1 ?_
  refine jx_icmp_ge (tgt := 31) dX11_isLetter_5 (by decide) (fun c2 => ?_) (fun c2 => ?_)
  · replace h := h.1 c2
    refine jx_iconst (v := 0) dX11_isLetter_31 (by decide) ?_
    exact jx_iret dX11_isLetter_32 rfl (by decide) (jle rfl) (jle rfl) ⟨_, rfl, h⟩
  replace h := h.2 c2
  refine jx_aload_n 0 dX11_isLetter_8 rfl rfl ?_
  obtain ⟨b3, hb3, h⟩ := h
  refine jx_getr jc_11 (j := 18) (by decide) rfl jwF_X11_52 dX11_isLetter_9 hk1 hb3 ?_
  refine jx_iload_n 1 dX11_isLetter_12 rfl rfl ?_
  obtain ⟨hk4, h⟩ := h
  obtain ⟨hi5, h⟩ := h
  refine jx_iald dX11_isLetter_13 hk4 hi5 ?_
  refine jx_i2l dX11_isLetter_14 ?_
  refine jx_ldc2 jwL_X11_217 dX11_isLetter_15 ?_
  refine jx_ldc2 jwL_X11_219 dX11_isLetter_18 ?_
  refine jx_callSi (M' := mX11_isIn) (As := [.long (Int32.toInt64 (ji S b3 (Int32.toNatClampNeg x1))), .long 97, .long 122]) jo_X11_isIn jwM_X11_71 jwS_X11_isIn dX11_isLetter_21 (jRok_m _ _ _) rfl (jle rfl) ⟨jle rfl, jle rfl⟩ (c_X11_isIn (Q := fun v S' => v = (jisin (Int32.toInt64 (ji S b3 (Int32.toNatClampNeg x1))) 97 122) ∧ S = S') ⟨rfl, rfl⟩) (fun r6 S7 hq8 => ?_)
  obtain ⟨rfl, rfl⟩ := hq8
  refine jx_if_eq (tgt := 31) dX11_isLetter_24 (by decide) (fun c9 => ?_) (fun c9 => ?_)
  · replace h := h.1 c9
    refine jx_iconst (v := 0) dX11_isLetter_31 (by decide) ?_
    exact jx_iret dX11_isLetter_32 rfl (by decide) (jle rfl) (jle rfl) ⟨_, rfl, h⟩
  replace h := h.2 c9
  refine jx_iconst (v := 1) dX11_isLetter_27 (by decide) ?_
  refine jx_goto (tgt := 32) dX11_isLetter_28 (by decide) ?_
  exact jx_iret dX11_isLetter_32 rfl (by decide) (jle rfl) (jle rfl) ⟨_, rfl, h⟩
set_option maxRecDepth 100000 in
set_option maxHeartbeats 4000000 in
theorem T_X11_isDigit {E : jEnv} {d : Nat} {Q : Int32 → jM → Prop} {a0 : Nat} {x1 : Int32} {S : jM} (h : jk S a0 = 11 ∧ ((ji S a0 19) ≤ x1 → Q 0 S) ∧ (¬ (ji S a0 19) ≤ x1 → ∃ b3, jr S a0 18 = some b3 ∧ (jk S b3 = 12 ∧ vp_in x1 (jl S b3) ∧ (((jisin (Int32.toInt64 (ji S b3 (Int32.toNatClampNeg x1))) 48 57) = 0 → Q 0 S) ∧ (¬ (jisin (Int32.toInt64 (ji S b3 (Int32.toNatClampNeg x1))) 48 57) = 0 → Q 1 S))))) : jFi E mX11_isDigit (d + 1) 0 0 [.ref a0, .int x1] S Q := by
  refine jF_of (by decide) (jle rfl) ?_
  refine jx_lv (lv1 := [(0, .ref a0), (1, .int x1)]) [0, 1] rfl ?_
  refine jx_iload_n 1 dX11_isDigit_0 rfl rfl ?_
  refine jx_aload_n 0 dX11_isDigit_1 rfl rfl ?_
  obtain ⟨hk1, h⟩ := h
  refine jx_geti jc_11 (j := 19) (by decide) rfl jwF_X11_214 dX11_isDigit_2 hk1 ?_
  refine jx_icmp_ge (tgt := 31) dX11_isDigit_5 (by decide) (fun c2 => ?_) (fun c2 => ?_)
  · replace h := h.1 c2
    refine jx_iconst (v := 0) dX11_isDigit_31 (by decide) ?_
    exact jx_iret dX11_isDigit_32 rfl (by decide) (jle rfl) (jle rfl) ⟨_, rfl, h⟩
  replace h := h.2 c2
  refine jx_aload_n 0 dX11_isDigit_8 rfl rfl ?_
  obtain ⟨b3, hb3, h⟩ := h
  refine jx_getr jc_11 (j := 18) (by decide) rfl jwF_X11_52 dX11_isDigit_9 hk1 hb3 ?_
  refine jx_iload_n 1 dX11_isDigit_12 rfl rfl ?_
  obtain ⟨hk4, h⟩ := h
  obtain ⟨hi5, h⟩ := h
  refine jx_iald dX11_isDigit_13 hk4 hi5 ?_
  refine jx_i2l dX11_isDigit_14 ?_
  refine jx_ldc2 jwL_X11_221 dX11_isDigit_15 ?_
  refine jx_ldc2 jwL_X11_223 dX11_isDigit_18 ?_
  refine jx_callSi (M' := mX11_isIn) (As := [.long (Int32.toInt64 (ji S b3 (Int32.toNatClampNeg x1))), .long 48, .long 57]) jo_X11_isIn jwM_X11_71 jwS_X11_isIn dX11_isDigit_21 (jRok_m _ _ _) rfl (jle rfl) ⟨jle rfl, jle rfl⟩ (c_X11_isIn (Q := fun v S' => v = (jisin (Int32.toInt64 (ji S b3 (Int32.toNatClampNeg x1))) 48 57) ∧ S = S') ⟨rfl, rfl⟩) (fun r6 S7 hq8 => ?_)
  obtain ⟨rfl, rfl⟩ := hq8
  refine jx_if_eq (tgt := 31) dX11_isDigit_24 (by decide) (fun c9 => ?_) (fun c9 => ?_)
  · replace h := h.1 c9
    refine jx_iconst (v := 0) dX11_isDigit_31 (by decide) ?_
    exact jx_iret dX11_isDigit_32 rfl (by decide) (jle rfl) (jle rfl) ⟨_, rfl, h⟩
  replace h := h.2 c9
  refine jx_iconst (v := 1) dX11_isDigit_27 (by decide) ?_
  refine jx_goto (tgt := 32) dX11_isDigit_28 (by decide) ?_
  exact jx_iret dX11_isDigit_32 rfl (by decide) (jle rfl) (jle rfl) ⟨_, rfl, h⟩
/-- X11_nextToken at its loop's head 34 -/
abbrev L_X11_nextToken_34 (E : jEnv) (d : Nat) (Q : jM → Prop) (a0 : Nat) (x1 : Int32) (x2 : Int32) (S : jM) : Prop := jX E mX11_nextToken (jRm (d + 1) 0 0) (jZm E (fun r S' => r = none ∧ Q S') 0 0) 34 [(0, .ref a0), (1, .int x1), (2, .int x2)] [] S 0 0
/-- X11_nextToken at its loop's head 214 -/
abbrev L_X11_nextToken_214 (E : jEnv) (d : Nat) (Q : jM → Prop) (a0 : Nat) (x1 : Int32) (S : jM) : Prop := jX E mX11_nextToken (jRm (d + 1) 0 0) (jZm E (fun r S' => r = none ∧ Q S') 0 0) 214 [(0, .ref a0), (1, .int x1)] [] S 0 0
/-- X11_nextToken at its loop's head 128 -/
abbrev L_X11_nextToken_128 (E : jEnv) (d : Nat) (Q : jM → Prop) (a0 : Nat) (x1 : Int32) (S : jM) : Prop := jX E mX11_nextToken (jRm (d + 1) 0 0) (jZm E (fun r S' => r = none ∧ Q S') 0 0) 128 [(0, .ref a0), (1, .int x1)] [] S 0 0
set_option maxRecDepth 100000 in
set_option maxHeartbeats 4000000 in
theorem T_X11_nextToken {E : jEnv} {d : Nat} {Q : jM → Prop} {a0 : Nat} {S : jM} (h : jk S a0 = 11 ∧ ((ji S a0 21) ≤ 0 → L_X11_nextToken_34 E d Q a0 0 (ji S a0 21) S) ∧ (¬ (ji S a0 21) ≤ 0 → ((ji S a0 22) = 1 → L_X11_nextToken_34 E d Q a0 1 (ji S a0 21) S) ∧ (¬ (ji S a0 22) = 1 → ((ji S a0 22) = 2 → L_X11_nextToken_34 E d Q a0 1 (ji S a0 21) S) ∧ (¬ (ji S a0 22) = 2 → L_X11_nextToken_34 E d Q a0 0 (ji S a0 21) S)))) : jFv E mX11_nextToken (d + 1) 0 0 [.ref a0] S Q := by
  refine jF_of (by decide) (jle rfl) ?_
  refine jx_lv (lv1 := [(0, .ref a0)]) [0] rfl ?_
  refine jx_aload_n 0 dX11_nextToken_0 rfl rfl ?_
  obtain ⟨hk1, h⟩ := h
  refine jx_geti jc_11 (j := 21) (by decide) rfl jwF_X11_225 dX11_nextToken_1 hk1 ?_
  refine jx_if_le (tgt := 27) dX11_nextToken_4 (by decide) (fun c2 => ?_) (fun c2 => ?_)
  · replace h := h.1 c2
    refine jx_iconst (v := 0) dX11_nextToken_27 (by decide) ?_
    refine jx_istore_n (lv1 := [(1, .int 0), (0, .ref a0)]) dX11_nextToken_28 rfl (by decide) rfl ?_
    refine jx_aload_n 1 dX11_nextToken_29 rfl rfl ?_
    refine jx_geti jc_11 (j := 21) (by decide) rfl jwF_X11_225 dX11_nextToken_30 hk1 ?_
    refine jx_istore_n (lv1 := [(2, .int (ji S a0 21)), (1, .int 0), (0, .ref a0)]) dX11_nextToken_33 rfl (by decide) rfl ?_
    exact jx_lv [2, 1, 0] rfl h
  replace h := h.2 c2
  refine jx_aload_n 0 dX11_nextToken_7 rfl rfl ?_
  refine jx_geti jc_11 (j := 22) (by decide) rfl jwF_X11_228 dX11_nextToken_8 hk1 ?_
  refine jx_iconst (v := 1) dX11_nextToken_11 (by decide) ?_
  refine jx_icmp_eq (tgt := 23) dX11_nextToken_12 (by decide) (fun c3 => ?_) (fun c3 => ?_)
  · replace h := h.1 c3
    refine jx_iconst (v := 1) dX11_nextToken_23 (by decide) ?_
    refine jx_goto (tgt := 28) dX11_nextToken_24 (by decide) ?_
    refine jx_istore_n (lv1 := [(1, .int 1), (0, .ref a0)]) dX11_nextToken_28 rfl (by decide) rfl ?_
    refine jx_aload_n 1 dX11_nextToken_29 rfl rfl ?_
    refine jx_geti jc_11 (j := 21) (by decide) rfl jwF_X11_225 dX11_nextToken_30 hk1 ?_
    refine jx_istore_n (lv1 := [(2, .int (ji S a0 21)), (1, .int 1), (0, .ref a0)]) dX11_nextToken_33 rfl (by decide) rfl ?_
    exact jx_lv [2, 1, 0] rfl h
  replace h := h.2 c3
  refine jx_aload_n 0 dX11_nextToken_15 rfl rfl ?_
  refine jx_geti jc_11 (j := 22) (by decide) rfl jwF_X11_228 dX11_nextToken_16 hk1 ?_
  refine jx_iconst (v := 2) dX11_nextToken_19 (by decide) ?_
  refine jx_icmp_ne (tgt := 27) dX11_nextToken_20 (by decide) (fun c4 => ?_) (fun c4 => ?_)
  · replace h := h.2 c4
    refine jx_iconst (v := 0) dX11_nextToken_27 (by decide) ?_
    refine jx_istore_n (lv1 := [(1, .int 0), (0, .ref a0)]) dX11_nextToken_28 rfl (by decide) rfl ?_
    refine jx_aload_n 1 dX11_nextToken_29 rfl rfl ?_
    refine jx_geti jc_11 (j := 21) (by decide) rfl jwF_X11_225 dX11_nextToken_30 hk1 ?_
    refine jx_istore_n (lv1 := [(2, .int (ji S a0 21)), (1, .int 0), (0, .ref a0)]) dX11_nextToken_33 rfl (by decide) rfl ?_
    exact jx_lv [2, 1, 0] rfl h
  replace h := h.1 c4
  refine jx_iconst (v := 1) dX11_nextToken_23 (by decide) ?_
  refine jx_goto (tgt := 28) dX11_nextToken_24 (by decide) ?_
  refine jx_istore_n (lv1 := [(1, .int 1), (0, .ref a0)]) dX11_nextToken_28 rfl (by decide) rfl ?_
  refine jx_aload_n 1 dX11_nextToken_29 rfl rfl ?_
  refine jx_geti jc_11 (j := 21) (by decide) rfl jwF_X11_225 dX11_nextToken_30 hk1 ?_
  refine jx_istore_n (lv1 := [(2, .int (ji S a0 21)), (1, .int 1), (0, .ref a0)]) dX11_nextToken_33 rfl (by decide) rfl ?_
  exact jx_lv [2, 1, 0] rfl h
set_option maxRecDepth 100000 in
set_option maxHeartbeats 4000000 in
theorem T_X11_nextToken_34 {E : jEnv} {d : Nat} {Q : jM → Prop} {a0 : Nat} {x1 : Int32} {x2 : Int32} {S : jM} (h : jk S a0 = 11 ∧ ((ji S a0 19) ≤ (ji S a0 21) → (x1 = 0 → ((ji S a0 21) = (ji S a0 19) → Q (jput (jput S a0 20 (ji S a0 21)) a0 22 0)) ∧ (¬ (ji S a0 21) = (ji S a0 19) → jFi E mX11_isLetter d 0 0 [.ref a0, .int (ji S a0 21)] (jput S a0 20 (ji S a0 21)) (fun r10 S9 => (r10 = 0 → jk S9 a0 = 11 ∧ jFi E mX11_isDigit d 0 0 [.ref a0, .int (ji S9 a0 20)] S9 (fun r14 S13 => (r14 = 0 → jk S13 a0 = 11 ∧ ∃ b17, jr S13 a0 18 = some b17 ∧ (jk S13 b17 = 12 ∧ vp_in (ji S13 a0 20) (jl S13 b17) ∧ (Q (jput (jput (jput S13 a0 22 3) a0 24 (ji S13 b17 (Int32.toNatClampNeg (ji S13 a0 20)))) a0 21 ((ji S13 a0 21) + 1))))) ∧ (¬ r14 = 0 → jk S13 a0 = 11 ∧ L_X11_nextToken_214 E d Q a0 0 (jput S13 a0 23 0)))) ∧ (¬ r10 = 0 → L_X11_nextToken_128 E d Q a0 0 S9)))) ∧ (¬ x1 = 0 → (x2 = (ji S a0 21) → ((ji S a0 21) = (ji S a0 19) → Q (jput (jput S a0 20 (ji S a0 21)) a0 22 0)) ∧ (¬ (ji S a0 21) = (ji S a0 19) → jFi E mX11_isLetter d 0 0 [.ref a0, .int (ji S a0 21)] (jput S a0 20 (ji S a0 21)) (fun r37 S36 => (r37 = 0 → jk S36 a0 = 11 ∧ jFi E mX11_isDigit d 0 0 [.ref a0, .int (ji S36 a0 20)] S36 (fun r41 S40 => (r41 = 0 → jk S40 a0 = 11 ∧ ∃ b44, jr S40 a0 18 = some b44 ∧ (jk S40 b44 = 12 ∧ vp_in (ji S40 a0 20) (jl S40 b44) ∧ (Q (jput (jput (jput S40 a0 22 3) a0 24 (ji S40 b44 (Int32.toNatClampNeg (ji S40 a0 20)))) a0 21 ((ji S40 a0 21) + 1))))) ∧ (¬ r41 = 0 → jk S40 a0 = 11 ∧ L_X11_nextToken_214 E d Q a0 1 (jput S40 a0 23 0)))) ∧ (¬ r37 = 0 → L_X11_nextToken_128 E d Q a0 1 S36)))) ∧ (¬ x2 = (ji S a0 21) → ((ji S a0 21) = (ji S a0 19) → Q (jput (jput S a0 20 (ji S a0 21)) a0 22 0)) ∧ (¬ (ji S a0 21) = (ji S a0 19) → jFi E mX11_isLetter d 0 0 [.ref a0, .int (ji S a0 21)] (jput S a0 20 (ji S a0 21)) (fun r24 S23 => (r24 = 0 → jk S23 a0 = 11 ∧ jFi E mX11_isDigit d 0 0 [.ref a0, .int (ji S23 a0 20)] S23 (fun r28 S27 => (r28 = 0 → jk S27 a0 = 11 ∧ ∃ b31, jr S27 a0 18 = some b31 ∧ (jk S27 b31 = 12 ∧ vp_in (ji S27 a0 20) (jl S27 b31) ∧ (Q (jput (jput (jput S27 a0 22 3) a0 24 (ji S27 b31 (Int32.toNatClampNeg (ji S27 a0 20)))) a0 21 ((ji S27 a0 21) + 1))))) ∧ (¬ r28 = 0 → jk S27 a0 = 11 ∧ L_X11_nextToken_214 E d Q a0 0 (jput S27 a0 23 0)))) ∧ (¬ r24 = 0 → L_X11_nextToken_128 E d Q a0 0 S23)))))) ∧ (¬ (ji S a0 19) ≤ (ji S a0 21) → ∃ b48, jr S a0 18 = some b48 ∧ (jk S b48 = 12 ∧ vp_in (ji S a0 21) (jl S b48) ∧ (((ji S b48 (Int32.toNatClampNeg (ji S a0 21))) = 32 → L_X11_nextToken_34 E d Q a0 x1 x2 (jput S a0 21 ((ji S a0 21) + 1))) ∧ (¬ (ji S b48 (Int32.toNatClampNeg (ji S a0 21))) = 32 → (x1 = 0 → ((ji S a0 21) = (ji S a0 19) → Q (jput (jput S a0 20 (ji S a0 21)) a0 22 0)) ∧ (¬ (ji S a0 21) = (ji S a0 19) → jFi E mX11_isLetter d 0 0 [.ref a0, .int (ji S a0 21)] (jput S a0 20 (ji S a0 21)) (fun r55 S54 => (r55 = 0 → jk S54 a0 = 11 ∧ jFi E mX11_isDigit d 0 0 [.ref a0, .int (ji S54 a0 20)] S54 (fun r59 S58 => (r59 = 0 → jk S58 a0 = 11 ∧ ∃ b62, jr S58 a0 18 = some b62 ∧ (jk S58 b62 = 12 ∧ vp_in (ji S58 a0 20) (jl S58 b62) ∧ (Q (jput (jput (jput S58 a0 22 3) a0 24 (ji S58 b62 (Int32.toNatClampNeg (ji S58 a0 20)))) a0 21 ((ji S58 a0 21) + 1))))) ∧ (¬ r59 = 0 → jk S58 a0 = 11 ∧ L_X11_nextToken_214 E d Q a0 0 (jput S58 a0 23 0)))) ∧ (¬ r55 = 0 → L_X11_nextToken_128 E d Q a0 0 S54)))) ∧ (¬ x1 = 0 → (x2 = (ji S a0 21) → ((ji S a0 21) = (ji S a0 19) → Q (jput (jput S a0 20 (ji S a0 21)) a0 22 0)) ∧ (¬ (ji S a0 21) = (ji S a0 19) → jFi E mX11_isLetter d 0 0 [.ref a0, .int (ji S a0 21)] (jput S a0 20 (ji S a0 21)) (fun r82 S81 => (r82 = 0 → jk S81 a0 = 11 ∧ jFi E mX11_isDigit d 0 0 [.ref a0, .int (ji S81 a0 20)] S81 (fun r86 S85 => (r86 = 0 → jk S85 a0 = 11 ∧ ∃ b89, jr S85 a0 18 = some b89 ∧ (jk S85 b89 = 12 ∧ vp_in (ji S85 a0 20) (jl S85 b89) ∧ (Q (jput (jput (jput S85 a0 22 3) a0 24 (ji S85 b89 (Int32.toNatClampNeg (ji S85 a0 20)))) a0 21 ((ji S85 a0 21) + 1))))) ∧ (¬ r86 = 0 → jk S85 a0 = 11 ∧ L_X11_nextToken_214 E d Q a0 1 (jput S85 a0 23 0)))) ∧ (¬ r82 = 0 → L_X11_nextToken_128 E d Q a0 1 S81)))) ∧ (¬ x2 = (ji S a0 21) → ((ji S a0 21) = (ji S a0 19) → Q (jput (jput S a0 20 (ji S a0 21)) a0 22 0)) ∧ (¬ (ji S a0 21) = (ji S a0 19) → jFi E mX11_isLetter d 0 0 [.ref a0, .int (ji S a0 21)] (jput S a0 20 (ji S a0 21)) (fun r69 S68 => (r69 = 0 → jk S68 a0 = 11 ∧ jFi E mX11_isDigit d 0 0 [.ref a0, .int (ji S68 a0 20)] S68 (fun r73 S72 => (r73 = 0 → jk S72 a0 = 11 ∧ ∃ b76, jr S72 a0 18 = some b76 ∧ (jk S72 b76 = 12 ∧ vp_in (ji S72 a0 20) (jl S72 b76) ∧ (Q (jput (jput (jput S72 a0 22 3) a0 24 (ji S72 b76 (Int32.toNatClampNeg (ji S72 a0 20)))) a0 21 ((ji S72 a0 21) + 1))))) ∧ (¬ r73 = 0 → jk S72 a0 = 11 ∧ L_X11_nextToken_214 E d Q a0 0 (jput S72 a0 23 0)))) ∧ (¬ r69 = 0 → L_X11_nextToken_128 E d Q a0 0 S68)))))))))) : L_X11_nextToken_34 E d Q a0 x1 x2 S := by
  show jX E mX11_nextToken (jRm (d + 1) 0 0) (jZm E (fun r S' => r = none ∧ Q S') 0 0) 34 [(0, .ref a0), (1, .int x1), (2, .int x2)] [] S 0 0
  refine jx_aload_n 0 dX11_nextToken_34 rfl rfl ?_
  obtain ⟨hk5, h⟩ := h
  refine jx_geti jc_11 (j := 21) (by decide) rfl jwF_X11_225 dX11_nextToken_35 hk5 ?_
  refine jx_aload_n 0 dX11_nextToken_38 rfl rfl ?_
  refine jx_geti jc_11 (j := 19) (by decide) rfl jwF_X11_214 dX11_nextToken_39 hk5 ?_
  refine jx_icmp_ge (tgt := 72) dX11_nextToken_42 (by decide) (fun c6 => ?_) (fun c6 => ?_)
  · replace h := h.1 c6
    refine jx_iload_n 1 dX11_nextToken_72 rfl rfl ?_
    refine jx_if_eq (tgt := 88) dX11_nextToken_73 (by decide) (fun c7 => ?_) (fun c7 => ?_)
    · replace h := h.1 c7
      refine jx_iconst (v := 0) dX11_nextToken_88 (by decide) ?_
      refine jx_istore_n (lv1 := [(1, .int 0), (0, .ref a0), (2, .int x2)]) dX11_nextToken_89 rfl (by decide) rfl ?_
      refine jx_aload_n 1 dX11_nextToken_90 rfl rfl ?_
      refine jx_aload_n 1 dX11_nextToken_91 rfl rfl ?_
      refine jx_geti jc_11 (j := 21) (by decide) rfl jwF_X11_225 dX11_nextToken_92 hk5 ?_
      refine jx_puti jc_11 (j := 20) (by decide) rfl jwF_X11_231 rfl rfl rfl dX11_nextToken_95 hk5 ?_
      refine jx_aload_n 1 dX11_nextToken_98 rfl rfl ?_
      refine jx_geti jc_11 (j := 20) (by decide) rfl jwF_X11_231 dX11_nextToken_99 hk5 ?_
      refine jx_topi (y := (ji S a0 21)) (by simp [ji_put, ji_row, ji_putr]) ?_
      refine jx_aload_n 1 dX11_nextToken_102 rfl rfl ?_
      refine jx_geti jc_11 (j := 19) (by decide) rfl jwF_X11_214 dX11_nextToken_103 hk5 ?_
      refine jx_topi (y := (ji S a0 19)) (by simp [ji_put, ji_row, ji_putr]) ?_
      refine jx_icmp_ne (tgt := 117) dX11_nextToken_106 (by decide) (fun c8 => ?_) (fun c8 => ?_)
      · replace h := h.2 c8
        refine jx_aload_n 1 dX11_nextToken_117 rfl rfl ?_
        refine jx_aload_n 1 dX11_nextToken_118 rfl rfl ?_
        refine jx_geti jc_11 (j := 20) (by decide) rfl jwF_X11_231 dX11_nextToken_119 hk5 ?_
        refine jx_topi (y := (ji S a0 21)) (by simp [ji_put, ji_row, ji_putr]) ?_
        refine jx_callVi (M' := mX11_isLetter) (As := [.int (ji S a0 21)]) jo_X11_isLetter jc_11 rfl jwM_X11_234 jwN_X11_isLetter jwX_X11_isLetter dX11_nextToken_122 (jRok_m _ _ _) rfl (jle rfl) ⟨jle rfl, jle rfl⟩ hk5 h (fun r10 S9 h => ?_)
        refine jx_if_eq (tgt := 198) dX11_nextToken_125 (by decide) (fun c11 => ?_) (fun c11 => ?_)
        · replace h := h.1 c11
          refine jx_aload_n 1 dX11_nextToken_198 rfl rfl ?_
          refine jx_aload_n 1 dX11_nextToken_199 rfl rfl ?_
          obtain ⟨hk12, h⟩ := h
          refine jx_geti jc_11 (j := 20) (by decide) rfl jwF_X11_231 dX11_nextToken_200 hk12 ?_
          refine jx_callVi (M' := mX11_isDigit) (As := [.int (ji S9 a0 20)]) jo_X11_isDigit jc_11 rfl jwM_X11_240 jwN_X11_isDigit jwX_X11_isDigit dX11_nextToken_203 (jRok_m _ _ _) rfl (jle rfl) ⟨jle rfl, jle rfl⟩ hk12 h (fun r14 S13 h => ?_)
          refine jx_if_eq (tgt := 311) dX11_nextToken_206 (by decide) (fun c15 => ?_) (fun c15 => ?_)
          · replace h := h.1 c15
            refine jx_aload_n 1 dX11_nextToken_311 rfl rfl ?_
            refine jx_iconst (v := 3) dX11_nextToken_312 (by decide) ?_
            obtain ⟨hk16, h⟩ := h
            refine jx_puti jc_11 (j := 22) (by decide) rfl jwF_X11_228 rfl rfl rfl dX11_nextToken_313 hk16 ?_
            refine jx_aload_n 1 dX11_nextToken_316 rfl rfl ?_
            refine jx_aload_n 1 dX11_nextToken_317 rfl rfl ?_
            obtain ⟨b17, hb17, h⟩ := h
            refine jx_getr jc_11 (j := 18) (by decide) rfl jwF_X11_52 dX11_nextToken_318 hk16 hb17 ?_
            refine jx_aload_n 1 dX11_nextToken_321 rfl rfl ?_
            refine jx_geti jc_11 (j := 20) (by decide) rfl jwF_X11_231 dX11_nextToken_322 hk16 ?_
            refine jx_topi (y := (ji S13 a0 20)) (by simp [ji_put, ji_row, ji_putr]) ?_
            obtain ⟨hk18, h⟩ := h
            obtain ⟨hi19, h⟩ := h
            refine jx_iald dX11_nextToken_325 hk18 hi19 ?_
            refine jx_topi (y := (ji S13 b17 (Int32.toNatClampNeg (ji S13 a0 20)))) (by simp [ji_put, ji_row, ji_putr, jne hk18 hk16 (by decide)]) ?_
            refine jx_puti jc_11 (j := 24) (by decide) rfl jwF_X11_237 rfl rfl rfl dX11_nextToken_326 hk16 ?_
            refine jx_aload_n 1 dX11_nextToken_329 rfl rfl ?_
            refine jx_dup dX11_nextToken_330 rfl ?_
            refine jx_geti jc_11 (j := 21) (by decide) rfl jwF_X11_225 dX11_nextToken_331 hk16 ?_
            refine jx_topi (y := (ji S13 a0 21)) (by simp [ji_put, ji_row, ji_putr]) ?_
            refine jx_iconst (v := 1) dX11_nextToken_334 (by decide) ?_
            refine jx_iadd dX11_nextToken_335 ?_
            refine jx_puti jc_11 (j := 21) (by decide) rfl jwF_X11_225 rfl rfl rfl dX11_nextToken_336 hk16 ?_
            exact jx_vret dX11_nextToken_339 rfl (jle rfl) (jle rfl) ⟨rfl, h⟩
          replace h := h.2 c15
          refine jx_aload_n 1 dX11_nextToken_209 rfl rfl ?_
          refine jx_iconst (v := 0) dX11_nextToken_210 (by decide) ?_
          obtain ⟨hk20, h⟩ := h
          refine jx_puti jc_11 (j := 23) (by decide) rfl jwF_X11_243 rfl rfl rfl dX11_nextToken_211 hk20 ?_
          exact jx_lv [1, 0] rfl h
        replace h := h.2 c11
        exact jx_lv [1, 0] rfl h
      replace h := h.1 c8
      refine jx_aload_n 1 dX11_nextToken_109 rfl rfl ?_
      refine jx_iconst (v := 0) dX11_nextToken_110 (by decide) ?_
      refine jx_puti jc_11 (j := 22) (by decide) rfl jwF_X11_228 rfl rfl rfl dX11_nextToken_111 hk5 ?_
      refine jx_goto (tgt := 339) dX11_nextToken_114 (by decide) ?_
      exact jx_vret dX11_nextToken_339 rfl (jle rfl) (jle rfl) ⟨rfl, h⟩
    replace h := h.2 c7
    refine jx_iload_n 2 dX11_nextToken_76 rfl rfl ?_
    refine jx_aload_n 0 dX11_nextToken_77 rfl rfl ?_
    refine jx_geti jc_11 (j := 21) (by decide) rfl jwF_X11_225 dX11_nextToken_78 hk5 ?_
    refine jx_icmp_ne (tgt := 88) dX11_nextToken_81 (by decide) (fun c21 => ?_) (fun c21 => ?_)
    · replace h := h.2 c21
      refine jx_iconst (v := 0) dX11_nextToken_88 (by decide) ?_
      refine jx_istore_n (lv1 := [(1, .int 0), (0, .ref a0), (2, .int x2)]) dX11_nextToken_89 rfl (by decide) rfl ?_
      refine jx_aload_n 1 dX11_nextToken_90 rfl rfl ?_
      refine jx_aload_n 1 dX11_nextToken_91 rfl rfl ?_
      refine jx_geti jc_11 (j := 21) (by decide) rfl jwF_X11_225 dX11_nextToken_92 hk5 ?_
      refine jx_puti jc_11 (j := 20) (by decide) rfl jwF_X11_231 rfl rfl rfl dX11_nextToken_95 hk5 ?_
      refine jx_aload_n 1 dX11_nextToken_98 rfl rfl ?_
      refine jx_geti jc_11 (j := 20) (by decide) rfl jwF_X11_231 dX11_nextToken_99 hk5 ?_
      refine jx_topi (y := (ji S a0 21)) (by simp [ji_put, ji_row, ji_putr]) ?_
      refine jx_aload_n 1 dX11_nextToken_102 rfl rfl ?_
      refine jx_geti jc_11 (j := 19) (by decide) rfl jwF_X11_214 dX11_nextToken_103 hk5 ?_
      refine jx_topi (y := (ji S a0 19)) (by simp [ji_put, ji_row, ji_putr]) ?_
      refine jx_icmp_ne (tgt := 117) dX11_nextToken_106 (by decide) (fun c22 => ?_) (fun c22 => ?_)
      · replace h := h.2 c22
        refine jx_aload_n 1 dX11_nextToken_117 rfl rfl ?_
        refine jx_aload_n 1 dX11_nextToken_118 rfl rfl ?_
        refine jx_geti jc_11 (j := 20) (by decide) rfl jwF_X11_231 dX11_nextToken_119 hk5 ?_
        refine jx_topi (y := (ji S a0 21)) (by simp [ji_put, ji_row, ji_putr]) ?_
        refine jx_callVi (M' := mX11_isLetter) (As := [.int (ji S a0 21)]) jo_X11_isLetter jc_11 rfl jwM_X11_234 jwN_X11_isLetter jwX_X11_isLetter dX11_nextToken_122 (jRok_m _ _ _) rfl (jle rfl) ⟨jle rfl, jle rfl⟩ hk5 h (fun r24 S23 h => ?_)
        refine jx_if_eq (tgt := 198) dX11_nextToken_125 (by decide) (fun c25 => ?_) (fun c25 => ?_)
        · replace h := h.1 c25
          refine jx_aload_n 1 dX11_nextToken_198 rfl rfl ?_
          refine jx_aload_n 1 dX11_nextToken_199 rfl rfl ?_
          obtain ⟨hk26, h⟩ := h
          refine jx_geti jc_11 (j := 20) (by decide) rfl jwF_X11_231 dX11_nextToken_200 hk26 ?_
          refine jx_callVi (M' := mX11_isDigit) (As := [.int (ji S23 a0 20)]) jo_X11_isDigit jc_11 rfl jwM_X11_240 jwN_X11_isDigit jwX_X11_isDigit dX11_nextToken_203 (jRok_m _ _ _) rfl (jle rfl) ⟨jle rfl, jle rfl⟩ hk26 h (fun r28 S27 h => ?_)
          refine jx_if_eq (tgt := 311) dX11_nextToken_206 (by decide) (fun c29 => ?_) (fun c29 => ?_)
          · replace h := h.1 c29
            refine jx_aload_n 1 dX11_nextToken_311 rfl rfl ?_
            refine jx_iconst (v := 3) dX11_nextToken_312 (by decide) ?_
            obtain ⟨hk30, h⟩ := h
            refine jx_puti jc_11 (j := 22) (by decide) rfl jwF_X11_228 rfl rfl rfl dX11_nextToken_313 hk30 ?_
            refine jx_aload_n 1 dX11_nextToken_316 rfl rfl ?_
            refine jx_aload_n 1 dX11_nextToken_317 rfl rfl ?_
            obtain ⟨b31, hb31, h⟩ := h
            refine jx_getr jc_11 (j := 18) (by decide) rfl jwF_X11_52 dX11_nextToken_318 hk30 hb31 ?_
            refine jx_aload_n 1 dX11_nextToken_321 rfl rfl ?_
            refine jx_geti jc_11 (j := 20) (by decide) rfl jwF_X11_231 dX11_nextToken_322 hk30 ?_
            refine jx_topi (y := (ji S27 a0 20)) (by simp [ji_put, ji_row, ji_putr]) ?_
            obtain ⟨hk32, h⟩ := h
            obtain ⟨hi33, h⟩ := h
            refine jx_iald dX11_nextToken_325 hk32 hi33 ?_
            refine jx_topi (y := (ji S27 b31 (Int32.toNatClampNeg (ji S27 a0 20)))) (by simp [ji_put, ji_row, ji_putr, jne hk32 hk30 (by decide)]) ?_
            refine jx_puti jc_11 (j := 24) (by decide) rfl jwF_X11_237 rfl rfl rfl dX11_nextToken_326 hk30 ?_
            refine jx_aload_n 1 dX11_nextToken_329 rfl rfl ?_
            refine jx_dup dX11_nextToken_330 rfl ?_
            refine jx_geti jc_11 (j := 21) (by decide) rfl jwF_X11_225 dX11_nextToken_331 hk30 ?_
            refine jx_topi (y := (ji S27 a0 21)) (by simp [ji_put, ji_row, ji_putr]) ?_
            refine jx_iconst (v := 1) dX11_nextToken_334 (by decide) ?_
            refine jx_iadd dX11_nextToken_335 ?_
            refine jx_puti jc_11 (j := 21) (by decide) rfl jwF_X11_225 rfl rfl rfl dX11_nextToken_336 hk30 ?_
            exact jx_vret dX11_nextToken_339 rfl (jle rfl) (jle rfl) ⟨rfl, h⟩
          replace h := h.2 c29
          refine jx_aload_n 1 dX11_nextToken_209 rfl rfl ?_
          refine jx_iconst (v := 0) dX11_nextToken_210 (by decide) ?_
          obtain ⟨hk34, h⟩ := h
          refine jx_puti jc_11 (j := 23) (by decide) rfl jwF_X11_243 rfl rfl rfl dX11_nextToken_211 hk34 ?_
          exact jx_lv [1, 0] rfl h
        replace h := h.2 c25
        exact jx_lv [1, 0] rfl h
      replace h := h.1 c22
      refine jx_aload_n 1 dX11_nextToken_109 rfl rfl ?_
      refine jx_iconst (v := 0) dX11_nextToken_110 (by decide) ?_
      refine jx_puti jc_11 (j := 22) (by decide) rfl jwF_X11_228 rfl rfl rfl dX11_nextToken_111 hk5 ?_
      refine jx_goto (tgt := 339) dX11_nextToken_114 (by decide) ?_
      exact jx_vret dX11_nextToken_339 rfl (jle rfl) (jle rfl) ⟨rfl, h⟩
    replace h := h.1 c21
    refine jx_iconst (v := 1) dX11_nextToken_84 (by decide) ?_
    refine jx_goto (tgt := 89) dX11_nextToken_85 (by decide) ?_
    refine jx_istore_n (lv1 := [(1, .int 1), (0, .ref a0), (2, .int x2)]) dX11_nextToken_89 rfl (by decide) rfl ?_
    refine jx_aload_n 1 dX11_nextToken_90 rfl rfl ?_
    refine jx_aload_n 1 dX11_nextToken_91 rfl rfl ?_
    refine jx_geti jc_11 (j := 21) (by decide) rfl jwF_X11_225 dX11_nextToken_92 hk5 ?_
    refine jx_puti jc_11 (j := 20) (by decide) rfl jwF_X11_231 rfl rfl rfl dX11_nextToken_95 hk5 ?_
    refine jx_aload_n 1 dX11_nextToken_98 rfl rfl ?_
    refine jx_geti jc_11 (j := 20) (by decide) rfl jwF_X11_231 dX11_nextToken_99 hk5 ?_
    refine jx_topi (y := (ji S a0 21)) (by simp [ji_put, ji_row, ji_putr]) ?_
    refine jx_aload_n 1 dX11_nextToken_102 rfl rfl ?_
    refine jx_geti jc_11 (j := 19) (by decide) rfl jwF_X11_214 dX11_nextToken_103 hk5 ?_
    refine jx_topi (y := (ji S a0 19)) (by simp [ji_put, ji_row, ji_putr]) ?_
    refine jx_icmp_ne (tgt := 117) dX11_nextToken_106 (by decide) (fun c35 => ?_) (fun c35 => ?_)
    · replace h := h.2 c35
      refine jx_aload_n 1 dX11_nextToken_117 rfl rfl ?_
      refine jx_aload_n 1 dX11_nextToken_118 rfl rfl ?_
      refine jx_geti jc_11 (j := 20) (by decide) rfl jwF_X11_231 dX11_nextToken_119 hk5 ?_
      refine jx_topi (y := (ji S a0 21)) (by simp [ji_put, ji_row, ji_putr]) ?_
      refine jx_callVi (M' := mX11_isLetter) (As := [.int (ji S a0 21)]) jo_X11_isLetter jc_11 rfl jwM_X11_234 jwN_X11_isLetter jwX_X11_isLetter dX11_nextToken_122 (jRok_m _ _ _) rfl (jle rfl) ⟨jle rfl, jle rfl⟩ hk5 h (fun r37 S36 h => ?_)
      refine jx_if_eq (tgt := 198) dX11_nextToken_125 (by decide) (fun c38 => ?_) (fun c38 => ?_)
      · replace h := h.1 c38
        refine jx_aload_n 1 dX11_nextToken_198 rfl rfl ?_
        refine jx_aload_n 1 dX11_nextToken_199 rfl rfl ?_
        obtain ⟨hk39, h⟩ := h
        refine jx_geti jc_11 (j := 20) (by decide) rfl jwF_X11_231 dX11_nextToken_200 hk39 ?_
        refine jx_callVi (M' := mX11_isDigit) (As := [.int (ji S36 a0 20)]) jo_X11_isDigit jc_11 rfl jwM_X11_240 jwN_X11_isDigit jwX_X11_isDigit dX11_nextToken_203 (jRok_m _ _ _) rfl (jle rfl) ⟨jle rfl, jle rfl⟩ hk39 h (fun r41 S40 h => ?_)
        refine jx_if_eq (tgt := 311) dX11_nextToken_206 (by decide) (fun c42 => ?_) (fun c42 => ?_)
        · replace h := h.1 c42
          refine jx_aload_n 1 dX11_nextToken_311 rfl rfl ?_
          refine jx_iconst (v := 3) dX11_nextToken_312 (by decide) ?_
          obtain ⟨hk43, h⟩ := h
          refine jx_puti jc_11 (j := 22) (by decide) rfl jwF_X11_228 rfl rfl rfl dX11_nextToken_313 hk43 ?_
          refine jx_aload_n 1 dX11_nextToken_316 rfl rfl ?_
          refine jx_aload_n 1 dX11_nextToken_317 rfl rfl ?_
          obtain ⟨b44, hb44, h⟩ := h
          refine jx_getr jc_11 (j := 18) (by decide) rfl jwF_X11_52 dX11_nextToken_318 hk43 hb44 ?_
          refine jx_aload_n 1 dX11_nextToken_321 rfl rfl ?_
          refine jx_geti jc_11 (j := 20) (by decide) rfl jwF_X11_231 dX11_nextToken_322 hk43 ?_
          refine jx_topi (y := (ji S40 a0 20)) (by simp [ji_put, ji_row, ji_putr]) ?_
          obtain ⟨hk45, h⟩ := h
          obtain ⟨hi46, h⟩ := h
          refine jx_iald dX11_nextToken_325 hk45 hi46 ?_
          refine jx_topi (y := (ji S40 b44 (Int32.toNatClampNeg (ji S40 a0 20)))) (by simp [ji_put, ji_row, ji_putr, jne hk45 hk43 (by decide)]) ?_
          refine jx_puti jc_11 (j := 24) (by decide) rfl jwF_X11_237 rfl rfl rfl dX11_nextToken_326 hk43 ?_
          refine jx_aload_n 1 dX11_nextToken_329 rfl rfl ?_
          refine jx_dup dX11_nextToken_330 rfl ?_
          refine jx_geti jc_11 (j := 21) (by decide) rfl jwF_X11_225 dX11_nextToken_331 hk43 ?_
          refine jx_topi (y := (ji S40 a0 21)) (by simp [ji_put, ji_row, ji_putr]) ?_
          refine jx_iconst (v := 1) dX11_nextToken_334 (by decide) ?_
          refine jx_iadd dX11_nextToken_335 ?_
          refine jx_puti jc_11 (j := 21) (by decide) rfl jwF_X11_225 rfl rfl rfl dX11_nextToken_336 hk43 ?_
          exact jx_vret dX11_nextToken_339 rfl (jle rfl) (jle rfl) ⟨rfl, h⟩
        replace h := h.2 c42
        refine jx_aload_n 1 dX11_nextToken_209 rfl rfl ?_
        refine jx_iconst (v := 0) dX11_nextToken_210 (by decide) ?_
        obtain ⟨hk47, h⟩ := h
        refine jx_puti jc_11 (j := 23) (by decide) rfl jwF_X11_243 rfl rfl rfl dX11_nextToken_211 hk47 ?_
        exact jx_lv [1, 0] rfl h
      replace h := h.2 c38
      exact jx_lv [1, 0] rfl h
    replace h := h.1 c35
    refine jx_aload_n 1 dX11_nextToken_109 rfl rfl ?_
    refine jx_iconst (v := 0) dX11_nextToken_110 (by decide) ?_
    refine jx_puti jc_11 (j := 22) (by decide) rfl jwF_X11_228 rfl rfl rfl dX11_nextToken_111 hk5 ?_
    refine jx_goto (tgt := 339) dX11_nextToken_114 (by decide) ?_
    exact jx_vret dX11_nextToken_339 rfl (jle rfl) (jle rfl) ⟨rfl, h⟩
  replace h := h.2 c6
  refine jx_aload_n 0 dX11_nextToken_45 rfl rfl ?_
  obtain ⟨b48, hb48, h⟩ := h
  refine jx_getr jc_11 (j := 18) (by decide) rfl jwF_X11_52 dX11_nextToken_46 hk5 hb48 ?_
  refine jx_aload_n 0 dX11_nextToken_49 rfl rfl ?_
  refine jx_geti jc_11 (j := 21) (by decide) rfl jwF_X11_225 dX11_nextToken_50 hk5 ?_
  obtain ⟨hk49, h⟩ := h
  obtain ⟨hi50, h⟩ := h
  refine jx_iald dX11_nextToken_53 hk49 hi50 ?_
  refine jx_bipush (v := 32) dX11_nextToken_54 (by decide) ?_
  refine jx_icmp_ne (tgt := 72) dX11_nextToken_56 (by decide) (fun c51 => ?_) (fun c51 => ?_)
  · replace h := h.2 c51
    refine jx_iload_n 1 dX11_nextToken_72 rfl rfl ?_
    refine jx_if_eq (tgt := 88) dX11_nextToken_73 (by decide) (fun c52 => ?_) (fun c52 => ?_)
    · replace h := h.1 c52
      refine jx_iconst (v := 0) dX11_nextToken_88 (by decide) ?_
      refine jx_istore_n (lv1 := [(1, .int 0), (0, .ref a0), (2, .int x2)]) dX11_nextToken_89 rfl (by decide) rfl ?_
      refine jx_aload_n 1 dX11_nextToken_90 rfl rfl ?_
      refine jx_aload_n 1 dX11_nextToken_91 rfl rfl ?_
      refine jx_geti jc_11 (j := 21) (by decide) rfl jwF_X11_225 dX11_nextToken_92 hk5 ?_
      refine jx_puti jc_11 (j := 20) (by decide) rfl jwF_X11_231 rfl rfl rfl dX11_nextToken_95 hk5 ?_
      refine jx_aload_n 1 dX11_nextToken_98 rfl rfl ?_
      refine jx_geti jc_11 (j := 20) (by decide) rfl jwF_X11_231 dX11_nextToken_99 hk5 ?_
      refine jx_topi (y := (ji S a0 21)) (by simp [ji_put, ji_row, ji_putr]) ?_
      refine jx_aload_n 1 dX11_nextToken_102 rfl rfl ?_
      refine jx_geti jc_11 (j := 19) (by decide) rfl jwF_X11_214 dX11_nextToken_103 hk5 ?_
      refine jx_topi (y := (ji S a0 19)) (by simp [ji_put, ji_row, ji_putr]) ?_
      refine jx_icmp_ne (tgt := 117) dX11_nextToken_106 (by decide) (fun c53 => ?_) (fun c53 => ?_)
      · replace h := h.2 c53
        refine jx_aload_n 1 dX11_nextToken_117 rfl rfl ?_
        refine jx_aload_n 1 dX11_nextToken_118 rfl rfl ?_
        refine jx_geti jc_11 (j := 20) (by decide) rfl jwF_X11_231 dX11_nextToken_119 hk5 ?_
        refine jx_topi (y := (ji S a0 21)) (by simp [ji_put, ji_row, ji_putr]) ?_
        refine jx_callVi (M' := mX11_isLetter) (As := [.int (ji S a0 21)]) jo_X11_isLetter jc_11 rfl jwM_X11_234 jwN_X11_isLetter jwX_X11_isLetter dX11_nextToken_122 (jRok_m _ _ _) rfl (jle rfl) ⟨jle rfl, jle rfl⟩ hk5 h (fun r55 S54 h => ?_)
        refine jx_if_eq (tgt := 198) dX11_nextToken_125 (by decide) (fun c56 => ?_) (fun c56 => ?_)
        · replace h := h.1 c56
          refine jx_aload_n 1 dX11_nextToken_198 rfl rfl ?_
          refine jx_aload_n 1 dX11_nextToken_199 rfl rfl ?_
          obtain ⟨hk57, h⟩ := h
          refine jx_geti jc_11 (j := 20) (by decide) rfl jwF_X11_231 dX11_nextToken_200 hk57 ?_
          refine jx_callVi (M' := mX11_isDigit) (As := [.int (ji S54 a0 20)]) jo_X11_isDigit jc_11 rfl jwM_X11_240 jwN_X11_isDigit jwX_X11_isDigit dX11_nextToken_203 (jRok_m _ _ _) rfl (jle rfl) ⟨jle rfl, jle rfl⟩ hk57 h (fun r59 S58 h => ?_)
          refine jx_if_eq (tgt := 311) dX11_nextToken_206 (by decide) (fun c60 => ?_) (fun c60 => ?_)
          · replace h := h.1 c60
            refine jx_aload_n 1 dX11_nextToken_311 rfl rfl ?_
            refine jx_iconst (v := 3) dX11_nextToken_312 (by decide) ?_
            obtain ⟨hk61, h⟩ := h
            refine jx_puti jc_11 (j := 22) (by decide) rfl jwF_X11_228 rfl rfl rfl dX11_nextToken_313 hk61 ?_
            refine jx_aload_n 1 dX11_nextToken_316 rfl rfl ?_
            refine jx_aload_n 1 dX11_nextToken_317 rfl rfl ?_
            obtain ⟨b62, hb62, h⟩ := h
            refine jx_getr jc_11 (j := 18) (by decide) rfl jwF_X11_52 dX11_nextToken_318 hk61 hb62 ?_
            refine jx_aload_n 1 dX11_nextToken_321 rfl rfl ?_
            refine jx_geti jc_11 (j := 20) (by decide) rfl jwF_X11_231 dX11_nextToken_322 hk61 ?_
            refine jx_topi (y := (ji S58 a0 20)) (by simp [ji_put, ji_row, ji_putr]) ?_
            obtain ⟨hk63, h⟩ := h
            obtain ⟨hi64, h⟩ := h
            refine jx_iald dX11_nextToken_325 hk63 hi64 ?_
            refine jx_topi (y := (ji S58 b62 (Int32.toNatClampNeg (ji S58 a0 20)))) (by simp [ji_put, ji_row, ji_putr, jne hk63 hk61 (by decide)]) ?_
            refine jx_puti jc_11 (j := 24) (by decide) rfl jwF_X11_237 rfl rfl rfl dX11_nextToken_326 hk61 ?_
            refine jx_aload_n 1 dX11_nextToken_329 rfl rfl ?_
            refine jx_dup dX11_nextToken_330 rfl ?_
            refine jx_geti jc_11 (j := 21) (by decide) rfl jwF_X11_225 dX11_nextToken_331 hk61 ?_
            refine jx_topi (y := (ji S58 a0 21)) (by simp [ji_put, ji_row, ji_putr]) ?_
            refine jx_iconst (v := 1) dX11_nextToken_334 (by decide) ?_
            refine jx_iadd dX11_nextToken_335 ?_
            refine jx_puti jc_11 (j := 21) (by decide) rfl jwF_X11_225 rfl rfl rfl dX11_nextToken_336 hk61 ?_
            exact jx_vret dX11_nextToken_339 rfl (jle rfl) (jle rfl) ⟨rfl, h⟩
          replace h := h.2 c60
          refine jx_aload_n 1 dX11_nextToken_209 rfl rfl ?_
          refine jx_iconst (v := 0) dX11_nextToken_210 (by decide) ?_
          obtain ⟨hk65, h⟩ := h
          refine jx_puti jc_11 (j := 23) (by decide) rfl jwF_X11_243 rfl rfl rfl dX11_nextToken_211 hk65 ?_
          exact jx_lv [1, 0] rfl h
        replace h := h.2 c56
        exact jx_lv [1, 0] rfl h
      replace h := h.1 c53
      refine jx_aload_n 1 dX11_nextToken_109 rfl rfl ?_
      refine jx_iconst (v := 0) dX11_nextToken_110 (by decide) ?_
      refine jx_puti jc_11 (j := 22) (by decide) rfl jwF_X11_228 rfl rfl rfl dX11_nextToken_111 hk5 ?_
      refine jx_goto (tgt := 339) dX11_nextToken_114 (by decide) ?_
      exact jx_vret dX11_nextToken_339 rfl (jle rfl) (jle rfl) ⟨rfl, h⟩
    replace h := h.2 c52
    refine jx_iload_n 2 dX11_nextToken_76 rfl rfl ?_
    refine jx_aload_n 0 dX11_nextToken_77 rfl rfl ?_
    refine jx_geti jc_11 (j := 21) (by decide) rfl jwF_X11_225 dX11_nextToken_78 hk5 ?_
    refine jx_icmp_ne (tgt := 88) dX11_nextToken_81 (by decide) (fun c66 => ?_) (fun c66 => ?_)
    · replace h := h.2 c66
      refine jx_iconst (v := 0) dX11_nextToken_88 (by decide) ?_
      refine jx_istore_n (lv1 := [(1, .int 0), (0, .ref a0), (2, .int x2)]) dX11_nextToken_89 rfl (by decide) rfl ?_
      refine jx_aload_n 1 dX11_nextToken_90 rfl rfl ?_
      refine jx_aload_n 1 dX11_nextToken_91 rfl rfl ?_
      refine jx_geti jc_11 (j := 21) (by decide) rfl jwF_X11_225 dX11_nextToken_92 hk5 ?_
      refine jx_puti jc_11 (j := 20) (by decide) rfl jwF_X11_231 rfl rfl rfl dX11_nextToken_95 hk5 ?_
      refine jx_aload_n 1 dX11_nextToken_98 rfl rfl ?_
      refine jx_geti jc_11 (j := 20) (by decide) rfl jwF_X11_231 dX11_nextToken_99 hk5 ?_
      refine jx_topi (y := (ji S a0 21)) (by simp [ji_put, ji_row, ji_putr]) ?_
      refine jx_aload_n 1 dX11_nextToken_102 rfl rfl ?_
      refine jx_geti jc_11 (j := 19) (by decide) rfl jwF_X11_214 dX11_nextToken_103 hk5 ?_
      refine jx_topi (y := (ji S a0 19)) (by simp [ji_put, ji_row, ji_putr]) ?_
      refine jx_icmp_ne (tgt := 117) dX11_nextToken_106 (by decide) (fun c67 => ?_) (fun c67 => ?_)
      · replace h := h.2 c67
        refine jx_aload_n 1 dX11_nextToken_117 rfl rfl ?_
        refine jx_aload_n 1 dX11_nextToken_118 rfl rfl ?_
        refine jx_geti jc_11 (j := 20) (by decide) rfl jwF_X11_231 dX11_nextToken_119 hk5 ?_
        refine jx_topi (y := (ji S a0 21)) (by simp [ji_put, ji_row, ji_putr]) ?_
        refine jx_callVi (M' := mX11_isLetter) (As := [.int (ji S a0 21)]) jo_X11_isLetter jc_11 rfl jwM_X11_234 jwN_X11_isLetter jwX_X11_isLetter dX11_nextToken_122 (jRok_m _ _ _) rfl (jle rfl) ⟨jle rfl, jle rfl⟩ hk5 h (fun r69 S68 h => ?_)
        refine jx_if_eq (tgt := 198) dX11_nextToken_125 (by decide) (fun c70 => ?_) (fun c70 => ?_)
        · replace h := h.1 c70
          refine jx_aload_n 1 dX11_nextToken_198 rfl rfl ?_
          refine jx_aload_n 1 dX11_nextToken_199 rfl rfl ?_
          obtain ⟨hk71, h⟩ := h
          refine jx_geti jc_11 (j := 20) (by decide) rfl jwF_X11_231 dX11_nextToken_200 hk71 ?_
          refine jx_callVi (M' := mX11_isDigit) (As := [.int (ji S68 a0 20)]) jo_X11_isDigit jc_11 rfl jwM_X11_240 jwN_X11_isDigit jwX_X11_isDigit dX11_nextToken_203 (jRok_m _ _ _) rfl (jle rfl) ⟨jle rfl, jle rfl⟩ hk71 h (fun r73 S72 h => ?_)
          refine jx_if_eq (tgt := 311) dX11_nextToken_206 (by decide) (fun c74 => ?_) (fun c74 => ?_)
          · replace h := h.1 c74
            refine jx_aload_n 1 dX11_nextToken_311 rfl rfl ?_
            refine jx_iconst (v := 3) dX11_nextToken_312 (by decide) ?_
            obtain ⟨hk75, h⟩ := h
            refine jx_puti jc_11 (j := 22) (by decide) rfl jwF_X11_228 rfl rfl rfl dX11_nextToken_313 hk75 ?_
            refine jx_aload_n 1 dX11_nextToken_316 rfl rfl ?_
            refine jx_aload_n 1 dX11_nextToken_317 rfl rfl ?_
            obtain ⟨b76, hb76, h⟩ := h
            refine jx_getr jc_11 (j := 18) (by decide) rfl jwF_X11_52 dX11_nextToken_318 hk75 hb76 ?_
            refine jx_aload_n 1 dX11_nextToken_321 rfl rfl ?_
            refine jx_geti jc_11 (j := 20) (by decide) rfl jwF_X11_231 dX11_nextToken_322 hk75 ?_
            refine jx_topi (y := (ji S72 a0 20)) (by simp [ji_put, ji_row, ji_putr]) ?_
            obtain ⟨hk77, h⟩ := h
            obtain ⟨hi78, h⟩ := h
            refine jx_iald dX11_nextToken_325 hk77 hi78 ?_
            refine jx_topi (y := (ji S72 b76 (Int32.toNatClampNeg (ji S72 a0 20)))) (by simp [ji_put, ji_row, ji_putr, jne hk77 hk75 (by decide)]) ?_
            refine jx_puti jc_11 (j := 24) (by decide) rfl jwF_X11_237 rfl rfl rfl dX11_nextToken_326 hk75 ?_
            refine jx_aload_n 1 dX11_nextToken_329 rfl rfl ?_
            refine jx_dup dX11_nextToken_330 rfl ?_
            refine jx_geti jc_11 (j := 21) (by decide) rfl jwF_X11_225 dX11_nextToken_331 hk75 ?_
            refine jx_topi (y := (ji S72 a0 21)) (by simp [ji_put, ji_row, ji_putr]) ?_
            refine jx_iconst (v := 1) dX11_nextToken_334 (by decide) ?_
            refine jx_iadd dX11_nextToken_335 ?_
            refine jx_puti jc_11 (j := 21) (by decide) rfl jwF_X11_225 rfl rfl rfl dX11_nextToken_336 hk75 ?_
            exact jx_vret dX11_nextToken_339 rfl (jle rfl) (jle rfl) ⟨rfl, h⟩
          replace h := h.2 c74
          refine jx_aload_n 1 dX11_nextToken_209 rfl rfl ?_
          refine jx_iconst (v := 0) dX11_nextToken_210 (by decide) ?_
          obtain ⟨hk79, h⟩ := h
          refine jx_puti jc_11 (j := 23) (by decide) rfl jwF_X11_243 rfl rfl rfl dX11_nextToken_211 hk79 ?_
          exact jx_lv [1, 0] rfl h
        replace h := h.2 c70
        exact jx_lv [1, 0] rfl h
      replace h := h.1 c67
      refine jx_aload_n 1 dX11_nextToken_109 rfl rfl ?_
      refine jx_iconst (v := 0) dX11_nextToken_110 (by decide) ?_
      refine jx_puti jc_11 (j := 22) (by decide) rfl jwF_X11_228 rfl rfl rfl dX11_nextToken_111 hk5 ?_
      refine jx_goto (tgt := 339) dX11_nextToken_114 (by decide) ?_
      exact jx_vret dX11_nextToken_339 rfl (jle rfl) (jle rfl) ⟨rfl, h⟩
    replace h := h.1 c66
    refine jx_iconst (v := 1) dX11_nextToken_84 (by decide) ?_
    refine jx_goto (tgt := 89) dX11_nextToken_85 (by decide) ?_
    refine jx_istore_n (lv1 := [(1, .int 1), (0, .ref a0), (2, .int x2)]) dX11_nextToken_89 rfl (by decide) rfl ?_
    refine jx_aload_n 1 dX11_nextToken_90 rfl rfl ?_
    refine jx_aload_n 1 dX11_nextToken_91 rfl rfl ?_
    refine jx_geti jc_11 (j := 21) (by decide) rfl jwF_X11_225 dX11_nextToken_92 hk5 ?_
    refine jx_puti jc_11 (j := 20) (by decide) rfl jwF_X11_231 rfl rfl rfl dX11_nextToken_95 hk5 ?_
    refine jx_aload_n 1 dX11_nextToken_98 rfl rfl ?_
    refine jx_geti jc_11 (j := 20) (by decide) rfl jwF_X11_231 dX11_nextToken_99 hk5 ?_
    refine jx_topi (y := (ji S a0 21)) (by simp [ji_put, ji_row, ji_putr]) ?_
    refine jx_aload_n 1 dX11_nextToken_102 rfl rfl ?_
    refine jx_geti jc_11 (j := 19) (by decide) rfl jwF_X11_214 dX11_nextToken_103 hk5 ?_
    refine jx_topi (y := (ji S a0 19)) (by simp [ji_put, ji_row, ji_putr]) ?_
    refine jx_icmp_ne (tgt := 117) dX11_nextToken_106 (by decide) (fun c80 => ?_) (fun c80 => ?_)
    · replace h := h.2 c80
      refine jx_aload_n 1 dX11_nextToken_117 rfl rfl ?_
      refine jx_aload_n 1 dX11_nextToken_118 rfl rfl ?_
      refine jx_geti jc_11 (j := 20) (by decide) rfl jwF_X11_231 dX11_nextToken_119 hk5 ?_
      refine jx_topi (y := (ji S a0 21)) (by simp [ji_put, ji_row, ji_putr]) ?_
      refine jx_callVi (M' := mX11_isLetter) (As := [.int (ji S a0 21)]) jo_X11_isLetter jc_11 rfl jwM_X11_234 jwN_X11_isLetter jwX_X11_isLetter dX11_nextToken_122 (jRok_m _ _ _) rfl (jle rfl) ⟨jle rfl, jle rfl⟩ hk5 h (fun r82 S81 h => ?_)
      refine jx_if_eq (tgt := 198) dX11_nextToken_125 (by decide) (fun c83 => ?_) (fun c83 => ?_)
      · replace h := h.1 c83
        refine jx_aload_n 1 dX11_nextToken_198 rfl rfl ?_
        refine jx_aload_n 1 dX11_nextToken_199 rfl rfl ?_
        obtain ⟨hk84, h⟩ := h
        refine jx_geti jc_11 (j := 20) (by decide) rfl jwF_X11_231 dX11_nextToken_200 hk84 ?_
        refine jx_callVi (M' := mX11_isDigit) (As := [.int (ji S81 a0 20)]) jo_X11_isDigit jc_11 rfl jwM_X11_240 jwN_X11_isDigit jwX_X11_isDigit dX11_nextToken_203 (jRok_m _ _ _) rfl (jle rfl) ⟨jle rfl, jle rfl⟩ hk84 h (fun r86 S85 h => ?_)
        refine jx_if_eq (tgt := 311) dX11_nextToken_206 (by decide) (fun c87 => ?_) (fun c87 => ?_)
        · replace h := h.1 c87
          refine jx_aload_n 1 dX11_nextToken_311 rfl rfl ?_
          refine jx_iconst (v := 3) dX11_nextToken_312 (by decide) ?_
          obtain ⟨hk88, h⟩ := h
          refine jx_puti jc_11 (j := 22) (by decide) rfl jwF_X11_228 rfl rfl rfl dX11_nextToken_313 hk88 ?_
          refine jx_aload_n 1 dX11_nextToken_316 rfl rfl ?_
          refine jx_aload_n 1 dX11_nextToken_317 rfl rfl ?_
          obtain ⟨b89, hb89, h⟩ := h
          refine jx_getr jc_11 (j := 18) (by decide) rfl jwF_X11_52 dX11_nextToken_318 hk88 hb89 ?_
          refine jx_aload_n 1 dX11_nextToken_321 rfl rfl ?_
          refine jx_geti jc_11 (j := 20) (by decide) rfl jwF_X11_231 dX11_nextToken_322 hk88 ?_
          refine jx_topi (y := (ji S85 a0 20)) (by simp [ji_put, ji_row, ji_putr]) ?_
          obtain ⟨hk90, h⟩ := h
          obtain ⟨hi91, h⟩ := h
          refine jx_iald dX11_nextToken_325 hk90 hi91 ?_
          refine jx_topi (y := (ji S85 b89 (Int32.toNatClampNeg (ji S85 a0 20)))) (by simp [ji_put, ji_row, ji_putr, jne hk90 hk88 (by decide)]) ?_
          refine jx_puti jc_11 (j := 24) (by decide) rfl jwF_X11_237 rfl rfl rfl dX11_nextToken_326 hk88 ?_
          refine jx_aload_n 1 dX11_nextToken_329 rfl rfl ?_
          refine jx_dup dX11_nextToken_330 rfl ?_
          refine jx_geti jc_11 (j := 21) (by decide) rfl jwF_X11_225 dX11_nextToken_331 hk88 ?_
          refine jx_topi (y := (ji S85 a0 21)) (by simp [ji_put, ji_row, ji_putr]) ?_
          refine jx_iconst (v := 1) dX11_nextToken_334 (by decide) ?_
          refine jx_iadd dX11_nextToken_335 ?_
          refine jx_puti jc_11 (j := 21) (by decide) rfl jwF_X11_225 rfl rfl rfl dX11_nextToken_336 hk88 ?_
          exact jx_vret dX11_nextToken_339 rfl (jle rfl) (jle rfl) ⟨rfl, h⟩
        replace h := h.2 c87
        refine jx_aload_n 1 dX11_nextToken_209 rfl rfl ?_
        refine jx_iconst (v := 0) dX11_nextToken_210 (by decide) ?_
        obtain ⟨hk92, h⟩ := h
        refine jx_puti jc_11 (j := 23) (by decide) rfl jwF_X11_243 rfl rfl rfl dX11_nextToken_211 hk92 ?_
        exact jx_lv [1, 0] rfl h
      replace h := h.2 c83
      exact jx_lv [1, 0] rfl h
    replace h := h.1 c80
    refine jx_aload_n 1 dX11_nextToken_109 rfl rfl ?_
    refine jx_iconst (v := 0) dX11_nextToken_110 (by decide) ?_
    refine jx_puti jc_11 (j := 22) (by decide) rfl jwF_X11_228 rfl rfl rfl dX11_nextToken_111 hk5 ?_
    refine jx_goto (tgt := 339) dX11_nextToken_114 (by decide) ?_
    exact jx_vret dX11_nextToken_339 rfl (jle rfl) (jle rfl) ⟨rfl, h⟩
  replace h := h.1 c51
  refine jx_aload_n 0 dX11_nextToken_59 rfl rfl ?_
  refine jx_dup dX11_nextToken_60 rfl ?_
  refine jx_geti jc_11 (j := 21) (by decide) rfl jwF_X11_225 dX11_nextToken_61 hk5 ?_
  refine jx_iconst (v := 1) dX11_nextToken_64 (by decide) ?_
  refine jx_iadd dX11_nextToken_65 ?_
  refine jx_puti jc_11 (j := 21) (by decide) rfl jwF_X11_225 rfl rfl rfl dX11_nextToken_66 hk5 ?_
  refine jx_goto (tgt := 34) kd85.1 (by decide) ?_
  exact jx_lv [0, 1, 2] rfl h
set_option maxRecDepth 100000 in
set_option maxHeartbeats 4000000 in
theorem T_X11_nextToken_214 {E : jEnv} {d : Nat} {Q : jM → Prop} {a0 : Nat} {x1 : Int32} {S : jM} (h : jk S a0 = 11 ∧ jFi E mX11_isDigit d 0 0 [.ref a0, .int (ji S a0 21)] S (fun r95 S94 => (r95 = 0 → (x1 = 0 → jk S94 a0 = 11 ∧ (((ji S94 a0 21) - (ji S94 a0 20)) ≤ 4 → Q (jput S94 a0 22 2)) ∧ (¬ ((ji S94 a0 21) - (ji S94 a0 20)) ≤ 4 → Q (jput S94 a0 22 4))) ∧ (¬ x1 = 0 → jk S94 a0 = 11 ∧ Q (jput S94 a0 22 4))) ∧ (¬ r95 = 0 → jk S94 a0 = 11 ∧ (4 ≤ ((ji S94 a0 21) - (ji S94 a0 20)) → L_X11_nextToken_214 E d Q a0 x1 (jput (jput S94 a0 23 (ji S94 a0 23)) a0 21 ((ji S94 a0 21) + 1))) ∧ (¬ 4 ≤ ((ji S94 a0 21) - (ji S94 a0 20)) → ∃ b103, jr S94 a0 18 = some b103 ∧ (jk S94 b103 = 12 ∧ vp_in (ji S94 a0 21) (jl S94 b103) ∧ (L_X11_nextToken_214 E d Q a0 x1 (jput (jput S94 a0 23 (((10 * (ji S94 a0 23)) + (ji S94 b103 (Int32.toNatClampNeg (ji S94 a0 21)))) - 48)) a0 21 ((ji S94 a0 21) + 1)))))))) : L_X11_nextToken_214 E d Q a0 x1 S := by
  show jX E mX11_nextToken (jRm (d + 1) 0 0) (jZm E (fun r S' => r = none ∧ Q S') 0 0) 214 [(0, .ref a0), (1, .int x1)] [] S 0 0
  refine jx_aload_n 0 dX11_nextToken_214 rfl rfl ?_
  refine jx_aload_n 0 dX11_nextToken_215 rfl rfl ?_
  obtain ⟨hk93, h⟩ := h
  refine jx_geti jc_11 (j := 21) (by decide) rfl jwF_X11_225 dX11_nextToken_216 hk93 ?_
  refine jx_callVi (M' := mX11_isDigit) (As := [.int (ji S a0 21)]) jo_X11_isDigit jc_11 rfl jwM_X11_240 jwN_X11_isDigit jwX_X11_isDigit dX11_nextToken_219 (jRok_m _ _ _) rfl (jle rfl) ⟨jle rfl, jle rfl⟩ hk93 h (fun r95 S94 h => ?_)
  refine jx_if_eq (tgt := 282) dX11_nextToken_222 (by decide) (fun c96 => ?_) (fun c96 => ?_)
  · replace h := h.1 c96
    refine jx_aload_n 0 dX11_nextToken_282 rfl rfl ?_
    refine jx_iload_n 1 dX11_nextToken_283 rfl rfl ?_
    refine jx_if_ne (tgt := 300) dX11_nextToken_284 (by decide) (fun c97 => ?_) (fun c97 => ?_)
    · replace h := h.2 c97
      refine jx_iconst (v := 4) dX11_nextToken_300 (by decide) ?_
      refine jx_goto (tgt := 305) dX11_nextToken_301 (by decide) ?_
      obtain ⟨hk98, h⟩ := h
      refine jx_puti jc_11 (j := 22) (by decide) rfl jwF_X11_228 rfl rfl rfl dX11_nextToken_305 hk98 ?_
      refine jx_goto (tgt := 339) dX11_nextToken_308 (by decide) ?_
      exact jx_vret dX11_nextToken_339 rfl (jle rfl) (jle rfl) ⟨rfl, h⟩
    replace h := h.1 c97
    refine jx_aload_n 0 dX11_nextToken_287 rfl rfl ?_
    obtain ⟨hk99, h⟩ := h
    refine jx_geti jc_11 (j := 21) (by decide) rfl jwF_X11_225 dX11_nextToken_288 hk99 ?_
    refine jx_aload_n 0 dX11_nextToken_291 rfl rfl ?_
    refine jx_geti jc_11 (j := 20) (by decide) rfl jwF_X11_231 dX11_nextToken_292 hk99 ?_
    refine jx_isub dX11_nextToken_295 ?_
    refine jx_iconst (v := 4) dX11_nextToken_296 (by decide) ?_
    refine jx_icmp_le (tgt := 304) dX11_nextToken_297 (by decide) (fun c100 => ?_) (fun c100 => ?_)
    · replace h := h.1 c100
      refine jx_iconst (v := 2) dX11_nextToken_304 (by decide) ?_
      refine jx_puti jc_11 (j := 22) (by decide) rfl jwF_X11_228 rfl rfl rfl dX11_nextToken_305 hk99 ?_
      refine jx_goto (tgt := 339) dX11_nextToken_308 (by decide) ?_
      exact jx_vret dX11_nextToken_339 rfl (jle rfl) (jle rfl) ⟨rfl, h⟩
    replace h := h.2 c100
    refine jx_iconst (v := 4) dX11_nextToken_300 (by decide) ?_
    refine jx_goto (tgt := 305) dX11_nextToken_301 (by decide) ?_
    refine jx_puti jc_11 (j := 22) (by decide) rfl jwF_X11_228 rfl rfl rfl dX11_nextToken_305 hk99 ?_
    refine jx_goto (tgt := 339) dX11_nextToken_308 (by decide) ?_
    exact jx_vret dX11_nextToken_339 rfl (jle rfl) (jle rfl) ⟨rfl, h⟩
  replace h := h.2 c96
  refine jx_aload_n 0 dX11_nextToken_225 rfl rfl ?_
  refine jx_aload_n 0 dX11_nextToken_226 rfl rfl ?_
  obtain ⟨hk101, h⟩ := h
  refine jx_geti jc_11 (j := 21) (by decide) rfl jwF_X11_225 dX11_nextToken_227 hk101 ?_
  refine jx_aload_n 0 dX11_nextToken_230 rfl rfl ?_
  refine jx_geti jc_11 (j := 20) (by decide) rfl jwF_X11_231 dX11_nextToken_231 hk101 ?_
  refine jx_isub dX11_nextToken_234 ?_
  refine jx_iconst (v := 4) dX11_nextToken_235 (by decide) ?_
  refine jx_icmp_ge (tgt := 262) dX11_nextToken_236 (by decide) (fun c102 => ?_) (fun c102 => ?_)
  · replace h := h.1 c102
    refine jx_aload_n 0 dX11_nextToken_262 rfl rfl ?_
    refine jx_geti jc_11 (j := 23) (by decide) rfl jwF_X11_243 dX11_nextToken_263 hk101 ?_
    refine jx_puti jc_11 (j := 23) (by decide) rfl jwF_X11_243 rfl rfl rfl dX11_nextToken_266 hk101 ?_
    refine jx_aload_n 0 dX11_nextToken_269 rfl rfl ?_
    refine jx_dup dX11_nextToken_270 rfl ?_
    refine jx_geti jc_11 (j := 21) (by decide) rfl jwF_X11_225 dX11_nextToken_271 hk101 ?_
    refine jx_topi (y := (ji S94 a0 21)) (by simp [ji_put, ji_row, ji_putr]) ?_
    refine jx_iconst (v := 1) dX11_nextToken_274 (by decide) ?_
    refine jx_iadd dX11_nextToken_275 ?_
    refine jx_puti jc_11 (j := 21) (by decide) rfl jwF_X11_225 rfl rfl rfl dX11_nextToken_276 hk101 ?_
    refine jx_goto (tgt := 214) kd85.2.2 (by decide) ?_
    exact jx_lv [0, 1] rfl h
  replace h := h.2 c102
  refine jx_bipush (v := 10) dX11_nextToken_239 (by decide) ?_
  refine jx_aload_n 0 dX11_nextToken_241 rfl rfl ?_
  refine jx_geti jc_11 (j := 23) (by decide) rfl jwF_X11_243 dX11_nextToken_242 hk101 ?_
  refine jx_imul dX11_nextToken_245 ?_
  refine jx_aload_n 0 dX11_nextToken_246 rfl rfl ?_
  obtain ⟨b103, hb103, h⟩ := h
  refine jx_getr jc_11 (j := 18) (by decide) rfl jwF_X11_52 dX11_nextToken_247 hk101 hb103 ?_
  refine jx_aload_n 0 dX11_nextToken_250 rfl rfl ?_
  refine jx_geti jc_11 (j := 21) (by decide) rfl jwF_X11_225 dX11_nextToken_251 hk101 ?_
  obtain ⟨hk104, h⟩ := h
  obtain ⟨hi105, h⟩ := h
  refine jx_iald dX11_nextToken_254 hk104 hi105 ?_
  refine jx_iadd dX11_nextToken_255 ?_
  refine jx_bipush (v := 48) dX11_nextToken_256 (by decide) ?_
  refine jx_isub dX11_nextToken_258 ?_
  refine jx_goto (tgt := 266) dX11_nextToken_259 (by decide) ?_
  refine jx_puti jc_11 (j := 23) (by decide) rfl jwF_X11_243 rfl rfl rfl dX11_nextToken_266 hk101 ?_
  refine jx_aload_n 0 dX11_nextToken_269 rfl rfl ?_
  refine jx_dup dX11_nextToken_270 rfl ?_
  refine jx_geti jc_11 (j := 21) (by decide) rfl jwF_X11_225 dX11_nextToken_271 hk101 ?_
  refine jx_topi (y := (ji S94 a0 21)) (by simp [ji_put, ji_row, ji_putr]) ?_
  refine jx_iconst (v := 1) dX11_nextToken_274 (by decide) ?_
  refine jx_iadd dX11_nextToken_275 ?_
  refine jx_puti jc_11 (j := 21) (by decide) rfl jwF_X11_225 rfl rfl rfl dX11_nextToken_276 hk101 ?_
  refine jx_goto (tgt := 214) kd85.2.2 (by decide) ?_
  exact jx_lv [0, 1] rfl h
set_option maxRecDepth 100000 in
set_option maxHeartbeats 4000000 in
theorem T_X11_nextToken_128 {E : jEnv} {d : Nat} {Q : jM → Prop} {a0 : Nat} {x1 : Int32} {S : jM} (h : jk S a0 = 11 ∧ jFi E mX11_isLetter d 0 0 [.ref a0, .int (ji S a0 21)] S (fun r108 S107 => (r108 = 0 → (x1 = 0 → jk S107 a0 = 11 ∧ (((ji S107 a0 21) - (ji S107 a0 20)) = 1 → ∃ b113, jr S107 a0 18 = some b113 ∧ (jk S107 b113 = 12 ∧ vp_in (ji S107 a0 20) (jl S107 b113) ∧ (Q (jput (jput S107 a0 22 1) a0 24 (ji S107 b113 (Int32.toNatClampNeg (ji S107 a0 20))))))) ∧ (¬ ((ji S107 a0 21) - (ji S107 a0 20)) = 1 → Q (jput (jput S107 a0 22 1) a0 24 0))) ∧ (¬ x1 = 0 → jk S107 a0 = 11 ∧ (((ji S107 a0 21) - (ji S107 a0 20)) = 1 → ∃ b118, jr S107 a0 18 = some b118 ∧ (jk S107 b118 = 12 ∧ vp_in (ji S107 a0 20) (jl S107 b118) ∧ (Q (jput (jput S107 a0 22 4) a0 24 (ji S107 b118 (Int32.toNatClampNeg (ji S107 a0 20))))))) ∧ (¬ ((ji S107 a0 21) - (ji S107 a0 20)) = 1 → Q (jput (jput S107 a0 22 4) a0 24 0)))) ∧ (¬ r108 = 0 → jk S107 a0 = 11 ∧ L_X11_nextToken_128 E d Q a0 x1 (jput S107 a0 21 ((ji S107 a0 21) + 1))))) : L_X11_nextToken_128 E d Q a0 x1 S := by
  show jX E mX11_nextToken (jRm (d + 1) 0 0) (jZm E (fun r S' => r = none ∧ Q S') 0 0) 128 [(0, .ref a0), (1, .int x1)] [] S 0 0
  refine jx_aload_n 0 dX11_nextToken_128 rfl rfl ?_
  refine jx_aload_n 0 dX11_nextToken_129 rfl rfl ?_
  obtain ⟨hk106, h⟩ := h
  refine jx_geti jc_11 (j := 21) (by decide) rfl jwF_X11_225 dX11_nextToken_130 hk106 ?_
  refine jx_callVi (M' := mX11_isLetter) (As := [.int (ji S a0 21)]) jo_X11_isLetter jc_11 rfl jwM_X11_234 jwN_X11_isLetter jwX_X11_isLetter dX11_nextToken_133 (jRok_m _ _ _) rfl (jle rfl) ⟨jle rfl, jle rfl⟩ hk106 h (fun r108 S107 h => ?_)
  refine jx_if_eq (tgt := 152) dX11_nextToken_136 (by decide) (fun c109 => ?_) (fun c109 => ?_)
  · replace h := h.1 c109
    refine jx_aload_n 0 dX11_nextToken_152 rfl rfl ?_
    refine jx_iload_n 1 dX11_nextToken_153 rfl rfl ?_
    refine jx_if_eq (tgt := 161) dX11_nextToken_154 (by decide) (fun c110 => ?_) (fun c110 => ?_)
    · replace h := h.1 c110
      refine jx_iconst (v := 1) dX11_nextToken_161 (by decide) ?_
      obtain ⟨hk111, h⟩ := h
      refine jx_puti jc_11 (j := 22) (by decide) rfl jwF_X11_228 rfl rfl rfl dX11_nextToken_162 hk111 ?_
      refine jx_aload_n 0 dX11_nextToken_165 rfl rfl ?_
      refine jx_aload_n 0 dX11_nextToken_166 rfl rfl ?_
      refine jx_geti jc_11 (j := 21) (by decide) rfl jwF_X11_225 dX11_nextToken_167 hk111 ?_
      refine jx_topi (y := (ji S107 a0 21)) (by simp [ji_put, ji_row, ji_putr]) ?_
      refine jx_aload_n 0 dX11_nextToken_170 rfl rfl ?_
      refine jx_geti jc_11 (j := 20) (by decide) rfl jwF_X11_231 dX11_nextToken_171 hk111 ?_
      refine jx_topi (y := (ji S107 a0 20)) (by simp [ji_put, ji_row, ji_putr]) ?_
      refine jx_isub dX11_nextToken_174 ?_
      refine jx_iconst (v := 1) dX11_nextToken_175 (by decide) ?_
      refine jx_icmp_ne (tgt := 191) dX11_nextToken_176 (by decide) (fun c112 => ?_) (fun c112 => ?_)
      · replace h := h.2 c112
        refine jx_iconst (v := 0) dX11_nextToken_191 (by decide) ?_
        refine jx_puti jc_11 (j := 24) (by decide) rfl jwF_X11_237 rfl rfl rfl dX11_nextToken_192 hk111 ?_
        refine jx_goto (tgt := 339) dX11_nextToken_195 (by decide) ?_
        exact jx_vret dX11_nextToken_339 rfl (jle rfl) (jle rfl) ⟨rfl, h⟩
      replace h := h.1 c112
      refine jx_aload_n 0 dX11_nextToken_179 rfl rfl ?_
      obtain ⟨b113, hb113, h⟩ := h
      refine jx_getr jc_11 (j := 18) (by decide) rfl jwF_X11_52 dX11_nextToken_180 hk111 hb113 ?_
      refine jx_aload_n 0 dX11_nextToken_183 rfl rfl ?_
      refine jx_geti jc_11 (j := 20) (by decide) rfl jwF_X11_231 dX11_nextToken_184 hk111 ?_
      refine jx_topi (y := (ji S107 a0 20)) (by simp [ji_put, ji_row, ji_putr]) ?_
      obtain ⟨hk114, h⟩ := h
      obtain ⟨hi115, h⟩ := h
      refine jx_iald dX11_nextToken_187 hk114 hi115 ?_
      refine jx_topi (y := (ji S107 b113 (Int32.toNatClampNeg (ji S107 a0 20)))) (by simp [ji_put, ji_row, ji_putr, jne hk114 hk111 (by decide)]) ?_
      refine jx_goto (tgt := 192) dX11_nextToken_188 (by decide) ?_
      refine jx_puti jc_11 (j := 24) (by decide) rfl jwF_X11_237 rfl rfl rfl dX11_nextToken_192 hk111 ?_
      refine jx_goto (tgt := 339) dX11_nextToken_195 (by decide) ?_
      exact jx_vret dX11_nextToken_339 rfl (jle rfl) (jle rfl) ⟨rfl, h⟩
    replace h := h.2 c110
    refine jx_iconst (v := 4) dX11_nextToken_157 (by decide) ?_
    refine jx_goto (tgt := 162) dX11_nextToken_158 (by decide) ?_
    obtain ⟨hk116, h⟩ := h
    refine jx_puti jc_11 (j := 22) (by decide) rfl jwF_X11_228 rfl rfl rfl dX11_nextToken_162 hk116 ?_
    refine jx_aload_n 0 dX11_nextToken_165 rfl rfl ?_
    refine jx_aload_n 0 dX11_nextToken_166 rfl rfl ?_
    refine jx_geti jc_11 (j := 21) (by decide) rfl jwF_X11_225 dX11_nextToken_167 hk116 ?_
    refine jx_topi (y := (ji S107 a0 21)) (by simp [ji_put, ji_row, ji_putr]) ?_
    refine jx_aload_n 0 dX11_nextToken_170 rfl rfl ?_
    refine jx_geti jc_11 (j := 20) (by decide) rfl jwF_X11_231 dX11_nextToken_171 hk116 ?_
    refine jx_topi (y := (ji S107 a0 20)) (by simp [ji_put, ji_row, ji_putr]) ?_
    refine jx_isub dX11_nextToken_174 ?_
    refine jx_iconst (v := 1) dX11_nextToken_175 (by decide) ?_
    refine jx_icmp_ne (tgt := 191) dX11_nextToken_176 (by decide) (fun c117 => ?_) (fun c117 => ?_)
    · replace h := h.2 c117
      refine jx_iconst (v := 0) dX11_nextToken_191 (by decide) ?_
      refine jx_puti jc_11 (j := 24) (by decide) rfl jwF_X11_237 rfl rfl rfl dX11_nextToken_192 hk116 ?_
      refine jx_goto (tgt := 339) dX11_nextToken_195 (by decide) ?_
      exact jx_vret dX11_nextToken_339 rfl (jle rfl) (jle rfl) ⟨rfl, h⟩
    replace h := h.1 c117
    refine jx_aload_n 0 dX11_nextToken_179 rfl rfl ?_
    obtain ⟨b118, hb118, h⟩ := h
    refine jx_getr jc_11 (j := 18) (by decide) rfl jwF_X11_52 dX11_nextToken_180 hk116 hb118 ?_
    refine jx_aload_n 0 dX11_nextToken_183 rfl rfl ?_
    refine jx_geti jc_11 (j := 20) (by decide) rfl jwF_X11_231 dX11_nextToken_184 hk116 ?_
    refine jx_topi (y := (ji S107 a0 20)) (by simp [ji_put, ji_row, ji_putr]) ?_
    obtain ⟨hk119, h⟩ := h
    obtain ⟨hi120, h⟩ := h
    refine jx_iald dX11_nextToken_187 hk119 hi120 ?_
    refine jx_topi (y := (ji S107 b118 (Int32.toNatClampNeg (ji S107 a0 20)))) (by simp [ji_put, ji_row, ji_putr, jne hk119 hk116 (by decide)]) ?_
    refine jx_goto (tgt := 192) dX11_nextToken_188 (by decide) ?_
    refine jx_puti jc_11 (j := 24) (by decide) rfl jwF_X11_237 rfl rfl rfl dX11_nextToken_192 hk116 ?_
    refine jx_goto (tgt := 339) dX11_nextToken_195 (by decide) ?_
    exact jx_vret dX11_nextToken_339 rfl (jle rfl) (jle rfl) ⟨rfl, h⟩
  replace h := h.2 c109
  refine jx_aload_n 0 dX11_nextToken_139 rfl rfl ?_
  refine jx_dup dX11_nextToken_140 rfl ?_
  obtain ⟨hk121, h⟩ := h
  refine jx_geti jc_11 (j := 21) (by decide) rfl jwF_X11_225 dX11_nextToken_141 hk121 ?_
  refine jx_iconst (v := 1) dX11_nextToken_144 (by decide) ?_
  refine jx_iadd dX11_nextToken_145 ?_
  refine jx_puti jc_11 (j := 21) (by decide) rfl jwF_X11_225 rfl rfl rfl dX11_nextToken_146 hk121 ?_
  refine jx_goto (tgt := 128) kd85.2.1 (by decide) ?_
  exact jx_lv [0, 1] rfl h
set_option maxRecDepth 100000 in
set_option maxHeartbeats 4000000 in
theorem T_X11_isSign {E : jEnv} {d : Nat} {Q : Int32 → jM → Prop} {a0 : Nat} {x1 : Int32} {S : jM} (h : jk S a0 = 11 ∧ ((ji S a0 22) = 3 → ((ji S a0 24) = x1 → Q 1 S) ∧ (¬ (ji S a0 24) = x1 → Q 0 S)) ∧ (¬ (ji S a0 22) = 3 → Q 0 S)) : jFi E mX11_isSign d 0 0 [.ref a0, .int x1] S Q := by
  refine jF_of (by decide) (jle rfl) ?_
  refine jx_lv (lv1 := [(0, .ref a0), (1, .int x1)]) [0, 1] rfl ?_
  refine jx_aload_n 0 dX11_isSign_0 rfl rfl ?_
  obtain ⟨hk1, h⟩ := h
  refine jx_geti jc_11 (j := 22) (by decide) rfl jwF_X11_228 dX11_isSign_1 hk1 ?_
  refine jx_iconst (v := 3) dX11_isSign_4 (by decide) ?_
  refine jx_icmp_ne (tgt := 20) dX11_isSign_5 (by decide) (fun c2 => ?_) (fun c2 => ?_)
  · replace h := h.2 c2
    refine jx_iconst (v := 0) dX11_isSign_20 (by decide) ?_
    exact jx_iret dX11_isSign_21 rfl (by decide) (jle rfl) (jle rfl) ⟨_, rfl, h⟩
  replace h := h.1 c2
  refine jx_aload_n 0 dX11_isSign_8 rfl rfl ?_
  refine jx_geti jc_11 (j := 24) (by decide) rfl jwF_X11_237 dX11_isSign_9 hk1 ?_
  refine jx_iload_n 1 dX11_isSign_12 rfl rfl ?_
  refine jx_icmp_ne (tgt := 20) dX11_isSign_13 (by decide) (fun c3 => ?_) (fun c3 => ?_)
  · replace h := h.2 c3
    refine jx_iconst (v := 0) dX11_isSign_20 (by decide) ?_
    exact jx_iret dX11_isSign_21 rfl (by decide) (jle rfl) (jle rfl) ⟨_, rfl, h⟩
  replace h := h.1 c3
  refine jx_iconst (v := 1) dX11_isSign_16 (by decide) ?_
  refine jx_goto (tgt := 21) dX11_isSign_17 (by decide) ?_
  exact jx_iret dX11_isSign_21 rfl (by decide) (jle rfl) (jle rfl) ⟨_, rfl, h⟩
set_option maxRecDepth 100000 in
set_option maxHeartbeats 4000000 in
theorem T_X11_isWordAt {E : jEnv} {d : Nat} {Q : Int32 → jM → Prop} {a0 : Nat} {x1 : Int32} {x2 : Int32} {x3 : Int32} {x4 : Int32} {S : jM} (h : (x4 = 0 → jk S a0 = 11 ∧ ((ji S a0 22) = 1 → (((ji S a0 21) - (ji S a0 20)) = 3 → ∃ b18, jr S a0 18 = some b18 ∧ (jk S b18 = 12 ∧ vp_in (ji S a0 20) (jl S b18) ∧ (((ji S b18 (Int32.toNatClampNeg (ji S a0 20))) = x1 → vp_in ((ji S a0 20) + 1) (jl S b18) ∧ (((ji S b18 (Int32.toNatClampNeg ((ji S a0 20) + 1))) = x2 → vp_in ((ji S a0 20) + 2) (jl S b18) ∧ (((ji S b18 (Int32.toNatClampNeg ((ji S a0 20) + 2))) = x3 → Q 1 S) ∧ (¬ (ji S b18 (Int32.toNatClampNeg ((ji S a0 20) + 2))) = x3 → Q 0 S))) ∧ (¬ (ji S b18 (Int32.toNatClampNeg ((ji S a0 20) + 1))) = x2 → Q 0 S))) ∧ (¬ (ji S b18 (Int32.toNatClampNeg (ji S a0 20))) = x1 → Q 0 S)))) ∧ (¬ ((ji S a0 21) - (ji S a0 20)) = 3 → Q 0 S)) ∧ (¬ (ji S a0 22) = 1 → Q 0 S)) ∧ (¬ x4 = 0 → jk S a0 = 11 ∧ ((ji S a0 22) = 1 → (((ji S a0 21) - (ji S a0 20)) = 4 → ∃ b5, jr S a0 18 = some b5 ∧ (jk S b5 = 12 ∧ vp_in (ji S a0 20) (jl S b5) ∧ (((ji S b5 (Int32.toNatClampNeg (ji S a0 20))) = x1 → vp_in ((ji S a0 20) + 1) (jl S b5) ∧ (((ji S b5 (Int32.toNatClampNeg ((ji S a0 20) + 1))) = x2 → vp_in ((ji S a0 20) + 2) (jl S b5) ∧ (((ji S b5 (Int32.toNatClampNeg ((ji S a0 20) + 2))) = x3 → vp_in ((ji S a0 20) + 3) (jl S b5) ∧ (((ji S b5 (Int32.toNatClampNeg ((ji S a0 20) + 3))) = x4 → Q 1 S) ∧ (¬ (ji S b5 (Int32.toNatClampNeg ((ji S a0 20) + 3))) = x4 → Q 0 S))) ∧ (¬ (ji S b5 (Int32.toNatClampNeg ((ji S a0 20) + 2))) = x3 → Q 0 S))) ∧ (¬ (ji S b5 (Int32.toNatClampNeg ((ji S a0 20) + 1))) = x2 → Q 0 S))) ∧ (¬ (ji S b5 (Int32.toNatClampNeg (ji S a0 20))) = x1 → Q 0 S)))) ∧ (¬ ((ji S a0 21) - (ji S a0 20)) = 4 → Q 0 S)) ∧ (¬ (ji S a0 22) = 1 → Q 0 S))) : jFi E mX11_isWordAt d 0 0 [.ref a0, .int x1, .int x2, .int x3, .int x4] S Q := by
  refine jF_of (by decide) (jle rfl) ?_
  refine jx_lv (lv1 := [(0, .ref a0), (1, .int x1), (2, .int x2), (3, .int x3), (4, .int x4)]) [0, 1, 2, 3, 4] rfl ?_
  refine jx_iload 4 dX11_isWordAt_0 rfl ?_
  refine jx_if_ne (tgt := 9) dX11_isWordAt_2 (by decide) (fun c1 => ?_) (fun c1 => ?_)
  · replace h := h.2 c1
    refine jx_iconst (v := 4) dX11_isWordAt_9 (by decide) ?_
    refine jx_istore (lv1 := [(5, .int 4), (0, .ref a0), (1, .int x1), (2, .int x2), (3, .int x3), (4, .int x4)]) dX11_isWordAt_10 (by decide) rfl ?_
    refine jx_aload_n 1 dX11_isWordAt_12 rfl rfl ?_
    obtain ⟨hk2, h⟩ := h
    refine jx_geti jc_11 (j := 22) (by decide) rfl jwF_X11_228 dX11_isWordAt_13 hk2 ?_
    refine jx_iconst (v := 1) dX11_isWordAt_16 (by decide) ?_
    refine jx_icmp_ne (tgt := 102) dX11_isWordAt_17 (by decide) (fun c3 => ?_) (fun c3 => ?_)
    · replace h := h.2 c3
      refine jx_iconst (v := 0) dX11_isWordAt_102 (by decide) ?_
      exact jx_iret dX11_isWordAt_103 rfl (by decide) (jle rfl) (jle rfl) ⟨_, rfl, h⟩
    replace h := h.1 c3
    refine jx_aload_n 1 dX11_isWordAt_20 rfl rfl ?_
    refine jx_geti jc_11 (j := 21) (by decide) rfl jwF_X11_225 dX11_isWordAt_21 hk2 ?_
    refine jx_aload_n 1 dX11_isWordAt_24 rfl rfl ?_
    refine jx_geti jc_11 (j := 20) (by decide) rfl jwF_X11_231 dX11_isWordAt_25 hk2 ?_
    refine jx_isub dX11_isWordAt_28 ?_
    refine jx_iload 0 dX11_isWordAt_29 rfl ?_
    refine jx_icmp_ne (tgt := 102) dX11_isWordAt_31 (by decide) (fun c4 => ?_) (fun c4 => ?_)
    · replace h := h.2 c4
      refine jx_iconst (v := 0) dX11_isWordAt_102 (by decide) ?_
      exact jx_iret dX11_isWordAt_103 rfl (by decide) (jle rfl) (jle rfl) ⟨_, rfl, h⟩
    replace h := h.1 c4
    refine jx_aload_n 1 dX11_isWordAt_34 rfl rfl ?_
    obtain ⟨b5, hb5, h⟩ := h
    refine jx_getr jc_11 (j := 18) (by decide) rfl jwF_X11_52 dX11_isWordAt_35 hk2 hb5 ?_
    refine jx_aload_n 1 dX11_isWordAt_38 rfl rfl ?_
    refine jx_geti jc_11 (j := 20) (by decide) rfl jwF_X11_231 dX11_isWordAt_39 hk2 ?_
    obtain ⟨hk6, h⟩ := h
    obtain ⟨hi7, h⟩ := h
    refine jx_iald dX11_isWordAt_42 hk6 hi7 ?_
    refine jx_iload_n 2 dX11_isWordAt_43 rfl rfl ?_
    refine jx_icmp_ne (tgt := 102) dX11_isWordAt_44 (by decide) (fun c8 => ?_) (fun c8 => ?_)
    · replace h := h.2 c8
      refine jx_iconst (v := 0) dX11_isWordAt_102 (by decide) ?_
      exact jx_iret dX11_isWordAt_103 rfl (by decide) (jle rfl) (jle rfl) ⟨_, rfl, h⟩
    replace h := h.1 c8
    refine jx_aload_n 1 dX11_isWordAt_47 rfl rfl ?_
    refine jx_getr jc_11 (j := 18) (by decide) rfl jwF_X11_52 dX11_isWordAt_48 hk2 hb5 ?_
    refine jx_aload_n 1 dX11_isWordAt_51 rfl rfl ?_
    refine jx_geti jc_11 (j := 20) (by decide) rfl jwF_X11_231 dX11_isWordAt_52 hk2 ?_
    refine jx_iconst (v := 1) dX11_isWordAt_55 (by decide) ?_
    refine jx_iadd dX11_isWordAt_56 ?_
    obtain ⟨hi9, h⟩ := h
    refine jx_iald dX11_isWordAt_57 hk6 hi9 ?_
    refine jx_iload_n 3 dX11_isWordAt_58 rfl rfl ?_
    refine jx_icmp_ne (tgt := 102) dX11_isWordAt_59 (by decide) (fun c10 => ?_) (fun c10 => ?_)
    · replace h := h.2 c10
      refine jx_iconst (v := 0) dX11_isWordAt_102 (by decide) ?_
      exact jx_iret dX11_isWordAt_103 rfl (by decide) (jle rfl) (jle rfl) ⟨_, rfl, h⟩
    replace h := h.1 c10
    refine jx_aload_n 1 dX11_isWordAt_62 rfl rfl ?_
    refine jx_getr jc_11 (j := 18) (by decide) rfl jwF_X11_52 dX11_isWordAt_63 hk2 hb5 ?_
    refine jx_aload_n 1 dX11_isWordAt_66 rfl rfl ?_
    refine jx_geti jc_11 (j := 20) (by decide) rfl jwF_X11_231 dX11_isWordAt_67 hk2 ?_
    refine jx_iconst (v := 2) dX11_isWordAt_70 (by decide) ?_
    refine jx_iadd dX11_isWordAt_71 ?_
    obtain ⟨hi11, h⟩ := h
    refine jx_iald dX11_isWordAt_72 hk6 hi11 ?_
    refine jx_iload_n 4 dX11_isWordAt_73 rfl rfl ?_
    refine jx_icmp_ne (tgt := 102) dX11_isWordAt_74 (by decide) (fun c12 => ?_) (fun c12 => ?_)
    · replace h := h.2 c12
      refine jx_iconst (v := 0) dX11_isWordAt_102 (by decide) ?_
      exact jx_iret dX11_isWordAt_103 rfl (by decide) (jle rfl) (jle rfl) ⟨_, rfl, h⟩
    replace h := h.1 c12
    refine jx_iload 5 dX11_isWordAt_77 rfl ?_
    refine jx_if_eq (tgt := 98) dX11_isWordAt_79 (by decide) (fun z9 => absurd z9 c1) (fun _ => ?_)
    refine jx_aload_n 1 dX11_isWordAt_82 rfl rfl ?_
    refine jx_getr jc_11 (j := 18) (by decide) rfl jwF_X11_52 dX11_isWordAt_83 hk2 hb5 ?_
    refine jx_aload_n 1 dX11_isWordAt_86 rfl rfl ?_
    refine jx_geti jc_11 (j := 20) (by decide) rfl jwF_X11_231 dX11_isWordAt_87 hk2 ?_
    refine jx_iconst (v := 3) dX11_isWordAt_90 (by decide) ?_
    refine jx_iadd dX11_isWordAt_91 ?_
    obtain ⟨hi13, h⟩ := h
    refine jx_iald dX11_isWordAt_92 hk6 hi13 ?_
    refine jx_iload 5 dX11_isWordAt_93 rfl ?_
    refine jx_icmp_ne (tgt := 102) dX11_isWordAt_95 (by decide) (fun c14 => ?_) (fun c14 => ?_)
    · replace h := h.2 c14
      refine jx_iconst (v := 0) dX11_isWordAt_102 (by decide) ?_
      exact jx_iret dX11_isWordAt_103 rfl (by decide) (jle rfl) (jle rfl) ⟨_, rfl, h⟩
    replace h := h.1 c14
    refine jx_iconst (v := 1) dX11_isWordAt_98 (by decide) ?_
    refine jx_goto (tgt := 103) dX11_isWordAt_99 (by decide) ?_
    exact jx_iret dX11_isWordAt_103 rfl (by decide) (jle rfl) (jle rfl) ⟨_, rfl, h⟩
  replace h := h.1 c1
  refine jx_iconst (v := 3) dX11_isWordAt_5 (by decide) ?_
  refine jx_goto (tgt := 10) dX11_isWordAt_6 (by decide) ?_
  refine jx_istore (lv1 := [(5, .int 3), (0, .ref a0), (1, .int x1), (2, .int x2), (3, .int x3), (4, .int x4)]) dX11_isWordAt_10 (by decide) rfl ?_
  refine jx_aload_n 1 dX11_isWordAt_12 rfl rfl ?_
  obtain ⟨hk15, h⟩ := h
  refine jx_geti jc_11 (j := 22) (by decide) rfl jwF_X11_228 dX11_isWordAt_13 hk15 ?_
  refine jx_iconst (v := 1) dX11_isWordAt_16 (by decide) ?_
  refine jx_icmp_ne (tgt := 102) dX11_isWordAt_17 (by decide) (fun c16 => ?_) (fun c16 => ?_)
  · replace h := h.2 c16
    refine jx_iconst (v := 0) dX11_isWordAt_102 (by decide) ?_
    exact jx_iret dX11_isWordAt_103 rfl (by decide) (jle rfl) (jle rfl) ⟨_, rfl, h⟩
  replace h := h.1 c16
  refine jx_aload_n 1 dX11_isWordAt_20 rfl rfl ?_
  refine jx_geti jc_11 (j := 21) (by decide) rfl jwF_X11_225 dX11_isWordAt_21 hk15 ?_
  refine jx_aload_n 1 dX11_isWordAt_24 rfl rfl ?_
  refine jx_geti jc_11 (j := 20) (by decide) rfl jwF_X11_231 dX11_isWordAt_25 hk15 ?_
  refine jx_isub dX11_isWordAt_28 ?_
  refine jx_iload 0 dX11_isWordAt_29 rfl ?_
  refine jx_icmp_ne (tgt := 102) dX11_isWordAt_31 (by decide) (fun c17 => ?_) (fun c17 => ?_)
  · replace h := h.2 c17
    refine jx_iconst (v := 0) dX11_isWordAt_102 (by decide) ?_
    exact jx_iret dX11_isWordAt_103 rfl (by decide) (jle rfl) (jle rfl) ⟨_, rfl, h⟩
  replace h := h.1 c17
  refine jx_aload_n 1 dX11_isWordAt_34 rfl rfl ?_
  obtain ⟨b18, hb18, h⟩ := h
  refine jx_getr jc_11 (j := 18) (by decide) rfl jwF_X11_52 dX11_isWordAt_35 hk15 hb18 ?_
  refine jx_aload_n 1 dX11_isWordAt_38 rfl rfl ?_
  refine jx_geti jc_11 (j := 20) (by decide) rfl jwF_X11_231 dX11_isWordAt_39 hk15 ?_
  obtain ⟨hk19, h⟩ := h
  obtain ⟨hi20, h⟩ := h
  refine jx_iald dX11_isWordAt_42 hk19 hi20 ?_
  refine jx_iload_n 2 dX11_isWordAt_43 rfl rfl ?_
  refine jx_icmp_ne (tgt := 102) dX11_isWordAt_44 (by decide) (fun c21 => ?_) (fun c21 => ?_)
  · replace h := h.2 c21
    refine jx_iconst (v := 0) dX11_isWordAt_102 (by decide) ?_
    exact jx_iret dX11_isWordAt_103 rfl (by decide) (jle rfl) (jle rfl) ⟨_, rfl, h⟩
  replace h := h.1 c21
  refine jx_aload_n 1 dX11_isWordAt_47 rfl rfl ?_
  refine jx_getr jc_11 (j := 18) (by decide) rfl jwF_X11_52 dX11_isWordAt_48 hk15 hb18 ?_
  refine jx_aload_n 1 dX11_isWordAt_51 rfl rfl ?_
  refine jx_geti jc_11 (j := 20) (by decide) rfl jwF_X11_231 dX11_isWordAt_52 hk15 ?_
  refine jx_iconst (v := 1) dX11_isWordAt_55 (by decide) ?_
  refine jx_iadd dX11_isWordAt_56 ?_
  obtain ⟨hi22, h⟩ := h
  refine jx_iald dX11_isWordAt_57 hk19 hi22 ?_
  refine jx_iload_n 3 dX11_isWordAt_58 rfl rfl ?_
  refine jx_icmp_ne (tgt := 102) dX11_isWordAt_59 (by decide) (fun c23 => ?_) (fun c23 => ?_)
  · replace h := h.2 c23
    refine jx_iconst (v := 0) dX11_isWordAt_102 (by decide) ?_
    exact jx_iret dX11_isWordAt_103 rfl (by decide) (jle rfl) (jle rfl) ⟨_, rfl, h⟩
  replace h := h.1 c23
  refine jx_aload_n 1 dX11_isWordAt_62 rfl rfl ?_
  refine jx_getr jc_11 (j := 18) (by decide) rfl jwF_X11_52 dX11_isWordAt_63 hk15 hb18 ?_
  refine jx_aload_n 1 dX11_isWordAt_66 rfl rfl ?_
  refine jx_geti jc_11 (j := 20) (by decide) rfl jwF_X11_231 dX11_isWordAt_67 hk15 ?_
  refine jx_iconst (v := 2) dX11_isWordAt_70 (by decide) ?_
  refine jx_iadd dX11_isWordAt_71 ?_
  obtain ⟨hi24, h⟩ := h
  refine jx_iald dX11_isWordAt_72 hk19 hi24 ?_
  refine jx_iload_n 4 dX11_isWordAt_73 rfl rfl ?_
  refine jx_icmp_ne (tgt := 102) dX11_isWordAt_74 (by decide) (fun c25 => ?_) (fun c25 => ?_)
  · replace h := h.2 c25
    refine jx_iconst (v := 0) dX11_isWordAt_102 (by decide) ?_
    exact jx_iret dX11_isWordAt_103 rfl (by decide) (jle rfl) (jle rfl) ⟨_, rfl, h⟩
  replace h := h.1 c25
  refine jx_iload 5 dX11_isWordAt_77 rfl ?_
  refine jx_if_eq (tgt := 98) dX11_isWordAt_79 (by decide) (fun _ => ?_) (fun z9 => absurd c1 z9)
  refine jx_iconst (v := 1) dX11_isWordAt_98 (by decide) ?_
  refine jx_goto (tgt := 103) dX11_isWordAt_99 (by decide) ?_
  exact jx_iret dX11_isWordAt_103 rfl (by decide) (jle rfl) (jle rfl) ⟨_, rfl, h⟩
set_option maxRecDepth 100000 in
set_option maxHeartbeats 4000000 in
theorem T_X11_key {E : jEnv} {d : Nat} {Q : Int32 → jM → Prop} {a0 : Nat} {S : jM} (h : jk S a0 = 11 ∧ jFi E mX11_isWordAt d 0 0 [.ref a0, .int 116, .int 101, .int 114, .int 109] S (fun r3 S2 => (r3 = 0 → jk S2 a0 = 11 ∧ jFi E mX11_isWordAt d 0 0 [.ref a0, .int 102, .int 97, .int 109, .int 101] S2 (fun r7 S6 => (r7 = 0 → jk S6 a0 = 11 ∧ jFi E mX11_isWordAt d 0 0 [.ref a0, .int 102, .int 105, .int 110, .int 101] S6 (fun r11 S10 => (r11 = 0 → Q (-1) S10) ∧ (¬ r11 = 0 → Q 2 S10))) ∧ (¬ r7 = 0 → Q 1 S6))) ∧ (¬ r3 = 0 → Q 0 S2))) : jFi E mX11_key (d + 1) 0 0 [.ref a0] S Q := by
  refine jF_of (by decide) (jle rfl) ?_
  refine jx_lv (lv1 := [(0, .ref a0)]) [0] rfl ?_
  refine jx_aload_n 0 dX11_key_0 rfl rfl ?_
  refine jx_bipush (v := 116) dX11_key_1 (by decide) ?_
  refine jx_bipush (v := 101) dX11_key_3 (by decide) ?_
  refine jx_bipush (v := 114) dX11_key_5 (by decide) ?_
  refine jx_bipush (v := 109) dX11_key_7 (by decide) ?_
  obtain ⟨hk1, h⟩ := h
  refine jx_callVi (M' := mX11_isWordAt) (As := [.int 116, .int 101, .int 114, .int 109]) jo_X11_isWordAt jc_11 rfl jwM_X11_246 jwN_X11_isWordAt jwX_X11_isWordAt dX11_key_9 (jRok_m _ _ _) rfl (jle rfl) ⟨jle rfl, jle rfl⟩ hk1 h (fun r3 S2 h => ?_)
  refine jx_if_eq (tgt := 17) dX11_key_12 (by decide) (fun c4 => ?_) (fun c4 => ?_)
  · replace h := h.1 c4
    refine jx_aload_n 0 dX11_key_17 rfl rfl ?_
    refine jx_bipush (v := 102) dX11_key_18 (by decide) ?_
    refine jx_bipush (v := 97) dX11_key_20 (by decide) ?_
    refine jx_bipush (v := 109) dX11_key_22 (by decide) ?_
    refine jx_bipush (v := 101) dX11_key_24 (by decide) ?_
    obtain ⟨hk5, h⟩ := h
    refine jx_callVi (M' := mX11_isWordAt) (As := [.int 102, .int 97, .int 109, .int 101]) jo_X11_isWordAt jc_11 rfl jwM_X11_246 jwN_X11_isWordAt jwX_X11_isWordAt dX11_key_26 (jRok_m _ _ _) rfl (jle rfl) ⟨jle rfl, jle rfl⟩ hk5 h (fun r7 S6 h => ?_)
    refine jx_if_eq (tgt := 34) dX11_key_29 (by decide) (fun c8 => ?_) (fun c8 => ?_)
    · replace h := h.1 c8
      refine jx_aload_n 0 dX11_key_34 rfl rfl ?_
      refine jx_bipush (v := 102) dX11_key_35 (by decide) ?_
      refine jx_bipush (v := 105) dX11_key_37 (by decide) ?_
      refine jx_bipush (v := 110) dX11_key_39 (by decide) ?_
      refine jx_bipush (v := 101) dX11_key_41 (by decide) ?_
      obtain ⟨hk9, h⟩ := h
      refine jx_callVi (M' := mX11_isWordAt) (As := [.int 102, .int 105, .int 110, .int 101]) jo_X11_isWordAt jc_11 rfl jwM_X11_246 jwN_X11_isWordAt jwX_X11_isWordAt dX11_key_43 (jRok_m _ _ _) rfl (jle rfl) ⟨jle rfl, jle rfl⟩ hk9 h (fun r11 S10 h => ?_)
      refine jx_if_eq (tgt := 53) dX11_key_46 (by decide) (fun c12 => ?_) (fun c12 => ?_)
      · replace h := h.1 c12
        refine jx_iconst (v := (-1)) dX11_key_53 (by decide) ?_
        exact jx_iret dX11_key_54 rfl rfl (jle rfl) (jle rfl) ⟨_, rfl, h⟩
      replace h := h.2 c12
      refine jx_iconst (v := 2) dX11_key_49 (by decide) ?_
      refine jx_goto (tgt := 54) dX11_key_50 (by decide) ?_
      exact jx_iret dX11_key_54 rfl rfl (jle rfl) (jle rfl) ⟨_, rfl, h⟩
    replace h := h.2 c8
    refine jx_iconst (v := 1) dX11_key_32 (by decide) ?_
    exact jx_iret dX11_key_33 rfl rfl (jle rfl) (jle rfl) ⟨_, rfl, h⟩
  replace h := h.2 c4
  refine jx_iconst (v := 0) dX11_key_15 (by decide) ?_
  exact jx_iret dX11_key_16 rfl rfl (jle rfl) (jle rfl) ⟨_, rfl, h⟩
set_option maxRecDepth 100000 in
set_option maxHeartbeats 4000000 in
theorem T_X11_step {E : jEnv} {d : Nat} {Q : jM → Prop} {a0 : Nat} {x1 : Int32} {x2 : Int32} {S : jM} (h : jk S a0 = 11 ∧ ∃ b2, jr S a0 0 = some b2 ∧ (jk S b2 = 12 ∧ vp_in ((ji S a0 28) + (2 * (ji S a0 27))) (jl S b2) ∧ (vp_in (((ji S a0 28) + (2 * (ji S a0 27))) + 1) (jl S b2) ∧ (Q (jput (jput (jput S b2 (Int32.toNatClampNeg ((ji S a0 28) + (2 * (ji S a0 27)))) x1) b2 (Int32.toNatClampNeg (((ji S a0 28) + (2 * (ji S a0 27))) + 1)) x2) a0 27 ((ji S a0 27) + 1)))))) : jFv E mX11_step d 0 0 [.ref a0, .int x1, .int x2] S Q := by
  refine jF_of (by decide) (jle rfl) ?_
  refine jx_lv (lv1 := [(0, .ref a0), (1, .int x1), (2, .int x2)]) [0, 1, 2] rfl ?_
  refine jx_aload_n 0 dX11_step_0 rfl rfl ?_
  obtain ⟨hk1, h⟩ := h
  obtain ⟨b2, hb2, h⟩ := h
  refine jx_getr jc_11 (j := 0) (by decide) rfl jwF_X11_7 dX11_step_1 hk1 hb2 ?_
  refine jx_aload_n 0 dX11_step_4 rfl rfl ?_
  refine jx_geti jc_11 (j := 28) (by decide) rfl jwF_X11_250 dX11_step_5 hk1 ?_
  refine jx_iconst (v := 2) dX11_step_8 (by decide) ?_
  refine jx_aload_n 0 dX11_step_9 rfl rfl ?_
  refine jx_geti jc_11 (j := 27) (by decide) rfl jwF_X11_253 dX11_step_10 hk1 ?_
  refine jx_imul dX11_step_13 ?_
  refine jx_iadd dX11_step_14 ?_
  refine jx_iload_n 1 dX11_step_15 rfl rfl ?_
  obtain ⟨hk3, h⟩ := h
  obtain ⟨hi4, h⟩ := h
  refine jx_iast dX11_step_16 hk3 hi4 ?_
  refine jx_aload_n 0 dX11_step_17 rfl rfl ?_
  refine jx_getr jc_11 (j := 0) (by decide) rfl jwF_X11_7 dX11_step_18 hk1 hb2 ?_
  refine jx_aload_n 0 dX11_step_21 rfl rfl ?_
  refine jx_geti jc_11 (j := 28) (by decide) rfl jwF_X11_250 dX11_step_22 hk1 ?_
  refine jx_topi (y := (ji S a0 28)) (by simp [ji_put, ji_row, ji_putr, jne hk1 hk3 (by decide)]) ?_
  refine jx_iconst (v := 2) dX11_step_25 (by decide) ?_
  refine jx_aload_n 0 dX11_step_26 rfl rfl ?_
  refine jx_geti jc_11 (j := 27) (by decide) rfl jwF_X11_253 dX11_step_27 hk1 ?_
  refine jx_topi (y := (ji S a0 27)) (by simp [ji_put, ji_row, ji_putr, jne hk1 hk3 (by decide)]) ?_
  refine jx_imul dX11_step_30 ?_
  refine jx_iadd dX11_step_31 ?_
  refine jx_iconst (v := 1) dX11_step_32 (by decide) ?_
  refine jx_iadd dX11_step_33 ?_
  refine jx_iload_n 2 dX11_step_34 rfl rfl ?_
  obtain ⟨hi5, h⟩ := h
  refine jx_iast dX11_step_35 hk3 hi5 ?_
  refine jx_aload_n 0 dX11_step_36 rfl rfl ?_
  refine jx_dup dX11_step_37 rfl ?_
  refine jx_geti jc_11 (j := 27) (by decide) rfl jwF_X11_253 dX11_step_38 hk1 ?_
  refine jx_topi (y := (ji S a0 27)) (by simp [ji_put, ji_row, ji_putr, jne hk1 hk3 (by decide), jne hk1 hk3 (by decide)]) ?_
  refine jx_iconst (v := 1) dX11_step_41 (by decide) ?_
  refine jx_iadd dX11_step_42 ?_
  refine jx_puti jc_11 (j := 27) (by decide) rfl jwF_X11_253 rfl rfl rfl dX11_step_43 hk1 ?_
  exact jx_vret dX11_step_46 rfl (jle rfl) (jle rfl) ⟨rfl, h⟩
/-- X11_either at its loop's head 10 -/
abbrev L_X11_either_10 (E : jEnv) (d : Nat) (Q : Int32 → jM → Prop) (a0 : Nat) (x1 : Int32) (S : jM) : Prop := jX E mX11_either (jRm (d + 1) 0 0) (jZm E (fun r S' => ∃ v : Int32, r = some (.int v) ∧ Q v S') 0 0) 10 [(0, .ref a0), (1, .int x1)] [] S 0 0
set_option maxRecDepth 100000 in
set_option maxHeartbeats 4000000 in
theorem T_X11_either {E : jEnv} {d : Nat} {Q : Int32 → jM → Prop} {a0 : Nat} {x1 : Int32} {S : jM} (h : jk S a0 = 11 ∧ jFi E mX11_both d 0 0 [.ref a0, .int x1] S (fun r3 S2 => (r3 = 0 → Q 0 S2) ∧ (¬ r3 = 0 → L_X11_either_10 E d Q a0 x1 S2))) : jFi E mX11_either (d + 1) 0 0 [.ref a0, .int x1] S Q := by
  refine jF_of (by decide) (jle rfl) ?_
  refine jx_lv (lv1 := [(0, .ref a0), (1, .int x1)]) [0, 1] rfl ?_
  refine jx_aload_n 0 dX11_either_0 rfl rfl ?_
  refine jx_iload_n 1 dX11_either_1 rfl rfl ?_
  obtain ⟨hk1, h⟩ := h
  refine jx_callVi (M' := mX11_both) (As := [.int x1]) jo_X11_both jc_11 rfl jwM_X11_256 jwN_X11_both jwX_X11_both dX11_either_2 (jRok_m _ _ _) rfl (jle rfl) ⟨jle rfl, jle rfl⟩ hk1 h (fun r3 S2 h => ?_)
  refine jx_if_ne (tgt := 10) dX11_either_5 (by decide) (fun c4 => ?_) (fun c4 => ?_)
  · replace h := h.2 c4
    exact jx_lv [0, 1] rfl h
  replace h := h.1 c4
  refine jx_iconst (v := 0) dX11_either_8 (by decide) ?_
  exact jx_iret dX11_either_9 rfl (by decide) (jle rfl) (jle rfl) ⟨_, rfl, h⟩
set_option maxRecDepth 100000 in
set_option maxHeartbeats 4000000 in
theorem T_X11_either_10 {E : jEnv} {d : Nat} {Q : Int32 → jM → Prop} {a0 : Nat} {x1 : Int32} {S : jM} (h : jk S a0 = 11 ∧ jFi E mX11_isSign d 0 0 [.ref a0, .int 124] S (fun r7 S6 => (r7 = 0 → Q 1 S6) ∧ (¬ r7 = 0 → jk S6 a0 = 11 ∧ jFv E mX11_nextToken d 0 0 [.ref a0] S6 (fun S10 => jk S10 a0 = 11 ∧ jFi E mX11_both d 0 0 [.ref a0, .int x1] S10 (fun r13 S12 => (r13 = 0 → Q 0 S12) ∧ (¬ r13 = 0 → jk S12 a0 = 11 ∧ jFv E mX11_step d 0 0 [.ref a0, .int 2, .int 124] S12 (fun S16 => L_X11_either_10 E d Q a0 x1 S16))))))) : L_X11_either_10 E d Q a0 x1 S := by
  show jX E mX11_either (jRm (d + 1) 0 0) (jZm E (fun r S' => ∃ v : Int32, r = some (.int v) ∧ Q v S') 0 0) 10 [(0, .ref a0), (1, .int x1)] [] S 0 0
  refine jx_aload_n 0 dX11_either_10 rfl rfl ?_
  refine jx_bipush (v := 124) dX11_either_11 (by decide) ?_
  obtain ⟨hk5, h⟩ := h
  refine jx_callVi (M' := mX11_isSign) (As := [.int 124]) jo_X11_isSign jc_11 rfl jwM_X11_259 jwN_X11_isSign jwX_X11_isSign dX11_either_13 (jRok_m _ _ _) rfl (jle rfl) ⟨jle rfl, jle rfl⟩ hk5 h (fun r7 S6 h => ?_)
  refine jx_if_eq (tgt := 43) dX11_either_16 (by decide) (fun c8 => ?_) (fun c8 => ?_)
  · replace h := h.1 c8
    refine jx_iconst (v := 1) dX11_either_43 (by decide) ?_
    exact jx_iret dX11_either_44 rfl (by decide) (jle rfl) (jle rfl) ⟨_, rfl, h⟩
  replace h := h.2 c8
  refine jx_aload_n 0 dX11_either_19 rfl rfl ?_
  obtain ⟨hk9, h⟩ := h
  refine jx_callVv (M' := mX11_nextToken) (As := []) jo_X11_nextToken jc_11 rfl jwM_X11_262 jwN_X11_nextToken jwX_X11_nextToken dX11_either_20 (jRok_m _ _ _) rfl (jle rfl) ⟨jle rfl, jle rfl⟩ hk9 h (fun S10 h => ?_)
  refine jx_aload_n 0 dX11_either_23 rfl rfl ?_
  refine jx_iload_n 1 dX11_either_24 rfl rfl ?_
  obtain ⟨hk11, h⟩ := h
  refine jx_callVi (M' := mX11_both) (As := [.int x1]) jo_X11_both jc_11 rfl jwM_X11_256 jwN_X11_both jwX_X11_both dX11_either_25 (jRok_m _ _ _) rfl (jle rfl) ⟨jle rfl, jle rfl⟩ hk11 h (fun r13 S12 h => ?_)
  refine jx_if_ne (tgt := 33) dX11_either_28 (by decide) (fun c14 => ?_) (fun c14 => ?_)
  · replace h := h.2 c14
    refine jx_aload_n 0 dX11_either_33 rfl rfl ?_
    refine jx_iconst (v := 2) dX11_either_34 (by decide) ?_
    refine jx_bipush (v := 124) dX11_either_35 (by decide) ?_
    obtain ⟨hk15, h⟩ := h
    refine jx_callVv (M' := mX11_step) (As := [.int 2, .int 124]) jo_X11_step jc_11 rfl jwM_X11_265 jwN_X11_step jwX_X11_step dX11_either_37 (jRok_m _ _ _) rfl (jle rfl) ⟨jle rfl, jle rfl⟩ hk15 h (fun S16 h => ?_)
    refine jx_goto (tgt := 10) kd87 (by decide) ?_
    exact jx_lv [0, 1] rfl h
  replace h := h.1 c14
  refine jx_iconst (v := 0) dX11_either_31 (by decide) ?_
  exact jx_iret dX11_either_32 rfl (by decide) (jle rfl) (jle rfl) ⟨_, rfl, h⟩
/-- X11_both at its loop's head 10 -/
abbrev L_X11_both_10 (E : jEnv) (d : Nat) (Q : Int32 → jM → Prop) (a0 : Nat) (x1 : Int32) (S : jM) : Prop := jX E mX11_both (jRm (d + 1) 0 0) (jZm E (fun r S' => ∃ v : Int32, r = some (.int v) ∧ Q v S') 0 0) 10 [(0, .ref a0), (1, .int x1)] [] S 0 0
set_option maxRecDepth 100000 in
set_option maxHeartbeats 4000000 in
theorem T_X11_both {E : jEnv} {d : Nat} {Q : Int32 → jM → Prop} {a0 : Nat} {x1 : Int32} {S : jM} (h : jk S a0 = 11 ∧ jFi E mX11_test d 0 0 [.ref a0, .int x1] S (fun r3 S2 => (r3 = 0 → Q 0 S2) ∧ (¬ r3 = 0 → L_X11_both_10 E d Q a0 x1 S2))) : jFi E mX11_both (d + 1) 0 0 [.ref a0, .int x1] S Q := by
  refine jF_of (by decide) (jle rfl) ?_
  refine jx_lv (lv1 := [(0, .ref a0), (1, .int x1)]) [0, 1] rfl ?_
  refine jx_aload_n 0 dX11_both_0 rfl rfl ?_
  refine jx_iload_n 1 dX11_both_1 rfl rfl ?_
  obtain ⟨hk1, h⟩ := h
  refine jx_callVi (M' := mX11_test) (As := [.int x1]) jo_X11_test jc_11 rfl jwM_X11_269 jwN_X11_test jwX_X11_test dX11_both_2 (jRok_m _ _ _) rfl (jle rfl) ⟨jle rfl, jle rfl⟩ hk1 h (fun r3 S2 h => ?_)
  refine jx_if_ne (tgt := 10) dX11_both_5 (by decide) (fun c4 => ?_) (fun c4 => ?_)
  · replace h := h.2 c4
    exact jx_lv [0, 1] rfl h
  replace h := h.1 c4
  refine jx_iconst (v := 0) dX11_both_8 (by decide) ?_
  exact jx_iret dX11_both_9 rfl (by decide) (jle rfl) (jle rfl) ⟨_, rfl, h⟩
set_option maxRecDepth 100000 in
set_option maxHeartbeats 4000000 in
theorem T_X11_both_10 {E : jEnv} {d : Nat} {Q : Int32 → jM → Prop} {a0 : Nat} {x1 : Int32} {S : jM} (h : jk S a0 = 11 ∧ jFi E mX11_isSign d 0 0 [.ref a0, .int 38] S (fun r7 S6 => (r7 = 0 → Q 1 S6) ∧ (¬ r7 = 0 → jk S6 a0 = 11 ∧ jFv E mX11_nextToken d 0 0 [.ref a0] S6 (fun S10 => jk S10 a0 = 11 ∧ jFi E mX11_test d 0 0 [.ref a0, .int x1] S10 (fun r13 S12 => (r13 = 0 → Q 0 S12) ∧ (¬ r13 = 0 → jk S12 a0 = 11 ∧ jFv E mX11_step d 0 0 [.ref a0, .int 2, .int 38] S12 (fun S16 => L_X11_both_10 E d Q a0 x1 S16))))))) : L_X11_both_10 E d Q a0 x1 S := by
  show jX E mX11_both (jRm (d + 1) 0 0) (jZm E (fun r S' => ∃ v : Int32, r = some (.int v) ∧ Q v S') 0 0) 10 [(0, .ref a0), (1, .int x1)] [] S 0 0
  refine jx_aload_n 0 dX11_both_10 rfl rfl ?_
  refine jx_bipush (v := 38) dX11_both_11 (by decide) ?_
  obtain ⟨hk5, h⟩ := h
  refine jx_callVi (M' := mX11_isSign) (As := [.int 38]) jo_X11_isSign jc_11 rfl jwM_X11_259 jwN_X11_isSign jwX_X11_isSign dX11_both_13 (jRok_m _ _ _) rfl (jle rfl) ⟨jle rfl, jle rfl⟩ hk5 h (fun r7 S6 h => ?_)
  refine jx_if_eq (tgt := 43) dX11_both_16 (by decide) (fun c8 => ?_) (fun c8 => ?_)
  · replace h := h.1 c8
    refine jx_iconst (v := 1) dX11_both_43 (by decide) ?_
    exact jx_iret dX11_both_44 rfl (by decide) (jle rfl) (jle rfl) ⟨_, rfl, h⟩
  replace h := h.2 c8
  refine jx_aload_n 0 dX11_both_19 rfl rfl ?_
  obtain ⟨hk9, h⟩ := h
  refine jx_callVv (M' := mX11_nextToken) (As := []) jo_X11_nextToken jc_11 rfl jwM_X11_262 jwN_X11_nextToken jwX_X11_nextToken dX11_both_20 (jRok_m _ _ _) rfl (jle rfl) ⟨jle rfl, jle rfl⟩ hk9 h (fun S10 h => ?_)
  refine jx_aload_n 0 dX11_both_23 rfl rfl ?_
  refine jx_iload_n 1 dX11_both_24 rfl rfl ?_
  obtain ⟨hk11, h⟩ := h
  refine jx_callVi (M' := mX11_test) (As := [.int x1]) jo_X11_test jc_11 rfl jwM_X11_269 jwN_X11_test jwX_X11_test dX11_both_25 (jRok_m _ _ _) rfl (jle rfl) ⟨jle rfl, jle rfl⟩ hk11 h (fun r13 S12 h => ?_)
  refine jx_if_ne (tgt := 33) dX11_both_28 (by decide) (fun c14 => ?_) (fun c14 => ?_)
  · replace h := h.2 c14
    refine jx_aload_n 0 dX11_both_33 rfl rfl ?_
    refine jx_iconst (v := 2) dX11_both_34 (by decide) ?_
    refine jx_bipush (v := 38) dX11_both_35 (by decide) ?_
    obtain ⟨hk15, h⟩ := h
    refine jx_callVv (M' := mX11_step) (As := [.int 2, .int 38]) jo_X11_step jc_11 rfl jwM_X11_265 jwN_X11_step jwX_X11_step dX11_both_37 (jRok_m _ _ _) rfl (jle rfl) ⟨jle rfl, jle rfl⟩ hk15 h (fun S16 h => ?_)
    refine jx_goto (tgt := 10) kd88 (by decide) ?_
    exact jx_lv [0, 1] rfl h
  replace h := h.1 c14
  refine jx_iconst (v := 0) dX11_both_31 (by decide) ?_
  exact jx_iret dX11_both_32 rfl (by decide) (jle rfl) (jle rfl) ⟨_, rfl, h⟩
set_option maxRecDepth 100000 in
set_option maxHeartbeats 4000000 in
theorem T_X11_test {E : jEnv} {d : Nat} {Q : Int32 → jM → Prop} {a0 : Nat} {x1 : Int32} {S : jM} (h : jk S a0 = 11 ∧ jFi E mX11_sum d 0 0 [.ref a0, .int x1] S (fun r3 S2 => (r3 = 0 → Q 0 S2) ∧ (¬ r3 = 0 → jk S2 a0 = 11 ∧ jFi E mX11_isSign d 0 0 [.ref a0, .int 60] S2 (fun r7 S6 => (r7 = 0 → jk S6 a0 = 11 ∧ jFi E mX11_isSign d 0 0 [.ref a0, .int 61] S6 (fun r19 S18 => (r19 = 0 → jk S18 a0 = 11 ∧ jFi E mX11_isSign d 0 0 [.ref a0, .int 62] S18 (fun r31 S30 => (r31 = 0 → Q 1 S30) ∧ (¬ r31 = 0 → jk S30 a0 = 11 ∧ jFv E mX11_nextToken d 0 0 [.ref a0] S30 (fun S34 => jk S34 a0 = 11 ∧ jFi E mX11_sum d 0 0 [.ref a0, .int x1] S34 (fun r37 S36 => (r37 = 0 → Q 0 S36) ∧ (¬ r37 = 0 → jk S36 a0 = 11 ∧ jFv E mX11_step d 0 0 [.ref a0, .int 2, .int (ji S30 a0 24)] S36 (fun S40 => Q 1 S40))))))) ∧ (¬ r19 = 0 → jk S18 a0 = 11 ∧ jFv E mX11_nextToken d 0 0 [.ref a0] S18 (fun S22 => jk S22 a0 = 11 ∧ jFi E mX11_sum d 0 0 [.ref a0, .int x1] S22 (fun r25 S24 => (r25 = 0 → Q 0 S24) ∧ (¬ r25 = 0 → jk S24 a0 = 11 ∧ jFv E mX11_step d 0 0 [.ref a0, .int 2, .int (ji S18 a0 24)] S24 (fun S28 => Q 1 S28))))))) ∧ (¬ r7 = 0 → jk S6 a0 = 11 ∧ jFv E mX11_nextToken d 0 0 [.ref a0] S6 (fun S10 => jk S10 a0 = 11 ∧ jFi E mX11_sum d 0 0 [.ref a0, .int x1] S10 (fun r13 S12 => (r13 = 0 → Q 0 S12) ∧ (¬ r13 = 0 → jk S12 a0 = 11 ∧ jFv E mX11_step d 0 0 [.ref a0, .int 2, .int (ji S6 a0 24)] S12 (fun S16 => Q 1 S16))))))))) : jFi E mX11_test (d + 1) 0 0 [.ref a0, .int x1] S Q := by
  refine jF_of (by decide) (jle rfl) ?_
  refine jx_lv (lv1 := [(0, .ref a0), (1, .int x1)]) [0, 1] rfl ?_
  refine jx_aload_n 0 dX11_test_0 rfl rfl ?_
  refine jx_iload_n 1 dX11_test_1 rfl rfl ?_
  obtain ⟨hk1, h⟩ := h
  refine jx_callVi (M' := mX11_sum) (As := [.int x1]) jo_X11_sum jc_11 rfl jwM_X11_272 jwN_X11_sum jwX_X11_sum dX11_test_2 (jRok_m _ _ _) rfl (jle rfl) ⟨jle rfl, jle rfl⟩ hk1 h (fun r3 S2 h => ?_)
  refine jx_if_ne (tgt := 10) dX11_test_5 (by decide) (fun c4 => ?_) (fun c4 => ?_)
  · replace h := h.2 c4
    refine jx_aload_n 0 dX11_test_10 rfl rfl ?_
    refine jx_bipush (v := 60) dX11_test_11 (by decide) ?_
    obtain ⟨hk5, h⟩ := h
    refine jx_callVi (M' := mX11_isSign) (As := [.int 60]) jo_X11_isSign jc_11 rfl jwM_X11_259 jwN_X11_isSign jwX_X11_isSign dX11_test_13 (jRok_m _ _ _) rfl (jle rfl) ⟨jle rfl, jle rfl⟩ hk5 h (fun r7 S6 h => ?_)
    refine jx_if_ne (tgt := 37) dX11_test_16 (by decide) (fun c8 => ?_) (fun c8 => ?_)
    · replace h := h.2 c8
      refine jx_aload_n 0 dX11_test_37 rfl rfl ?_
      obtain ⟨hk9, h⟩ := h
      refine jx_geti jc_11 (j := 24) (by decide) rfl jwF_X11_237 dX11_test_38 hk9 ?_
      refine jx_istore_n (lv1 := [(2, .int (ji S6 a0 24)), (0, .ref a0), (1, .int x1)]) dX11_test_41 rfl (by decide) rfl ?_
      refine jx_aload_n 1 dX11_test_42 rfl rfl ?_
      refine jx_callVv (M' := mX11_nextToken) (As := []) jo_X11_nextToken jc_11 rfl jwM_X11_262 jwN_X11_nextToken jwX_X11_nextToken dX11_test_43 (jRok_m _ _ _) rfl (jle rfl) ⟨jle rfl, jle rfl⟩ hk9 h (fun S10 h => ?_)
      refine jx_aload_n 1 dX11_test_46 rfl rfl ?_
      refine jx_iload_n 2 dX11_test_47 rfl rfl ?_
      obtain ⟨hk11, h⟩ := h
      refine jx_callVi (M' := mX11_sum) (As := [.int x1]) jo_X11_sum jc_11 rfl jwM_X11_272 jwN_X11_sum jwX_X11_sum dX11_test_48 (jRok_m _ _ _) rfl (jle rfl) ⟨jle rfl, jle rfl⟩ hk11 h (fun r13 S12 h => ?_)
      refine jx_if_ne (tgt := 56) dX11_test_51 (by decide) (fun c14 => ?_) (fun c14 => ?_)
      · replace h := h.2 c14
        refine jx_aload_n 1 dX11_test_56 rfl rfl ?_
        refine jx_iconst (v := 2) dX11_test_57 (by decide) ?_
        refine jx_iload_n 0 dX11_test_58 rfl rfl ?_
        obtain ⟨hk15, h⟩ := h
        refine jx_callVv (M' := mX11_step) (As := [.int 2, .int (ji S6 a0 24)]) jo_X11_step jc_11 rfl jwM_X11_265 jwN_X11_step jwX_X11_step dX11_test_59 (jRok_m _ _ _) rfl (jle rfl) ⟨jle rfl, jle rfl⟩ hk15 h (fun S16 h => ?_)
        refine jx_iconst (v := 1) dX11_test_62 (by decide) ?_
        exact jx_iret dX11_test_63 rfl (by decide) (jle rfl) (jle rfl) ⟨_, rfl, h⟩
      replace h := h.1 c14
      refine jx_iconst (v := 0) dX11_test_54 (by decide) ?_
      exact jx_iret dX11_test_55 rfl (by decide) (jle rfl) (jle rfl) ⟨_, rfl, h⟩
    replace h := h.1 c8
    refine jx_aload_n 0 dX11_test_19 rfl rfl ?_
    refine jx_bipush (v := 61) dX11_test_20 (by decide) ?_
    obtain ⟨hk17, h⟩ := h
    refine jx_callVi (M' := mX11_isSign) (As := [.int 61]) jo_X11_isSign jc_11 rfl jwM_X11_259 jwN_X11_isSign jwX_X11_isSign dX11_test_22 (jRok_m _ _ _) rfl (jle rfl) ⟨jle rfl, jle rfl⟩ hk17 h (fun r19 S18 h => ?_)
    refine jx_if_ne (tgt := 37) dX11_test_25 (by decide) (fun c20 => ?_) (fun c20 => ?_)
    · replace h := h.2 c20
      refine jx_aload_n 0 dX11_test_37 rfl rfl ?_
      obtain ⟨hk21, h⟩ := h
      refine jx_geti jc_11 (j := 24) (by decide) rfl jwF_X11_237 dX11_test_38 hk21 ?_
      refine jx_istore_n (lv1 := [(2, .int (ji S18 a0 24)), (0, .ref a0), (1, .int x1)]) dX11_test_41 rfl (by decide) rfl ?_
      refine jx_aload_n 1 dX11_test_42 rfl rfl ?_
      refine jx_callVv (M' := mX11_nextToken) (As := []) jo_X11_nextToken jc_11 rfl jwM_X11_262 jwN_X11_nextToken jwX_X11_nextToken dX11_test_43 (jRok_m _ _ _) rfl (jle rfl) ⟨jle rfl, jle rfl⟩ hk21 h (fun S22 h => ?_)
      refine jx_aload_n 1 dX11_test_46 rfl rfl ?_
      refine jx_iload_n 2 dX11_test_47 rfl rfl ?_
      obtain ⟨hk23, h⟩ := h
      refine jx_callVi (M' := mX11_sum) (As := [.int x1]) jo_X11_sum jc_11 rfl jwM_X11_272 jwN_X11_sum jwX_X11_sum dX11_test_48 (jRok_m _ _ _) rfl (jle rfl) ⟨jle rfl, jle rfl⟩ hk23 h (fun r25 S24 h => ?_)
      refine jx_if_ne (tgt := 56) dX11_test_51 (by decide) (fun c26 => ?_) (fun c26 => ?_)
      · replace h := h.2 c26
        refine jx_aload_n 1 dX11_test_56 rfl rfl ?_
        refine jx_iconst (v := 2) dX11_test_57 (by decide) ?_
        refine jx_iload_n 0 dX11_test_58 rfl rfl ?_
        obtain ⟨hk27, h⟩ := h
        refine jx_callVv (M' := mX11_step) (As := [.int 2, .int (ji S18 a0 24)]) jo_X11_step jc_11 rfl jwM_X11_265 jwN_X11_step jwX_X11_step dX11_test_59 (jRok_m _ _ _) rfl (jle rfl) ⟨jle rfl, jle rfl⟩ hk27 h (fun S28 h => ?_)
        refine jx_iconst (v := 1) dX11_test_62 (by decide) ?_
        exact jx_iret dX11_test_63 rfl (by decide) (jle rfl) (jle rfl) ⟨_, rfl, h⟩
      replace h := h.1 c26
      refine jx_iconst (v := 0) dX11_test_54 (by decide) ?_
      exact jx_iret dX11_test_55 rfl (by decide) (jle rfl) (jle rfl) ⟨_, rfl, h⟩
    replace h := h.1 c20
    refine jx_aload_n 0 dX11_test_28 rfl rfl ?_
    refine jx_bipush (v := 62) dX11_test_29 (by decide) ?_
    obtain ⟨hk29, h⟩ := h
    refine jx_callVi (M' := mX11_isSign) (As := [.int 62]) jo_X11_isSign jc_11 rfl jwM_X11_259 jwN_X11_isSign jwX_X11_isSign dX11_test_31 (jRok_m _ _ _) rfl (jle rfl) ⟨jle rfl, jle rfl⟩ hk29 h (fun r31 S30 h => ?_)
    refine jx_if_eq (tgt := 62) dX11_test_34 (by decide) (fun c32 => ?_) (fun c32 => ?_)
    · replace h := h.1 c32
      refine jx_iconst (v := 1) dX11_test_62 (by decide) ?_
      exact jx_iret dX11_test_63 rfl (by decide) (jle rfl) (jle rfl) ⟨_, rfl, h⟩
    replace h := h.2 c32
    refine jx_aload_n 0 dX11_test_37 rfl rfl ?_
    obtain ⟨hk33, h⟩ := h
    refine jx_geti jc_11 (j := 24) (by decide) rfl jwF_X11_237 dX11_test_38 hk33 ?_
    refine jx_istore_n (lv1 := [(2, .int (ji S30 a0 24)), (0, .ref a0), (1, .int x1)]) dX11_test_41 rfl (by decide) rfl ?_
    refine jx_aload_n 1 dX11_test_42 rfl rfl ?_
    refine jx_callVv (M' := mX11_nextToken) (As := []) jo_X11_nextToken jc_11 rfl jwM_X11_262 jwN_X11_nextToken jwX_X11_nextToken dX11_test_43 (jRok_m _ _ _) rfl (jle rfl) ⟨jle rfl, jle rfl⟩ hk33 h (fun S34 h => ?_)
    refine jx_aload_n 1 dX11_test_46 rfl rfl ?_
    refine jx_iload_n 2 dX11_test_47 rfl rfl ?_
    obtain ⟨hk35, h⟩ := h
    refine jx_callVi (M' := mX11_sum) (As := [.int x1]) jo_X11_sum jc_11 rfl jwM_X11_272 jwN_X11_sum jwX_X11_sum dX11_test_48 (jRok_m _ _ _) rfl (jle rfl) ⟨jle rfl, jle rfl⟩ hk35 h (fun r37 S36 h => ?_)
    refine jx_if_ne (tgt := 56) dX11_test_51 (by decide) (fun c38 => ?_) (fun c38 => ?_)
    · replace h := h.2 c38
      refine jx_aload_n 1 dX11_test_56 rfl rfl ?_
      refine jx_iconst (v := 2) dX11_test_57 (by decide) ?_
      refine jx_iload_n 0 dX11_test_58 rfl rfl ?_
      obtain ⟨hk39, h⟩ := h
      refine jx_callVv (M' := mX11_step) (As := [.int 2, .int (ji S30 a0 24)]) jo_X11_step jc_11 rfl jwM_X11_265 jwN_X11_step jwX_X11_step dX11_test_59 (jRok_m _ _ _) rfl (jle rfl) ⟨jle rfl, jle rfl⟩ hk39 h (fun S40 h => ?_)
      refine jx_iconst (v := 1) dX11_test_62 (by decide) ?_
      exact jx_iret dX11_test_63 rfl (by decide) (jle rfl) (jle rfl) ⟨_, rfl, h⟩
    replace h := h.1 c38
    refine jx_iconst (v := 0) dX11_test_54 (by decide) ?_
    exact jx_iret dX11_test_55 rfl (by decide) (jle rfl) (jle rfl) ⟨_, rfl, h⟩
  replace h := h.1 c4
  refine jx_iconst (v := 0) dX11_test_8 (by decide) ?_
  exact jx_iret dX11_test_9 rfl (by decide) (jle rfl) (jle rfl) ⟨_, rfl, h⟩
/-- X11_sum at its loop's head 10 -/
abbrev L_X11_sum_10 (E : jEnv) (d : Nat) (Q : Int32 → jM → Prop) (a0 : Nat) (x1 : Int32) (S : jM) : Prop := jX E mX11_sum (jRm (d + 1) 0 0) (jZm E (fun r S' => ∃ v : Int32, r = some (.int v) ∧ Q v S') 0 0) 10 [(0, .ref a0), (1, .int x1)] [] S 0 0
set_option maxRecDepth 100000 in
set_option maxHeartbeats 4000000 in
theorem T_X11_sum {E : jEnv} {d : Nat} {Q : Int32 → jM → Prop} {a0 : Nat} {x1 : Int32} {S : jM} (h : jk S a0 = 11 ∧ jFi E mX11_term d 0 0 [.ref a0, .int x1] S (fun r3 S2 => (r3 = 0 → Q 0 S2) ∧ (¬ r3 = 0 → L_X11_sum_10 E d Q a0 x1 S2))) : jFi E mX11_sum (d + 1) 0 0 [.ref a0, .int x1] S Q := by
  refine jF_of (by decide) (jle rfl) ?_
  refine jx_lv (lv1 := [(0, .ref a0), (1, .int x1)]) [0, 1] rfl ?_
  refine jx_aload_n 0 dX11_sum_0 rfl rfl ?_
  refine jx_iload_n 1 dX11_sum_1 rfl rfl ?_
  obtain ⟨hk1, h⟩ := h
  refine jx_callVi (M' := mX11_term) (As := [.int x1]) jo_X11_term jc_11 rfl jwM_X11_275 jwN_X11_term jwX_X11_term dX11_sum_2 (jRok_m _ _ _) rfl (jle rfl) ⟨jle rfl, jle rfl⟩ hk1 h (fun r3 S2 h => ?_)
  refine jx_if_ne (tgt := 10) dX11_sum_5 (by decide) (fun c4 => ?_) (fun c4 => ?_)
  · replace h := h.2 c4
    exact jx_lv [0, 1] rfl h
  replace h := h.1 c4
  refine jx_iconst (v := 0) dX11_sum_8 (by decide) ?_
  exact jx_iret dX11_sum_9 rfl (by decide) (jle rfl) (jle rfl) ⟨_, rfl, h⟩
set_option maxRecDepth 100000 in
set_option maxHeartbeats 4000000 in
theorem T_X11_sum_10 {E : jEnv} {d : Nat} {Q : Int32 → jM → Prop} {a0 : Nat} {x1 : Int32} {S : jM} (h : jk S a0 = 11 ∧ jFi E mX11_isSign d 0 0 [.ref a0, .int 43] S (fun r7 S6 => (r7 = 0 → jk S6 a0 = 11 ∧ jFi E mX11_isSign d 0 0 [.ref a0, .int 45] S6 (fun r19 S18 => (r19 = 0 → Q 1 S18) ∧ (¬ r19 = 0 → jk S18 a0 = 11 ∧ jFv E mX11_nextToken d 0 0 [.ref a0] S18 (fun S22 => jk S22 a0 = 11 ∧ jFi E mX11_term d 0 0 [.ref a0, .int x1] S22 (fun r25 S24 => (r25 = 0 → Q 0 S24) ∧ (¬ r25 = 0 → jk S24 a0 = 11 ∧ jFv E mX11_step d 0 0 [.ref a0, .int 2, .int (ji S18 a0 24)] S24 (fun S28 => L_X11_sum_10 E d Q a0 x1 S28))))))) ∧ (¬ r7 = 0 → jk S6 a0 = 11 ∧ jFv E mX11_nextToken d 0 0 [.ref a0] S6 (fun S10 => jk S10 a0 = 11 ∧ jFi E mX11_term d 0 0 [.ref a0, .int x1] S10 (fun r13 S12 => (r13 = 0 → Q 0 S12) ∧ (¬ r13 = 0 → jk S12 a0 = 11 ∧ jFv E mX11_step d 0 0 [.ref a0, .int 2, .int (ji S6 a0 24)] S12 (fun S16 => L_X11_sum_10 E d Q a0 x1 S16))))))) : L_X11_sum_10 E d Q a0 x1 S := by
  show jX E mX11_sum (jRm (d + 1) 0 0) (jZm E (fun r S' => ∃ v : Int32, r = some (.int v) ∧ Q v S') 0 0) 10 [(0, .ref a0), (1, .int x1)] [] S 0 0
  refine jx_aload_n 0 dX11_sum_10 rfl rfl ?_
  refine jx_bipush (v := 43) dX11_sum_11 (by decide) ?_
  obtain ⟨hk5, h⟩ := h
  refine jx_callVi (M' := mX11_isSign) (As := [.int 43]) jo_X11_isSign jc_11 rfl jwM_X11_259 jwN_X11_isSign jwX_X11_isSign dX11_sum_13 (jRok_m _ _ _) rfl (jle rfl) ⟨jle rfl, jle rfl⟩ hk5 h (fun r7 S6 h => ?_)
  refine jx_if_ne (tgt := 28) dX11_sum_16 (by decide) (fun c8 => ?_) (fun c8 => ?_)
  · replace h := h.2 c8
    refine jx_aload_n 0 dX11_sum_28 rfl rfl ?_
    obtain ⟨hk9, h⟩ := h
    refine jx_geti jc_11 (j := 24) (by decide) rfl jwF_X11_237 dX11_sum_29 hk9 ?_
    refine jx_istore_n (lv1 := [(2, .int (ji S6 a0 24)), (0, .ref a0), (1, .int x1)]) dX11_sum_32 rfl (by decide) rfl ?_
    refine jx_aload_n 1 dX11_sum_33 rfl rfl ?_
    refine jx_callVv (M' := mX11_nextToken) (As := []) jo_X11_nextToken jc_11 rfl jwM_X11_262 jwN_X11_nextToken jwX_X11_nextToken dX11_sum_34 (jRok_m _ _ _) rfl (jle rfl) ⟨jle rfl, jle rfl⟩ hk9 h (fun S10 h => ?_)
    refine jx_aload_n 1 dX11_sum_37 rfl rfl ?_
    refine jx_iload_n 2 dX11_sum_38 rfl rfl ?_
    obtain ⟨hk11, h⟩ := h
    refine jx_callVi (M' := mX11_term) (As := [.int x1]) jo_X11_term jc_11 rfl jwM_X11_275 jwN_X11_term jwX_X11_term dX11_sum_39 (jRok_m _ _ _) rfl (jle rfl) ⟨jle rfl, jle rfl⟩ hk11 h (fun r13 S12 h => ?_)
    refine jx_if_ne (tgt := 47) dX11_sum_42 (by decide) (fun c14 => ?_) (fun c14 => ?_)
    · replace h := h.2 c14
      refine jx_aload_n 1 dX11_sum_47 rfl rfl ?_
      refine jx_iconst (v := 2) dX11_sum_48 (by decide) ?_
      refine jx_iload_n 0 dX11_sum_49 rfl rfl ?_
      obtain ⟨hk15, h⟩ := h
      refine jx_callVv (M' := mX11_step) (As := [.int 2, .int (ji S6 a0 24)]) jo_X11_step jc_11 rfl jwM_X11_265 jwN_X11_step jwX_X11_step dX11_sum_50 (jRok_m _ _ _) rfl (jle rfl) ⟨jle rfl, jle rfl⟩ hk15 h (fun S16 h => ?_)
      refine jx_goto (tgt := 10) kd89 (by decide) ?_
      exact jx_lv [1, 2] rfl h
    replace h := h.1 c14
    refine jx_iconst (v := 0) dX11_sum_45 (by decide) ?_
    exact jx_iret dX11_sum_46 rfl (by decide) (jle rfl) (jle rfl) ⟨_, rfl, h⟩
  replace h := h.1 c8
  refine jx_aload_n 0 dX11_sum_19 rfl rfl ?_
  refine jx_bipush (v := 45) dX11_sum_20 (by decide) ?_
  obtain ⟨hk17, h⟩ := h
  refine jx_callVi (M' := mX11_isSign) (As := [.int 45]) jo_X11_isSign jc_11 rfl jwM_X11_259 jwN_X11_isSign jwX_X11_isSign dX11_sum_22 (jRok_m _ _ _) rfl (jle rfl) ⟨jle rfl, jle rfl⟩ hk17 h (fun r19 S18 h => ?_)
  refine jx_if_eq (tgt := 56) dX11_sum_25 (by decide) (fun c20 => ?_) (fun c20 => ?_)
  · replace h := h.1 c20
    refine jx_iconst (v := 1) dX11_sum_56 (by decide) ?_
    exact jx_iret dX11_sum_57 rfl (by decide) (jle rfl) (jle rfl) ⟨_, rfl, h⟩
  replace h := h.2 c20
  refine jx_aload_n 0 dX11_sum_28 rfl rfl ?_
  obtain ⟨hk21, h⟩ := h
  refine jx_geti jc_11 (j := 24) (by decide) rfl jwF_X11_237 dX11_sum_29 hk21 ?_
  refine jx_istore_n (lv1 := [(2, .int (ji S18 a0 24)), (0, .ref a0), (1, .int x1)]) dX11_sum_32 rfl (by decide) rfl ?_
  refine jx_aload_n 1 dX11_sum_33 rfl rfl ?_
  refine jx_callVv (M' := mX11_nextToken) (As := []) jo_X11_nextToken jc_11 rfl jwM_X11_262 jwN_X11_nextToken jwX_X11_nextToken dX11_sum_34 (jRok_m _ _ _) rfl (jle rfl) ⟨jle rfl, jle rfl⟩ hk21 h (fun S22 h => ?_)
  refine jx_aload_n 1 dX11_sum_37 rfl rfl ?_
  refine jx_iload_n 2 dX11_sum_38 rfl rfl ?_
  obtain ⟨hk23, h⟩ := h
  refine jx_callVi (M' := mX11_term) (As := [.int x1]) jo_X11_term jc_11 rfl jwM_X11_275 jwN_X11_term jwX_X11_term dX11_sum_39 (jRok_m _ _ _) rfl (jle rfl) ⟨jle rfl, jle rfl⟩ hk23 h (fun r25 S24 h => ?_)
  refine jx_if_ne (tgt := 47) dX11_sum_42 (by decide) (fun c26 => ?_) (fun c26 => ?_)
  · replace h := h.2 c26
    refine jx_aload_n 1 dX11_sum_47 rfl rfl ?_
    refine jx_iconst (v := 2) dX11_sum_48 (by decide) ?_
    refine jx_iload_n 0 dX11_sum_49 rfl rfl ?_
    obtain ⟨hk27, h⟩ := h
    refine jx_callVv (M' := mX11_step) (As := [.int 2, .int (ji S18 a0 24)]) jo_X11_step jc_11 rfl jwM_X11_265 jwN_X11_step jwX_X11_step dX11_sum_50 (jRok_m _ _ _) rfl (jle rfl) ⟨jle rfl, jle rfl⟩ hk27 h (fun S28 h => ?_)
    refine jx_goto (tgt := 10) kd89 (by decide) ?_
    exact jx_lv [1, 2] rfl h
  replace h := h.1 c26
  refine jx_iconst (v := 0) dX11_sum_45 (by decide) ?_
  exact jx_iret dX11_sum_46 rfl (by decide) (jle rfl) (jle rfl) ⟨_, rfl, h⟩
/-- X11_term at its loop's head 10 -/
abbrev L_X11_term_10 (E : jEnv) (d : Nat) (Q : Int32 → jM → Prop) (a0 : Nat) (x1 : Int32) (S : jM) : Prop := jX E mX11_term (jRm (d + 1) 0 0) (jZm E (fun r S' => ∃ v : Int32, r = some (.int v) ∧ Q v S') 0 0) 10 [(0, .ref a0), (1, .int x1)] [] S 0 0
set_option maxRecDepth 100000 in
set_option maxHeartbeats 4000000 in
theorem T_X11_term {E : jEnv} {d : Nat} {Q : Int32 → jM → Prop} {a0 : Nat} {x1 : Int32} {S : jM} (h : jk S a0 = 11 ∧ jFi E mX11_part0 d 0 0 [.ref a0, .int x1] S (fun r3 S2 => (r3 = 0 → Q 0 S2) ∧ (¬ r3 = 0 → L_X11_term_10 E d Q a0 x1 S2))) : jFi E mX11_term (d + 1) 0 0 [.ref a0, .int x1] S Q := by
  refine jF_of (by decide) (jle rfl) ?_
  refine jx_lv (lv1 := [(0, .ref a0), (1, .int x1)]) [0, 1] rfl ?_
  refine jx_aload_n 0 dX11_term_0 rfl rfl ?_
  refine jx_iload_n 1 dX11_term_1 rfl rfl ?_
  obtain ⟨hk1, h⟩ := h
  refine jx_callVi (M' := mX11_part0) (As := [.int x1]) jo_X11_part0 jc_11 rfl jwM_X11_278 jwN_X11_part0 jwX_X11_part0 dX11_term_2 (jRok_m _ _ _) rfl (jle rfl) ⟨jle rfl, jle rfl⟩ hk1 h (fun r3 S2 h => ?_)
  refine jx_if_ne (tgt := 10) dX11_term_5 (by decide) (fun c4 => ?_) (fun c4 => ?_)
  · replace h := h.2 c4
    exact jx_lv [0, 1] rfl h
  replace h := h.1 c4
  refine jx_iconst (v := 0) dX11_term_8 (by decide) ?_
  exact jx_iret dX11_term_9 rfl (by decide) (jle rfl) (jle rfl) ⟨_, rfl, h⟩
set_option maxRecDepth 100000 in
set_option maxHeartbeats 4000000 in
theorem T_X11_term_10 {E : jEnv} {d : Nat} {Q : Int32 → jM → Prop} {a0 : Nat} {x1 : Int32} {S : jM} (h : jk S a0 = 11 ∧ jFi E mX11_isSign d 0 0 [.ref a0, .int 42] S (fun r7 S6 => (r7 = 0 → jk S6 a0 = 11 ∧ jFi E mX11_isSign d 0 0 [.ref a0, .int 47] S6 (fun r19 S18 => (r19 = 0 → Q 1 S18) ∧ (¬ r19 = 0 → jk S18 a0 = 11 ∧ jFv E mX11_nextToken d 0 0 [.ref a0] S18 (fun S22 => jk S22 a0 = 11 ∧ jFi E mX11_part0 d 0 0 [.ref a0, .int x1] S22 (fun r25 S24 => (r25 = 0 → Q 0 S24) ∧ (¬ r25 = 0 → jk S24 a0 = 11 ∧ jFv E mX11_step d 0 0 [.ref a0, .int 2, .int (ji S18 a0 24)] S24 (fun S28 => L_X11_term_10 E d Q a0 x1 S28))))))) ∧ (¬ r7 = 0 → jk S6 a0 = 11 ∧ jFv E mX11_nextToken d 0 0 [.ref a0] S6 (fun S10 => jk S10 a0 = 11 ∧ jFi E mX11_part0 d 0 0 [.ref a0, .int x1] S10 (fun r13 S12 => (r13 = 0 → Q 0 S12) ∧ (¬ r13 = 0 → jk S12 a0 = 11 ∧ jFv E mX11_step d 0 0 [.ref a0, .int 2, .int (ji S6 a0 24)] S12 (fun S16 => L_X11_term_10 E d Q a0 x1 S16))))))) : L_X11_term_10 E d Q a0 x1 S := by
  show jX E mX11_term (jRm (d + 1) 0 0) (jZm E (fun r S' => ∃ v : Int32, r = some (.int v) ∧ Q v S') 0 0) 10 [(0, .ref a0), (1, .int x1)] [] S 0 0
  refine jx_aload_n 0 dX11_term_10 rfl rfl ?_
  refine jx_bipush (v := 42) dX11_term_11 (by decide) ?_
  obtain ⟨hk5, h⟩ := h
  refine jx_callVi (M' := mX11_isSign) (As := [.int 42]) jo_X11_isSign jc_11 rfl jwM_X11_259 jwN_X11_isSign jwX_X11_isSign dX11_term_13 (jRok_m _ _ _) rfl (jle rfl) ⟨jle rfl, jle rfl⟩ hk5 h (fun r7 S6 h => ?_)
  refine jx_if_ne (tgt := 28) dX11_term_16 (by decide) (fun c8 => ?_) (fun c8 => ?_)
  · replace h := h.2 c8
    refine jx_aload_n 0 dX11_term_28 rfl rfl ?_
    obtain ⟨hk9, h⟩ := h
    refine jx_geti jc_11 (j := 24) (by decide) rfl jwF_X11_237 dX11_term_29 hk9 ?_
    refine jx_istore_n (lv1 := [(2, .int (ji S6 a0 24)), (0, .ref a0), (1, .int x1)]) dX11_term_32 rfl (by decide) rfl ?_
    refine jx_aload_n 1 dX11_term_33 rfl rfl ?_
    refine jx_callVv (M' := mX11_nextToken) (As := []) jo_X11_nextToken jc_11 rfl jwM_X11_262 jwN_X11_nextToken jwX_X11_nextToken dX11_term_34 (jRok_m _ _ _) rfl (jle rfl) ⟨jle rfl, jle rfl⟩ hk9 h (fun S10 h => ?_)
    refine jx_aload_n 1 dX11_term_37 rfl rfl ?_
    refine jx_iload_n 2 dX11_term_38 rfl rfl ?_
    obtain ⟨hk11, h⟩ := h
    refine jx_callVi (M' := mX11_part0) (As := [.int x1]) jo_X11_part0 jc_11 rfl jwM_X11_278 jwN_X11_part0 jwX_X11_part0 dX11_term_39 (jRok_m _ _ _) rfl (jle rfl) ⟨jle rfl, jle rfl⟩ hk11 h (fun r13 S12 h => ?_)
    refine jx_if_ne (tgt := 47) dX11_term_42 (by decide) (fun c14 => ?_) (fun c14 => ?_)
    · replace h := h.2 c14
      refine jx_aload_n 1 dX11_term_47 rfl rfl ?_
      refine jx_iconst (v := 2) dX11_term_48 (by decide) ?_
      refine jx_iload_n 0 dX11_term_49 rfl rfl ?_
      obtain ⟨hk15, h⟩ := h
      refine jx_callVv (M' := mX11_step) (As := [.int 2, .int (ji S6 a0 24)]) jo_X11_step jc_11 rfl jwM_X11_265 jwN_X11_step jwX_X11_step dX11_term_50 (jRok_m _ _ _) rfl (jle rfl) ⟨jle rfl, jle rfl⟩ hk15 h (fun S16 h => ?_)
      refine jx_goto (tgt := 10) kd90 (by decide) ?_
      exact jx_lv [1, 2] rfl h
    replace h := h.1 c14
    refine jx_iconst (v := 0) dX11_term_45 (by decide) ?_
    exact jx_iret dX11_term_46 rfl (by decide) (jle rfl) (jle rfl) ⟨_, rfl, h⟩
  replace h := h.1 c8
  refine jx_aload_n 0 dX11_term_19 rfl rfl ?_
  refine jx_bipush (v := 47) dX11_term_20 (by decide) ?_
  obtain ⟨hk17, h⟩ := h
  refine jx_callVi (M' := mX11_isSign) (As := [.int 47]) jo_X11_isSign jc_11 rfl jwM_X11_259 jwN_X11_isSign jwX_X11_isSign dX11_term_22 (jRok_m _ _ _) rfl (jle rfl) ⟨jle rfl, jle rfl⟩ hk17 h (fun r19 S18 h => ?_)
  refine jx_if_eq (tgt := 56) dX11_term_25 (by decide) (fun c20 => ?_) (fun c20 => ?_)
  · replace h := h.1 c20
    refine jx_iconst (v := 1) dX11_term_56 (by decide) ?_
    exact jx_iret dX11_term_57 rfl (by decide) (jle rfl) (jle rfl) ⟨_, rfl, h⟩
  replace h := h.2 c20
  refine jx_aload_n 0 dX11_term_28 rfl rfl ?_
  obtain ⟨hk21, h⟩ := h
  refine jx_geti jc_11 (j := 24) (by decide) rfl jwF_X11_237 dX11_term_29 hk21 ?_
  refine jx_istore_n (lv1 := [(2, .int (ji S18 a0 24)), (0, .ref a0), (1, .int x1)]) dX11_term_32 rfl (by decide) rfl ?_
  refine jx_aload_n 1 dX11_term_33 rfl rfl ?_
  refine jx_callVv (M' := mX11_nextToken) (As := []) jo_X11_nextToken jc_11 rfl jwM_X11_262 jwN_X11_nextToken jwX_X11_nextToken dX11_term_34 (jRok_m _ _ _) rfl (jle rfl) ⟨jle rfl, jle rfl⟩ hk21 h (fun S22 h => ?_)
  refine jx_aload_n 1 dX11_term_37 rfl rfl ?_
  refine jx_iload_n 2 dX11_term_38 rfl rfl ?_
  obtain ⟨hk23, h⟩ := h
  refine jx_callVi (M' := mX11_part0) (As := [.int x1]) jo_X11_part0 jc_11 rfl jwM_X11_278 jwN_X11_part0 jwX_X11_part0 dX11_term_39 (jRok_m _ _ _) rfl (jle rfl) ⟨jle rfl, jle rfl⟩ hk23 h (fun r25 S24 h => ?_)
  refine jx_if_ne (tgt := 47) dX11_term_42 (by decide) (fun c26 => ?_) (fun c26 => ?_)
  · replace h := h.2 c26
    refine jx_aload_n 1 dX11_term_47 rfl rfl ?_
    refine jx_iconst (v := 2) dX11_term_48 (by decide) ?_
    refine jx_iload_n 0 dX11_term_49 rfl rfl ?_
    obtain ⟨hk27, h⟩ := h
    refine jx_callVv (M' := mX11_step) (As := [.int 2, .int (ji S18 a0 24)]) jo_X11_step jc_11 rfl jwM_X11_265 jwN_X11_step jwX_X11_step dX11_term_50 (jRok_m _ _ _) rfl (jle rfl) ⟨jle rfl, jle rfl⟩ hk27 h (fun S28 h => ?_)
    refine jx_goto (tgt := 10) kd90 (by decide) ?_
    exact jx_lv [1, 2] rfl h
  replace h := h.1 c26
  refine jx_iconst (v := 0) dX11_term_45 (by decide) ?_
  exact jx_iret dX11_term_46 rfl (by decide) (jle rfl) (jle rfl) ⟨_, rfl, h⟩
set_option maxRecDepth 100000 in
set_option maxHeartbeats 4000000 in
theorem T_X11_part0 {E : jEnv} {d : Nat} {Q : Int32 → jM → Prop} {a0 : Nat} {x1 : Int32} {S : jM} (h : jk S a0 = 11 ∧ ((ji S a0 22) = 2 → jFv E mX11_step d 0 0 [.ref a0, .int 0, .int (ji S a0 23)] S (fun S147 => jk S147 a0 = 11 ∧ jFv E mX11_nextToken d 0 0 [.ref a0] (jput S147 a0 29 ((ji S147 a0 29) + 1)) (fun S149 => Q 1 S149))) ∧ (¬ (ji S a0 22) = 2 → ((ji S a0 22) = 1 → ((ji S a0 24) = 0 → jFi E mX11_isSign d 0 0 [.ref a0, .int 33] S (fun r51 S50 => (r51 = 0 → jk S50 a0 = 11 ∧ jFi E mX11_isSign d 0 0 [.ref a0, .int 40] S50 (fun r55 S54 => (r55 = 0 → Q 0 S54) ∧ (¬ r55 = 0 → jk S54 a0 = 11 ∧ ((ji S54 a0 25) = 8 → Q 0 S54) ∧ (¬ (ji S54 a0 25) = 8 → jFv E mX11_nextToken d 0 0 [.ref a0] (jput S54 a0 25 ((ji S54 a0 25) + 1)) (fun S59 => jk S59 a0 = 11 ∧ jFi E mX11_either d 0 0 [.ref a0, .int x1] S59 (fun r62 S61 => (r62 = 0 → Q 0 S61) ∧ (¬ r62 = 0 → jk S61 a0 = 11 ∧ jFi E mX11_isSign d 0 0 [.ref a0, .int 41] S61 (fun r66 S65 => (r66 = 0 → Q 0 S65) ∧ (¬ r66 = 0 → jk S65 a0 = 11 ∧ jFv E mX11_nextToken d 0 0 [.ref a0] (jput S65 a0 25 ((ji S65 a0 25) - 1)) (fun S69 => Q 1 S69)))))))))) ∧ (¬ r51 = 0 → jk S50 a0 = 11 ∧ (8 ≤ (ji S50 a0 26) → jFi E mX11_isSign d 0 0 [.ref a0, .int 40] S50 (fun r73 S72 => (r73 = 0 → Q 0 S72) ∧ (¬ r73 = 0 → jk S72 a0 = 11 ∧ ((ji S72 a0 25) = 8 → Q 0 S72) ∧ (¬ (ji S72 a0 25) = 8 → jFv E mX11_nextToken d 0 0 [.ref a0] (jput S72 a0 25 ((ji S72 a0 25) + 1)) (fun S77 => jk S77 a0 = 11 ∧ jFi E mX11_either d 0 0 [.ref a0, .int x1] S77 (fun r80 S79 => (r80 = 0 → Q 0 S79) ∧ (¬ r80 = 0 → jk S79 a0 = 11 ∧ jFi E mX11_isSign d 0 0 [.ref a0, .int 41] S79 (fun r84 S83 => (r84 = 0 → Q 0 S83) ∧ (¬ r84 = 0 → jk S83 a0 = 11 ∧ jFv E mX11_nextToken d 0 0 [.ref a0] (jput S83 a0 25 ((ji S83 a0 25) - 1)) (fun S87 => Q 1 S87)))))))))) ∧ (¬ 8 ≤ (ji S50 a0 26) → jFv E mX11_nextToken d 0 0 [.ref a0] (jput S50 a0 26 ((ji S50 a0 26) + 1)) (fun S88 => jk S88 a0 = 11 ∧ jFi E mX11_part0 d 0 0 [.ref a0, .int x1] S88 (fun r91 S90 => (r91 = 0 → Q 0 S90) ∧ (¬ r91 = 0 → jk S90 a0 = 11 ∧ jFv E mX11_step d 0 0 [.ref a0, .int 2, .int 33] (jput S90 a0 26 ((ji S90 a0 26) - 1)) (fun S94 => Q 1 S94)))))))) ∧ (¬ (ji S a0 24) = 0 → ((jisname x1 (ji S a0 24)) = 0 → jFi E mX11_isSign d 0 0 [.ref a0, .int 33] S (fun r100 S99 => (r100 = 0 → jk S99 a0 = 11 ∧ jFi E mX11_isSign d 0 0 [.ref a0, .int 40] S99 (fun r104 S103 => (r104 = 0 → Q 0 S103) ∧ (¬ r104 = 0 → jk S103 a0 = 11 ∧ ((ji S103 a0 25) = 8 → Q 0 S103) ∧ (¬ (ji S103 a0 25) = 8 → jFv E mX11_nextToken d 0 0 [.ref a0] (jput S103 a0 25 ((ji S103 a0 25) + 1)) (fun S108 => jk S108 a0 = 11 ∧ jFi E mX11_either d 0 0 [.ref a0, .int x1] S108 (fun r111 S110 => (r111 = 0 → Q 0 S110) ∧ (¬ r111 = 0 → jk S110 a0 = 11 ∧ jFi E mX11_isSign d 0 0 [.ref a0, .int 41] S110 (fun r115 S114 => (r115 = 0 → Q 0 S114) ∧ (¬ r115 = 0 → jk S114 a0 = 11 ∧ jFv E mX11_nextToken d 0 0 [.ref a0] (jput S114 a0 25 ((ji S114 a0 25) - 1)) (fun S118 => Q 1 S118)))))))))) ∧ (¬ r100 = 0 → jk S99 a0 = 11 ∧ (8 ≤ (ji S99 a0 26) → jFi E mX11_isSign d 0 0 [.ref a0, .int 40] S99 (fun r122 S121 => (r122 = 0 → Q 0 S121) ∧ (¬ r122 = 0 → jk S121 a0 = 11 ∧ ((ji S121 a0 25) = 8 → Q 0 S121) ∧ (¬ (ji S121 a0 25) = 8 → jFv E mX11_nextToken d 0 0 [.ref a0] (jput S121 a0 25 ((ji S121 a0 25) + 1)) (fun S126 => jk S126 a0 = 11 ∧ jFi E mX11_either d 0 0 [.ref a0, .int x1] S126 (fun r129 S128 => (r129 = 0 → Q 0 S128) ∧ (¬ r129 = 0 → jk S128 a0 = 11 ∧ jFi E mX11_isSign d 0 0 [.ref a0, .int 41] S128 (fun r133 S132 => (r133 = 0 → Q 0 S132) ∧ (¬ r133 = 0 → jk S132 a0 = 11 ∧ jFv E mX11_nextToken d 0 0 [.ref a0] (jput S132 a0 25 ((ji S132 a0 25) - 1)) (fun S136 => Q 1 S136)))))))))) ∧ (¬ 8 ≤ (ji S99 a0 26) → jFv E mX11_nextToken d 0 0 [.ref a0] (jput S99 a0 26 ((ji S99 a0 26) + 1)) (fun S137 => jk S137 a0 = 11 ∧ jFi E mX11_part0 d 0 0 [.ref a0, .int x1] S137 (fun r140 S139 => (r140 = 0 → Q 0 S139) ∧ (¬ r140 = 0 → jk S139 a0 = 11 ∧ jFv E mX11_step d 0 0 [.ref a0, .int 2, .int 33] (jput S139 a0 26 ((ji S139 a0 26) - 1)) (fun S143 => Q 1 S143)))))))) ∧ (¬ (jisname x1 (ji S a0 24)) = 0 → jFv E mX11_step d 0 0 [.ref a0, .int 1, .int (ji S a0 24)] S (fun S144 => jk S144 a0 = 11 ∧ jFv E mX11_nextToken d 0 0 [.ref a0] (jput S144 a0 29 ((ji S144 a0 29) + 1)) (fun S146 => Q 1 S146))))) ∧ (¬ (ji S a0 22) = 1 → jFi E mX11_isSign d 0 0 [.ref a0, .int 33] S (fun r5 S4 => (r5 = 0 → jk S4 a0 = 11 ∧ jFi E mX11_isSign d 0 0 [.ref a0, .int 40] S4 (fun r9 S8 => (r9 = 0 → Q 0 S8) ∧ (¬ r9 = 0 → jk S8 a0 = 11 ∧ ((ji S8 a0 25) = 8 → Q 0 S8) ∧ (¬ (ji S8 a0 25) = 8 → jFv E mX11_nextToken d 0 0 [.ref a0] (jput S8 a0 25 ((ji S8 a0 25) + 1)) (fun S13 => jk S13 a0 = 11 ∧ jFi E mX11_either d 0 0 [.ref a0, .int x1] S13 (fun r16 S15 => (r16 = 0 → Q 0 S15) ∧ (¬ r16 = 0 → jk S15 a0 = 11 ∧ jFi E mX11_isSign d 0 0 [.ref a0, .int 41] S15 (fun r20 S19 => (r20 = 0 → Q 0 S19) ∧ (¬ r20 = 0 → jk S19 a0 = 11 ∧ jFv E mX11_nextToken d 0 0 [.ref a0] (jput S19 a0 25 ((ji S19 a0 25) - 1)) (fun S23 => Q 1 S23)))))))))) ∧ (¬ r5 = 0 → jk S4 a0 = 11 ∧ (8 ≤ (ji S4 a0 26) → jFi E mX11_isSign d 0 0 [.ref a0, .int 40] S4 (fun r27 S26 => (r27 = 0 → Q 0 S26) ∧ (¬ r27 = 0 → jk S26 a0 = 11 ∧ ((ji S26 a0 25) = 8 → Q 0 S26) ∧ (¬ (ji S26 a0 25) = 8 → jFv E mX11_nextToken d 0 0 [.ref a0] (jput S26 a0 25 ((ji S26 a0 25) + 1)) (fun S31 => jk S31 a0 = 11 ∧ jFi E mX11_either d 0 0 [.ref a0, .int x1] S31 (fun r34 S33 => (r34 = 0 → Q 0 S33) ∧ (¬ r34 = 0 → jk S33 a0 = 11 ∧ jFi E mX11_isSign d 0 0 [.ref a0, .int 41] S33 (fun r38 S37 => (r38 = 0 → Q 0 S37) ∧ (¬ r38 = 0 → jk S37 a0 = 11 ∧ jFv E mX11_nextToken d 0 0 [.ref a0] (jput S37 a0 25 ((ji S37 a0 25) - 1)) (fun S41 => Q 1 S41)))))))))) ∧ (¬ 8 ≤ (ji S4 a0 26) → jFv E mX11_nextToken d 0 0 [.ref a0] (jput S4 a0 26 ((ji S4 a0 26) + 1)) (fun S42 => jk S42 a0 = 11 ∧ jFi E mX11_part0 d 0 0 [.ref a0, .int x1] S42 (fun r45 S44 => (r45 = 0 → Q 0 S44) ∧ (¬ r45 = 0 → jk S44 a0 = 11 ∧ jFv E mX11_step d 0 0 [.ref a0, .int 2, .int 33] (jput S44 a0 26 ((ji S44 a0 26) - 1)) (fun S48 => Q 1 S48)))))))))) : jFi E mX11_part0 (d + 1) 0 0 [.ref a0, .int x1] S Q := by
  refine jF_of (by decide) (jle rfl) ?_
  refine jx_lv (lv1 := [(0, .ref a0), (1, .int x1)]) [0, 1] rfl ?_
  refine jx_aload_n 0 dX11_part0_0 rfl rfl ?_
  obtain ⟨hk1, h⟩ := h
  refine jx_geti jc_11 (j := 22) (by decide) rfl jwF_X11_228 dX11_part0_1 hk1 ?_
  refine jx_iconst (v := 2) dX11_part0_4 (by decide) ?_
  refine jx_icmp_ne (tgt := 33) dX11_part0_5 (by decide) (fun c2 => ?_) (fun c2 => ?_)
  · replace h := h.2 c2
    refine jx_aload_n 0 dX11_part0_33 rfl rfl ?_
    refine jx_geti jc_11 (j := 22) (by decide) rfl jwF_X11_228 dX11_part0_34 hk1 ?_
    refine jx_iconst (v := 1) dX11_part0_37 (by decide) ?_
    refine jx_icmp_ne (tgt := 84) dX11_part0_38 (by decide) (fun c3 => ?_) (fun c3 => ?_)
    · replace h := h.2 c3
      refine jx_aload_n 0 dX11_part0_84 rfl rfl ?_
      refine jx_bipush (v := 33) dX11_part0_85 (by decide) ?_
      refine jx_callVi (M' := mX11_isSign) (As := [.int 33]) jo_X11_isSign jc_11 rfl jwM_X11_259 jwN_X11_isSign jwX_X11_isSign dX11_part0_87 (jRok_m _ _ _) rfl (jle rfl) ⟨jle rfl, jle rfl⟩ hk1 h (fun r5 S4 h => ?_)
      refine jx_if_eq (tgt := 145) dX11_part0_90 (by decide) (fun c6 => ?_) (fun c6 => ?_)
      · replace h := h.1 c6
        refine jx_aload_n 0 dX11_part0_145 rfl rfl ?_
        refine jx_bipush (v := 40) dX11_part0_146 (by decide) ?_
        obtain ⟨hk7, h⟩ := h
        refine jx_callVi (M' := mX11_isSign) (As := [.int 40]) jo_X11_isSign jc_11 rfl jwM_X11_259 jwN_X11_isSign jwX_X11_isSign dX11_part0_148 (jRok_m _ _ _) rfl (jle rfl) ⟨jle rfl, jle rfl⟩ hk7 h (fun r9 S8 h => ?_)
        refine jx_if_eq (tgt := 163) dX11_part0_151 (by decide) (fun c10 => ?_) (fun c10 => ?_)
        · replace h := h.1 c10
          refine jx_iconst (v := 0) dX11_part0_163 (by decide) ?_
          exact jx_iret dX11_part0_164 rfl (by decide) (jle rfl) (jle rfl) ⟨_, rfl, h⟩
        replace h := h.2 c10
        refine jx_aload_n 0 dX11_part0_154 rfl rfl ?_
        obtain ⟨hk11, h⟩ := h
        refine jx_geti jc_11 (j := 25) (by decide) rfl jwF_X11_290 dX11_part0_155 hk11 ?_
        refine jx_bipush (v := 8) dX11_part0_158 (by decide) ?_
        refine jx_icmp_ne (tgt := 165) dX11_part0_160 (by decide) (fun c12 => ?_) (fun c12 => ?_)
        · replace h := h.2 c12
          refine jx_aload_n 0 dX11_part0_165 rfl rfl ?_
          refine jx_dup dX11_part0_166 rfl ?_
          refine jx_geti jc_11 (j := 25) (by decide) rfl jwF_X11_290 dX11_part0_167 hk11 ?_
          refine jx_iconst (v := 1) dX11_part0_170 (by decide) ?_
          refine jx_iadd dX11_part0_171 ?_
          refine jx_puti jc_11 (j := 25) (by decide) rfl jwF_X11_290 rfl rfl rfl dX11_part0_172 hk11 ?_
          refine jx_aload_n 0 dX11_part0_175 rfl rfl ?_
          refine jx_callVv (M' := mX11_nextToken) (As := []) jo_X11_nextToken jc_11 rfl jwM_X11_262 jwN_X11_nextToken jwX_X11_nextToken dX11_part0_176 (jRok_m _ _ _) rfl (jle rfl) ⟨jle rfl, jle rfl⟩ hk11 h (fun S13 h => ?_)
          refine jx_aload_n 0 dX11_part0_179 rfl rfl ?_
          refine jx_iload_n 1 dX11_part0_180 rfl rfl ?_
          obtain ⟨hk14, h⟩ := h
          refine jx_callVi (M' := mX11_either) (As := [.int x1]) jo_X11_either jc_11 rfl jwM_X11_293 jwN_X11_either jwX_X11_either dX11_part0_181 (jRok_m _ _ _) rfl (jle rfl) ⟨jle rfl, jle rfl⟩ hk14 h (fun r16 S15 h => ?_)
          refine jx_if_eq (tgt := 196) dX11_part0_184 (by decide) (fun c17 => ?_) (fun c17 => ?_)
          · replace h := h.1 c17
            refine jx_iconst (v := 0) dX11_part0_196 (by decide) ?_
            exact jx_iret dX11_part0_197 rfl (by decide) (jle rfl) (jle rfl) ⟨_, rfl, h⟩
          replace h := h.2 c17
          refine jx_aload_n 0 dX11_part0_187 rfl rfl ?_
          refine jx_bipush (v := 41) dX11_part0_188 (by decide) ?_
          obtain ⟨hk18, h⟩ := h
          refine jx_callVi (M' := mX11_isSign) (As := [.int 41]) jo_X11_isSign jc_11 rfl jwM_X11_259 jwN_X11_isSign jwX_X11_isSign dX11_part0_190 (jRok_m _ _ _) rfl (jle rfl) ⟨jle rfl, jle rfl⟩ hk18 h (fun r20 S19 h => ?_)
          refine jx_if_ne (tgt := 198) dX11_part0_193 (by decide) (fun c21 => ?_) (fun c21 => ?_)
          · replace h := h.2 c21
            refine jx_aload_n 0 dX11_part0_198 rfl rfl ?_
            refine jx_dup dX11_part0_199 rfl ?_
            obtain ⟨hk22, h⟩ := h
            refine jx_geti jc_11 (j := 25) (by decide) rfl jwF_X11_290 dX11_part0_200 hk22 ?_
            refine jx_iconst (v := 1) dX11_part0_203 (by decide) ?_
            refine jx_isub dX11_part0_204 ?_
            refine jx_puti jc_11 (j := 25) (by decide) rfl jwF_X11_290 rfl rfl rfl dX11_part0_205 hk22 ?_
            refine jx_aload_n 0 dX11_part0_208 rfl rfl ?_
            refine jx_callVv (M' := mX11_nextToken) (As := []) jo_X11_nextToken jc_11 rfl jwM_X11_262 jwN_X11_nextToken jwX_X11_nextToken dX11_part0_209 (jRok_m _ _ _) rfl (jle rfl) ⟨jle rfl, jle rfl⟩ hk22 h (fun S23 h => ?_)
            refine jx_iconst (v := 1) dX11_part0_212 (by decide) ?_
            exact jx_iret dX11_part0_213 rfl (by decide) (jle rfl) (jle rfl) ⟨_, rfl, h⟩
          replace h := h.1 c21
          refine jx_iconst (v := 0) dX11_part0_196 (by decide) ?_
          exact jx_iret dX11_part0_197 rfl (by decide) (jle rfl) (jle rfl) ⟨_, rfl, h⟩
        replace h := h.1 c12
        refine jx_iconst (v := 0) dX11_part0_163 (by decide) ?_
        exact jx_iret dX11_part0_164 rfl (by decide) (jle rfl) (jle rfl) ⟨_, rfl, h⟩
      replace h := h.2 c6
      refine jx_aload_n 0 dX11_part0_93 rfl rfl ?_
      obtain ⟨hk24, h⟩ := h
      refine jx_geti jc_11 (j := 26) (by decide) rfl jwF_X11_287 dX11_part0_94 hk24 ?_
      refine jx_bipush (v := 8) dX11_part0_97 (by decide) ?_
      refine jx_icmp_ge (tgt := 145) dX11_part0_99 (by decide) (fun c25 => ?_) (fun c25 => ?_)
      · replace h := h.1 c25
        refine jx_aload_n 0 dX11_part0_145 rfl rfl ?_
        refine jx_bipush (v := 40) dX11_part0_146 (by decide) ?_
        refine jx_callVi (M' := mX11_isSign) (As := [.int 40]) jo_X11_isSign jc_11 rfl jwM_X11_259 jwN_X11_isSign jwX_X11_isSign dX11_part0_148 (jRok_m _ _ _) rfl (jle rfl) ⟨jle rfl, jle rfl⟩ hk24 h (fun r27 S26 h => ?_)
        refine jx_if_eq (tgt := 163) dX11_part0_151 (by decide) (fun c28 => ?_) (fun c28 => ?_)
        · replace h := h.1 c28
          refine jx_iconst (v := 0) dX11_part0_163 (by decide) ?_
          exact jx_iret dX11_part0_164 rfl (by decide) (jle rfl) (jle rfl) ⟨_, rfl, h⟩
        replace h := h.2 c28
        refine jx_aload_n 0 dX11_part0_154 rfl rfl ?_
        obtain ⟨hk29, h⟩ := h
        refine jx_geti jc_11 (j := 25) (by decide) rfl jwF_X11_290 dX11_part0_155 hk29 ?_
        refine jx_bipush (v := 8) dX11_part0_158 (by decide) ?_
        refine jx_icmp_ne (tgt := 165) dX11_part0_160 (by decide) (fun c30 => ?_) (fun c30 => ?_)
        · replace h := h.2 c30
          refine jx_aload_n 0 dX11_part0_165 rfl rfl ?_
          refine jx_dup dX11_part0_166 rfl ?_
          refine jx_geti jc_11 (j := 25) (by decide) rfl jwF_X11_290 dX11_part0_167 hk29 ?_
          refine jx_iconst (v := 1) dX11_part0_170 (by decide) ?_
          refine jx_iadd dX11_part0_171 ?_
          refine jx_puti jc_11 (j := 25) (by decide) rfl jwF_X11_290 rfl rfl rfl dX11_part0_172 hk29 ?_
          refine jx_aload_n 0 dX11_part0_175 rfl rfl ?_
          refine jx_callVv (M' := mX11_nextToken) (As := []) jo_X11_nextToken jc_11 rfl jwM_X11_262 jwN_X11_nextToken jwX_X11_nextToken dX11_part0_176 (jRok_m _ _ _) rfl (jle rfl) ⟨jle rfl, jle rfl⟩ hk29 h (fun S31 h => ?_)
          refine jx_aload_n 0 dX11_part0_179 rfl rfl ?_
          refine jx_iload_n 1 dX11_part0_180 rfl rfl ?_
          obtain ⟨hk32, h⟩ := h
          refine jx_callVi (M' := mX11_either) (As := [.int x1]) jo_X11_either jc_11 rfl jwM_X11_293 jwN_X11_either jwX_X11_either dX11_part0_181 (jRok_m _ _ _) rfl (jle rfl) ⟨jle rfl, jle rfl⟩ hk32 h (fun r34 S33 h => ?_)
          refine jx_if_eq (tgt := 196) dX11_part0_184 (by decide) (fun c35 => ?_) (fun c35 => ?_)
          · replace h := h.1 c35
            refine jx_iconst (v := 0) dX11_part0_196 (by decide) ?_
            exact jx_iret dX11_part0_197 rfl (by decide) (jle rfl) (jle rfl) ⟨_, rfl, h⟩
          replace h := h.2 c35
          refine jx_aload_n 0 dX11_part0_187 rfl rfl ?_
          refine jx_bipush (v := 41) dX11_part0_188 (by decide) ?_
          obtain ⟨hk36, h⟩ := h
          refine jx_callVi (M' := mX11_isSign) (As := [.int 41]) jo_X11_isSign jc_11 rfl jwM_X11_259 jwN_X11_isSign jwX_X11_isSign dX11_part0_190 (jRok_m _ _ _) rfl (jle rfl) ⟨jle rfl, jle rfl⟩ hk36 h (fun r38 S37 h => ?_)
          refine jx_if_ne (tgt := 198) dX11_part0_193 (by decide) (fun c39 => ?_) (fun c39 => ?_)
          · replace h := h.2 c39
            refine jx_aload_n 0 dX11_part0_198 rfl rfl ?_
            refine jx_dup dX11_part0_199 rfl ?_
            obtain ⟨hk40, h⟩ := h
            refine jx_geti jc_11 (j := 25) (by decide) rfl jwF_X11_290 dX11_part0_200 hk40 ?_
            refine jx_iconst (v := 1) dX11_part0_203 (by decide) ?_
            refine jx_isub dX11_part0_204 ?_
            refine jx_puti jc_11 (j := 25) (by decide) rfl jwF_X11_290 rfl rfl rfl dX11_part0_205 hk40 ?_
            refine jx_aload_n 0 dX11_part0_208 rfl rfl ?_
            refine jx_callVv (M' := mX11_nextToken) (As := []) jo_X11_nextToken jc_11 rfl jwM_X11_262 jwN_X11_nextToken jwX_X11_nextToken dX11_part0_209 (jRok_m _ _ _) rfl (jle rfl) ⟨jle rfl, jle rfl⟩ hk40 h (fun S41 h => ?_)
            refine jx_iconst (v := 1) dX11_part0_212 (by decide) ?_
            exact jx_iret dX11_part0_213 rfl (by decide) (jle rfl) (jle rfl) ⟨_, rfl, h⟩
          replace h := h.1 c39
          refine jx_iconst (v := 0) dX11_part0_196 (by decide) ?_
          exact jx_iret dX11_part0_197 rfl (by decide) (jle rfl) (jle rfl) ⟨_, rfl, h⟩
        replace h := h.1 c30
        refine jx_iconst (v := 0) dX11_part0_163 (by decide) ?_
        exact jx_iret dX11_part0_164 rfl (by decide) (jle rfl) (jle rfl) ⟨_, rfl, h⟩
      replace h := h.2 c25
      refine jx_aload_n 0 dX11_part0_102 rfl rfl ?_
      refine jx_dup dX11_part0_103 rfl ?_
      refine jx_geti jc_11 (j := 26) (by decide) rfl jwF_X11_287 dX11_part0_104 hk24 ?_
      refine jx_iconst (v := 1) dX11_part0_107 (by decide) ?_
      refine jx_iadd dX11_part0_108 ?_
      refine jx_puti jc_11 (j := 26) (by decide) rfl jwF_X11_287 rfl rfl rfl dX11_part0_109 hk24 ?_
      refine jx_aload_n 0 dX11_part0_112 rfl rfl ?_
      refine jx_callVv (M' := mX11_nextToken) (As := []) jo_X11_nextToken jc_11 rfl jwM_X11_262 jwN_X11_nextToken jwX_X11_nextToken dX11_part0_113 (jRok_m _ _ _) rfl (jle rfl) ⟨jle rfl, jle rfl⟩ hk24 h (fun S42 h => ?_)
      refine jx_aload_n 0 dX11_part0_116 rfl rfl ?_
      refine jx_iload_n 1 dX11_part0_117 rfl rfl ?_
      obtain ⟨hk43, h⟩ := h
      refine jx_callVi (M' := mX11_part0) (As := [.int x1]) jo_X11_part0 jc_11 rfl jwM_X11_278 jwN_X11_part0 jwX_X11_part0 dX11_part0_118 (jRok_m _ _ _) rfl (jle rfl) ⟨jle rfl, jle rfl⟩ hk43 h (fun r45 S44 h => ?_)
      refine jx_if_ne (tgt := 126) dX11_part0_121 (by decide) (fun c46 => ?_) (fun c46 => ?_)
      · replace h := h.2 c46
        refine jx_aload_n 0 dX11_part0_126 rfl rfl ?_
        refine jx_dup dX11_part0_127 rfl ?_
        obtain ⟨hk47, h⟩ := h
        refine jx_geti jc_11 (j := 26) (by decide) rfl jwF_X11_287 dX11_part0_128 hk47 ?_
        refine jx_iconst (v := 1) dX11_part0_131 (by decide) ?_
        refine jx_isub dX11_part0_132 ?_
        refine jx_puti jc_11 (j := 26) (by decide) rfl jwF_X11_287 rfl rfl rfl dX11_part0_133 hk47 ?_
        refine jx_aload_n 0 dX11_part0_136 rfl rfl ?_
        refine jx_iconst (v := 2) dX11_part0_137 (by decide) ?_
        refine jx_bipush (v := 33) dX11_part0_138 (by decide) ?_
        refine jx_callVv (M' := mX11_step) (As := [.int 2, .int 33]) jo_X11_step jc_11 rfl jwM_X11_265 jwN_X11_step jwX_X11_step dX11_part0_140 (jRok_m _ _ _) rfl (jle rfl) ⟨jle rfl, jle rfl⟩ hk47 h (fun S48 h => ?_)
        refine jx_iconst (v := 1) dX11_part0_143 (by decide) ?_
        exact jx_iret dX11_part0_144 rfl (by decide) (jle rfl) (jle rfl) ⟨_, rfl, h⟩
      replace h := h.1 c46
      refine jx_iconst (v := 0) dX11_part0_124 (by decide) ?_
      exact jx_iret dX11_part0_125 rfl (by decide) (jle rfl) (jle rfl) ⟨_, rfl, h⟩
    replace h := h.1 c3
    refine jx_aload_n 0 dX11_part0_41 rfl rfl ?_
    refine jx_geti jc_11 (j := 24) (by decide) rfl jwF_X11_237 dX11_part0_42 hk1 ?_
    refine jx_if_eq (tgt := 84) dX11_part0_45 (by decide) (fun c49 => ?_) (fun c49 => ?_)
    · replace h := h.1 c49
      refine jx_aload_n 0 dX11_part0_84 rfl rfl ?_
      refine jx_bipush (v := 33) dX11_part0_85 (by decide) ?_
      refine jx_callVi (M' := mX11_isSign) (As := [.int 33]) jo_X11_isSign jc_11 rfl jwM_X11_259 jwN_X11_isSign jwX_X11_isSign dX11_part0_87 (jRok_m _ _ _) rfl (jle rfl) ⟨jle rfl, jle rfl⟩ hk1 h (fun r51 S50 h => ?_)
      refine jx_if_eq (tgt := 145) dX11_part0_90 (by decide) (fun c52 => ?_) (fun c52 => ?_)
      · replace h := h.1 c52
        refine jx_aload_n 0 dX11_part0_145 rfl rfl ?_
        refine jx_bipush (v := 40) dX11_part0_146 (by decide) ?_
        obtain ⟨hk53, h⟩ := h
        refine jx_callVi (M' := mX11_isSign) (As := [.int 40]) jo_X11_isSign jc_11 rfl jwM_X11_259 jwN_X11_isSign jwX_X11_isSign dX11_part0_148 (jRok_m _ _ _) rfl (jle rfl) ⟨jle rfl, jle rfl⟩ hk53 h (fun r55 S54 h => ?_)
        refine jx_if_eq (tgt := 163) dX11_part0_151 (by decide) (fun c56 => ?_) (fun c56 => ?_)
        · replace h := h.1 c56
          refine jx_iconst (v := 0) dX11_part0_163 (by decide) ?_
          exact jx_iret dX11_part0_164 rfl (by decide) (jle rfl) (jle rfl) ⟨_, rfl, h⟩
        replace h := h.2 c56
        refine jx_aload_n 0 dX11_part0_154 rfl rfl ?_
        obtain ⟨hk57, h⟩ := h
        refine jx_geti jc_11 (j := 25) (by decide) rfl jwF_X11_290 dX11_part0_155 hk57 ?_
        refine jx_bipush (v := 8) dX11_part0_158 (by decide) ?_
        refine jx_icmp_ne (tgt := 165) dX11_part0_160 (by decide) (fun c58 => ?_) (fun c58 => ?_)
        · replace h := h.2 c58
          refine jx_aload_n 0 dX11_part0_165 rfl rfl ?_
          refine jx_dup dX11_part0_166 rfl ?_
          refine jx_geti jc_11 (j := 25) (by decide) rfl jwF_X11_290 dX11_part0_167 hk57 ?_
          refine jx_iconst (v := 1) dX11_part0_170 (by decide) ?_
          refine jx_iadd dX11_part0_171 ?_
          refine jx_puti jc_11 (j := 25) (by decide) rfl jwF_X11_290 rfl rfl rfl dX11_part0_172 hk57 ?_
          refine jx_aload_n 0 dX11_part0_175 rfl rfl ?_
          refine jx_callVv (M' := mX11_nextToken) (As := []) jo_X11_nextToken jc_11 rfl jwM_X11_262 jwN_X11_nextToken jwX_X11_nextToken dX11_part0_176 (jRok_m _ _ _) rfl (jle rfl) ⟨jle rfl, jle rfl⟩ hk57 h (fun S59 h => ?_)
          refine jx_aload_n 0 dX11_part0_179 rfl rfl ?_
          refine jx_iload_n 1 dX11_part0_180 rfl rfl ?_
          obtain ⟨hk60, h⟩ := h
          refine jx_callVi (M' := mX11_either) (As := [.int x1]) jo_X11_either jc_11 rfl jwM_X11_293 jwN_X11_either jwX_X11_either dX11_part0_181 (jRok_m _ _ _) rfl (jle rfl) ⟨jle rfl, jle rfl⟩ hk60 h (fun r62 S61 h => ?_)
          refine jx_if_eq (tgt := 196) dX11_part0_184 (by decide) (fun c63 => ?_) (fun c63 => ?_)
          · replace h := h.1 c63
            refine jx_iconst (v := 0) dX11_part0_196 (by decide) ?_
            exact jx_iret dX11_part0_197 rfl (by decide) (jle rfl) (jle rfl) ⟨_, rfl, h⟩
          replace h := h.2 c63
          refine jx_aload_n 0 dX11_part0_187 rfl rfl ?_
          refine jx_bipush (v := 41) dX11_part0_188 (by decide) ?_
          obtain ⟨hk64, h⟩ := h
          refine jx_callVi (M' := mX11_isSign) (As := [.int 41]) jo_X11_isSign jc_11 rfl jwM_X11_259 jwN_X11_isSign jwX_X11_isSign dX11_part0_190 (jRok_m _ _ _) rfl (jle rfl) ⟨jle rfl, jle rfl⟩ hk64 h (fun r66 S65 h => ?_)
          refine jx_if_ne (tgt := 198) dX11_part0_193 (by decide) (fun c67 => ?_) (fun c67 => ?_)
          · replace h := h.2 c67
            refine jx_aload_n 0 dX11_part0_198 rfl rfl ?_
            refine jx_dup dX11_part0_199 rfl ?_
            obtain ⟨hk68, h⟩ := h
            refine jx_geti jc_11 (j := 25) (by decide) rfl jwF_X11_290 dX11_part0_200 hk68 ?_
            refine jx_iconst (v := 1) dX11_part0_203 (by decide) ?_
            refine jx_isub dX11_part0_204 ?_
            refine jx_puti jc_11 (j := 25) (by decide) rfl jwF_X11_290 rfl rfl rfl dX11_part0_205 hk68 ?_
            refine jx_aload_n 0 dX11_part0_208 rfl rfl ?_
            refine jx_callVv (M' := mX11_nextToken) (As := []) jo_X11_nextToken jc_11 rfl jwM_X11_262 jwN_X11_nextToken jwX_X11_nextToken dX11_part0_209 (jRok_m _ _ _) rfl (jle rfl) ⟨jle rfl, jle rfl⟩ hk68 h (fun S69 h => ?_)
            refine jx_iconst (v := 1) dX11_part0_212 (by decide) ?_
            exact jx_iret dX11_part0_213 rfl (by decide) (jle rfl) (jle rfl) ⟨_, rfl, h⟩
          replace h := h.1 c67
          refine jx_iconst (v := 0) dX11_part0_196 (by decide) ?_
          exact jx_iret dX11_part0_197 rfl (by decide) (jle rfl) (jle rfl) ⟨_, rfl, h⟩
        replace h := h.1 c58
        refine jx_iconst (v := 0) dX11_part0_163 (by decide) ?_
        exact jx_iret dX11_part0_164 rfl (by decide) (jle rfl) (jle rfl) ⟨_, rfl, h⟩
      replace h := h.2 c52
      refine jx_aload_n 0 dX11_part0_93 rfl rfl ?_
      obtain ⟨hk70, h⟩ := h
      refine jx_geti jc_11 (j := 26) (by decide) rfl jwF_X11_287 dX11_part0_94 hk70 ?_
      refine jx_bipush (v := 8) dX11_part0_97 (by decide) ?_
      refine jx_icmp_ge (tgt := 145) dX11_part0_99 (by decide) (fun c71 => ?_) (fun c71 => ?_)
      · replace h := h.1 c71
        refine jx_aload_n 0 dX11_part0_145 rfl rfl ?_
        refine jx_bipush (v := 40) dX11_part0_146 (by decide) ?_
        refine jx_callVi (M' := mX11_isSign) (As := [.int 40]) jo_X11_isSign jc_11 rfl jwM_X11_259 jwN_X11_isSign jwX_X11_isSign dX11_part0_148 (jRok_m _ _ _) rfl (jle rfl) ⟨jle rfl, jle rfl⟩ hk70 h (fun r73 S72 h => ?_)
        refine jx_if_eq (tgt := 163) dX11_part0_151 (by decide) (fun c74 => ?_) (fun c74 => ?_)
        · replace h := h.1 c74
          refine jx_iconst (v := 0) dX11_part0_163 (by decide) ?_
          exact jx_iret dX11_part0_164 rfl (by decide) (jle rfl) (jle rfl) ⟨_, rfl, h⟩
        replace h := h.2 c74
        refine jx_aload_n 0 dX11_part0_154 rfl rfl ?_
        obtain ⟨hk75, h⟩ := h
        refine jx_geti jc_11 (j := 25) (by decide) rfl jwF_X11_290 dX11_part0_155 hk75 ?_
        refine jx_bipush (v := 8) dX11_part0_158 (by decide) ?_
        refine jx_icmp_ne (tgt := 165) dX11_part0_160 (by decide) (fun c76 => ?_) (fun c76 => ?_)
        · replace h := h.2 c76
          refine jx_aload_n 0 dX11_part0_165 rfl rfl ?_
          refine jx_dup dX11_part0_166 rfl ?_
          refine jx_geti jc_11 (j := 25) (by decide) rfl jwF_X11_290 dX11_part0_167 hk75 ?_
          refine jx_iconst (v := 1) dX11_part0_170 (by decide) ?_
          refine jx_iadd dX11_part0_171 ?_
          refine jx_puti jc_11 (j := 25) (by decide) rfl jwF_X11_290 rfl rfl rfl dX11_part0_172 hk75 ?_
          refine jx_aload_n 0 dX11_part0_175 rfl rfl ?_
          refine jx_callVv (M' := mX11_nextToken) (As := []) jo_X11_nextToken jc_11 rfl jwM_X11_262 jwN_X11_nextToken jwX_X11_nextToken dX11_part0_176 (jRok_m _ _ _) rfl (jle rfl) ⟨jle rfl, jle rfl⟩ hk75 h (fun S77 h => ?_)
          refine jx_aload_n 0 dX11_part0_179 rfl rfl ?_
          refine jx_iload_n 1 dX11_part0_180 rfl rfl ?_
          obtain ⟨hk78, h⟩ := h
          refine jx_callVi (M' := mX11_either) (As := [.int x1]) jo_X11_either jc_11 rfl jwM_X11_293 jwN_X11_either jwX_X11_either dX11_part0_181 (jRok_m _ _ _) rfl (jle rfl) ⟨jle rfl, jle rfl⟩ hk78 h (fun r80 S79 h => ?_)
          refine jx_if_eq (tgt := 196) dX11_part0_184 (by decide) (fun c81 => ?_) (fun c81 => ?_)
          · replace h := h.1 c81
            refine jx_iconst (v := 0) dX11_part0_196 (by decide) ?_
            exact jx_iret dX11_part0_197 rfl (by decide) (jle rfl) (jle rfl) ⟨_, rfl, h⟩
          replace h := h.2 c81
          refine jx_aload_n 0 dX11_part0_187 rfl rfl ?_
          refine jx_bipush (v := 41) dX11_part0_188 (by decide) ?_
          obtain ⟨hk82, h⟩ := h
          refine jx_callVi (M' := mX11_isSign) (As := [.int 41]) jo_X11_isSign jc_11 rfl jwM_X11_259 jwN_X11_isSign jwX_X11_isSign dX11_part0_190 (jRok_m _ _ _) rfl (jle rfl) ⟨jle rfl, jle rfl⟩ hk82 h (fun r84 S83 h => ?_)
          refine jx_if_ne (tgt := 198) dX11_part0_193 (by decide) (fun c85 => ?_) (fun c85 => ?_)
          · replace h := h.2 c85
            refine jx_aload_n 0 dX11_part0_198 rfl rfl ?_
            refine jx_dup dX11_part0_199 rfl ?_
            obtain ⟨hk86, h⟩ := h
            refine jx_geti jc_11 (j := 25) (by decide) rfl jwF_X11_290 dX11_part0_200 hk86 ?_
            refine jx_iconst (v := 1) dX11_part0_203 (by decide) ?_
            refine jx_isub dX11_part0_204 ?_
            refine jx_puti jc_11 (j := 25) (by decide) rfl jwF_X11_290 rfl rfl rfl dX11_part0_205 hk86 ?_
            refine jx_aload_n 0 dX11_part0_208 rfl rfl ?_
            refine jx_callVv (M' := mX11_nextToken) (As := []) jo_X11_nextToken jc_11 rfl jwM_X11_262 jwN_X11_nextToken jwX_X11_nextToken dX11_part0_209 (jRok_m _ _ _) rfl (jle rfl) ⟨jle rfl, jle rfl⟩ hk86 h (fun S87 h => ?_)
            refine jx_iconst (v := 1) dX11_part0_212 (by decide) ?_
            exact jx_iret dX11_part0_213 rfl (by decide) (jle rfl) (jle rfl) ⟨_, rfl, h⟩
          replace h := h.1 c85
          refine jx_iconst (v := 0) dX11_part0_196 (by decide) ?_
          exact jx_iret dX11_part0_197 rfl (by decide) (jle rfl) (jle rfl) ⟨_, rfl, h⟩
        replace h := h.1 c76
        refine jx_iconst (v := 0) dX11_part0_163 (by decide) ?_
        exact jx_iret dX11_part0_164 rfl (by decide) (jle rfl) (jle rfl) ⟨_, rfl, h⟩
      replace h := h.2 c71
      refine jx_aload_n 0 dX11_part0_102 rfl rfl ?_
      refine jx_dup dX11_part0_103 rfl ?_
      refine jx_geti jc_11 (j := 26) (by decide) rfl jwF_X11_287 dX11_part0_104 hk70 ?_
      refine jx_iconst (v := 1) dX11_part0_107 (by decide) ?_
      refine jx_iadd dX11_part0_108 ?_
      refine jx_puti jc_11 (j := 26) (by decide) rfl jwF_X11_287 rfl rfl rfl dX11_part0_109 hk70 ?_
      refine jx_aload_n 0 dX11_part0_112 rfl rfl ?_
      refine jx_callVv (M' := mX11_nextToken) (As := []) jo_X11_nextToken jc_11 rfl jwM_X11_262 jwN_X11_nextToken jwX_X11_nextToken dX11_part0_113 (jRok_m _ _ _) rfl (jle rfl) ⟨jle rfl, jle rfl⟩ hk70 h (fun S88 h => ?_)
      refine jx_aload_n 0 dX11_part0_116 rfl rfl ?_
      refine jx_iload_n 1 dX11_part0_117 rfl rfl ?_
      obtain ⟨hk89, h⟩ := h
      refine jx_callVi (M' := mX11_part0) (As := [.int x1]) jo_X11_part0 jc_11 rfl jwM_X11_278 jwN_X11_part0 jwX_X11_part0 dX11_part0_118 (jRok_m _ _ _) rfl (jle rfl) ⟨jle rfl, jle rfl⟩ hk89 h (fun r91 S90 h => ?_)
      refine jx_if_ne (tgt := 126) dX11_part0_121 (by decide) (fun c92 => ?_) (fun c92 => ?_)
      · replace h := h.2 c92
        refine jx_aload_n 0 dX11_part0_126 rfl rfl ?_
        refine jx_dup dX11_part0_127 rfl ?_
        obtain ⟨hk93, h⟩ := h
        refine jx_geti jc_11 (j := 26) (by decide) rfl jwF_X11_287 dX11_part0_128 hk93 ?_
        refine jx_iconst (v := 1) dX11_part0_131 (by decide) ?_
        refine jx_isub dX11_part0_132 ?_
        refine jx_puti jc_11 (j := 26) (by decide) rfl jwF_X11_287 rfl rfl rfl dX11_part0_133 hk93 ?_
        refine jx_aload_n 0 dX11_part0_136 rfl rfl ?_
        refine jx_iconst (v := 2) dX11_part0_137 (by decide) ?_
        refine jx_bipush (v := 33) dX11_part0_138 (by decide) ?_
        refine jx_callVv (M' := mX11_step) (As := [.int 2, .int 33]) jo_X11_step jc_11 rfl jwM_X11_265 jwN_X11_step jwX_X11_step dX11_part0_140 (jRok_m _ _ _) rfl (jle rfl) ⟨jle rfl, jle rfl⟩ hk93 h (fun S94 h => ?_)
        refine jx_iconst (v := 1) dX11_part0_143 (by decide) ?_
        exact jx_iret dX11_part0_144 rfl (by decide) (jle rfl) (jle rfl) ⟨_, rfl, h⟩
      replace h := h.1 c92
      refine jx_iconst (v := 0) dX11_part0_124 (by decide) ?_
      exact jx_iret dX11_part0_125 rfl (by decide) (jle rfl) (jle rfl) ⟨_, rfl, h⟩
    replace h := h.2 c49
    refine jx_iload_n 1 dX11_part0_48 rfl rfl ?_
    refine jx_aload_n 0 dX11_part0_49 rfl rfl ?_
    refine jx_geti jc_11 (j := 24) (by decide) rfl jwF_X11_237 dX11_part0_50 hk1 ?_
    refine jx_callSi (M' := mX11_isName) (As := [.int x1, .int (ji S a0 24)]) jo_X11_isName jwM_X11_284 jwS_X11_isName dX11_part0_53 (jRok_m _ _ _) rfl (jle rfl) ⟨jle rfl, jle rfl⟩ (c_X11_isName (Q := fun v S' => v = (jisname x1 (ji S a0 24)) ∧ S = S') ⟨rfl, rfl⟩) (fun r95 S96 hq97 => ?_)
    obtain ⟨rfl, rfl⟩ := hq97
    refine jx_if_eq (tgt := 84) dX11_part0_56 (by decide) (fun c98 => ?_) (fun c98 => ?_)
    · replace h := h.1 c98
      refine jx_aload_n 0 dX11_part0_84 rfl rfl ?_
      refine jx_bipush (v := 33) dX11_part0_85 (by decide) ?_
      refine jx_callVi (M' := mX11_isSign) (As := [.int 33]) jo_X11_isSign jc_11 rfl jwM_X11_259 jwN_X11_isSign jwX_X11_isSign dX11_part0_87 (jRok_m _ _ _) rfl (jle rfl) ⟨jle rfl, jle rfl⟩ hk1 h (fun r100 S99 h => ?_)
      refine jx_if_eq (tgt := 145) dX11_part0_90 (by decide) (fun c101 => ?_) (fun c101 => ?_)
      · replace h := h.1 c101
        refine jx_aload_n 0 dX11_part0_145 rfl rfl ?_
        refine jx_bipush (v := 40) dX11_part0_146 (by decide) ?_
        obtain ⟨hk102, h⟩ := h
        refine jx_callVi (M' := mX11_isSign) (As := [.int 40]) jo_X11_isSign jc_11 rfl jwM_X11_259 jwN_X11_isSign jwX_X11_isSign dX11_part0_148 (jRok_m _ _ _) rfl (jle rfl) ⟨jle rfl, jle rfl⟩ hk102 h (fun r104 S103 h => ?_)
        refine jx_if_eq (tgt := 163) dX11_part0_151 (by decide) (fun c105 => ?_) (fun c105 => ?_)
        · replace h := h.1 c105
          refine jx_iconst (v := 0) dX11_part0_163 (by decide) ?_
          exact jx_iret dX11_part0_164 rfl (by decide) (jle rfl) (jle rfl) ⟨_, rfl, h⟩
        replace h := h.2 c105
        refine jx_aload_n 0 dX11_part0_154 rfl rfl ?_
        obtain ⟨hk106, h⟩ := h
        refine jx_geti jc_11 (j := 25) (by decide) rfl jwF_X11_290 dX11_part0_155 hk106 ?_
        refine jx_bipush (v := 8) dX11_part0_158 (by decide) ?_
        refine jx_icmp_ne (tgt := 165) dX11_part0_160 (by decide) (fun c107 => ?_) (fun c107 => ?_)
        · replace h := h.2 c107
          refine jx_aload_n 0 dX11_part0_165 rfl rfl ?_
          refine jx_dup dX11_part0_166 rfl ?_
          refine jx_geti jc_11 (j := 25) (by decide) rfl jwF_X11_290 dX11_part0_167 hk106 ?_
          refine jx_iconst (v := 1) dX11_part0_170 (by decide) ?_
          refine jx_iadd dX11_part0_171 ?_
          refine jx_puti jc_11 (j := 25) (by decide) rfl jwF_X11_290 rfl rfl rfl dX11_part0_172 hk106 ?_
          refine jx_aload_n 0 dX11_part0_175 rfl rfl ?_
          refine jx_callVv (M' := mX11_nextToken) (As := []) jo_X11_nextToken jc_11 rfl jwM_X11_262 jwN_X11_nextToken jwX_X11_nextToken dX11_part0_176 (jRok_m _ _ _) rfl (jle rfl) ⟨jle rfl, jle rfl⟩ hk106 h (fun S108 h => ?_)
          refine jx_aload_n 0 dX11_part0_179 rfl rfl ?_
          refine jx_iload_n 1 dX11_part0_180 rfl rfl ?_
          obtain ⟨hk109, h⟩ := h
          refine jx_callVi (M' := mX11_either) (As := [.int x1]) jo_X11_either jc_11 rfl jwM_X11_293 jwN_X11_either jwX_X11_either dX11_part0_181 (jRok_m _ _ _) rfl (jle rfl) ⟨jle rfl, jle rfl⟩ hk109 h (fun r111 S110 h => ?_)
          refine jx_if_eq (tgt := 196) dX11_part0_184 (by decide) (fun c112 => ?_) (fun c112 => ?_)
          · replace h := h.1 c112
            refine jx_iconst (v := 0) dX11_part0_196 (by decide) ?_
            exact jx_iret dX11_part0_197 rfl (by decide) (jle rfl) (jle rfl) ⟨_, rfl, h⟩
          replace h := h.2 c112
          refine jx_aload_n 0 dX11_part0_187 rfl rfl ?_
          refine jx_bipush (v := 41) dX11_part0_188 (by decide) ?_
          obtain ⟨hk113, h⟩ := h
          refine jx_callVi (M' := mX11_isSign) (As := [.int 41]) jo_X11_isSign jc_11 rfl jwM_X11_259 jwN_X11_isSign jwX_X11_isSign dX11_part0_190 (jRok_m _ _ _) rfl (jle rfl) ⟨jle rfl, jle rfl⟩ hk113 h (fun r115 S114 h => ?_)
          refine jx_if_ne (tgt := 198) dX11_part0_193 (by decide) (fun c116 => ?_) (fun c116 => ?_)
          · replace h := h.2 c116
            refine jx_aload_n 0 dX11_part0_198 rfl rfl ?_
            refine jx_dup dX11_part0_199 rfl ?_
            obtain ⟨hk117, h⟩ := h
            refine jx_geti jc_11 (j := 25) (by decide) rfl jwF_X11_290 dX11_part0_200 hk117 ?_
            refine jx_iconst (v := 1) dX11_part0_203 (by decide) ?_
            refine jx_isub dX11_part0_204 ?_
            refine jx_puti jc_11 (j := 25) (by decide) rfl jwF_X11_290 rfl rfl rfl dX11_part0_205 hk117 ?_
            refine jx_aload_n 0 dX11_part0_208 rfl rfl ?_
            refine jx_callVv (M' := mX11_nextToken) (As := []) jo_X11_nextToken jc_11 rfl jwM_X11_262 jwN_X11_nextToken jwX_X11_nextToken dX11_part0_209 (jRok_m _ _ _) rfl (jle rfl) ⟨jle rfl, jle rfl⟩ hk117 h (fun S118 h => ?_)
            refine jx_iconst (v := 1) dX11_part0_212 (by decide) ?_
            exact jx_iret dX11_part0_213 rfl (by decide) (jle rfl) (jle rfl) ⟨_, rfl, h⟩
          replace h := h.1 c116
          refine jx_iconst (v := 0) dX11_part0_196 (by decide) ?_
          exact jx_iret dX11_part0_197 rfl (by decide) (jle rfl) (jle rfl) ⟨_, rfl, h⟩
        replace h := h.1 c107
        refine jx_iconst (v := 0) dX11_part0_163 (by decide) ?_
        exact jx_iret dX11_part0_164 rfl (by decide) (jle rfl) (jle rfl) ⟨_, rfl, h⟩
      replace h := h.2 c101
      refine jx_aload_n 0 dX11_part0_93 rfl rfl ?_
      obtain ⟨hk119, h⟩ := h
      refine jx_geti jc_11 (j := 26) (by decide) rfl jwF_X11_287 dX11_part0_94 hk119 ?_
      refine jx_bipush (v := 8) dX11_part0_97 (by decide) ?_
      refine jx_icmp_ge (tgt := 145) dX11_part0_99 (by decide) (fun c120 => ?_) (fun c120 => ?_)
      · replace h := h.1 c120
        refine jx_aload_n 0 dX11_part0_145 rfl rfl ?_
        refine jx_bipush (v := 40) dX11_part0_146 (by decide) ?_
        refine jx_callVi (M' := mX11_isSign) (As := [.int 40]) jo_X11_isSign jc_11 rfl jwM_X11_259 jwN_X11_isSign jwX_X11_isSign dX11_part0_148 (jRok_m _ _ _) rfl (jle rfl) ⟨jle rfl, jle rfl⟩ hk119 h (fun r122 S121 h => ?_)
        refine jx_if_eq (tgt := 163) dX11_part0_151 (by decide) (fun c123 => ?_) (fun c123 => ?_)
        · replace h := h.1 c123
          refine jx_iconst (v := 0) dX11_part0_163 (by decide) ?_
          exact jx_iret dX11_part0_164 rfl (by decide) (jle rfl) (jle rfl) ⟨_, rfl, h⟩
        replace h := h.2 c123
        refine jx_aload_n 0 dX11_part0_154 rfl rfl ?_
        obtain ⟨hk124, h⟩ := h
        refine jx_geti jc_11 (j := 25) (by decide) rfl jwF_X11_290 dX11_part0_155 hk124 ?_
        refine jx_bipush (v := 8) dX11_part0_158 (by decide) ?_
        refine jx_icmp_ne (tgt := 165) dX11_part0_160 (by decide) (fun c125 => ?_) (fun c125 => ?_)
        · replace h := h.2 c125
          refine jx_aload_n 0 dX11_part0_165 rfl rfl ?_
          refine jx_dup dX11_part0_166 rfl ?_
          refine jx_geti jc_11 (j := 25) (by decide) rfl jwF_X11_290 dX11_part0_167 hk124 ?_
          refine jx_iconst (v := 1) dX11_part0_170 (by decide) ?_
          refine jx_iadd dX11_part0_171 ?_
          refine jx_puti jc_11 (j := 25) (by decide) rfl jwF_X11_290 rfl rfl rfl dX11_part0_172 hk124 ?_
          refine jx_aload_n 0 dX11_part0_175 rfl rfl ?_
          refine jx_callVv (M' := mX11_nextToken) (As := []) jo_X11_nextToken jc_11 rfl jwM_X11_262 jwN_X11_nextToken jwX_X11_nextToken dX11_part0_176 (jRok_m _ _ _) rfl (jle rfl) ⟨jle rfl, jle rfl⟩ hk124 h (fun S126 h => ?_)
          refine jx_aload_n 0 dX11_part0_179 rfl rfl ?_
          refine jx_iload_n 1 dX11_part0_180 rfl rfl ?_
          obtain ⟨hk127, h⟩ := h
          refine jx_callVi (M' := mX11_either) (As := [.int x1]) jo_X11_either jc_11 rfl jwM_X11_293 jwN_X11_either jwX_X11_either dX11_part0_181 (jRok_m _ _ _) rfl (jle rfl) ⟨jle rfl, jle rfl⟩ hk127 h (fun r129 S128 h => ?_)
          refine jx_if_eq (tgt := 196) dX11_part0_184 (by decide) (fun c130 => ?_) (fun c130 => ?_)
          · replace h := h.1 c130
            refine jx_iconst (v := 0) dX11_part0_196 (by decide) ?_
            exact jx_iret dX11_part0_197 rfl (by decide) (jle rfl) (jle rfl) ⟨_, rfl, h⟩
          replace h := h.2 c130
          refine jx_aload_n 0 dX11_part0_187 rfl rfl ?_
          refine jx_bipush (v := 41) dX11_part0_188 (by decide) ?_
          obtain ⟨hk131, h⟩ := h
          refine jx_callVi (M' := mX11_isSign) (As := [.int 41]) jo_X11_isSign jc_11 rfl jwM_X11_259 jwN_X11_isSign jwX_X11_isSign dX11_part0_190 (jRok_m _ _ _) rfl (jle rfl) ⟨jle rfl, jle rfl⟩ hk131 h (fun r133 S132 h => ?_)
          refine jx_if_ne (tgt := 198) dX11_part0_193 (by decide) (fun c134 => ?_) (fun c134 => ?_)
          · replace h := h.2 c134
            refine jx_aload_n 0 dX11_part0_198 rfl rfl ?_
            refine jx_dup dX11_part0_199 rfl ?_
            obtain ⟨hk135, h⟩ := h
            refine jx_geti jc_11 (j := 25) (by decide) rfl jwF_X11_290 dX11_part0_200 hk135 ?_
            refine jx_iconst (v := 1) dX11_part0_203 (by decide) ?_
            refine jx_isub dX11_part0_204 ?_
            refine jx_puti jc_11 (j := 25) (by decide) rfl jwF_X11_290 rfl rfl rfl dX11_part0_205 hk135 ?_
            refine jx_aload_n 0 dX11_part0_208 rfl rfl ?_
            refine jx_callVv (M' := mX11_nextToken) (As := []) jo_X11_nextToken jc_11 rfl jwM_X11_262 jwN_X11_nextToken jwX_X11_nextToken dX11_part0_209 (jRok_m _ _ _) rfl (jle rfl) ⟨jle rfl, jle rfl⟩ hk135 h (fun S136 h => ?_)
            refine jx_iconst (v := 1) dX11_part0_212 (by decide) ?_
            exact jx_iret dX11_part0_213 rfl (by decide) (jle rfl) (jle rfl) ⟨_, rfl, h⟩
          replace h := h.1 c134
          refine jx_iconst (v := 0) dX11_part0_196 (by decide) ?_
          exact jx_iret dX11_part0_197 rfl (by decide) (jle rfl) (jle rfl) ⟨_, rfl, h⟩
        replace h := h.1 c125
        refine jx_iconst (v := 0) dX11_part0_163 (by decide) ?_
        exact jx_iret dX11_part0_164 rfl (by decide) (jle rfl) (jle rfl) ⟨_, rfl, h⟩
      replace h := h.2 c120
      refine jx_aload_n 0 dX11_part0_102 rfl rfl ?_
      refine jx_dup dX11_part0_103 rfl ?_
      refine jx_geti jc_11 (j := 26) (by decide) rfl jwF_X11_287 dX11_part0_104 hk119 ?_
      refine jx_iconst (v := 1) dX11_part0_107 (by decide) ?_
      refine jx_iadd dX11_part0_108 ?_
      refine jx_puti jc_11 (j := 26) (by decide) rfl jwF_X11_287 rfl rfl rfl dX11_part0_109 hk119 ?_
      refine jx_aload_n 0 dX11_part0_112 rfl rfl ?_
      refine jx_callVv (M' := mX11_nextToken) (As := []) jo_X11_nextToken jc_11 rfl jwM_X11_262 jwN_X11_nextToken jwX_X11_nextToken dX11_part0_113 (jRok_m _ _ _) rfl (jle rfl) ⟨jle rfl, jle rfl⟩ hk119 h (fun S137 h => ?_)
      refine jx_aload_n 0 dX11_part0_116 rfl rfl ?_
      refine jx_iload_n 1 dX11_part0_117 rfl rfl ?_
      obtain ⟨hk138, h⟩ := h
      refine jx_callVi (M' := mX11_part0) (As := [.int x1]) jo_X11_part0 jc_11 rfl jwM_X11_278 jwN_X11_part0 jwX_X11_part0 dX11_part0_118 (jRok_m _ _ _) rfl (jle rfl) ⟨jle rfl, jle rfl⟩ hk138 h (fun r140 S139 h => ?_)
      refine jx_if_ne (tgt := 126) dX11_part0_121 (by decide) (fun c141 => ?_) (fun c141 => ?_)
      · replace h := h.2 c141
        refine jx_aload_n 0 dX11_part0_126 rfl rfl ?_
        refine jx_dup dX11_part0_127 rfl ?_
        obtain ⟨hk142, h⟩ := h
        refine jx_geti jc_11 (j := 26) (by decide) rfl jwF_X11_287 dX11_part0_128 hk142 ?_
        refine jx_iconst (v := 1) dX11_part0_131 (by decide) ?_
        refine jx_isub dX11_part0_132 ?_
        refine jx_puti jc_11 (j := 26) (by decide) rfl jwF_X11_287 rfl rfl rfl dX11_part0_133 hk142 ?_
        refine jx_aload_n 0 dX11_part0_136 rfl rfl ?_
        refine jx_iconst (v := 2) dX11_part0_137 (by decide) ?_
        refine jx_bipush (v := 33) dX11_part0_138 (by decide) ?_
        refine jx_callVv (M' := mX11_step) (As := [.int 2, .int 33]) jo_X11_step jc_11 rfl jwM_X11_265 jwN_X11_step jwX_X11_step dX11_part0_140 (jRok_m _ _ _) rfl (jle rfl) ⟨jle rfl, jle rfl⟩ hk142 h (fun S143 h => ?_)
        refine jx_iconst (v := 1) dX11_part0_143 (by decide) ?_
        exact jx_iret dX11_part0_144 rfl (by decide) (jle rfl) (jle rfl) ⟨_, rfl, h⟩
      replace h := h.1 c141
      refine jx_iconst (v := 0) dX11_part0_124 (by decide) ?_
      exact jx_iret dX11_part0_125 rfl (by decide) (jle rfl) (jle rfl) ⟨_, rfl, h⟩
    replace h := h.2 c98
    refine jx_aload_n 0 dX11_part0_59 rfl rfl ?_
    refine jx_iconst (v := 1) dX11_part0_60 (by decide) ?_
    refine jx_aload_n 0 dX11_part0_61 rfl rfl ?_
    refine jx_geti jc_11 (j := 24) (by decide) rfl jwF_X11_237 dX11_part0_62 hk1 ?_
    refine jx_callVv (M' := mX11_step) (As := [.int 1, .int (ji S a0 24)]) jo_X11_step jc_11 rfl jwM_X11_265 jwN_X11_step jwX_X11_step dX11_part0_65 (jRok_m _ _ _) rfl (jle rfl) ⟨jle rfl, jle rfl⟩ hk1 h (fun S144 h => ?_)
    refine jx_aload_n 0 dX11_part0_68 rfl rfl ?_
    refine jx_dup dX11_part0_69 rfl ?_
    obtain ⟨hk145, h⟩ := h
    refine jx_geti jc_11 (j := 29) (by decide) rfl jwF_X11_281 dX11_part0_70 hk145 ?_
    refine jx_iconst (v := 1) dX11_part0_73 (by decide) ?_
    refine jx_iadd dX11_part0_74 ?_
    refine jx_puti jc_11 (j := 29) (by decide) rfl jwF_X11_281 rfl rfl rfl dX11_part0_75 hk145 ?_
    refine jx_aload_n 0 dX11_part0_78 rfl rfl ?_
    refine jx_callVv (M' := mX11_nextToken) (As := []) jo_X11_nextToken jc_11 rfl jwM_X11_262 jwN_X11_nextToken jwX_X11_nextToken dX11_part0_79 (jRok_m _ _ _) rfl (jle rfl) ⟨jle rfl, jle rfl⟩ hk145 h (fun S146 h => ?_)
    refine jx_iconst (v := 1) dX11_part0_82 (by decide) ?_
    exact jx_iret dX11_part0_83 rfl (by decide) (jle rfl) (jle rfl) ⟨_, rfl, h⟩
  replace h := h.1 c2
  refine jx_aload_n 0 dX11_part0_8 rfl rfl ?_
  refine jx_iconst (v := 0) dX11_part0_9 (by decide) ?_
  refine jx_aload_n 0 dX11_part0_10 rfl rfl ?_
  refine jx_geti jc_11 (j := 23) (by decide) rfl jwF_X11_243 dX11_part0_11 hk1 ?_
  refine jx_callVv (M' := mX11_step) (As := [.int 0, .int (ji S a0 23)]) jo_X11_step jc_11 rfl jwM_X11_265 jwN_X11_step jwX_X11_step dX11_part0_14 (jRok_m _ _ _) rfl (jle rfl) ⟨jle rfl, jle rfl⟩ hk1 h (fun S147 h => ?_)
  refine jx_aload_n 0 dX11_part0_17 rfl rfl ?_
  refine jx_dup dX11_part0_18 rfl ?_
  obtain ⟨hk148, h⟩ := h
  refine jx_geti jc_11 (j := 29) (by decide) rfl jwF_X11_281 dX11_part0_19 hk148 ?_
  refine jx_iconst (v := 1) dX11_part0_22 (by decide) ?_
  refine jx_iadd dX11_part0_23 ?_
  refine jx_puti jc_11 (j := 29) (by decide) rfl jwF_X11_281 rfl rfl rfl dX11_part0_24 hk148 ?_
  refine jx_aload_n 0 dX11_part0_27 rfl rfl ?_
  refine jx_callVv (M' := mX11_nextToken) (As := []) jo_X11_nextToken jc_11 rfl jwM_X11_262 jwN_X11_nextToken jwX_X11_nextToken dX11_part0_28 (jRok_m _ _ _) rfl (jle rfl) ⟨jle rfl, jle rfl⟩ hk148 h (fun S149 h => ?_)
  refine jx_iconst (v := 1) dX11_part0_31 (by decide) ?_
  exact jx_iret dX11_part0_32 rfl (by decide) (jle rfl) (jle rfl) ⟨_, rfl, h⟩
set_option maxRecDepth 100000 in
set_option maxHeartbeats 4000000 in
theorem T_X11_parse {E : jEnv} {d : Nat} {Q : Int32 → jM → Prop} {a0 : Nat} {S : jM} (h : jk S a0 = 11 ∧ ∃ b2, jr S a0 0 = some b2 ∧ (jk S b2 = 12 ∧ vp_in 1 (jl S b2) ∧ ((14 ≤ (ji S b2 (Int32.toNatClampNeg 1)) → jFv E mX11_nextToken d 0 0 [.ref a0] (jput (jput (jput (jput (jput (jput (jput S a0 21 0) a0 22 3) a0 25 0) a0 26 0) a0 27 0) a0 29 0) a0 28 2935) (fun S6 => jk S6 a0 = 11 ∧ jFi E mX11_key d 0 0 [.ref a0] S6 (fun r9 S8 => (r9 < 0 → jk S8 a0 = 11 ∧ Q (-1) (jput S8 a0 19 0)) ∧ (¬ r9 < 0 → jk S8 a0 = 11 ∧ jFv E mX11_nextToken d 0 0 [.ref a0] S8 (fun S13 => jk S13 a0 = 11 ∧ jFi E mX11_either d 0 0 [.ref a0, .int r9] S13 (fun r16 S15 => (r16 = 0 → jk S15 a0 = 11 ∧ Q (-1) (jput S15 a0 19 0)) ∧ (¬ r16 = 0 → jk S15 a0 = 11 ∧ ((ji S15 a0 22) = 0 → Q r9 (jput S15 a0 19 0)) ∧ (¬ (ji S15 a0 22) = 0 → Q (-1) (jput S15 a0 19 0))))))))) ∧ (¬ 14 ≤ (ji S b2 (Int32.toNatClampNeg 1)) → (jFv E mX11_nextToken d 0 0 [.ref a0] (jput (jput (jput (jput (jput (jput (jput S a0 21 0) a0 22 3) a0 25 0) a0 26 0) a0 27 0) a0 29 0) a0 28 ((jtextat (ji S b2 (Int32.toNatClampNeg 1))) + 4)) (fun S24 => jk S24 a0 = 11 ∧ jFi E mX11_key d 0 0 [.ref a0] S24 (fun r27 S26 => (r27 < 0 → jk S26 a0 = 11 ∧ Q (-1) (jput S26 a0 19 0)) ∧ (¬ r27 < 0 → jk S26 a0 = 11 ∧ jFv E mX11_nextToken d 0 0 [.ref a0] S26 (fun S31 => jk S31 a0 = 11 ∧ jFi E mX11_either d 0 0 [.ref a0, .int r27] S31 (fun r34 S33 => (r34 = 0 → jk S33 a0 = 11 ∧ Q (-1) (jput S33 a0 19 0)) ∧ (¬ r34 = 0 → jk S33 a0 = 11 ∧ ((ji S33 a0 22) = 0 → Q r27 (jput S33 a0 19 0)) ∧ (¬ (ji S33 a0 22) = 0 → Q (-1) (jput S33 a0 19 0))))))))))))) : jFi E mX11_parse (d + 1) 0 0 [.ref a0] S Q := by
  refine jF_of (by decide) (jle rfl) ?_
  refine jx_lv (lv1 := [(0, .ref a0)]) [0] rfl ?_
  refine jx_aload_n 0 dX11_parse_0 rfl rfl ?_
  refine jx_iconst (v := 0) dX11_parse_1 (by decide) ?_
  obtain ⟨hk1, h⟩ := h
  refine jx_puti jc_11 (j := 21) (by decide) rfl jwF_X11_225 rfl rfl rfl dX11_parse_2 hk1 ?_
  refine jx_aload_n 0 dX11_parse_5 rfl rfl ?_
  refine jx_iconst (v := 3) dX11_parse_6 (by decide) ?_
  refine jx_puti jc_11 (j := 22) (by decide) rfl jwF_X11_228 rfl rfl rfl dX11_parse_7 hk1 ?_
  refine jx_aload_n 0 dX11_parse_10 rfl rfl ?_
  refine jx_iconst (v := 0) dX11_parse_11 (by decide) ?_
  refine jx_puti jc_11 (j := 25) (by decide) rfl jwF_X11_290 rfl rfl rfl dX11_parse_12 hk1 ?_
  refine jx_aload_n 0 dX11_parse_15 rfl rfl ?_
  refine jx_iconst (v := 0) dX11_parse_16 (by decide) ?_
  refine jx_puti jc_11 (j := 26) (by decide) rfl jwF_X11_287 rfl rfl rfl dX11_parse_17 hk1 ?_
  refine jx_aload_n 0 dX11_parse_20 rfl rfl ?_
  refine jx_iconst (v := 0) dX11_parse_21 (by decide) ?_
  refine jx_puti jc_11 (j := 27) (by decide) rfl jwF_X11_253 rfl rfl rfl dX11_parse_22 hk1 ?_
  refine jx_aload_n 0 dX11_parse_25 rfl rfl ?_
  refine jx_iconst (v := 0) dX11_parse_26 (by decide) ?_
  refine jx_puti jc_11 (j := 29) (by decide) rfl jwF_X11_281 rfl rfl rfl dX11_parse_27 hk1 ?_
  refine jx_aload_n 0 dX11_parse_30 rfl rfl ?_
  refine jx_aload_n 0 dX11_parse_31 rfl rfl ?_
  obtain ⟨b2, hb2, h⟩ := h
  refine jx_getr jc_11 (j := 0) (by decide) rfl jwF_X11_7 dX11_parse_32 hk1 hb2 ?_
  refine jx_iconst (v := 1) dX11_parse_35 (by decide) ?_
  obtain ⟨hk3, h⟩ := h
  obtain ⟨hi4, h⟩ := h
  refine jx_iald dX11_parse_36 hk3 hi4 ?_
  refine jx_topi (y := (ji S b2 (Int32.toNatClampNeg 1))) (by simp [ji_put, ji_row, ji_putr, jne hk3 hk1 (by decide), jne hk3 hk1 (by decide), jne hk3 hk1 (by decide), jne hk3 hk1 (by decide), jne hk3 hk1 (by decide), jne hk3 hk1 (by decide)]) ?_
  refine jx_bipush (v := 14) dX11_parse_37 (by decide) ?_
  refine jx_icmp_ge (tgt := 57) dX11_parse_39 (by decide) (fun c5 => ?_) (fun c5 => ?_)
  · replace h := h.1 c5
    refine jx_sipush (v := 2935) dX11_parse_57 (by decide) ?_
    refine jx_puti jc_11 (j := 28) (by decide) rfl jwF_X11_250 rfl rfl rfl dX11_parse_60 hk1 ?_
    refine jx_aload_n 0 dX11_parse_63 rfl rfl ?_
    refine jx_callVv (M' := mX11_nextToken) (As := []) jo_X11_nextToken jc_11 rfl jwM_X11_262 jwN_X11_nextToken jwX_X11_nextToken dX11_parse_64 (jRok_m _ _ _) rfl (jle rfl) ⟨jle rfl, jle rfl⟩ hk1 h (fun S6 h => ?_)
    refine jx_aload_n 0 dX11_parse_67 rfl rfl ?_
    obtain ⟨hk7, h⟩ := h
    refine jx_callVi (M' := mX11_key) (As := []) jo_X11_key jc_11 rfl jwM_X11_299 jwN_X11_key jwX_X11_key dX11_parse_68 (jRok_m _ _ _) rfl (jle rfl) ⟨jle rfl, jle rfl⟩ hk7 h (fun r9 S8 h => ?_)
    refine jx_istore_n (lv1 := [(1, .int r9), (0, .ref a0)]) dX11_parse_71 rfl (by decide) rfl ?_
    refine jx_iload_n 0 dX11_parse_72 rfl rfl ?_
    refine jx_if_lt (tgt := 80) dX11_parse_73 (by decide) (fun c10 => ?_) (fun c10 => ?_)
    · replace h := h.1 c10
      refine jx_iconst (v := 0) dX11_parse_80 (by decide) ?_
      refine jx_istore_n (lv1 := [(2, .int 0), (1, .int r9), (0, .ref a0)]) dX11_parse_81 rfl (by decide) rfl ?_
      refine jx_iload_n 0 dX11_parse_82 rfl rfl ?_
      refine jx_if_eq (tgt := 111) dX11_parse_83 (by decide) (fun _ => ?_) (fun z9 => absurd z9 (by decide))
      refine jx_aload_n 2 dX11_parse_111 rfl rfl ?_
      refine jx_iconst (v := 0) dX11_parse_112 (by decide) ?_
      obtain ⟨hk11, h⟩ := h
      refine jx_puti jc_11 (j := 19) (by decide) rfl jwF_X11_214 rfl rfl rfl dX11_parse_113 hk11 ?_
      refine jx_iload_n 0 dX11_parse_116 rfl rfl ?_
      refine jx_if_eq (tgt := 124) dX11_parse_117 (by decide) (fun _ => ?_) (fun z9 => absurd z9 (by decide))
      refine jx_iconst (v := (-1)) dX11_parse_124 (by decide) ?_
      exact jx_iret dX11_parse_125 rfl rfl (jle rfl) (jle rfl) ⟨_, rfl, h⟩
    replace h := h.2 c10
    refine jx_iconst (v := 1) dX11_parse_76 (by decide) ?_
    refine jx_goto (tgt := 81) dX11_parse_77 (by decide) ?_
    refine jx_istore_n (lv1 := [(2, .int 1), (1, .int r9), (0, .ref a0)]) dX11_parse_81 rfl (by decide) rfl ?_
    refine jx_iload_n 0 dX11_parse_82 rfl rfl ?_
    refine jx_if_eq (tgt := 111) dX11_parse_83 (by decide) (fun z9 => absurd z9 (by decide)) (fun _ => ?_)
    refine jx_aload_n 2 dX11_parse_86 rfl rfl ?_
    obtain ⟨hk12, h⟩ := h
    refine jx_callVv (M' := mX11_nextToken) (As := []) jo_X11_nextToken jc_11 rfl jwM_X11_262 jwN_X11_nextToken jwX_X11_nextToken dX11_parse_87 (jRok_m _ _ _) rfl (jle rfl) ⟨jle rfl, jle rfl⟩ hk12 h (fun S13 h => ?_)
    refine jx_aload_n 2 dX11_parse_90 rfl rfl ?_
    refine jx_iload_n 1 dX11_parse_91 rfl rfl ?_
    obtain ⟨hk14, h⟩ := h
    refine jx_callVi (M' := mX11_either) (As := [.int r9]) jo_X11_either jc_11 rfl jwM_X11_293 jwN_X11_either jwX_X11_either dX11_parse_92 (jRok_m _ _ _) rfl (jle rfl) ⟨jle rfl, jle rfl⟩ hk14 h (fun r16 S15 h => ?_)
    refine jx_if_eq (tgt := 109) dX11_parse_95 (by decide) (fun c17 => ?_) (fun c17 => ?_)
    · replace h := h.1 c17
      refine jx_iconst (v := 0) dX11_parse_109 (by decide) ?_
      refine jx_istore_n (lv1 := [(2, .int 0), (1, .int r9), (0, .ref a0)]) dX11_parse_110 rfl (by decide) rfl ?_
      refine jx_aload_n 2 dX11_parse_111 rfl rfl ?_
      refine jx_iconst (v := 0) dX11_parse_112 (by decide) ?_
      obtain ⟨hk18, h⟩ := h
      refine jx_puti jc_11 (j := 19) (by decide) rfl jwF_X11_214 rfl rfl rfl dX11_parse_113 hk18 ?_
      refine jx_iload_n 0 dX11_parse_116 rfl rfl ?_
      refine jx_if_eq (tgt := 124) dX11_parse_117 (by decide) (fun _ => ?_) (fun z9 => absurd z9 (by decide))
      refine jx_iconst (v := (-1)) dX11_parse_124 (by decide) ?_
      exact jx_iret dX11_parse_125 rfl rfl (jle rfl) (jle rfl) ⟨_, rfl, h⟩
    replace h := h.2 c17
    refine jx_aload_n 2 dX11_parse_98 rfl rfl ?_
    obtain ⟨hk19, h⟩ := h
    refine jx_geti jc_11 (j := 22) (by decide) rfl jwF_X11_228 dX11_parse_99 hk19 ?_
    refine jx_if_ne (tgt := 109) dX11_parse_102 (by decide) (fun c20 => ?_) (fun c20 => ?_)
    · replace h := h.2 c20
      refine jx_iconst (v := 0) dX11_parse_109 (by decide) ?_
      refine jx_istore_n (lv1 := [(2, .int 0), (1, .int r9), (0, .ref a0)]) dX11_parse_110 rfl (by decide) rfl ?_
      refine jx_aload_n 2 dX11_parse_111 rfl rfl ?_
      refine jx_iconst (v := 0) dX11_parse_112 (by decide) ?_
      refine jx_puti jc_11 (j := 19) (by decide) rfl jwF_X11_214 rfl rfl rfl dX11_parse_113 hk19 ?_
      refine jx_iload_n 0 dX11_parse_116 rfl rfl ?_
      refine jx_if_eq (tgt := 124) dX11_parse_117 (by decide) (fun _ => ?_) (fun z9 => absurd z9 (by decide))
      refine jx_iconst (v := (-1)) dX11_parse_124 (by decide) ?_
      exact jx_iret dX11_parse_125 rfl rfl (jle rfl) (jle rfl) ⟨_, rfl, h⟩
    replace h := h.1 c20
    refine jx_iconst (v := 1) dX11_parse_105 (by decide) ?_
    refine jx_goto (tgt := 110) dX11_parse_106 (by decide) ?_
    refine jx_istore_n (lv1 := [(2, .int 1), (1, .int r9), (0, .ref a0)]) dX11_parse_110 rfl (by decide) rfl ?_
    refine jx_aload_n 2 dX11_parse_111 rfl rfl ?_
    refine jx_iconst (v := 0) dX11_parse_112 (by decide) ?_
    refine jx_puti jc_11 (j := 19) (by decide) rfl jwF_X11_214 rfl rfl rfl dX11_parse_113 hk19 ?_
    refine jx_iload_n 0 dX11_parse_116 rfl rfl ?_
    refine jx_if_eq (tgt := 124) dX11_parse_117 (by decide) (fun z9 => absurd z9 (by decide)) (fun _ => ?_)
    refine jx_iload_n 1 dX11_parse_120 rfl rfl ?_
    refine jx_goto (tgt := 125) dX11_parse_121 (by decide) ?_
    exact jx_iret dX11_parse_125 rfl rfl (jle rfl) (jle rfl) ⟨_, rfl, h⟩
  replace h := h.2 c5
  refine jx_aload_n 0 dX11_parse_42 rfl rfl ?_
  refine jx_aload_n 0 dX11_parse_43 rfl rfl ?_
  refine jx_getr jc_11 (j := 0) (by decide) rfl jwF_X11_7 dX11_parse_44 hk1 hb2 ?_
  refine jx_iconst (v := 1) dX11_parse_47 (by decide) ?_
  refine jx_iald dX11_parse_48 hk3 hi4 ?_
  refine jx_topi (y := (ji S b2 (Int32.toNatClampNeg 1))) (by simp [ji_put, ji_row, ji_putr, jne hk3 hk1 (by decide), jne hk3 hk1 (by decide), jne hk3 hk1 (by decide), jne hk3 hk1 (by decide), jne hk3 hk1 (by decide), jne hk3 hk1 (by decide)]) ?_
  refine jx_callVi (M' := mX11_textAt) (As := [.int (ji S b2 (Int32.toNatClampNeg 1))]) jo_X11_textAt jc_11 rfl jwM_X11_296 jwN_X11_textAt jwX_X11_textAt dX11_parse_49 (jRok_m _ _ _) rfl (jle rfl) ⟨jle rfl, jle rfl⟩ hk1 (c_X11_textAt (Q := fun v S' => v = (jtextat (ji S b2 (Int32.toNatClampNeg 1))) ∧ (jput (jput (jput (jput (jput (jput S a0 21 0) a0 22 3) a0 25 0) a0 26 0) a0 27 0) a0 29 0) = S') ⟨rfl, rfl⟩) (fun r21 S22 hq23 => ?_)
  obtain ⟨rfl, rfl⟩ := hq23
  refine jx_iconst (v := 4) dX11_parse_52 (by decide) ?_
  refine jx_iadd dX11_parse_53 ?_
  refine jx_goto (tgt := 60) dX11_parse_54 (by decide) ?_
  refine jx_puti jc_11 (j := 28) (by decide) rfl jwF_X11_250 rfl rfl rfl dX11_parse_60 hk1 ?_
  refine jx_aload_n 0 dX11_parse_63 rfl rfl ?_
  refine jx_callVv (M' := mX11_nextToken) (As := []) jo_X11_nextToken jc_11 rfl jwM_X11_262 jwN_X11_nextToken jwX_X11_nextToken dX11_parse_64 (jRok_m _ _ _) rfl (jle rfl) ⟨jle rfl, jle rfl⟩ hk1 h (fun S24 h => ?_)
  refine jx_aload_n 0 dX11_parse_67 rfl rfl ?_
  obtain ⟨hk25, h⟩ := h
  refine jx_callVi (M' := mX11_key) (As := []) jo_X11_key jc_11 rfl jwM_X11_299 jwN_X11_key jwX_X11_key dX11_parse_68 (jRok_m _ _ _) rfl (jle rfl) ⟨jle rfl, jle rfl⟩ hk25 h (fun r27 S26 h => ?_)
  refine jx_istore_n (lv1 := [(1, .int r27), (0, .ref a0)]) dX11_parse_71 rfl (by decide) rfl ?_
  refine jx_iload_n 0 dX11_parse_72 rfl rfl ?_
  refine jx_if_lt (tgt := 80) dX11_parse_73 (by decide) (fun c28 => ?_) (fun c28 => ?_)
  · replace h := h.1 c28
    refine jx_iconst (v := 0) dX11_parse_80 (by decide) ?_
    refine jx_istore_n (lv1 := [(2, .int 0), (1, .int r27), (0, .ref a0)]) dX11_parse_81 rfl (by decide) rfl ?_
    refine jx_iload_n 0 dX11_parse_82 rfl rfl ?_
    refine jx_if_eq (tgt := 111) dX11_parse_83 (by decide) (fun _ => ?_) (fun z9 => absurd z9 (by decide))
    refine jx_aload_n 2 dX11_parse_111 rfl rfl ?_
    refine jx_iconst (v := 0) dX11_parse_112 (by decide) ?_
    obtain ⟨hk29, h⟩ := h
    refine jx_puti jc_11 (j := 19) (by decide) rfl jwF_X11_214 rfl rfl rfl dX11_parse_113 hk29 ?_
    refine jx_iload_n 0 dX11_parse_116 rfl rfl ?_
    refine jx_if_eq (tgt := 124) dX11_parse_117 (by decide) (fun _ => ?_) (fun z9 => absurd z9 (by decide))
    refine jx_iconst (v := (-1)) dX11_parse_124 (by decide) ?_
    exact jx_iret dX11_parse_125 rfl rfl (jle rfl) (jle rfl) ⟨_, rfl, h⟩
  replace h := h.2 c28
  refine jx_iconst (v := 1) dX11_parse_76 (by decide) ?_
  refine jx_goto (tgt := 81) dX11_parse_77 (by decide) ?_
  refine jx_istore_n (lv1 := [(2, .int 1), (1, .int r27), (0, .ref a0)]) dX11_parse_81 rfl (by decide) rfl ?_
  refine jx_iload_n 0 dX11_parse_82 rfl rfl ?_
  refine jx_if_eq (tgt := 111) dX11_parse_83 (by decide) (fun z9 => absurd z9 (by decide)) (fun _ => ?_)
  refine jx_aload_n 2 dX11_parse_86 rfl rfl ?_
  obtain ⟨hk30, h⟩ := h
  refine jx_callVv (M' := mX11_nextToken) (As := []) jo_X11_nextToken jc_11 rfl jwM_X11_262 jwN_X11_nextToken jwX_X11_nextToken dX11_parse_87 (jRok_m _ _ _) rfl (jle rfl) ⟨jle rfl, jle rfl⟩ hk30 h (fun S31 h => ?_)
  refine jx_aload_n 2 dX11_parse_90 rfl rfl ?_
  refine jx_iload_n 1 dX11_parse_91 rfl rfl ?_
  obtain ⟨hk32, h⟩ := h
  refine jx_callVi (M' := mX11_either) (As := [.int r27]) jo_X11_either jc_11 rfl jwM_X11_293 jwN_X11_either jwX_X11_either dX11_parse_92 (jRok_m _ _ _) rfl (jle rfl) ⟨jle rfl, jle rfl⟩ hk32 h (fun r34 S33 h => ?_)
  refine jx_if_eq (tgt := 109) dX11_parse_95 (by decide) (fun c35 => ?_) (fun c35 => ?_)
  · replace h := h.1 c35
    refine jx_iconst (v := 0) dX11_parse_109 (by decide) ?_
    refine jx_istore_n (lv1 := [(2, .int 0), (1, .int r27), (0, .ref a0)]) dX11_parse_110 rfl (by decide) rfl ?_
    refine jx_aload_n 2 dX11_parse_111 rfl rfl ?_
    refine jx_iconst (v := 0) dX11_parse_112 (by decide) ?_
    obtain ⟨hk36, h⟩ := h
    refine jx_puti jc_11 (j := 19) (by decide) rfl jwF_X11_214 rfl rfl rfl dX11_parse_113 hk36 ?_
    refine jx_iload_n 0 dX11_parse_116 rfl rfl ?_
    refine jx_if_eq (tgt := 124) dX11_parse_117 (by decide) (fun _ => ?_) (fun z9 => absurd z9 (by decide))
    refine jx_iconst (v := (-1)) dX11_parse_124 (by decide) ?_
    exact jx_iret dX11_parse_125 rfl rfl (jle rfl) (jle rfl) ⟨_, rfl, h⟩
  replace h := h.2 c35
  refine jx_aload_n 2 dX11_parse_98 rfl rfl ?_
  obtain ⟨hk37, h⟩ := h
  refine jx_geti jc_11 (j := 22) (by decide) rfl jwF_X11_228 dX11_parse_99 hk37 ?_
  refine jx_if_ne (tgt := 109) dX11_parse_102 (by decide) (fun c38 => ?_) (fun c38 => ?_)
  · replace h := h.2 c38
    refine jx_iconst (v := 0) dX11_parse_109 (by decide) ?_
    refine jx_istore_n (lv1 := [(2, .int 0), (1, .int r27), (0, .ref a0)]) dX11_parse_110 rfl (by decide) rfl ?_
    refine jx_aload_n 2 dX11_parse_111 rfl rfl ?_
    refine jx_iconst (v := 0) dX11_parse_112 (by decide) ?_
    refine jx_puti jc_11 (j := 19) (by decide) rfl jwF_X11_214 rfl rfl rfl dX11_parse_113 hk37 ?_
    refine jx_iload_n 0 dX11_parse_116 rfl rfl ?_
    refine jx_if_eq (tgt := 124) dX11_parse_117 (by decide) (fun _ => ?_) (fun z9 => absurd z9 (by decide))
    refine jx_iconst (v := (-1)) dX11_parse_124 (by decide) ?_
    exact jx_iret dX11_parse_125 rfl rfl (jle rfl) (jle rfl) ⟨_, rfl, h⟩
  replace h := h.1 c38
  refine jx_iconst (v := 1) dX11_parse_105 (by decide) ?_
  refine jx_goto (tgt := 110) dX11_parse_106 (by decide) ?_
  refine jx_istore_n (lv1 := [(2, .int 1), (1, .int r27), (0, .ref a0)]) dX11_parse_110 rfl (by decide) rfl ?_
  refine jx_aload_n 2 dX11_parse_111 rfl rfl ?_
  refine jx_iconst (v := 0) dX11_parse_112 (by decide) ?_
  refine jx_puti jc_11 (j := 19) (by decide) rfl jwF_X11_214 rfl rfl rfl dX11_parse_113 hk37 ?_
  refine jx_iload_n 0 dX11_parse_116 rfl rfl ?_
  refine jx_if_eq (tgt := 124) dX11_parse_117 (by decide) (fun z9 => absurd z9 (by decide)) (fun _ => ?_)
  refine jx_iload_n 1 dX11_parse_120 rfl rfl ?_
  refine jx_goto (tgt := 125) dX11_parse_121 (by decide) ?_
  exact jx_iret dX11_parse_125 rfl rfl (jle rfl) (jle rfl) ⟨_, rfl, h⟩
end
section
set_option maxRecDepth 100000 in
set_option maxHeartbeats 4000000 in
theorem T_X11_text {E : jEnv} {d : Nat} {Q : Int32 → jM → Prop} {a0 : Nat} {S : jM} (h : jk S a0 = 11 ∧ jFi E mX11_parse d 0 0 [.ref a0] S (fun r3 S2 => (0 ≤ r3 → jk S2 a0 = 11 ∧ ∃ b6, jr S2 a0 0 = some b6 ∧ (jk S2 b6 = 12 ∧ vp_in 1 (jl S2 b6) ∧ (((ji S2 b6 (Int32.toNatClampNeg 1)) = 14 → Q (-1000000003) S2) ∧ (¬ (ji S2 b6 (Int32.toNatClampNeg 1)) = 14 → (vp_in ((jtextat (ji S2 b6 (Int32.toNatClampNeg 1))) + 0) (jl S2 b6) ∧ (vp_in ((jtextat (ji S2 b6 (Int32.toNatClampNeg 1))) + 1) (jl S2 b6) ∧ (vp_in ((jtextat (ji S2 b6 (Int32.toNatClampNeg 1))) + 2) (jl S2 b6) ∧ ((((Q (((ji (jput (jput (jput S2 b6 (Int32.toNatClampNeg ((jtextat (ji S2 b6 (Int32.toNatClampNeg 1))) + 0)) r3) b6 (Int32.toNatClampNeg ((jtextat (ji S2 b6 (Int32.toNatClampNeg 1))) + 1)) (ji S2 a0 29)) b6 (Int32.toNatClampNeg ((jtextat (ji S2 b6 (Int32.toNatClampNeg 1))) + 2)) (ji S2 a0 27)) b6 (Int32.toNatClampNeg 1)) + 1) - 1) (jput (jput (jput (jput S2 b6 (Int32.toNatClampNeg ((jtextat (ji S2 b6 (Int32.toNatClampNeg 1))) + 0)) r3) b6 (Int32.toNatClampNeg ((jtextat (ji S2 b6 (Int32.toNatClampNeg 1))) + 1)) (ji S2 a0 29)) b6 (Int32.toNatClampNeg ((jtextat (ji S2 b6 (Int32.toNatClampNeg 1))) + 2)) (ji S2 a0 27)) b6 (Int32.toNatClampNeg 1) ((ji (jput (jput (jput S2 b6 (Int32.toNatClampNeg ((jtextat (ji S2 b6 (Int32.toNatClampNeg 1))) + 0)) r3) b6 (Int32.toNatClampNeg ((jtextat (ji S2 b6 (Int32.toNatClampNeg 1))) + 1)) (ji S2 a0 29)) b6 (Int32.toNatClampNeg ((jtextat (ji S2 b6 (Int32.toNatClampNeg 1))) + 2)) (ji S2 a0 27)) b6 (Int32.toNatClampNeg 1)) + 1))))))))))))) ∧ (¬ 0 ≤ r3 → jk S2 a0 = 11 ∧ Q ((-100) - (ji S2 a0 20)) S2))) : jFi E mX11_text (d + 1) 0 0 [.ref a0] S Q := by
  refine jF_of (by decide) (jle rfl) ?_
  refine jx_lv (lv1 := [(0, .ref a0)]) [0] rfl ?_
  refine jx_aload_n 0 dX11_text_0 rfl rfl ?_
  obtain ⟨hk1, h⟩ := h
  refine jx_callVi (M' := mX11_parse) (As := []) jo_X11_parse jc_11 rfl jwM_X11_302 jwN_X11_parse jwX_X11_parse dX11_text_1 (jRok_m _ _ _) rfl (jle rfl) ⟨jle rfl, jle rfl⟩ hk1 h (fun r3 S2 h => ?_)
  refine jx_istore_n (lv1 := [(1, .int r3), (0, .ref a0)]) dX11_text_4 rfl (by decide) rfl ?_
  refine jx_iload_n 0 dX11_text_5 rfl rfl ?_
  refine jx_if_ge (tgt := 17) dX11_text_6 (by decide) (fun c4 => ?_) (fun c4 => ?_)
  · replace h := h.1 c4
    refine jx_aload_n 1 dX11_text_17 rfl rfl ?_
    obtain ⟨hk5, h⟩ := h
    obtain ⟨b6, hb6, h⟩ := h
    refine jx_getr jc_11 (j := 0) (by decide) rfl jwF_X11_7 dX11_text_18 hk5 hb6 ?_
    refine jx_iconst (v := 1) dX11_text_21 (by decide) ?_
    obtain ⟨hk7, h⟩ := h
    obtain ⟨hi8, h⟩ := h
    refine jx_iald dX11_text_22 hk7 hi8 ?_
    refine jx_bipush (v := 14) dX11_text_23 (by decide) ?_
    refine jx_icmp_ne (tgt := 31) dX11_text_25 (by decide) (fun c9 => ?_) (fun c9 => ?_)
    · replace h := h.2 c9
      refine jx_aload_n 1 dX11_text_31 rfl rfl ?_
      refine jx_aload_n 1 dX11_text_32 rfl rfl ?_
      refine jx_getr jc_11 (j := 0) (by decide) rfl jwF_X11_7 dX11_text_33 hk5 hb6 ?_
      refine jx_iconst (v := 1) dX11_text_36 (by decide) ?_
      refine jx_iald dX11_text_37 hk7 hi8 ?_
      refine jx_callVi (M' := mX11_textAt) (As := [.int (ji S2 b6 (Int32.toNatClampNeg 1))]) jo_X11_textAt jc_11 rfl jwM_X11_296 jwN_X11_textAt jwX_X11_textAt dX11_text_38 (jRok_m _ _ _) rfl (jle rfl) ⟨jle rfl, jle rfl⟩ hk5 (c_X11_textAt (Q := fun v S' => v = (jtextat (ji S2 b6 (Int32.toNatClampNeg 1))) ∧ S2 = S') ⟨rfl, rfl⟩) (fun r10 S11 hq12 => ?_)
      obtain ⟨rfl, rfl⟩ := hq12
      refine jx_istore_n (lv1 := [(2, .int (jtextat (ji S2 b6 (Int32.toNatClampNeg 1)))), (1, .int r3), (0, .ref a0)]) dX11_text_41 rfl (by decide) rfl ?_
      refine jx_aload_n 2 dX11_text_42 rfl rfl ?_
      refine jx_getr jc_11 (j := 0) (by decide) rfl jwF_X11_7 dX11_text_43 hk5 hb6 ?_
      refine jx_iload_n 0 dX11_text_46 rfl rfl ?_
      refine jx_iconst (v := 0) dX11_text_47 (by decide) ?_
      refine jx_iadd dX11_text_48 ?_
      refine jx_iload_n 1 dX11_text_49 rfl rfl ?_
      obtain ⟨hi13, h⟩ := h
      refine jx_iast dX11_text_50 hk7 hi13 ?_
      refine jx_aload_n 2 dX11_text_51 rfl rfl ?_
      refine jx_getr jc_11 (j := 0) (by decide) rfl jwF_X11_7 dX11_text_52 hk5 hb6 ?_
      refine jx_iload_n 0 dX11_text_55 rfl rfl ?_
      refine jx_iconst (v := 1) dX11_text_56 (by decide) ?_
      refine jx_iadd dX11_text_57 ?_
      refine jx_aload_n 2 dX11_text_58 rfl rfl ?_
      refine jx_geti jc_11 (j := 29) (by decide) rfl jwF_X11_281 dX11_text_59 hk5 ?_
      refine jx_topi (y := (ji S2 a0 29)) (by simp [ji_put, ji_row, ji_putr, jne hk5 hk7 (by decide)]) ?_
      obtain ⟨hi14, h⟩ := h
      refine jx_iast dX11_text_62 hk7 hi14 ?_
      refine jx_aload_n 2 dX11_text_63 rfl rfl ?_
      refine jx_getr jc_11 (j := 0) (by decide) rfl jwF_X11_7 dX11_text_64 hk5 hb6 ?_
      refine jx_iload_n 0 dX11_text_67 rfl rfl ?_
      refine jx_iconst (v := 2) dX11_text_68 (by decide) ?_
      refine jx_iadd dX11_text_69 ?_
      refine jx_aload_n 2 dX11_text_70 rfl rfl ?_
      refine jx_geti jc_11 (j := 27) (by decide) rfl jwF_X11_253 dX11_text_71 hk5 ?_
      refine jx_topi (y := (ji S2 a0 27)) (by simp [ji_put, ji_row, ji_putr, jne hk5 hk7 (by decide), jne hk5 hk7 (by decide)]) ?_
      obtain ⟨hi15, h⟩ := h
      refine jx_iast dX11_text_74 hk7 hi15 ?_
      refine jx_aload_n 2 dX11_text_75 rfl rfl ?_
      refine jx_getr jc_11 (j := 0) (by decide) rfl jwF_X11_7 dX11_text_76 hk5 hb6 ?_
      refine jx_iconst (v := 1) dX11_text_79 (by decide) ?_
      refine jx_dup2 dX11_text_80 rfl rfl ?_
      refine jx_iald dX11_text_81 hk7 hi8 ?_
      refine jx_iconst (v := 1) dX11_text_82 (by decide) ?_
      refine jx_iadd dX11_text_83 ?_
      refine jx_iast dX11_text_84 hk7 hi8 ?_
      refine jx_aload_n 2 dX11_text_85 rfl rfl ?_
      refine jx_getr jc_11 (j := 0) (by decide) rfl jwF_X11_7 dX11_text_86 hk5 hb6 ?_
      refine jx_iconst (v := 1) dX11_text_89 (by decide) ?_
      refine jx_iald dX11_text_90 hk7 hi8 ?_
      refine jx_topi (y := ((ji (jput (jput (jput S2 b6 (Int32.toNatClampNeg ((jtextat (ji S2 b6 (Int32.toNatClampNeg 1))) + 0)) r3) b6 (Int32.toNatClampNeg ((jtextat (ji S2 b6 (Int32.toNatClampNeg 1))) + 1)) (ji S2 a0 29)) b6 (Int32.toNatClampNeg ((jtextat (ji S2 b6 (Int32.toNatClampNeg 1))) + 2)) (ji S2 a0 27)) b6 (Int32.toNatClampNeg 1)) + 1)) (by simp [ji_put, ji_row, ji_putr]) ?_
      refine jx_iconst (v := 1) dX11_text_91 (by decide) ?_
      refine jx_isub dX11_text_92 ?_
      exact jx_iret dX11_text_93 rfl rfl (jle rfl) (jle rfl) ⟨_, rfl, h⟩
    replace h := h.1 c9
    refine jx_ldc jwC_X11_88 dX11_text_28 ?_
    exact jx_iret dX11_text_30 rfl rfl (jle rfl) (jle rfl) ⟨_, rfl, h⟩
  replace h := h.2 c4
  refine jx_bipush (v := (-100)) kd91 (by decide) ?_
  refine jx_aload_n 1 dX11_text_11 rfl rfl ?_
  obtain ⟨hk16, h⟩ := h
  refine jx_geti jc_11 (j := 20) (by decide) rfl jwF_X11_231 dX11_text_12 hk16 ?_
  refine jx_isub dX11_text_15 ?_
  exact jx_iret dX11_text_16 rfl rfl (jle rfl) (jle rfl) ⟨_, rfl, h⟩
set_option maxRecDepth 100000 in
set_option maxHeartbeats 4000000 in
theorem T_X11_textTold {E : jEnv} {d : Nat} {Q : Int32 → jM → Prop} {a0 : Nat} {x1 : Int32} {x2 : Int32} {S : jM} (h : jk S a0 = 11 ∧ jFi E mX11_isText d 0 0 [.ref a0, .int x1] S (fun r3 S2 => (r3 = 0 → Q (-1000000001) S2) ∧ (¬ r3 = 0 → ((jisin (Int32.toInt64 x2) 0 1) = 0 → Q (-1000000001) S2) ∧ (¬ (jisin (Int32.toInt64 x2) 0 1) = 0 → jk S2 a0 = 11 ∧ ∃ b10, jr S2 a0 0 = some b10 ∧ (jk S2 b10 = 12 ∧ vp_in ((jtextat x1) + x2) (jl S2 b10) ∧ (Q (ji S2 b10 (Int32.toNatClampNeg ((jtextat x1) + x2))) S2)))))) : jFi E mX11_textTold (d + 1) 0 0 [.ref a0, .int x1, .int x2] S Q := by
  refine jF_of (by decide) (jle rfl) ?_
  refine jx_lv (lv1 := [(0, .ref a0), (1, .int x1), (2, .int x2)]) [0, 1, 2] rfl ?_
  refine jx_aload_n 0 dX11_textTold_0 rfl rfl ?_
  refine jx_iload_n 1 dX11_textTold_1 rfl rfl ?_
  obtain ⟨hk1, h⟩ := h
  refine jx_callVi (M' := mX11_isText) (As := [.int x1]) jo_X11_isText jc_11 rfl jwM_X11_305 jwN_X11_isText jwX_X11_isText dX11_textTold_2 (jRok_m _ _ _) rfl (jle rfl) ⟨jle rfl, jle rfl⟩ hk1 h (fun r3 S2 h => ?_)
  refine jx_if_eq (tgt := 18) dX11_textTold_5 (by decide) (fun c4 => ?_) (fun c4 => ?_)
  · replace h := h.1 c4
    refine jx_ldc jwC_X11_87 dX11_textTold_18 ?_
    exact jx_iret dX11_textTold_20 rfl rfl (jle rfl) (jle rfl) ⟨_, rfl, h⟩
  replace h := h.2 c4
  refine jx_iload_n 2 dX11_textTold_8 rfl rfl ?_
  refine jx_i2l dX11_textTold_9 ?_
  refine jx_lconst (v := 0) dX11_textTold_10 (by decide) ?_
  refine jx_lconst (v := 1) dX11_textTold_11 (by decide) ?_
  refine jx_callSi (M' := mX11_isIn) (As := [.long (Int32.toInt64 x2), .long 0, .long 1]) jo_X11_isIn jwM_X11_71 jwS_X11_isIn dX11_textTold_12 (jRok_m _ _ _) rfl (jle rfl) ⟨jle rfl, jle rfl⟩ (c_X11_isIn (Q := fun v S' => v = (jisin (Int32.toInt64 x2) 0 1) ∧ S2 = S') ⟨rfl, rfl⟩) (fun r5 S6 hq7 => ?_)
  obtain ⟨rfl, rfl⟩ := hq7
  refine jx_if_ne (tgt := 21) dX11_textTold_15 (by decide) (fun c8 => ?_) (fun c8 => ?_)
  · replace h := h.2 c8
    refine jx_aload_n 0 dX11_textTold_21 rfl rfl ?_
    obtain ⟨hk9, h⟩ := h
    obtain ⟨b10, hb10, h⟩ := h
    refine jx_getr jc_11 (j := 0) (by decide) rfl jwF_X11_7 dX11_textTold_22 hk9 hb10 ?_
    refine jx_aload_n 0 dX11_textTold_25 rfl rfl ?_
    refine jx_iload_n 1 dX11_textTold_26 rfl rfl ?_
    refine jx_callVi (M' := mX11_textAt) (As := [.int x1]) jo_X11_textAt jc_11 rfl jwM_X11_296 jwN_X11_textAt jwX_X11_textAt dX11_textTold_27 (jRok_m _ _ _) rfl (jle rfl) ⟨jle rfl, jle rfl⟩ hk9 (c_X11_textAt (Q := fun v S' => v = (jtextat x1) ∧ S2 = S') ⟨rfl, rfl⟩) (fun r11 S12 hq13 => ?_)
    obtain ⟨rfl, rfl⟩ := hq13
    refine jx_iload_n 2 dX11_textTold_30 rfl rfl ?_
    refine jx_iadd dX11_textTold_31 ?_
    obtain ⟨hk14, h⟩ := h
    obtain ⟨hi15, h⟩ := h
    refine jx_iald dX11_textTold_32 hk14 hi15 ?_
    exact jx_iret dX11_textTold_33 rfl rfl (jle rfl) (jle rfl) ⟨_, rfl, h⟩
  replace h := h.1 c8
  refine jx_ldc jwC_X11_87 dX11_textTold_18 ?_
  exact jx_iret dX11_textTold_20 rfl rfl (jle rfl) (jle rfl) ⟨_, rfl, h⟩
/-- X11_counts at its loop's head 4 -/
abbrev L_X11_counts_4 (E : jEnv) (d : Nat) (Q : Int32 → jM → Prop) (a0 : Nat) (x1 : Int32) (x2 : Int32) (x3 : Int32) (S : jM) : Prop := jX E mX11_counts (jRm (d + 1) 0 0) (jZm E (fun r S' => ∃ v : Int32, r = some (.int v) ∧ Q v S') 0 0) 4 [(0, .ref a0), (1, .int x1), (2, .int x2), (3, .int x3)] [] S 0 0
set_option maxRecDepth 100000 in
set_option maxHeartbeats 4000000 in
theorem T_X11_counts {E : jEnv} {d : Nat} {Q : Int32 → jM → Prop} {a0 : Nat} {x1 : Int32} {S : jM} (h : L_X11_counts_4 E d Q a0 x1 (-1) 0 S) : jFi E mX11_counts (d + 1) 0 0 [.ref a0, .int x1] S Q := by
  refine jF_of (by decide) (jle rfl) ?_
  refine jx_lv (lv1 := [(0, .ref a0), (1, .int x1)]) [0, 1] rfl ?_
  refine jx_iconst (v := (-1)) dX11_counts_0 (by decide) ?_
  refine jx_istore_n (lv1 := [(2, .int (-1)), (0, .ref a0), (1, .int x1)]) dX11_counts_1 rfl (by decide) rfl ?_
  refine jx_iconst (v := 0) dX11_counts_2 (by decide) ?_
  refine jx_istore_n (lv1 := [(3, .int 0), (2, .int (-1)), (0, .ref a0), (1, .int x1)]) dX11_counts_3 rfl (by decide) rfl ?_
  exact jx_lv [2, 3, 1, 0] rfl h
set_option maxRecDepth 100000 in
set_option maxHeartbeats 4000000 in
theorem T_X11_counts_4 {E : jEnv} {d : Nat} {Q : Int32 → jM → Prop} {a0 : Nat} {x1 : Int32} {x2 : Int32} {x3 : Int32} {S : jM} (h : jk S a0 = 11 ∧ ∃ b2, jr S a0 0 = some b2 ∧ (jk S b2 = 12 ∧ vp_in 1 (jl S b2) ∧ (((ji S b2 (Int32.toNatClampNeg 1)) ≤ x3 → Q x2 S) ∧ (¬ (ji S b2 (Int32.toNatClampNeg 1)) ≤ x3 → vp_in (jtextat x3) (jl S b2) ∧ (((ji S b2 (Int32.toNatClampNeg (jtextat x3))) = x1 → L_X11_counts_4 E d Q a0 x1 x3 (x3 + 1) S) ∧ (¬ (ji S b2 (Int32.toNatClampNeg (jtextat x3))) = x1 → L_X11_counts_4 E d Q a0 x1 x2 (x3 + 1) S)))))) : L_X11_counts_4 E d Q a0 x1 x2 x3 S := by
  show jX E mX11_counts (jRm (d + 1) 0 0) (jZm E (fun r S' => ∃ v : Int32, r = some (.int v) ∧ Q v S') 0 0) 4 [(0, .ref a0), (1, .int x1), (2, .int x2), (3, .int x3)] [] S 0 0
  refine jx_iload_n 3 dX11_counts_4 rfl rfl ?_
  refine jx_aload_n 0 dX11_counts_5 rfl rfl ?_
  obtain ⟨hk1, h⟩ := h
  obtain ⟨b2, hb2, h⟩ := h
  refine jx_getr jc_11 (j := 0) (by decide) rfl jwF_X11_7 dX11_counts_6 hk1 hb2 ?_
  refine jx_iconst (v := 1) dX11_counts_9 (by decide) ?_
  obtain ⟨hk3, h⟩ := h
  obtain ⟨hi4, h⟩ := h
  refine jx_iald dX11_counts_10 hk3 hi4 ?_
  refine jx_icmp_ge (tgt := 40) dX11_counts_11 (by decide) (fun c5 => ?_) (fun c5 => ?_)
  · replace h := h.1 c5
    refine jx_iload_n 2 dX11_counts_40 rfl rfl ?_
    exact jx_iret dX11_counts_41 rfl rfl (jle rfl) (jle rfl) ⟨_, rfl, h⟩
  replace h := h.2 c5
  refine jx_aload_n 0 dX11_counts_14 rfl rfl ?_
  refine jx_getr jc_11 (j := 0) (by decide) rfl jwF_X11_7 dX11_counts_15 hk1 hb2 ?_
  refine jx_aload_n 0 dX11_counts_18 rfl rfl ?_
  refine jx_iload_n 3 dX11_counts_19 rfl rfl ?_
  refine jx_callVi (M' := mX11_textAt) (As := [.int x3]) jo_X11_textAt jc_11 rfl jwM_X11_296 jwN_X11_textAt jwX_X11_textAt dX11_counts_20 (jRok_m _ _ _) rfl (jle rfl) ⟨jle rfl, jle rfl⟩ hk1 (c_X11_textAt (Q := fun v S' => v = (jtextat x3) ∧ S = S') ⟨rfl, rfl⟩) (fun r6 S7 hq8 => ?_)
  obtain ⟨rfl, rfl⟩ := hq8
  obtain ⟨hi9, h⟩ := h
  refine jx_iald dX11_counts_23 hk3 hi9 ?_
  refine jx_iload_n 1 dX11_counts_24 rfl rfl ?_
  refine jx_icmp_ne (tgt := 32) dX11_counts_25 (by decide) (fun c10 => ?_) (fun c10 => ?_)
  · replace h := h.2 c10
    refine jx_iload_n 2 dX11_counts_32 rfl rfl ?_
    refine jx_istore_n (lv1 := [(2, .int x2), (0, .ref a0), (1, .int x1), (3, .int x3)]) dX11_counts_33 rfl (by decide) rfl ?_
    refine jx_iinc 3 (v := (x3 + 1)) (lv1 := [(3, .int (x3 + 1)), (2, .int x2), (0, .ref a0), (1, .int x1)]) kd92.1 rfl rfl (by decide) rfl ?_
    refine jx_goto (tgt := 4) kd92.2 (by decide) ?_
    exact jx_lv [2, 3, 1, 0] rfl h
  replace h := h.1 c10
  refine jx_iload_n 3 dX11_counts_28 rfl rfl ?_
  refine jx_goto (tgt := 33) dX11_counts_29 (by decide) ?_
  refine jx_istore_n (lv1 := [(2, .int x3), (0, .ref a0), (1, .int x1), (3, .int x3)]) dX11_counts_33 rfl (by decide) rfl ?_
  refine jx_iinc 3 (v := (x3 + 1)) (lv1 := [(3, .int (x3 + 1)), (2, .int x3), (0, .ref a0), (1, .int x1)]) kd92.1 rfl rfl (by decide) rfl ?_
  refine jx_goto (tgt := 4) kd92.2 (by decide) ?_
  exact jx_lv [2, 3, 1, 0] rfl h
set_option maxRecDepth 100000 in
set_option maxHeartbeats 4000000 in
theorem T_X11_why {E : jEnv} {d : Nat} {Q : Int32 → jM → Prop} {a0 : Nat} {x1 : Int32} {S : jM} (h : ((jisin (Int32.toInt64 x1) 0 2) = 0 → Q (-1000000001) S) ∧ (¬ (jisin (Int32.toInt64 x1) 0 2) = 0 → jk S a0 = 11 ∧ jFi E mX11_counts d 0 0 [.ref a0, .int x1] S (fun r7 S6 => Q (jornone r7) S6))) : jFi E mX11_why (d + 1) 0 0 [.ref a0, .int x1] S Q := by
  refine jF_of (by decide) (jle rfl) ?_
  refine jx_lv (lv1 := [(0, .ref a0), (1, .int x1)]) [0, 1] rfl ?_
  refine jx_iload_n 1 dX11_why_0 rfl rfl ?_
  refine jx_i2l dX11_why_1 ?_
  refine jx_lconst (v := 0) dX11_why_2 (by decide) ?_
  refine jx_ldc2 jwL_X11_146 dX11_why_3 ?_
  refine jx_callSi (M' := mX11_isIn) (As := [.long (Int32.toInt64 x1), .long 0, .long 2]) jo_X11_isIn jwM_X11_71 jwS_X11_isIn dX11_why_6 (jRok_m _ _ _) rfl (jle rfl) ⟨jle rfl, jle rfl⟩ (c_X11_isIn (Q := fun v S' => v = (jisin (Int32.toInt64 x1) 0 2) ∧ S = S') ⟨rfl, rfl⟩) (fun r1 S2 hq3 => ?_)
  obtain ⟨rfl, rfl⟩ := hq3
  refine jx_if_eq (tgt := 23) dX11_why_9 (by decide) (fun c4 => ?_) (fun c4 => ?_)
  · replace h := h.1 c4
    refine jx_ldc jwC_X11_87 dX11_why_23 ?_
    exact jx_iret dX11_why_25 rfl rfl (jle rfl) (jle rfl) ⟨_, rfl, h⟩
  replace h := h.2 c4
  refine jx_aload_n 0 dX11_why_12 rfl rfl ?_
  refine jx_iload_n 1 dX11_why_13 rfl rfl ?_
  obtain ⟨hk5, h⟩ := h
  refine jx_callVi (M' := mX11_counts) (As := [.int x1]) jo_X11_counts jc_11 rfl jwM_X11_93 jwN_X11_counts jwX_X11_counts dX11_why_14 (jRok_m _ _ _) rfl (jle rfl) ⟨jle rfl, jle rfl⟩ hk5 h (fun r7 S6 h => ?_)
  refine jx_callSi (M' := mX11_orNone) (As := [.int r7]) jo_X11_orNone jwM_X11_308 jwS_X11_orNone dX11_why_17 (jRok_m _ _ _) rfl (jle rfl) ⟨jle rfl, jle rfl⟩ (c_X11_orNone (Q := fun v S' => v = (jornone r7) ∧ S6 = S') ⟨rfl, rfl⟩) (fun r8 S9 hq10 => ?_)
  obtain ⟨rfl, rfl⟩ := hq10
  refine jx_goto (tgt := 25) dX11_why_20 (by decide) ?_
  exact jx_iret dX11_why_25 rfl rfl (jle rfl) (jle rfl) ⟨_, rfl, h⟩
/-- X11_worked at its loop's head 4 -/
abbrev L_X11_worked_4 (E : jEnv) (d : Nat) (Q : Int32 → jM → Prop) (a0 : Nat) (x1 : Int32) (x2 : Int32) (x3 : Int32) (S : jM) : Prop := jX E mX11_worked (jRm (d + 1) 0 0) (jZm E (fun r S' => ∃ v : Int32, r = some (.int v) ∧ Q v S') 0 0) 4 [(0, .ref a0), (1, .int x1), (2, .int x2), (3, .int x3)] [] S 0 0
set_option maxRecDepth 100000 in
set_option maxHeartbeats 4000000 in
theorem T_X11_worked {E : jEnv} {d : Nat} {Q : Int32 → jM → Prop} {a0 : Nat} {x1 : Int32} {S : jM} (h : L_X11_worked_4 E d Q a0 x1 0 0 S) : jFi E mX11_worked (d + 1) 0 0 [.ref a0, .int x1] S Q := by
  refine jF_of (by decide) (jle rfl) ?_
  refine jx_lv (lv1 := [(0, .ref a0), (1, .int x1)]) [0, 1] rfl ?_
  refine jx_iconst (v := 0) dX11_worked_0 (by decide) ?_
  refine jx_istore_n (lv1 := [(2, .int 0), (0, .ref a0), (1, .int x1)]) dX11_worked_1 rfl (by decide) rfl ?_
  refine jx_iconst (v := 0) dX11_worked_2 (by decide) ?_
  refine jx_istore_n (lv1 := [(3, .int 0), (2, .int 0), (0, .ref a0), (1, .int x1)]) dX11_worked_3 rfl (by decide) rfl ?_
  exact jx_lv [2, 3, 1, 0] rfl h
set_option maxRecDepth 100000 in
set_option maxHeartbeats 4000000 in
theorem T_X11_worked_4 {E : jEnv} {d : Nat} {Q : Int32 → jM → Prop} {a0 : Nat} {x1 : Int32} {x2 : Int32} {x3 : Int32} {S : jM} (h : jk S a0 = 11 ∧ ∃ b2, jr S a0 0 = some b2 ∧ (jk S b2 = 12 ∧ vp_in ((jtextat x1) + 2) (jl S b2) ∧ (((ji S b2 (Int32.toNatClampNeg ((jtextat x1) + 2))) ≤ x3 → ∃ b9, jr S a0 31 = some b9 ∧ (jk S b9 = 12 ∧ vp_in 0 (jl S b9) ∧ (Q (ji S b9 (Int32.toNatClampNeg 0)) S))) ∧ (¬ (ji S b2 (Int32.toNatClampNeg ((jtextat x1) + 2))) ≤ x3 → vp_in (((jtextat x1) + 4) + (2 * x3)) (jl S b2) ∧ (vp_in ((((jtextat x1) + 4) + (2 * x3)) + 1) (jl S b2) ∧ (((ji S b2 (Int32.toNatClampNeg (((jtextat x1) + 4) + (2 * x3)))) = 2 → ((ji S b2 (Int32.toNatClampNeg ((((jtextat x1) + 4) + (2 * x3)) + 1))) = 33 → ∃ b29, jr S a0 31 = some b29 ∧ (jk S b29 = 12 ∧ vp_in (x2 - 1) (jl S b29) ∧ (((ji S b29 (Int32.toNatClampNeg (x2 - 1))) = 0 → (L_X11_worked_4 E d Q a0 x1 x2 (x3 + 1) (jput S b29 (Int32.toNatClampNeg (x2 - 1)) 1))) ∧ (¬ (ji S b29 (Int32.toNatClampNeg (x2 - 1))) = 0 → (L_X11_worked_4 E d Q a0 x1 x2 (x3 + 1) (jput S b29 (Int32.toNatClampNeg (x2 - 1)) 0)))))) ∧ (¬ (ji S b2 (Int32.toNatClampNeg ((((jtextat x1) + 4) + (2 * x3)) + 1))) = 33 → ∃ b22, jr S a0 31 = some b22 ∧ (jk S b22 = 12 ∧ vp_in ((x2 + (-1)) - 1) (jl S b22) ∧ (vp_in (x2 + (-1)) (jl S b22) ∧ ((L_X11_worked_4 E d Q a0 x1 (x2 + (-1)) (x3 + 1) (jput S b22 (Int32.toNatClampNeg ((x2 + (-1)) - 1)) (jjoinM (ji S b2 (Int32.toNatClampNeg ((((jtextat x1) + 4) + (2 * x3)) + 1))) (ji S b22 (Int32.toNatClampNeg ((x2 + (-1)) - 1))) (ji S b22 (Int32.toNatClampNeg (x2 + (-1)))))))))))) ∧ (¬ (ji S b2 (Int32.toNatClampNeg (((jtextat x1) + 4) + (2 * x3)))) = 2 → ∃ b33, jr S a0 31 = some b33 ∧ (((ji S b2 (Int32.toNatClampNeg (((jtextat x1) + 4) + (2 * x3)))) = 0 → jk S b33 = 12 ∧ vp_in x2 (jl S b33) ∧ (L_X11_worked_4 E d Q a0 x1 (x2 + 1) (x3 + 1) (jput S b33 (Int32.toNatClampNeg x2) (ji S b2 (Int32.toNatClampNeg ((((jtextat x1) + 4) + (2 * x3)) + 1)))))) ∧ (¬ (ji S b2 (Int32.toNatClampNeg (((jtextat x1) + 4) + (2 * x3)))) = 0 → ∃ b35, jr S a0 30 = some b35 ∧ (jk S b35 = 12 ∧ vp_in (ji S b2 (Int32.toNatClampNeg ((((jtextat x1) + 4) + (2 * x3)) + 1))) (jl S b35) ∧ (jk S b33 = 12 ∧ vp_in x2 (jl S b33) ∧ (L_X11_worked_4 E d Q a0 x1 (x2 + 1) (x3 + 1) (jput S b33 (Int32.toNatClampNeg x2) (ji S b35 (Int32.toNatClampNeg (ji S b2 (Int32.toNatClampNeg ((((jtextat x1) + 4) + (2 * x3)) + 1)))))))))))))))))) : L_X11_worked_4 E d Q a0 x1 x2 x3 S := by
  show jX E mX11_worked (jRm (d + 1) 0 0) (jZm E (fun r S' => ∃ v : Int32, r = some (.int v) ∧ Q v S') 0 0) 4 [(0, .ref a0), (1, .int x1), (2, .int x2), (3, .int x3)] [] S 0 0
  refine jx_iload_n 3 dX11_worked_4 rfl rfl ?_
  refine jx_aload_n 0 dX11_worked_5 rfl rfl ?_
  obtain ⟨hk1, h⟩ := h
  obtain ⟨b2, hb2, h⟩ := h
  refine jx_getr jc_11 (j := 0) (by decide) rfl jwF_X11_7 dX11_worked_6 hk1 hb2 ?_
  refine jx_aload_n 0 dX11_worked_9 rfl rfl ?_
  refine jx_iload_n 1 dX11_worked_10 rfl rfl ?_
  refine jx_callVi (M' := mX11_textAt) (As := [.int x1]) jo_X11_textAt jc_11 rfl jwM_X11_296 jwN_X11_textAt jwX_X11_textAt dX11_worked_11 (jRok_m _ _ _) rfl (jle rfl) ⟨jle rfl, jle rfl⟩ hk1 (c_X11_textAt (Q := fun v S' => v = (jtextat x1) ∧ S = S') ⟨rfl, rfl⟩) (fun r3 S4 hq5 => ?_)
  obtain ⟨rfl, rfl⟩ := hq5
  refine jx_iconst (v := 2) dX11_worked_14 (by decide) ?_
  refine jx_iadd dX11_worked_15 ?_
  obtain ⟨hk6, h⟩ := h
  obtain ⟨hi7, h⟩ := h
  refine jx_iald dX11_worked_16 hk6 hi7 ?_
  refine jx_icmp_ge (tgt := 163) dX11_worked_17 (by decide) (fun c8 => ?_) (fun c8 => ?_)
  · replace h := h.1 c8
    refine jx_aload_n 0 dX11_worked_163 rfl rfl ?_
    obtain ⟨b9, hb9, h⟩ := h
    refine jx_getr jc_11 (j := 31) (by decide) rfl jwF_X11_58 dX11_worked_164 hk1 hb9 ?_
    refine jx_iconst (v := 0) dX11_worked_167 (by decide) ?_
    obtain ⟨hk10, h⟩ := h
    obtain ⟨hi11, h⟩ := h
    refine jx_iald dX11_worked_168 hk10 hi11 ?_
    exact jx_iret dX11_worked_169 rfl rfl (jle rfl) (jle rfl) ⟨_, rfl, h⟩
  replace h := h.2 c8
  refine jx_aload_n 0 dX11_worked_20 rfl rfl ?_
  refine jx_getr jc_11 (j := 0) (by decide) rfl jwF_X11_7 dX11_worked_21 hk1 hb2 ?_
  refine jx_aload_n 0 dX11_worked_24 rfl rfl ?_
  refine jx_iload_n 1 dX11_worked_25 rfl rfl ?_
  refine jx_callVi (M' := mX11_textAt) (As := [.int x1]) jo_X11_textAt jc_11 rfl jwM_X11_296 jwN_X11_textAt jwX_X11_textAt dX11_worked_26 (jRok_m _ _ _) rfl (jle rfl) ⟨jle rfl, jle rfl⟩ hk1 (c_X11_textAt (Q := fun v S' => v = (jtextat x1) ∧ S = S') ⟨rfl, rfl⟩) (fun r12 S13 hq14 => ?_)
  obtain ⟨rfl, rfl⟩ := hq14
  refine jx_iconst (v := 4) dX11_worked_29 (by decide) ?_
  refine jx_iadd dX11_worked_30 ?_
  refine jx_iconst (v := 2) dX11_worked_31 (by decide) ?_
  refine jx_iload_n 3 dX11_worked_32 rfl rfl ?_
  refine jx_imul dX11_worked_33 ?_
  refine jx_iadd dX11_worked_34 ?_
  obtain ⟨hi15, h⟩ := h
  refine jx_iald dX11_worked_35 hk6 hi15 ?_
  refine jx_istore (lv1 := [(4, .int (ji S b2 (Int32.toNatClampNeg (((jtextat x1) + 4) + (2 * x3))))), (0, .ref a0), (1, .int x1), (2, .int x2), (3, .int x3)]) dX11_worked_36 (by decide) rfl ?_
  refine jx_aload_n 1 dX11_worked_38 rfl rfl ?_
  refine jx_getr jc_11 (j := 0) (by decide) rfl jwF_X11_7 dX11_worked_39 hk1 hb2 ?_
  refine jx_aload_n 1 dX11_worked_42 rfl rfl ?_
  refine jx_iload_n 2 dX11_worked_43 rfl rfl ?_
  refine jx_callVi (M' := mX11_textAt) (As := [.int x1]) jo_X11_textAt jc_11 rfl jwM_X11_296 jwN_X11_textAt jwX_X11_textAt dX11_worked_44 (jRok_m _ _ _) rfl (jle rfl) ⟨jle rfl, jle rfl⟩ hk1 (c_X11_textAt (Q := fun v S' => v = (jtextat x1) ∧ S = S') ⟨rfl, rfl⟩) (fun r16 S17 hq18 => ?_)
  obtain ⟨rfl, rfl⟩ := hq18
  refine jx_iconst (v := 4) dX11_worked_47 (by decide) ?_
  refine jx_iadd dX11_worked_48 ?_
  refine jx_iconst (v := 2) dX11_worked_49 (by decide) ?_
  refine jx_iload_n 4 dX11_worked_50 rfl rfl ?_
  refine jx_imul dX11_worked_51 ?_
  refine jx_iadd dX11_worked_52 ?_
  refine jx_iconst (v := 1) dX11_worked_53 (by decide) ?_
  refine jx_iadd dX11_worked_54 ?_
  obtain ⟨hi19, h⟩ := h
  refine jx_iald dX11_worked_55 hk6 hi19 ?_
  refine jx_istore (lv1 := [(5, .int (ji S b2 (Int32.toNatClampNeg ((((jtextat x1) + 4) + (2 * x3)) + 1)))), (4, .int (ji S b2 (Int32.toNatClampNeg (((jtextat x1) + 4) + (2 * x3))))), (0, .ref a0), (1, .int x1), (2, .int x2), (3, .int x3)]) dX11_worked_56 (by decide) rfl ?_
  refine jx_iload 1 dX11_worked_58 rfl ?_
  refine jx_iconst (v := 2) dX11_worked_60 (by decide) ?_
  refine jx_icmp_eq (tgt := 93) dX11_worked_61 (by decide) (fun c20 => ?_) (fun c20 => ?_)
  · replace h := h.1 c20
    refine jx_iload 0 dX11_worked_93 rfl ?_
    refine jx_bipush (v := 33) dX11_worked_95 (by decide) ?_
    refine jx_icmp_ne (tgt := 127) dX11_worked_97 (by decide) (fun c21 => ?_) (fun c21 => ?_)
    · replace h := h.2 c21
      refine jx_iinc 4 (v := (x2 + (-1))) (lv1 := [(2, .int (x2 + (-1))), (5, .int (ji S b2 (Int32.toNatClampNeg ((((jtextat x1) + 4) + (2 * x3)) + 1)))), (4, .int (ji S b2 (Int32.toNatClampNeg (((jtextat x1) + 4) + (2 * x3))))), (0, .ref a0), (1, .int x1), (3, .int x3)]) kd94.2.1 rfl rfl (by decide) rfl ?_
      refine jx_aload_n 3 dX11_worked_130 rfl rfl ?_
      obtain ⟨b22, hb22, h⟩ := h
      refine jx_getr jc_11 (j := 31) (by decide) rfl jwF_X11_58 dX11_worked_131 hk1 hb22 ?_
      refine jx_iload_n 0 dX11_worked_134 rfl rfl ?_
      refine jx_iconst (v := 1) dX11_worked_135 (by decide) ?_
      refine jx_isub dX11_worked_136 ?_
      refine jx_iload 1 dX11_worked_137 rfl ?_
      refine jx_aload_n 3 dX11_worked_139 rfl rfl ?_
      refine jx_getr jc_11 (j := 31) (by decide) rfl jwF_X11_58 dX11_worked_140 hk1 hb22 ?_
      refine jx_iload_n 0 dX11_worked_143 rfl rfl ?_
      refine jx_iconst (v := 1) dX11_worked_144 (by decide) ?_
      refine jx_isub dX11_worked_145 ?_
      obtain ⟨hk23, h⟩ := h
      obtain ⟨hi24, h⟩ := h
      refine jx_iald dX11_worked_146 hk23 hi24 ?_
      refine jx_aload_n 3 dX11_worked_147 rfl rfl ?_
      refine jx_getr jc_11 (j := 31) (by decide) rfl jwF_X11_58 dX11_worked_148 hk1 hb22 ?_
      refine jx_iload_n 0 dX11_worked_151 rfl rfl ?_
      obtain ⟨hi25, h⟩ := h
      refine jx_iald dX11_worked_152 hk23 hi25 ?_
      refine jx_callSi (M' := mX11_joined) (As := [.int (ji S b2 (Int32.toNatClampNeg ((((jtextat x1) + 4) + (2 * x3)) + 1))), .int (ji S b22 (Int32.toNatClampNeg ((x2 + (-1)) - 1))), .int (ji S b22 (Int32.toNatClampNeg (x2 + (-1))))]) jo_X11_joined jwM_X11_311 jwS_X11_joined dX11_worked_153 (jRok_m _ _ _) rfl (jle rfl) ⟨jle rfl, jle rfl⟩ (c_X11_joined (Q := fun v S' => v = (jjoinM (ji S b2 (Int32.toNatClampNeg ((((jtextat x1) + 4) + (2 * x3)) + 1))) (ji S b22 (Int32.toNatClampNeg ((x2 + (-1)) - 1))) (ji S b22 (Int32.toNatClampNeg (x2 + (-1))))) ∧ S = S') ⟨rfl, rfl⟩) (fun r26 S27 hq28 => ?_)
      obtain ⟨rfl, rfl⟩ := hq28
      refine jx_iast dX11_worked_156 hk23 hi24 ?_
      refine jx_iinc 5 (v := (x3 + 1)) (lv1 := [(3, .int (x3 + 1)), (2, .int (x2 + (-1))), (5, .int (ji S b2 (Int32.toNatClampNeg ((((jtextat x1) + 4) + (2 * x3)) + 1)))), (4, .int (ji S b2 (Int32.toNatClampNeg (((jtextat x1) + 4) + (2 * x3))))), (0, .ref a0), (1, .int x1)]) kd94.2.2.1 rfl rfl (by decide) rfl ?_
      refine jx_goto (tgt := 4) kd94.2.2.2 (by decide) ?_
      exact jx_lv [4, 5, 1, 0] rfl h
    replace h := h.1 c21
    refine jx_aload_n 2 dX11_worked_100 rfl rfl ?_
    obtain ⟨b29, hb29, h⟩ := h
    refine jx_getr jc_11 (j := 31) (by decide) rfl jwF_X11_58 dX11_worked_101 hk1 hb29 ?_
    refine jx_iload_n 4 dX11_worked_104 rfl rfl ?_
    refine jx_iconst (v := 1) dX11_worked_105 (by decide) ?_
    refine jx_isub dX11_worked_106 ?_
    refine jx_aload_n 2 dX11_worked_107 rfl rfl ?_
    refine jx_getr jc_11 (j := 31) (by decide) rfl jwF_X11_58 dX11_worked_108 hk1 hb29 ?_
    refine jx_iload_n 4 dX11_worked_111 rfl rfl ?_
    refine jx_iconst (v := 1) dX11_worked_112 (by decide) ?_
    refine jx_isub dX11_worked_113 ?_
    obtain ⟨hk30, h⟩ := h
    obtain ⟨hi31, h⟩ := h
    refine jx_iald dX11_worked_114 hk30 hi31 ?_
    refine jx_if_ne (tgt := 122) dX11_worked_115 (by decide) (fun c32 => ?_) (fun c32 => ?_)
    · replace h := h.2 c32
      refine jx_iconst (v := 0) dX11_worked_122 (by decide) ?_
      refine jx_iast dX11_worked_123 hk30 hi31 ?_
      refine jx_goto (tgt := 157) dX11_worked_124 (by decide) ?_
      refine jx_iinc 5 (v := (x3 + 1)) (lv1 := [(3, .int (x3 + 1)), (5, .int (ji S b2 (Int32.toNatClampNeg ((((jtextat x1) + 4) + (2 * x3)) + 1)))), (4, .int (ji S b2 (Int32.toNatClampNeg (((jtextat x1) + 4) + (2 * x3))))), (0, .ref a0), (1, .int x1), (2, .int x2)]) kd94.2.2.1 rfl rfl (by decide) rfl ?_
      refine jx_goto (tgt := 4) kd94.2.2.2 (by decide) ?_
      exact jx_lv [3, 4, 5, 0] rfl h
    replace h := h.1 c32
    refine jx_iconst (v := 1) dX11_worked_118 (by decide) ?_
    refine jx_goto (tgt := 123) dX11_worked_119 (by decide) ?_
    refine jx_iast dX11_worked_123 hk30 hi31 ?_
    refine jx_goto (tgt := 157) dX11_worked_124 (by decide) ?_
    refine jx_iinc 5 (v := (x3 + 1)) (lv1 := [(3, .int (x3 + 1)), (5, .int (ji S b2 (Int32.toNatClampNeg ((((jtextat x1) + 4) + (2 * x3)) + 1)))), (4, .int (ji S b2 (Int32.toNatClampNeg (((jtextat x1) + 4) + (2 * x3))))), (0, .ref a0), (1, .int x1), (2, .int x2)]) kd94.2.2.1 rfl rfl (by decide) rfl ?_
    refine jx_goto (tgt := 4) kd94.2.2.2 (by decide) ?_
    exact jx_lv [3, 4, 5, 0] rfl h
  replace h := h.2 c20
  refine jx_aload_n 2 dX11_worked_64 rfl rfl ?_
  obtain ⟨b33, hb33, h⟩ := h
  refine jx_getr jc_11 (j := 31) (by decide) rfl jwF_X11_58 dX11_worked_65 hk1 hb33 ?_
  refine jx_iload_n 4 dX11_worked_68 rfl rfl ?_
  refine jx_iload 1 dX11_worked_69 rfl ?_
  refine jx_if_ne (tgt := 79) dX11_worked_71 (by decide) (fun c34 => ?_) (fun c34 => ?_)
  · replace h := h.2 c34
    refine jx_aload_n 2 dX11_worked_79 rfl rfl ?_
    obtain ⟨b35, hb35, h⟩ := h
    refine jx_getr jc_11 (j := 30) (by decide) rfl jwF_X11_55 dX11_worked_80 hk1 hb35 ?_
    refine jx_iload 0 dX11_worked_83 rfl ?_
    obtain ⟨hk36, h⟩ := h
    obtain ⟨hi37, h⟩ := h
    refine jx_iald dX11_worked_85 hk36 hi37 ?_
    obtain ⟨hk38, h⟩ := h
    obtain ⟨hi39, h⟩ := h
    refine jx_iast dX11_worked_86 hk38 hi39 ?_
    refine jx_iinc 4 (v := (x2 + 1)) (lv1 := [(2, .int (x2 + 1)), (5, .int (ji S b2 (Int32.toNatClampNeg ((((jtextat x1) + 4) + (2 * x3)) + 1)))), (4, .int (ji S b2 (Int32.toNatClampNeg (((jtextat x1) + 4) + (2 * x3))))), (0, .ref a0), (1, .int x1), (3, .int x3)]) kd94.1 rfl rfl (by decide) rfl ?_
    refine jx_goto (tgt := 157) dX11_worked_90 (by decide) ?_
    refine jx_iinc 5 (v := (x3 + 1)) (lv1 := [(3, .int (x3 + 1)), (2, .int (x2 + 1)), (5, .int (ji S b2 (Int32.toNatClampNeg ((((jtextat x1) + 4) + (2 * x3)) + 1)))), (4, .int (ji S b2 (Int32.toNatClampNeg (((jtextat x1) + 4) + (2 * x3))))), (0, .ref a0), (1, .int x1)]) kd94.2.2.1 rfl rfl (by decide) rfl ?_
    refine jx_goto (tgt := 4) kd94.2.2.2 (by decide) ?_
    exact jx_lv [4, 5, 1, 0] rfl h
  replace h := h.1 c34
  refine jx_iload 0 dX11_worked_74 rfl ?_
  refine jx_goto (tgt := 86) dX11_worked_76 (by decide) ?_
  obtain ⟨hk40, h⟩ := h
  obtain ⟨hi41, h⟩ := h
  refine jx_iast dX11_worked_86 hk40 hi41 ?_
  refine jx_iinc 4 (v := (x2 + 1)) (lv1 := [(2, .int (x2 + 1)), (5, .int (ji S b2 (Int32.toNatClampNeg ((((jtextat x1) + 4) + (2 * x3)) + 1)))), (4, .int (ji S b2 (Int32.toNatClampNeg (((jtextat x1) + 4) + (2 * x3))))), (0, .ref a0), (1, .int x1), (3, .int x3)]) kd94.1 rfl rfl (by decide) rfl ?_
  refine jx_goto (tgt := 157) dX11_worked_90 (by decide) ?_
  refine jx_iinc 5 (v := (x3 + 1)) (lv1 := [(3, .int (x3 + 1)), (2, .int (x2 + 1)), (5, .int (ji S b2 (Int32.toNatClampNeg ((((jtextat x1) + 4) + (2 * x3)) + 1)))), (4, .int (ji S b2 (Int32.toNatClampNeg (((jtextat x1) + 4) + (2 * x3))))), (0, .ref a0), (1, .int x1)]) kd94.2.2.1 rfl rfl (by decide) rfl ?_
  refine jx_goto (tgt := 4) kd94.2.2.2 (by decide) ?_
  exact jx_lv [4, 5, 1, 0] rfl h
/-- X11_sheet at its loop's head 69 -/
abbrev L_X11_sheet_69 (E : jEnv) (d : Nat) (Q : Int32 → jM → Prop) (a0 : Nat) (x1 : Int32) (x4 : Int32) (S : jM) : Prop := jX E mX11_sheet (jRm (d + 2) 0 0) (jZm E (fun r S' => ∃ v : Int32, r = some (.int v) ∧ Q v S') 0 0) 69 [(0, .ref a0), (1, .int x1), (4, .int x4)] [] S 0 0
set_option maxRecDepth 100000 in
set_option maxHeartbeats 4000000 in
theorem T_X11_sheet {E : jEnv} {d : Nat} {Q : Int32 → jM → Prop} {a0 : Nat} {x1 : Int32} {x2 : Int32} {x3 : Int32} {S : jM} (h : ((jissheet x1) = 0 → Q (-1000000001) S) ∧ (¬ (jissheet x1) = 0 → ((jisin (Int32.toInt64 x2) (-1) 1) = 0 → Q (-1000000001) S) ∧ (¬ (jisin (Int32.toInt64 x2) (-1) 1) = 0 → (x2 < 0 → jk S a0 = 11 ∧ ∃ b11, jr S a0 4 = some b11 ∧ (jk S b11 = 12 ∧ vp_in x1 (jl S b11) ∧ (∃ b14, jr S a0 5 = some b14 ∧ ((0 ≤ x2 → jk S b14 = 12 ∧ vp_in x1 (jl S b14) ∧ (L_X11_sheet_69 E d Q a0 x1 0 (jput (jput S b11 (Int32.toNatClampNeg x1) x2) b14 (Int32.toNatClampNeg x1) x3))) ∧ (¬ 0 ≤ x2 → jk S b14 = 12 ∧ vp_in x1 (jl S b14) ∧ (L_X11_sheet_69 E d Q a0 x1 0 (jput (jput S b11 (Int32.toNatClampNeg x1) x2) b14 (Int32.toNatClampNeg x1) 0))))))) ∧ (¬ x2 < 0 → (x3 ≤ 24 → (0 ≤ x3 → jk S a0 = 11 ∧ ∃ b23, jr S a0 4 = some b23 ∧ (jk S b23 = 12 ∧ vp_in x1 (jl S b23) ∧ (∃ b26, jr S a0 5 = some b26 ∧ ((0 ≤ x2 → jk S b26 = 12 ∧ vp_in x1 (jl S b26) ∧ (L_X11_sheet_69 E d Q a0 x1 0 (jput (jput S b23 (Int32.toNatClampNeg x1) x2) b26 (Int32.toNatClampNeg x1) x3))) ∧ (¬ 0 ≤ x2 → jk S b26 = 12 ∧ vp_in x1 (jl S b26) ∧ (L_X11_sheet_69 E d Q a0 x1 0 (jput (jput S b23 (Int32.toNatClampNeg x1) x2) b26 (Int32.toNatClampNeg x1) 0))))))) ∧ (¬ 0 ≤ x3 → Q (-1000000014) S)) ∧ (¬ x3 ≤ 24 → Q (-1000000001) S))))) : jFi E mX11_sheet (d + 2) 0 0 [.ref a0, .int x1, .int x2, .int x3] S Q := by
  refine jF_of (by decide) (jle rfl) ?_
  refine jx_lv (lv1 := [(0, .ref a0), (1, .int x1), (2, .int x2), (3, .int x3)]) [0, 1, 2, 3] rfl ?_
  refine jx_iload_n 1 dX11_sheet_0 rfl rfl ?_
  refine jx_callSi (M' := mX11_isSheet) (As := [.int x1]) jo_X11_isSheet jwM_X11_314 jwS_X11_isSheet dX11_sheet_1 (jRok_m _ _ _) rfl (jle rfl) ⟨jle rfl, jle rfl⟩ (c_X11_isSheet (Q := fun v S' => v = (jissheet x1) ∧ S = S') ⟨rfl, rfl⟩) (fun r1 S2 hq3 => ?_)
  obtain ⟨rfl, rfl⟩ := hq3
  refine jx_if_eq (tgt := 29) dX11_sheet_4 (by decide) (fun c4 => ?_) (fun c4 => ?_)
  · replace h := h.1 c4
    refine jx_ldc jwC_X11_87 dX11_sheet_29 ?_
    exact jx_iret dX11_sheet_31 rfl rfl (jle rfl) (jle rfl) ⟨_, rfl, h⟩
  replace h := h.2 c4
  refine jx_iload_n 2 dX11_sheet_7 rfl rfl ?_
  refine jx_i2l dX11_sheet_8 ?_
  refine jx_ldc2 jwL_X11_317 dX11_sheet_9 ?_
  refine jx_lconst (v := 1) dX11_sheet_12 (by decide) ?_
  refine jx_callSi (M' := mX11_isIn) (As := [.long (Int32.toInt64 x2), .long (-1), .long 1]) jo_X11_isIn jwM_X11_71 jwS_X11_isIn dX11_sheet_13 (jRok_m _ _ _) rfl (jle rfl) ⟨jle rfl, jle rfl⟩ (c_X11_isIn (Q := fun v S' => v = (jisin (Int32.toInt64 x2) (-1) 1) ∧ S = S') ⟨rfl, rfl⟩) (fun r5 S6 hq7 => ?_)
  obtain ⟨rfl, rfl⟩ := hq7
  refine jx_if_eq (tgt := 29) dX11_sheet_16 (by decide) (fun c8 => ?_) (fun c8 => ?_)
  · replace h := h.1 c8
    refine jx_ldc jwC_X11_87 dX11_sheet_29 ?_
    exact jx_iret dX11_sheet_31 rfl rfl (jle rfl) (jle rfl) ⟨_, rfl, h⟩
  replace h := h.2 c8
  refine jx_iload_n 2 dX11_sheet_19 rfl rfl ?_
  refine jx_if_lt (tgt := 32) dX11_sheet_20 (by decide) (fun c9 => ?_) (fun c9 => ?_)
  · replace h := h.1 c9
    refine jx_iload_n 2 dX11_sheet_32 rfl rfl ?_
    refine jx_if_lt (tgt := 44) dX11_sheet_33 (by decide) (fun _ => ?_) (fun z9 => absurd c9 z9)
    refine jx_aload_n 0 dX11_sheet_44 rfl rfl ?_
    obtain ⟨hk10, h⟩ := h
    obtain ⟨b11, hb11, h⟩ := h
    refine jx_getr jc_11 (j := 4) (by decide) rfl jwF_X11_19 dX11_sheet_45 hk10 hb11 ?_
    refine jx_iload_n 1 dX11_sheet_48 rfl rfl ?_
    refine jx_iload_n 2 dX11_sheet_49 rfl rfl ?_
    obtain ⟨hk12, h⟩ := h
    obtain ⟨hi13, h⟩ := h
    refine jx_iast dX11_sheet_50 hk12 hi13 ?_
    refine jx_aload_n 0 dX11_sheet_51 rfl rfl ?_
    obtain ⟨b14, hb14, h⟩ := h
    refine jx_getr jc_11 (j := 5) (by decide) rfl jwF_X11_22 dX11_sheet_52 hk10 hb14 ?_
    refine jx_iload_n 1 dX11_sheet_55 rfl rfl ?_
    refine jx_iload_n 2 dX11_sheet_56 rfl rfl ?_
    refine jx_if_ge (tgt := 64) dX11_sheet_57 (by decide) (fun c15 => ?_) (fun c15 => ?_)
    · replace h := h.1 c15
      refine jx_iload_n 3 dX11_sheet_64 rfl rfl ?_
      obtain ⟨hk16, h⟩ := h
      obtain ⟨hi17, h⟩ := h
      refine jx_iast dX11_sheet_65 hk16 hi17 ?_
      refine jx_iconst (v := 0) dX11_sheet_66 (by decide) ?_
      refine jx_istore (lv1 := [(4, .int 0), (0, .ref a0), (1, .int x1), (2, .int x2), (3, .int x3)]) dX11_sheet_67 (by decide) rfl ?_
      exact jx_lv [1, 2, 0] rfl h
    replace h := h.2 c15
    refine jx_iconst (v := 0) dX11_sheet_60 (by decide) ?_
    refine jx_goto (tgt := 65) dX11_sheet_61 (by decide) ?_
    obtain ⟨hk18, h⟩ := h
    obtain ⟨hi19, h⟩ := h
    refine jx_iast dX11_sheet_65 hk18 hi19 ?_
    refine jx_iconst (v := 0) dX11_sheet_66 (by decide) ?_
    refine jx_istore (lv1 := [(4, .int 0), (0, .ref a0), (1, .int x1), (2, .int x2), (3, .int x3)]) dX11_sheet_67 (by decide) rfl ?_
    exact jx_lv [1, 2, 0] rfl h
  replace h := h.2 c9
  refine jx_iload_n 3 dX11_sheet_23 rfl rfl ?_
  refine jx_bipush (v := 24) dX11_sheet_24 (by decide) ?_
  refine jx_icmp_le (tgt := 32) dX11_sheet_26 (by decide) (fun c20 => ?_) (fun c20 => ?_)
  · replace h := h.1 c20
    refine jx_iload_n 2 dX11_sheet_32 rfl rfl ?_
    refine jx_if_lt (tgt := 44) dX11_sheet_33 (by decide) (fun z9 => absurd z9 c9) (fun _ => ?_)
    refine jx_iload_n 3 dX11_sheet_36 rfl rfl ?_
    refine jx_if_ge (tgt := 44) dX11_sheet_37 (by decide) (fun c21 => ?_) (fun c21 => ?_)
    · replace h := h.1 c21
      refine jx_aload_n 0 dX11_sheet_44 rfl rfl ?_
      obtain ⟨hk22, h⟩ := h
      obtain ⟨b23, hb23, h⟩ := h
      refine jx_getr jc_11 (j := 4) (by decide) rfl jwF_X11_19 dX11_sheet_45 hk22 hb23 ?_
      refine jx_iload_n 1 dX11_sheet_48 rfl rfl ?_
      refine jx_iload_n 2 dX11_sheet_49 rfl rfl ?_
      obtain ⟨hk24, h⟩ := h
      obtain ⟨hi25, h⟩ := h
      refine jx_iast dX11_sheet_50 hk24 hi25 ?_
      refine jx_aload_n 0 dX11_sheet_51 rfl rfl ?_
      obtain ⟨b26, hb26, h⟩ := h
      refine jx_getr jc_11 (j := 5) (by decide) rfl jwF_X11_22 dX11_sheet_52 hk22 hb26 ?_
      refine jx_iload_n 1 dX11_sheet_55 rfl rfl ?_
      refine jx_iload_n 2 dX11_sheet_56 rfl rfl ?_
      refine jx_if_ge (tgt := 64) dX11_sheet_57 (by decide) (fun c27 => ?_) (fun c27 => ?_)
      · replace h := h.1 c27
        refine jx_iload_n 3 dX11_sheet_64 rfl rfl ?_
        obtain ⟨hk28, h⟩ := h
        obtain ⟨hi29, h⟩ := h
        refine jx_iast dX11_sheet_65 hk28 hi29 ?_
        refine jx_iconst (v := 0) dX11_sheet_66 (by decide) ?_
        refine jx_istore (lv1 := [(4, .int 0), (0, .ref a0), (1, .int x1), (2, .int x2), (3, .int x3)]) dX11_sheet_67 (by decide) rfl ?_
        exact jx_lv [1, 2, 0] rfl h
      replace h := h.2 c27
      refine jx_iconst (v := 0) dX11_sheet_60 (by decide) ?_
      refine jx_goto (tgt := 65) dX11_sheet_61 (by decide) ?_
      obtain ⟨hk30, h⟩ := h
      obtain ⟨hi31, h⟩ := h
      refine jx_iast dX11_sheet_65 hk30 hi31 ?_
      refine jx_iconst (v := 0) dX11_sheet_66 (by decide) ?_
      refine jx_istore (lv1 := [(4, .int 0), (0, .ref a0), (1, .int x1), (2, .int x2), (3, .int x3)]) dX11_sheet_67 (by decide) rfl ?_
      exact jx_lv [1, 2, 0] rfl h
    replace h := h.2 c21
    refine jx_ldcw jwC_X11_319 dX11_sheet_40 ?_
    exact jx_iret dX11_sheet_43 rfl rfl (jle rfl) (jle rfl) ⟨_, rfl, h⟩
  replace h := h.2 c20
  refine jx_ldc jwC_X11_87 dX11_sheet_29 ?_
  exact jx_iret dX11_sheet_31 rfl rfl (jle rfl) (jle rfl) ⟨_, rfl, h⟩
set_option maxRecDepth 100000 in
set_option maxHeartbeats 4000000 in
theorem T_X11_sheet_69 {E : jEnv} {d : Nat} {Q : Int32 → jM → Prop} {a0 : Nat} {x1 : Int32} {x4 : Int32} {S : jM} (h : (24 ≤ x4 → jk S a0 = 11 ∧ ∃ b34, jr S a0 5 = some b34 ∧ (jk S b34 = 12 ∧ vp_in x1 (jl S b34) ∧ (Q (ji S b34 (Int32.toNatClampNeg x1)) S))) ∧ (¬ 24 ≤ x4 → jk S a0 = 11 ∧ ∃ b38, jr S a0 6 = some b38 ∧ (jk S b38 = 12 ∧ vp_in ((24 * x1) + x4) (jl S b38) ∧ (L_X11_sheet_69 E d Q a0 x1 (x4 + 1) (jput S b38 (Int32.toNatClampNeg ((24 * x1) + x4)) 0))))) : L_X11_sheet_69 E d Q a0 x1 x4 S := by
  show jX E mX11_sheet (jRm (d + 2) 0 0) (jZm E (fun r S' => ∃ v : Int32, r = some (.int v) ∧ Q v S') 0 0) 69 [(0, .ref a0), (1, .int x1), (4, .int x4)] [] S 0 0
  refine jx_iload 2 dX11_sheet_69 rfl ?_
  refine jx_bipush (v := 24) dX11_sheet_71 (by decide) ?_
  refine jx_icmp_ge (tgt := 95) dX11_sheet_73 (by decide) (fun c32 => ?_) (fun c32 => ?_)
  · replace h := h.1 c32
    refine jx_aload_n 0 dX11_sheet_95 rfl rfl ?_
    obtain ⟨hk33, h⟩ := h
    obtain ⟨b34, hb34, h⟩ := h
    refine jx_getr jc_11 (j := 5) (by decide) rfl jwF_X11_22 dX11_sheet_96 hk33 hb34 ?_
    refine jx_iload_n 1 dX11_sheet_99 rfl rfl ?_
    obtain ⟨hk35, h⟩ := h
    obtain ⟨hi36, h⟩ := h
    refine jx_iald dX11_sheet_100 hk35 hi36 ?_
    exact jx_iret dX11_sheet_101 rfl rfl (jle rfl) (jle rfl) ⟨_, rfl, h⟩
  replace h := h.2 c32
  refine jx_aload_n 0 dX11_sheet_76 rfl rfl ?_
  obtain ⟨hk37, h⟩ := h
  obtain ⟨b38, hb38, h⟩ := h
  refine jx_getr jc_11 (j := 6) (by decide) rfl jwF_X11_25 dX11_sheet_77 hk37 hb38 ?_
  refine jx_bipush (v := 24) dX11_sheet_80 (by decide) ?_
  refine jx_iload_n 1 dX11_sheet_82 rfl rfl ?_
  refine jx_imul dX11_sheet_83 ?_
  refine jx_iload 2 dX11_sheet_84 rfl ?_
  refine jx_iadd dX11_sheet_86 ?_
  refine jx_iconst (v := 0) dX11_sheet_87 (by decide) ?_
  obtain ⟨hk39, h⟩ := h
  obtain ⟨hi40, h⟩ := h
  refine jx_iast dX11_sheet_88 hk39 hi40 ?_
  refine jx_iinc 2 (v := (x4 + 1)) (lv1 := [(4, .int (x4 + 1)), (0, .ref a0), (1, .int x1)]) kd95.1 rfl rfl (by decide) rfl ?_
  refine jx_goto (tgt := 69) kd95.2 (by decide) ?_
  exact jx_lv [1, 2, 0] rfl h
set_option maxRecDepth 100000 in
set_option maxHeartbeats 4000000 in
theorem T_X11_mark {E : jEnv} {d : Nat} {Q : Int32 → jM → Prop} {a0 : Nat} {x1 : Int32} {x2 : Int32} {x3 : Int32} {S : jM} (h : ((jissheet x1) = 0 → Q (-1000000001) S) ∧ (¬ (jissheet x1) = 0 → jk S a0 = 11 ∧ ∃ b6, jr S a0 4 = some b6 ∧ (jk S b6 = 12 ∧ vp_in x1 (jl S b6) ∧ ((0 ≤ (ji S b6 (Int32.toNatClampNeg x1)) → ∃ b10, jr S a0 5 = some b10 ∧ (jk S b10 = 12 ∧ vp_in x1 (jl S b10) ∧ (((jisin (Int32.toInt64 x2) 0 (Int32.toInt64 ((ji S b10 (Int32.toNatClampNeg x1)) - 1))) = 0 → Q (-1000000013) S) ∧ (¬ (jisin (Int32.toInt64 x2) 0 (Int32.toInt64 ((ji S b10 (Int32.toNatClampNeg x1)) - 1))) = 0 → (((ji S b6 (Int32.toNatClampNeg x1)) = 0 → (x3 = (-1000000005) → Q (-1000000012) S) ∧ (¬ x3 = (-1000000005) → (((ji S b6 (Int32.toNatClampNeg x1)) = 1 → ((jisin (Int32.toInt64 x3) (-99999) 99999) = 0 → Q (-1000000001) S) ∧ (¬ (jisin (Int32.toInt64 x3) (-99999) 99999) = 0 → ∃ b42, jr S a0 6 = some b42 ∧ ((jk S b42 = 12 ∧ vp_in ((24 * x1) + x2) (jl S b42) ∧ (Q 1 (jput S b42 (Int32.toNatClampNeg ((24 * x1) + x2)) (jshr (jshl x3 16) 16))))))) ∧ (¬ (ji S b6 (Int32.toNatClampNeg x1)) = 1 → ∃ b35, jr S a0 6 = some b35 ∧ ((jk S b35 = 12 ∧ vp_in ((24 * x1) + x2) (jl S b35) ∧ (Q 1 (jput S b35 (Int32.toNatClampNeg ((24 * x1) + x2)) (jshr (jshl x3 16) 16))))))))) ∧ (¬ (ji S b6 (Int32.toNatClampNeg x1)) = 0 → (((ji S b6 (Int32.toNatClampNeg x1)) = 1 → (x3 = (-1000000005) → ∃ b23, jr S a0 6 = some b23 ∧ ((jk S b23 = 12 ∧ vp_in ((24 * x1) + x2) (jl S b23) ∧ (Q 1 (jput S b23 (Int32.toNatClampNeg ((24 * x1) + x2)) x3))))) ∧ (¬ x3 = (-1000000005) → ((jisin (Int32.toInt64 x3) (-99999) 99999) = 0 → Q (-1000000001) S) ∧ (¬ (jisin (Int32.toInt64 x3) (-99999) 99999) = 0 → ∃ b30, jr S a0 6 = some b30 ∧ ((jk S b30 = 12 ∧ vp_in ((24 * x1) + x2) (jl S b30) ∧ (Q 1 (jput S b30 (Int32.toNatClampNeg ((24 * x1) + x2)) x3))))))) ∧ (¬ (ji S b6 (Int32.toNatClampNeg x1)) = 1 → ∃ b19, jr S a0 6 = some b19 ∧ ((jk S b19 = 12 ∧ vp_in ((24 * x1) + x2) (jl S b19) ∧ (Q 1 (jput S b19 (Int32.toNatClampNeg ((24 * x1) + x2)) x3)))))))))))) ∧ (¬ 0 ≤ (ji S b6 (Int32.toNatClampNeg x1)) → Q (-1000000011) S))))) : jFi E mX11_mark (d + 2) 0 0 [.ref a0, .int x1, .int x2, .int x3] S Q := by
  refine jF_of (by decide) (jle rfl) ?_
  refine jx_lv (lv1 := [(0, .ref a0), (1, .int x1), (2, .int x2), (3, .int x3)]) [0, 1, 2, 3] rfl ?_
  refine jx_iload_n 1 dX11_mark_0 rfl rfl ?_
  refine jx_callSi (M' := mX11_isSheet) (As := [.int x1]) jo_X11_isSheet jwM_X11_314 jwS_X11_isSheet dX11_mark_1 (jRok_m _ _ _) rfl (jle rfl) ⟨jle rfl, jle rfl⟩ (c_X11_isSheet (Q := fun v S' => v = (jissheet x1) ∧ S = S') ⟨rfl, rfl⟩) (fun r1 S2 hq3 => ?_)
  obtain ⟨rfl, rfl⟩ := hq3
  refine jx_if_ne (tgt := 10) dX11_mark_4 (by decide) (fun c4 => ?_) (fun c4 => ?_)
  · replace h := h.2 c4
    refine jx_aload_n 0 dX11_mark_10 rfl rfl ?_
    obtain ⟨hk5, h⟩ := h
    obtain ⟨b6, hb6, h⟩ := h
    refine jx_getr jc_11 (j := 4) (by decide) rfl jwF_X11_19 dX11_mark_11 hk5 hb6 ?_
    refine jx_iload_n 1 dX11_mark_14 rfl rfl ?_
    obtain ⟨hk7, h⟩ := h
    obtain ⟨hi8, h⟩ := h
    refine jx_iald dX11_mark_15 hk7 hi8 ?_
    refine jx_if_ge (tgt := 23) dX11_mark_16 (by decide) (fun c9 => ?_) (fun c9 => ?_)
    · replace h := h.1 c9
      refine jx_iload_n 2 dX11_mark_23 rfl rfl ?_
      refine jx_i2l dX11_mark_24 ?_
      refine jx_lconst (v := 0) dX11_mark_25 (by decide) ?_
      refine jx_aload_n 0 dX11_mark_26 rfl rfl ?_
      obtain ⟨b10, hb10, h⟩ := h
      refine jx_getr jc_11 (j := 5) (by decide) rfl jwF_X11_22 dX11_mark_27 hk5 hb10 ?_
      refine jx_iload_n 1 dX11_mark_30 rfl rfl ?_
      obtain ⟨hk11, h⟩ := h
      obtain ⟨hi12, h⟩ := h
      refine jx_iald dX11_mark_31 hk11 hi12 ?_
      refine jx_iconst (v := 1) dX11_mark_32 (by decide) ?_
      refine jx_isub dX11_mark_33 ?_
      refine jx_i2l dX11_mark_34 ?_
      refine jx_callSi (M' := mX11_isIn) (As := [.long (Int32.toInt64 x2), .long 0, .long (Int32.toInt64 ((ji S b10 (Int32.toNatClampNeg x1)) - 1))]) jo_X11_isIn jwM_X11_71 jwS_X11_isIn dX11_mark_35 (jRok_m _ _ _) rfl (jle rfl) ⟨jle rfl, jle rfl⟩ (c_X11_isIn (Q := fun v S' => v = (jisin (Int32.toInt64 x2) 0 (Int32.toInt64 ((ji S b10 (Int32.toNatClampNeg x1)) - 1))) ∧ S = S') ⟨rfl, rfl⟩) (fun r13 S14 hq15 => ?_)
      obtain ⟨rfl, rfl⟩ := hq15
      refine jx_if_ne (tgt := 45) dX11_mark_38 (by decide) (fun c16 => ?_) (fun c16 => ?_)
      · replace h := h.2 c16
        refine jx_aload_n 0 dX11_mark_45 rfl rfl ?_
        refine jx_getr jc_11 (j := 4) (by decide) rfl jwF_X11_19 dX11_mark_46 hk5 hb6 ?_
        refine jx_iload_n 1 dX11_mark_49 rfl rfl ?_
        refine jx_iald dX11_mark_50 hk7 hi8 ?_
        refine jx_if_ne (tgt := 63) dX11_mark_51 (by decide) (fun c17 => ?_) (fun c17 => ?_)
        · replace h := h.2 c17
          refine jx_aload_n 0 dX11_mark_63 rfl rfl ?_
          refine jx_getr jc_11 (j := 4) (by decide) rfl jwF_X11_19 dX11_mark_64 hk5 hb6 ?_
          refine jx_iload_n 1 dX11_mark_67 rfl rfl ?_
          refine jx_iald dX11_mark_68 hk7 hi8 ?_
          refine jx_iconst (v := 1) dX11_mark_69 (by decide) ?_
          refine jx_icmp_ne (tgt := 96) dX11_mark_70 (by decide) (fun c18 => ?_) (fun c18 => ?_)
          · replace h := h.2 c18
            refine jx_aload_n 0 dX11_mark_96 rfl rfl ?_
            obtain ⟨b19, hb19, h⟩ := h
            refine jx_getr jc_11 (j := 6) (by decide) rfl jwF_X11_25 dX11_mark_97 hk5 hb19 ?_
            refine jx_bipush (v := 24) dX11_mark_100 (by decide) ?_
            refine jx_iload_n 1 dX11_mark_102 rfl rfl ?_
            refine jx_imul dX11_mark_103 ?_
            refine jx_iload_n 2 dX11_mark_104 rfl rfl ?_
            refine jx_iadd dX11_mark_105 ?_
            refine jx_aload_n 0 dX11_mark_106 rfl rfl ?_
            refine jx_getr jc_11 (j := 4) (by decide) rfl jwF_X11_19 dX11_mark_107 hk5 hb6 ?_
            refine jx_iload_n 1 dX11_mark_110 rfl rfl ?_
            refine jx_iald dX11_mark_111 hk7 hi8 ?_
            refine jx_if_ne (tgt := 125) dX11_mark_112 (by decide) (fun _ => ?_) (fun z9 => absurd z9 c17)
            refine jx_iload_n 3 dX11_mark_125 rfl rfl ?_
            obtain ⟨hk20, h⟩ := h
            obtain ⟨hi21, h⟩ := h
            refine jx_iast dX11_mark_126 hk20 hi21 ?_
            refine jx_iconst (v := 1) dX11_mark_127 (by decide) ?_
            exact jx_iret dX11_mark_128 rfl rfl (jle rfl) (jle rfl) ⟨_, rfl, h⟩
          replace h := h.1 c18
          refine jx_iload_n 3 dX11_mark_73 rfl rfl ?_
          refine jx_ldc jwC_X11_70 dX11_mark_74 ?_
          refine jx_icmp_eq (tgt := 96) dX11_mark_76 (by decide) (fun c22 => ?_) (fun c22 => ?_)
          · replace h := h.1 c22
            refine jx_aload_n 0 dX11_mark_96 rfl rfl ?_
            obtain ⟨b23, hb23, h⟩ := h
            refine jx_getr jc_11 (j := 6) (by decide) rfl jwF_X11_25 dX11_mark_97 hk5 hb23 ?_
            refine jx_bipush (v := 24) dX11_mark_100 (by decide) ?_
            refine jx_iload_n 1 dX11_mark_102 rfl rfl ?_
            refine jx_imul dX11_mark_103 ?_
            refine jx_iload_n 2 dX11_mark_104 rfl rfl ?_
            refine jx_iadd dX11_mark_105 ?_
            refine jx_aload_n 0 dX11_mark_106 rfl rfl ?_
            refine jx_getr jc_11 (j := 4) (by decide) rfl jwF_X11_19 dX11_mark_107 hk5 hb6 ?_
            refine jx_iload_n 1 dX11_mark_110 rfl rfl ?_
            refine jx_iald dX11_mark_111 hk7 hi8 ?_
            refine jx_if_ne (tgt := 125) dX11_mark_112 (by decide) (fun _ => ?_) (fun z9 => absurd z9 c17)
            refine jx_iload_n 3 dX11_mark_125 rfl rfl ?_
            obtain ⟨hk24, h⟩ := h
            obtain ⟨hi25, h⟩ := h
            refine jx_iast dX11_mark_126 hk24 hi25 ?_
            refine jx_iconst (v := 1) dX11_mark_127 (by decide) ?_
            exact jx_iret dX11_mark_128 rfl rfl (jle rfl) (jle rfl) ⟨_, rfl, h⟩
          replace h := h.2 c22
          refine jx_iload_n 3 dX11_mark_79 rfl rfl ?_
          refine jx_i2l dX11_mark_80 ?_
          refine jx_ldc2 jwL_X11_322 dX11_mark_81 ?_
          refine jx_ldc2 jwL_X11_324 dX11_mark_84 ?_
          refine jx_callSi (M' := mX11_isIn) (As := [.long (Int32.toInt64 x3), .long (-99999), .long 99999]) jo_X11_isIn jwM_X11_71 jwS_X11_isIn dX11_mark_87 (jRok_m _ _ _) rfl (jle rfl) ⟨jle rfl, jle rfl⟩ (c_X11_isIn (Q := fun v S' => v = (jisin (Int32.toInt64 x3) (-99999) 99999) ∧ S = S') ⟨rfl, rfl⟩) (fun r26 S27 hq28 => ?_)
          obtain ⟨rfl, rfl⟩ := hq28
          refine jx_if_ne (tgt := 96) dX11_mark_90 (by decide) (fun c29 => ?_) (fun c29 => ?_)
          · replace h := h.2 c29
            refine jx_aload_n 0 dX11_mark_96 rfl rfl ?_
            obtain ⟨b30, hb30, h⟩ := h
            refine jx_getr jc_11 (j := 6) (by decide) rfl jwF_X11_25 dX11_mark_97 hk5 hb30 ?_
            refine jx_bipush (v := 24) dX11_mark_100 (by decide) ?_
            refine jx_iload_n 1 dX11_mark_102 rfl rfl ?_
            refine jx_imul dX11_mark_103 ?_
            refine jx_iload_n 2 dX11_mark_104 rfl rfl ?_
            refine jx_iadd dX11_mark_105 ?_
            refine jx_aload_n 0 dX11_mark_106 rfl rfl ?_
            refine jx_getr jc_11 (j := 4) (by decide) rfl jwF_X11_19 dX11_mark_107 hk5 hb6 ?_
            refine jx_iload_n 1 dX11_mark_110 rfl rfl ?_
            refine jx_iald dX11_mark_111 hk7 hi8 ?_
            refine jx_if_ne (tgt := 125) dX11_mark_112 (by decide) (fun _ => ?_) (fun z9 => absurd z9 c17)
            refine jx_iload_n 3 dX11_mark_125 rfl rfl ?_
            obtain ⟨hk31, h⟩ := h
            obtain ⟨hi32, h⟩ := h
            refine jx_iast dX11_mark_126 hk31 hi32 ?_
            refine jx_iconst (v := 1) dX11_mark_127 (by decide) ?_
            exact jx_iret dX11_mark_128 rfl rfl (jle rfl) (jle rfl) ⟨_, rfl, h⟩
          replace h := h.1 c29
          refine jx_ldc jwC_X11_87 dX11_mark_93 ?_
          exact jx_iret dX11_mark_95 rfl rfl (jle rfl) (jle rfl) ⟨_, rfl, h⟩
        replace h := h.1 c17
        refine jx_iload_n 3 dX11_mark_54 rfl rfl ?_
        refine jx_ldc jwC_X11_70 dX11_mark_55 ?_
        refine jx_icmp_ne (tgt := 63) dX11_mark_57 (by decide) (fun c33 => ?_) (fun c33 => ?_)
        · replace h := h.2 c33
          refine jx_aload_n 0 dX11_mark_63 rfl rfl ?_
          refine jx_getr jc_11 (j := 4) (by decide) rfl jwF_X11_19 dX11_mark_64 hk5 hb6 ?_
          refine jx_iload_n 1 dX11_mark_67 rfl rfl ?_
          refine jx_iald dX11_mark_68 hk7 hi8 ?_
          refine jx_iconst (v := 1) dX11_mark_69 (by decide) ?_
          refine jx_icmp_ne (tgt := 96) dX11_mark_70 (by decide) (fun c34 => ?_) (fun c34 => ?_)
          · replace h := h.2 c34
            refine jx_aload_n 0 dX11_mark_96 rfl rfl ?_
            obtain ⟨b35, hb35, h⟩ := h
            refine jx_getr jc_11 (j := 6) (by decide) rfl jwF_X11_25 dX11_mark_97 hk5 hb35 ?_
            refine jx_bipush (v := 24) dX11_mark_100 (by decide) ?_
            refine jx_iload_n 1 dX11_mark_102 rfl rfl ?_
            refine jx_imul dX11_mark_103 ?_
            refine jx_iload_n 2 dX11_mark_104 rfl rfl ?_
            refine jx_iadd dX11_mark_105 ?_
            refine jx_aload_n 0 dX11_mark_106 rfl rfl ?_
            refine jx_getr jc_11 (j := 4) (by decide) rfl jwF_X11_19 dX11_mark_107 hk5 hb6 ?_
            refine jx_iload_n 1 dX11_mark_110 rfl rfl ?_
            refine jx_iald dX11_mark_111 hk7 hi8 ?_
            refine jx_if_ne (tgt := 125) dX11_mark_112 (by decide) (fun z9 => absurd c17 z9) (fun _ => ?_)
            refine jx_iload_n 3 dX11_mark_115 rfl rfl ?_
            refine jx_bipush (v := 16) dX11_mark_116 (by decide) ?_
            refine jx_ishl dX11_mark_118 ?_
            refine jx_bipush (v := 16) dX11_mark_119 (by decide) ?_
            refine jx_ishr dX11_mark_121 ?_
            refine jx_goto (tgt := 126) dX11_mark_122 (by decide) ?_
            obtain ⟨hk36, h⟩ := h
            obtain ⟨hi37, h⟩ := h
            refine jx_iast dX11_mark_126 hk36 hi37 ?_
            refine jx_iconst (v := 1) dX11_mark_127 (by decide) ?_
            exact jx_iret dX11_mark_128 rfl rfl (jle rfl) (jle rfl) ⟨_, rfl, h⟩
          replace h := h.1 c34
          refine jx_iload_n 3 dX11_mark_73 rfl rfl ?_
          refine jx_ldc jwC_X11_70 dX11_mark_74 ?_
          refine jx_icmp_eq (tgt := 96) dX11_mark_76 (by decide) (fun z9 => absurd z9 c33) (fun _ => ?_)
          refine jx_iload_n 3 dX11_mark_79 rfl rfl ?_
          refine jx_i2l dX11_mark_80 ?_
          refine jx_ldc2 jwL_X11_322 dX11_mark_81 ?_
          refine jx_ldc2 jwL_X11_324 dX11_mark_84 ?_
          refine jx_callSi (M' := mX11_isIn) (As := [.long (Int32.toInt64 x3), .long (-99999), .long 99999]) jo_X11_isIn jwM_X11_71 jwS_X11_isIn dX11_mark_87 (jRok_m _ _ _) rfl (jle rfl) ⟨jle rfl, jle rfl⟩ (c_X11_isIn (Q := fun v S' => v = (jisin (Int32.toInt64 x3) (-99999) 99999) ∧ S = S') ⟨rfl, rfl⟩) (fun r38 S39 hq40 => ?_)
          obtain ⟨rfl, rfl⟩ := hq40
          refine jx_if_ne (tgt := 96) dX11_mark_90 (by decide) (fun c41 => ?_) (fun c41 => ?_)
          · replace h := h.2 c41
            refine jx_aload_n 0 dX11_mark_96 rfl rfl ?_
            obtain ⟨b42, hb42, h⟩ := h
            refine jx_getr jc_11 (j := 6) (by decide) rfl jwF_X11_25 dX11_mark_97 hk5 hb42 ?_
            refine jx_bipush (v := 24) dX11_mark_100 (by decide) ?_
            refine jx_iload_n 1 dX11_mark_102 rfl rfl ?_
            refine jx_imul dX11_mark_103 ?_
            refine jx_iload_n 2 dX11_mark_104 rfl rfl ?_
            refine jx_iadd dX11_mark_105 ?_
            refine jx_aload_n 0 dX11_mark_106 rfl rfl ?_
            refine jx_getr jc_11 (j := 4) (by decide) rfl jwF_X11_19 dX11_mark_107 hk5 hb6 ?_
            refine jx_iload_n 1 dX11_mark_110 rfl rfl ?_
            refine jx_iald dX11_mark_111 hk7 hi8 ?_
            refine jx_if_ne (tgt := 125) dX11_mark_112 (by decide) (fun z9 => absurd c17 z9) (fun _ => ?_)
            refine jx_iload_n 3 dX11_mark_115 rfl rfl ?_
            refine jx_bipush (v := 16) dX11_mark_116 (by decide) ?_
            refine jx_ishl dX11_mark_118 ?_
            refine jx_bipush (v := 16) dX11_mark_119 (by decide) ?_
            refine jx_ishr dX11_mark_121 ?_
            refine jx_goto (tgt := 126) dX11_mark_122 (by decide) ?_
            obtain ⟨hk43, h⟩ := h
            obtain ⟨hi44, h⟩ := h
            refine jx_iast dX11_mark_126 hk43 hi44 ?_
            refine jx_iconst (v := 1) dX11_mark_127 (by decide) ?_
            exact jx_iret dX11_mark_128 rfl rfl (jle rfl) (jle rfl) ⟨_, rfl, h⟩
          replace h := h.1 c41
          refine jx_ldc jwC_X11_87 dX11_mark_93 ?_
          exact jx_iret dX11_mark_95 rfl rfl (jle rfl) (jle rfl) ⟨_, rfl, h⟩
        replace h := h.1 c33
        refine jx_ldc jwC_X11_129 dX11_mark_60 ?_
        exact jx_iret dX11_mark_62 rfl rfl (jle rfl) (jle rfl) ⟨_, rfl, h⟩
      replace h := h.1 c16
      refine jx_ldcw jwC_X11_321 dX11_mark_41 ?_
      exact jx_iret dX11_mark_44 rfl rfl (jle rfl) (jle rfl) ⟨_, rfl, h⟩
    replace h := h.2 c9
    refine jx_ldcw jwC_X11_320 dX11_mark_19 ?_
    exact jx_iret dX11_mark_22 rfl rfl (jle rfl) (jle rfl) ⟨_, rfl, h⟩
  replace h := h.1 c4
  refine jx_ldc jwC_X11_87 dX11_mark_7 ?_
  exact jx_iret dX11_mark_9 rfl rfl (jle rfl) (jle rfl) ⟨_, rfl, h⟩
/-- X11_pour at its loop's head 27 -/
abbrev L_X11_pour_27 (E : jEnv) (d : Nat) (Q : Int32 → jM → Prop) (a0 : Nat) (x1 : Int32) (x2 : Int32) (x3 : Int32) (S : jM) : Prop := jX E mX11_pour (jRm (d + 2) 0 0) (jZm E (fun r S' => ∃ v : Int32, r = some (.int v) ∧ Q v S') 0 0) 27 [(0, .ref a0), (1, .int x1), (2, .int x2), (3, .int x3)] [] S 0 0
set_option maxRecDepth 100000 in
set_option maxHeartbeats 4000000 in
theorem T_X11_pour {E : jEnv} {d : Nat} {Q : Int32 → jM → Prop} {a0 : Nat} {x1 : Int32} {S : jM} (h : ((jissheet x1) = 0 → Q (-1000000001) S) ∧ (¬ (jissheet x1) = 0 → jk S a0 = 11 ∧ ∃ b6, jr S a0 4 = some b6 ∧ (jk S b6 = 12 ∧ vp_in x1 (jl S b6) ∧ ((0 ≤ (ji S b6 (Int32.toNatClampNeg x1)) → L_X11_pour_27 E d Q a0 x1 0 0 S) ∧ (¬ 0 ≤ (ji S b6 (Int32.toNatClampNeg x1)) → Q (-1000000011) S))))) : jFi E mX11_pour (d + 2) 0 0 [.ref a0, .int x1] S Q := by
  refine jF_of (by decide) (jle rfl) ?_
  refine jx_lv (lv1 := [(0, .ref a0), (1, .int x1)]) [0, 1] rfl ?_
  refine jx_iload_n 1 dX11_pour_0 rfl rfl ?_
  refine jx_callSi (M' := mX11_isSheet) (As := [.int x1]) jo_X11_isSheet jwM_X11_314 jwS_X11_isSheet dX11_pour_1 (jRok_m _ _ _) rfl (jle rfl) ⟨jle rfl, jle rfl⟩ (c_X11_isSheet (Q := fun v S' => v = (jissheet x1) ∧ S = S') ⟨rfl, rfl⟩) (fun r1 S2 hq3 => ?_)
  obtain ⟨rfl, rfl⟩ := hq3
  refine jx_if_ne (tgt := 10) dX11_pour_4 (by decide) (fun c4 => ?_) (fun c4 => ?_)
  · replace h := h.2 c4
    refine jx_aload_n 0 dX11_pour_10 rfl rfl ?_
    obtain ⟨hk5, h⟩ := h
    obtain ⟨b6, hb6, h⟩ := h
    refine jx_getr jc_11 (j := 4) (by decide) rfl jwF_X11_19 dX11_pour_11 hk5 hb6 ?_
    refine jx_iload_n 1 dX11_pour_14 rfl rfl ?_
    obtain ⟨hk7, h⟩ := h
    obtain ⟨hi8, h⟩ := h
    refine jx_iald dX11_pour_15 hk7 hi8 ?_
    refine jx_if_ge (tgt := 23) dX11_pour_16 (by decide) (fun c9 => ?_) (fun c9 => ?_)
    · replace h := h.1 c9
      refine jx_iconst (v := 0) dX11_pour_23 (by decide) ?_
      refine jx_istore_n (lv1 := [(2, .int 0), (0, .ref a0), (1, .int x1)]) dX11_pour_24 rfl (by decide) rfl ?_
      refine jx_iconst (v := 0) dX11_pour_25 (by decide) ?_
      refine jx_istore_n (lv1 := [(3, .int 0), (2, .int 0), (0, .ref a0), (1, .int x1)]) dX11_pour_26 rfl (by decide) rfl ?_
      exact jx_lv [2, 3, 1, 0] rfl h
    replace h := h.2 c9
    refine jx_ldcw jwC_X11_320 dX11_pour_19 ?_
    exact jx_iret dX11_pour_22 rfl rfl (jle rfl) (jle rfl) ⟨_, rfl, h⟩
  replace h := h.1 c4
  refine jx_ldc jwC_X11_87 dX11_pour_7 ?_
  exact jx_iret dX11_pour_9 rfl rfl (jle rfl) (jle rfl) ⟨_, rfl, h⟩
set_option maxRecDepth 100000 in
set_option maxHeartbeats 4000000 in
theorem T_X11_pour_27 {E : jEnv} {d : Nat} {Q : Int32 → jM → Prop} {a0 : Nat} {x1 : Int32} {x2 : Int32} {x3 : Int32} {S : jM} (h : jk S a0 = 11 ∧ ∃ b11, jr S a0 5 = some b11 ∧ (jk S b11 = 12 ∧ vp_in x1 (jl S b11) ∧ (((ji S b11 (Int32.toNatClampNeg x1)) ≤ x3 → Q x2 S) ∧ (¬ (ji S b11 (Int32.toNatClampNeg x1)) ≤ x3 → ∃ b15, jr S a0 0 = some b15 ∧ (jk S b15 = 12 ∧ vp_in 0 (jl S b15) ∧ (((ji S b15 (Int32.toNatClampNeg 0)) ≤ x3 → Q x2 S) ∧ (¬ (ji S b15 (Int32.toNatClampNeg 0)) ≤ x3 → ∃ b19, jr S a0 6 = some b19 ∧ (jk S b19 = 12 ∧ vp_in ((24 * x1) + x3) (jl S b19) ∧ (((ji S b19 (Int32.toNatClampNeg ((24 * x1) + x3))) = (-1000000005) → jFi E mX11_of (d + 1) 0 0 [.ref a0, .int x3, .int 4] S (fun r30 S29 => jk S29 a0 = 11 ∧ jFi E mX11_becomes (d + 1) 0 0 [.ref a0, .int ((72 + (7 * x3)) + 4), .int r30] S29 (fun r33 S32 => (r30 = r33 → L_X11_pour_27 E d Q a0 x1 (x2 + 0) (x3 + 1) S32) ∧ (¬ r30 = r33 → L_X11_pour_27 E d Q a0 x1 (x2 + 1) (x3 + 1) S32)))) ∧ (¬ (ji S b19 (Int32.toNatClampNeg ((24 * x1) + x3))) = (-1000000005) → jFi E mX11_becomes (d + 1) 0 0 [.ref a0, .int ((72 + (7 * x3)) + 4), .int (jclamp (ji S b19 (Int32.toNatClampNeg ((24 * x1) + x3))) 0 99)] S (fun r27 S26 => ((jclamp (ji S b19 (Int32.toNatClampNeg ((24 * x1) + x3))) 0 99) = r27 → L_X11_pour_27 E d Q a0 x1 (x2 + 0) (x3 + 1) S26) ∧ (¬ (jclamp (ji S b19 (Int32.toNatClampNeg ((24 * x1) + x3))) 0 99) = r27 → L_X11_pour_27 E d Q a0 x1 (x2 + 1) (x3 + 1) S26)))))))))))) : L_X11_pour_27 E d Q a0 x1 x2 x3 S := by
  show jX E mX11_pour (jRm (d + 2) 0 0) (jZm E (fun r S' => ∃ v : Int32, r = some (.int v) ∧ Q v S') 0 0) 27 [(0, .ref a0), (1, .int x1), (2, .int x2), (3, .int x3)] [] S 0 0
  refine jx_iload_n 3 dX11_pour_27 rfl rfl ?_
  refine jx_aload_n 0 dX11_pour_28 rfl rfl ?_
  obtain ⟨hk10, h⟩ := h
  obtain ⟨b11, hb11, h⟩ := h
  refine jx_getr jc_11 (j := 5) (by decide) rfl jwF_X11_22 dX11_pour_29 hk10 hb11 ?_
  refine jx_iload_n 1 dX11_pour_32 rfl rfl ?_
  obtain ⟨hk12, h⟩ := h
  obtain ⟨hi13, h⟩ := h
  refine jx_iald dX11_pour_33 hk12 hi13 ?_
  refine jx_icmp_ge (tgt := 120) dX11_pour_34 (by decide) (fun c14 => ?_) (fun c14 => ?_)
  · replace h := h.1 c14
    refine jx_iload_n 2 dX11_pour_120 rfl rfl ?_
    exact jx_iret dX11_pour_121 rfl rfl (jle rfl) (jle rfl) ⟨_, rfl, h⟩
  replace h := h.2 c14
  refine jx_iload_n 3 dX11_pour_37 rfl rfl ?_
  refine jx_aload_n 0 dX11_pour_38 rfl rfl ?_
  obtain ⟨b15, hb15, h⟩ := h
  refine jx_getr jc_11 (j := 0) (by decide) rfl jwF_X11_7 dX11_pour_39 hk10 hb15 ?_
  refine jx_iconst (v := 0) dX11_pour_42 (by decide) ?_
  obtain ⟨hk16, h⟩ := h
  obtain ⟨hi17, h⟩ := h
  refine jx_iald dX11_pour_43 hk16 hi17 ?_
  refine jx_icmp_ge (tgt := 120) dX11_pour_44 (by decide) (fun c18 => ?_) (fun c18 => ?_)
  · replace h := h.1 c18
    refine jx_iload_n 2 dX11_pour_120 rfl rfl ?_
    exact jx_iret dX11_pour_121 rfl rfl (jle rfl) (jle rfl) ⟨_, rfl, h⟩
  replace h := h.2 c18
  refine jx_aload_n 0 dX11_pour_47 rfl rfl ?_
  obtain ⟨b19, hb19, h⟩ := h
  refine jx_getr jc_11 (j := 6) (by decide) rfl jwF_X11_25 dX11_pour_48 hk10 hb19 ?_
  refine jx_bipush (v := 24) dX11_pour_51 (by decide) ?_
  refine jx_iload_n 1 dX11_pour_53 rfl rfl ?_
  refine jx_imul dX11_pour_54 ?_
  refine jx_iload_n 3 dX11_pour_55 rfl rfl ?_
  refine jx_iadd dX11_pour_56 ?_
  obtain ⟨hk20, h⟩ := h
  obtain ⟨hi21, h⟩ := h
  refine jx_iald dX11_pour_57 hk20 hi21 ?_
  refine jx_istore (lv1 := [(4, .int (ji S b19 (Int32.toNatClampNeg ((24 * x1) + x3)))), (0, .ref a0), (1, .int x1), (2, .int x2), (3, .int x3)]) dX11_pour_58 (by decide) rfl ?_
  refine jx_iload 0 dX11_pour_60 rfl ?_
  refine jx_ldc jwC_X11_70 dX11_pour_62 ?_
  refine jx_icmp_ne (tgt := 76) dX11_pour_64 (by decide) (fun c22 => ?_) (fun c22 => ?_)
  · replace h := h.2 c22
    refine jx_iload 0 dX11_pour_76 rfl ?_
    refine jx_iconst (v := 0) dX11_pour_78 (by decide) ?_
    refine jx_bipush (v := 99) dX11_pour_79 (by decide) ?_
    refine jx_callSi (M' := mX11_within) (As := [.int (ji S b19 (Int32.toNatClampNeg ((24 * x1) + x3))), .int 0, .int 99]) jo_X11_within jwM_X11_104 jwS_X11_within dX11_pour_81 (jRok_m _ _ _) rfl (jle rfl) ⟨jle rfl, jle rfl⟩ (c_X11_within (Q := fun v S' => v = (jclamp (ji S b19 (Int32.toNatClampNeg ((24 * x1) + x3))) 0 99) ∧ S = S') ⟨rfl, rfl⟩) (fun r23 S24 hq25 => ?_)
    obtain ⟨rfl, rfl⟩ := hq25
    refine jx_istore (lv1 := [(5, .int (jclamp (ji S b19 (Int32.toNatClampNeg ((24 * x1) + x3))) 0 99)), (4, .int (ji S b19 (Int32.toNatClampNeg ((24 * x1) + x3)))), (0, .ref a0), (1, .int x1), (2, .int x2), (3, .int x3)]) dX11_pour_84 (by decide) rfl ?_
    refine jx_iload_n 4 dX11_pour_86 rfl rfl ?_
    refine jx_iload 0 dX11_pour_87 rfl ?_
    refine jx_aload_n 2 dX11_pour_89 rfl rfl ?_
    refine jx_bipush (v := 72) dX11_pour_90 (by decide) ?_
    refine jx_bipush (v := 7) dX11_pour_92 (by decide) ?_
    refine jx_iload_n 5 dX11_pour_94 rfl rfl ?_
    refine jx_imul dX11_pour_95 ?_
    refine jx_iadd dX11_pour_96 ?_
    refine jx_iconst (v := 4) dX11_pour_97 (by decide) ?_
    refine jx_iadd dX11_pour_98 ?_
    refine jx_iload 0 dX11_pour_99 rfl ?_
    refine jx_callVi (M' := mX11_becomes) (As := [.int ((72 + (7 * x3)) + 4), .int (jclamp (ji S b19 (Int32.toNatClampNeg ((24 * x1) + x3))) 0 99)]) jo_X11_becomes jc_11 rfl jwM_X11_130 jwN_X11_becomes jwX_X11_becomes dX11_pour_101 (jRok_m _ _ _) rfl (jle rfl) ⟨jle rfl, jle rfl⟩ hk10 h (fun r27 S26 h => ?_)
    refine jx_icmp_ne (tgt := 111) dX11_pour_104 (by decide) (fun c28 => ?_) (fun c28 => ?_)
    · replace h := h.2 c28
      refine jx_iconst (v := 1) dX11_pour_111 (by decide) ?_
      refine jx_iadd dX11_pour_112 ?_
      refine jx_istore_n (lv1 := [(2, .int (x2 + 1)), (5, .int (jclamp (ji S b19 (Int32.toNatClampNeg ((24 * x1) + x3))) 0 99)), (4, .int (ji S b19 (Int32.toNatClampNeg ((24 * x1) + x3)))), (0, .ref a0), (1, .int x1), (3, .int x3)]) dX11_pour_113 rfl (by decide) rfl ?_
      refine jx_iinc 5 (v := (x3 + 1)) (lv1 := [(3, .int (x3 + 1)), (2, .int (x2 + 1)), (5, .int (jclamp (ji S b19 (Int32.toNatClampNeg ((24 * x1) + x3))) 0 99)), (4, .int (ji S b19 (Int32.toNatClampNeg ((24 * x1) + x3)))), (0, .ref a0), (1, .int x1)]) kd96.1 rfl rfl (by decide) rfl ?_
      refine jx_goto (tgt := 27) kd96.2 (by decide) ?_
      exact jx_lv [4, 5, 1, 0] rfl h
    replace h := h.1 c28
    refine jx_iconst (v := 0) dX11_pour_107 (by decide) ?_
    refine jx_goto (tgt := 112) dX11_pour_108 (by decide) ?_
    refine jx_iadd dX11_pour_112 ?_
    refine jx_istore_n (lv1 := [(2, .int (x2 + 0)), (5, .int (jclamp (ji S b19 (Int32.toNatClampNeg ((24 * x1) + x3))) 0 99)), (4, .int (ji S b19 (Int32.toNatClampNeg ((24 * x1) + x3)))), (0, .ref a0), (1, .int x1), (3, .int x3)]) dX11_pour_113 rfl (by decide) rfl ?_
    refine jx_iinc 5 (v := (x3 + 1)) (lv1 := [(3, .int (x3 + 1)), (2, .int (x2 + 0)), (5, .int (jclamp (ji S b19 (Int32.toNatClampNeg ((24 * x1) + x3))) 0 99)), (4, .int (ji S b19 (Int32.toNatClampNeg ((24 * x1) + x3)))), (0, .ref a0), (1, .int x1)]) kd96.1 rfl rfl (by decide) rfl ?_
    refine jx_goto (tgt := 27) kd96.2 (by decide) ?_
    exact jx_lv [4, 5, 1, 0] rfl h
  replace h := h.1 c22
  refine jx_aload_n 1 dX11_pour_67 rfl rfl ?_
  refine jx_iload_n 4 dX11_pour_68 rfl rfl ?_
  refine jx_iconst (v := 4) dX11_pour_69 (by decide) ?_
  refine jx_callVi (M' := mX11_of) (As := [.int x3, .int 4]) jo_X11_of jc_11 rfl jwM_X11_97 jwN_X11_of jwX_X11_of dX11_pour_70 (jRok_m _ _ _) rfl (jle rfl) ⟨jle rfl, jle rfl⟩ hk10 h (fun r30 S29 h => ?_)
  refine jx_goto (tgt := 84) dX11_pour_73 (by decide) ?_
  refine jx_istore (lv1 := [(5, .int r30), (4, .int (ji S b19 (Int32.toNatClampNeg ((24 * x1) + x3)))), (0, .ref a0), (1, .int x1), (2, .int x2), (3, .int x3)]) dX11_pour_84 (by decide) rfl ?_
  refine jx_iload_n 4 dX11_pour_86 rfl rfl ?_
  refine jx_iload 0 dX11_pour_87 rfl ?_
  refine jx_aload_n 2 dX11_pour_89 rfl rfl ?_
  refine jx_bipush (v := 72) dX11_pour_90 (by decide) ?_
  refine jx_bipush (v := 7) dX11_pour_92 (by decide) ?_
  refine jx_iload_n 5 dX11_pour_94 rfl rfl ?_
  refine jx_imul dX11_pour_95 ?_
  refine jx_iadd dX11_pour_96 ?_
  refine jx_iconst (v := 4) dX11_pour_97 (by decide) ?_
  refine jx_iadd dX11_pour_98 ?_
  refine jx_iload 0 dX11_pour_99 rfl ?_
  obtain ⟨hk31, h⟩ := h
  refine jx_callVi (M' := mX11_becomes) (As := [.int ((72 + (7 * x3)) + 4), .int r30]) jo_X11_becomes jc_11 rfl jwM_X11_130 jwN_X11_becomes jwX_X11_becomes dX11_pour_101 (jRok_m _ _ _) rfl (jle rfl) ⟨jle rfl, jle rfl⟩ hk31 h (fun r33 S32 h => ?_)
  refine jx_icmp_ne (tgt := 111) dX11_pour_104 (by decide) (fun c34 => ?_) (fun c34 => ?_)
  · replace h := h.2 c34
    refine jx_iconst (v := 1) dX11_pour_111 (by decide) ?_
    refine jx_iadd dX11_pour_112 ?_
    refine jx_istore_n (lv1 := [(2, .int (x2 + 1)), (5, .int r30), (4, .int (ji S b19 (Int32.toNatClampNeg ((24 * x1) + x3)))), (0, .ref a0), (1, .int x1), (3, .int x3)]) dX11_pour_113 rfl (by decide) rfl ?_
    refine jx_iinc 5 (v := (x3 + 1)) (lv1 := [(3, .int (x3 + 1)), (2, .int (x2 + 1)), (5, .int r30), (4, .int (ji S b19 (Int32.toNatClampNeg ((24 * x1) + x3)))), (0, .ref a0), (1, .int x1)]) kd96.1 rfl rfl (by decide) rfl ?_
    refine jx_goto (tgt := 27) kd96.2 (by decide) ?_
    exact jx_lv [4, 5, 1, 0] rfl h
  replace h := h.1 c34
  refine jx_iconst (v := 0) dX11_pour_107 (by decide) ?_
  refine jx_goto (tgt := 112) dX11_pour_108 (by decide) ?_
  refine jx_iadd dX11_pour_112 ?_
  refine jx_istore_n (lv1 := [(2, .int (x2 + 0)), (5, .int r30), (4, .int (ji S b19 (Int32.toNatClampNeg ((24 * x1) + x3)))), (0, .ref a0), (1, .int x1), (3, .int x3)]) dX11_pour_113 rfl (by decide) rfl ?_
  refine jx_iinc 5 (v := (x3 + 1)) (lv1 := [(3, .int (x3 + 1)), (2, .int (x2 + 0)), (5, .int r30), (4, .int (ji S b19 (Int32.toNatClampNeg ((24 * x1) + x3)))), (0, .ref a0), (1, .int x1)]) kd96.1 rfl rfl (by decide) rfl ?_
  refine jx_goto (tgt := 27) kd96.2 (by decide) ?_
  exact jx_lv [4, 5, 1, 0] rfl h
/-- X11_reads at its loop's head 25 -/
abbrev L_X11_reads_25 (E : jEnv) (d : Nat) (Q : Int32 → jM → Prop) (a0 : Nat) (x1 : Int32) (x2 : Int32) (S : jM) : Prop := jX E mX11_reads (jRm (d + 2) 0 0) (jZm E (fun r S' => ∃ v : Int32, r = some (.int v) ∧ Q v S') 0 0) 25 [(0, .ref a0), (1, .int x1), (2, .int x2)] [] S 0 0
set_option maxRecDepth 100000 in
set_option maxHeartbeats 4000000 in
theorem T_X11_reads {E : jEnv} {d : Nat} {Q : Int32 → jM → Prop} {a0 : Nat} {x1 : Int32} {S : jM} (h : ((jissheet x1) = 0 → Q (-1000000001) S) ∧ (¬ (jissheet x1) = 0 → jk S a0 = 11 ∧ ∃ b6, jr S a0 4 = some b6 ∧ (jk S b6 = 12 ∧ vp_in x1 (jl S b6) ∧ ((0 ≤ (ji S b6 (Int32.toNatClampNeg x1)) → L_X11_reads_25 E d Q a0 x1 0 S) ∧ (¬ 0 ≤ (ji S b6 (Int32.toNatClampNeg x1)) → Q (-1000000011) S))))) : jFi E mX11_reads (d + 2) 0 0 [.ref a0, .int x1] S Q := by
  refine jF_of (by decide) (jle rfl) ?_
  refine jx_lv (lv1 := [(0, .ref a0), (1, .int x1)]) [0, 1] rfl ?_
  refine jx_iload_n 1 dX11_reads_0 rfl rfl ?_
  refine jx_callSi (M' := mX11_isSheet) (As := [.int x1]) jo_X11_isSheet jwM_X11_314 jwS_X11_isSheet dX11_reads_1 (jRok_m _ _ _) rfl (jle rfl) ⟨jle rfl, jle rfl⟩ (c_X11_isSheet (Q := fun v S' => v = (jissheet x1) ∧ S = S') ⟨rfl, rfl⟩) (fun r1 S2 hq3 => ?_)
  obtain ⟨rfl, rfl⟩ := hq3
  refine jx_if_ne (tgt := 10) dX11_reads_4 (by decide) (fun c4 => ?_) (fun c4 => ?_)
  · replace h := h.2 c4
    refine jx_aload_n 0 dX11_reads_10 rfl rfl ?_
    obtain ⟨hk5, h⟩ := h
    obtain ⟨b6, hb6, h⟩ := h
    refine jx_getr jc_11 (j := 4) (by decide) rfl jwF_X11_19 dX11_reads_11 hk5 hb6 ?_
    refine jx_iload_n 1 dX11_reads_14 rfl rfl ?_
    obtain ⟨hk7, h⟩ := h
    obtain ⟨hi8, h⟩ := h
    refine jx_iald dX11_reads_15 hk7 hi8 ?_
    refine jx_if_ge (tgt := 23) dX11_reads_16 (by decide) (fun c9 => ?_) (fun c9 => ?_)
    · replace h := h.1 c9
      refine jx_iconst (v := 0) dX11_reads_23 (by decide) ?_
      refine jx_istore_n (lv1 := [(2, .int 0), (0, .ref a0), (1, .int x1)]) dX11_reads_24 rfl (by decide) rfl ?_
      exact jx_lv [1, 2, 0] rfl h
    replace h := h.2 c9
    refine jx_ldcw jwC_X11_320 dX11_reads_19 ?_
    exact jx_iret dX11_reads_22 rfl rfl (jle rfl) (jle rfl) ⟨_, rfl, h⟩
  replace h := h.1 c4
  refine jx_ldc jwC_X11_87 dX11_reads_7 ?_
  exact jx_iret dX11_reads_9 rfl rfl (jle rfl) (jle rfl) ⟨_, rfl, h⟩
set_option maxRecDepth 100000 in
set_option maxHeartbeats 4000000 in
theorem T_X11_reads_25 {E : jEnv} {d : Nat} {Q : Int32 → jM → Prop} {a0 : Nat} {x1 : Int32} {x2 : Int32} {S : jM} (h : jk S a0 = 11 ∧ ∃ b11, jr S a0 5 = some b11 ∧ (jk S b11 = 12 ∧ vp_in x1 (jl S b11) ∧ (((ji S b11 (Int32.toNatClampNeg x1)) ≤ x2 → Q (-1000000005) S) ∧ (¬ (ji S b11 (Int32.toNatClampNeg x1)) ≤ x2 → ∃ b15, jr S a0 6 = some b15 ∧ (jk S b15 = 12 ∧ vp_in ((24 * x1) + x2) (jl S b15) ∧ (((ji S b15 (Int32.toNatClampNeg ((24 * x1) + x2))) = (-1000000005) → L_X11_reads_25 E d Q a0 x1 (x2 + 1) S) ∧ (¬ (ji S b15 (Int32.toNatClampNeg ((24 * x1) + x2))) = (-1000000005) → ∃ b19, jr S a0 0 = some b19 ∧ (jk S b19 = 12 ∧ vp_in 0 (jl S b19) ∧ (((ji S b19 (Int32.toNatClampNeg 0)) ≤ x2 → Q x2 S) ∧ (¬ (ji S b19 (Int32.toNatClampNeg 0)) ≤ x2 → jFi E mX11_of (d + 1) 0 0 [.ref a0, .int x2, .int 5] S (fun r24 S23 => ((ji S b15 (Int32.toNatClampNeg ((24 * x1) + x2))) = r24 → L_X11_reads_25 E d Q a0 x1 (x2 + 1) S23) ∧ (¬ (ji S b15 (Int32.toNatClampNeg ((24 * x1) + x2))) = r24 → Q x2 S23)))))))))))) : L_X11_reads_25 E d Q a0 x1 x2 S := by
  show jX E mX11_reads (jRm (d + 2) 0 0) (jZm E (fun r S' => ∃ v : Int32, r = some (.int v) ∧ Q v S') 0 0) 25 [(0, .ref a0), (1, .int x1), (2, .int x2)] [] S 0 0
  refine jx_iload_n 2 dX11_reads_25 rfl rfl ?_
  refine jx_aload_n 0 dX11_reads_26 rfl rfl ?_
  obtain ⟨hk10, h⟩ := h
  obtain ⟨b11, hb11, h⟩ := h
  refine jx_getr jc_11 (j := 5) (by decide) rfl jwF_X11_22 dX11_reads_27 hk10 hb11 ?_
  refine jx_iload_n 1 dX11_reads_30 rfl rfl ?_
  obtain ⟨hk12, h⟩ := h
  obtain ⟨hi13, h⟩ := h
  refine jx_iald dX11_reads_31 hk12 hi13 ?_
  refine jx_icmp_ge (tgt := 81) dX11_reads_32 (by decide) (fun c14 => ?_) (fun c14 => ?_)
  · replace h := h.1 c14
    refine jx_ldc jwC_X11_70 dX11_reads_81 ?_
    exact jx_iret dX11_reads_83 rfl rfl (jle rfl) (jle rfl) ⟨_, rfl, h⟩
  replace h := h.2 c14
  refine jx_aload_n 0 dX11_reads_35 rfl rfl ?_
  obtain ⟨b15, hb15, h⟩ := h
  refine jx_getr jc_11 (j := 6) (by decide) rfl jwF_X11_25 dX11_reads_36 hk10 hb15 ?_
  refine jx_bipush (v := 24) dX11_reads_39 (by decide) ?_
  refine jx_iload_n 1 dX11_reads_41 rfl rfl ?_
  refine jx_imul dX11_reads_42 ?_
  refine jx_iload_n 2 dX11_reads_43 rfl rfl ?_
  refine jx_iadd dX11_reads_44 ?_
  obtain ⟨hk16, h⟩ := h
  obtain ⟨hi17, h⟩ := h
  refine jx_iald dX11_reads_45 hk16 hi17 ?_
  refine jx_istore_n (lv1 := [(3, .int (ji S b15 (Int32.toNatClampNeg ((24 * x1) + x2)))), (0, .ref a0), (1, .int x1), (2, .int x2)]) dX11_reads_46 rfl (by decide) rfl ?_
  refine jx_iload_n 0 dX11_reads_47 rfl rfl ?_
  refine jx_ldc jwC_X11_70 dX11_reads_48 ?_
  refine jx_icmp_eq (tgt := 75) dX11_reads_50 (by decide) (fun c18 => ?_) (fun c18 => ?_)
  · replace h := h.1 c18
    refine jx_iinc 3 (v := (x2 + 1)) (lv1 := [(2, .int (x2 + 1)), (3, .int (ji S b15 (Int32.toNatClampNeg ((24 * x1) + x2)))), (0, .ref a0), (1, .int x1)]) kd97.1 rfl rfl (by decide) rfl ?_
    refine jx_goto (tgt := 25) kd97.2 (by decide) ?_
    exact jx_lv [2, 3, 0] rfl h
  replace h := h.2 c18
  refine jx_iload_n 3 dX11_reads_53 rfl rfl ?_
  refine jx_aload_n 1 dX11_reads_54 rfl rfl ?_
  obtain ⟨b19, hb19, h⟩ := h
  refine jx_getr jc_11 (j := 0) (by decide) rfl jwF_X11_7 dX11_reads_55 hk10 hb19 ?_
  refine jx_iconst (v := 0) dX11_reads_58 (by decide) ?_
  obtain ⟨hk20, h⟩ := h
  obtain ⟨hi21, h⟩ := h
  refine jx_iald dX11_reads_59 hk20 hi21 ?_
  refine jx_icmp_ge (tgt := 73) dX11_reads_60 (by decide) (fun c22 => ?_) (fun c22 => ?_)
  · replace h := h.1 c22
    refine jx_iload_n 3 dX11_reads_73 rfl rfl ?_
    exact jx_iret dX11_reads_74 rfl rfl (jle rfl) (jle rfl) ⟨_, rfl, h⟩
  replace h := h.2 c22
  refine jx_iload_n 0 dX11_reads_63 rfl rfl ?_
  refine jx_aload_n 1 dX11_reads_64 rfl rfl ?_
  refine jx_iload_n 3 dX11_reads_65 rfl rfl ?_
  refine jx_iconst (v := 5) dX11_reads_66 (by decide) ?_
  refine jx_callVi (M' := mX11_of) (As := [.int x2, .int 5]) jo_X11_of jc_11 rfl jwM_X11_97 jwN_X11_of jwX_X11_of dX11_reads_67 (jRok_m _ _ _) rfl (jle rfl) ⟨jle rfl, jle rfl⟩ hk10 h (fun r24 S23 h => ?_)
  refine jx_icmp_eq (tgt := 75) dX11_reads_70 (by decide) (fun c25 => ?_) (fun c25 => ?_)
  · replace h := h.1 c25
    refine jx_iinc 3 (v := (x2 + 1)) (lv1 := [(2, .int (x2 + 1)), (3, .int (ji S b15 (Int32.toNatClampNeg ((24 * x1) + x2)))), (0, .ref a0), (1, .int x1)]) kd97.1 rfl rfl (by decide) rfl ?_
    refine jx_goto (tgt := 25) kd97.2 (by decide) ?_
    exact jx_lv [2, 3, 0] rfl h
  replace h := h.2 c25
  refine jx_iload_n 3 dX11_reads_73 rfl rfl ?_
  exact jx_iret dX11_reads_74 rfl rfl (jle rfl) (jle rfl) ⟨_, rfl, h⟩
/-- X11_cut at its loop's head 41 -/
abbrev L_X11_cut_41 (E : jEnv) (d : Nat) (Q : Int32 → jM → Prop) (a0 : Nat) (x1 : Int32) (x2 : Int32) (x3 : Int32) (x4 : Int32) (x5 : Int32) (S : jM) : Prop := jX E mX11_cut (jRm (d + 2) 0 0) (jZm E (fun r S' => ∃ v : Int32, r = some (.int v) ∧ Q v S') 0 0) 41 [(0, .ref a0), (1, .int x1), (2, .int x2), (3, .int x3), (4, .int x4), (5, .int x5)] [] S 0 0
/-- X11_cut at its loop's head 58 -/
abbrev L_X11_cut_58 (E : jEnv) (d : Nat) (Q : Int32 → jM → Prop) (a0 : Nat) (x1 : Int32) (x2 : Int32) (x3 : Int32) (x4 : Int32) (x5 : Int32) (x6 : Int32) (x7 : Int32) (S : jM) : Prop := jX E mX11_cut (jRm (d + 2) 0 0) (jZm E (fun r S' => ∃ v : Int32, r = some (.int v) ∧ Q v S') 0 0) 58 [(0, .ref a0), (1, .int x1), (2, .int x2), (3, .int x3), (4, .int x4), (5, .int x5), (6, .int x6), (7, .int x7)] [] S 0 0
set_option maxRecDepth 100000 in
set_option maxHeartbeats 4000000 in
theorem T_X11_cut {E : jEnv} {d : Nat} {Q : Int32 → jM → Prop} {a0 : Nat} {x1 : Int32} {x2 : Int32} {S : jM} (h : ((jissheet x1) = 0 → Q (-1000000001) S) ∧ (¬ (jissheet x1) = 0 → ((jisin (Int32.toInt64 x2) 0 1) = 0 → Q (-1000000001) S) ∧ (¬ (jisin (Int32.toInt64 x2) 0 1) = 0 → jk S a0 = 11 ∧ ∃ b10, jr S a0 4 = some b10 ∧ (jk S b10 = 12 ∧ vp_in x1 (jl S b10) ∧ ((0 ≤ (ji S b10 (Int32.toNatClampNeg x1)) → L_X11_cut_41 E d Q a0 x1 x2 (-1) 0 0 S) ∧ (¬ 0 ≤ (ji S b10 (Int32.toNatClampNeg x1)) → Q (-1000000011) S)))))) : jFi E mX11_cut (d + 2) 0 0 [.ref a0, .int x1, .int x2] S Q := by
  refine jF_of (by decide) (jle rfl) ?_
  refine jx_lv (lv1 := [(0, .ref a0), (1, .int x1), (2, .int x2)]) [0, 1, 2] rfl ?_
  refine jx_iload_n 1 dX11_cut_0 rfl rfl ?_
  refine jx_callSi (M' := mX11_isSheet) (As := [.int x1]) jo_X11_isSheet jwM_X11_314 jwS_X11_isSheet dX11_cut_1 (jRok_m _ _ _) rfl (jle rfl) ⟨jle rfl, jle rfl⟩ (c_X11_isSheet (Q := fun v S' => v = (jissheet x1) ∧ S = S') ⟨rfl, rfl⟩) (fun r1 S2 hq3 => ?_)
  obtain ⟨rfl, rfl⟩ := hq3
  refine jx_if_eq (tgt := 17) dX11_cut_4 (by decide) (fun c4 => ?_) (fun c4 => ?_)
  · replace h := h.1 c4
    refine jx_ldc jwC_X11_87 dX11_cut_17 ?_
    exact jx_iret dX11_cut_19 rfl rfl (jle rfl) (jle rfl) ⟨_, rfl, h⟩
  replace h := h.2 c4
  refine jx_iload_n 2 dX11_cut_7 rfl rfl ?_
  refine jx_i2l dX11_cut_8 ?_
  refine jx_lconst (v := 0) dX11_cut_9 (by decide) ?_
  refine jx_lconst (v := 1) dX11_cut_10 (by decide) ?_
  refine jx_callSi (M' := mX11_isIn) (As := [.long (Int32.toInt64 x2), .long 0, .long 1]) jo_X11_isIn jwM_X11_71 jwS_X11_isIn dX11_cut_11 (jRok_m _ _ _) rfl (jle rfl) ⟨jle rfl, jle rfl⟩ (c_X11_isIn (Q := fun v S' => v = (jisin (Int32.toInt64 x2) 0 1) ∧ S = S') ⟨rfl, rfl⟩) (fun r5 S6 hq7 => ?_)
  obtain ⟨rfl, rfl⟩ := hq7
  refine jx_if_ne (tgt := 20) dX11_cut_14 (by decide) (fun c8 => ?_) (fun c8 => ?_)
  · replace h := h.2 c8
    refine jx_aload_n 0 dX11_cut_20 rfl rfl ?_
    obtain ⟨hk9, h⟩ := h
    obtain ⟨b10, hb10, h⟩ := h
    refine jx_getr jc_11 (j := 4) (by decide) rfl jwF_X11_19 dX11_cut_21 hk9 hb10 ?_
    refine jx_iload_n 1 dX11_cut_24 rfl rfl ?_
    obtain ⟨hk11, h⟩ := h
    obtain ⟨hi12, h⟩ := h
    refine jx_iald dX11_cut_25 hk11 hi12 ?_
    refine jx_if_ge (tgt := 33) dX11_cut_26 (by decide) (fun c13 => ?_) (fun c13 => ?_)
    · replace h := h.1 c13
      refine jx_iconst (v := (-1)) dX11_cut_33 (by decide) ?_
      refine jx_istore_n (lv1 := [(3, .int (-1)), (0, .ref a0), (1, .int x1), (2, .int x2)]) dX11_cut_34 rfl (by decide) rfl ?_
      refine jx_iconst (v := 0) dX11_cut_35 (by decide) ?_
      refine jx_istore (lv1 := [(4, .int 0), (3, .int (-1)), (0, .ref a0), (1, .int x1), (2, .int x2)]) dX11_cut_36 (by decide) rfl ?_
      refine jx_iconst (v := 0) dX11_cut_38 (by decide) ?_
      refine jx_istore (lv1 := [(5, .int 0), (4, .int 0), (3, .int (-1)), (0, .ref a0), (1, .int x1), (2, .int x2)]) dX11_cut_39 (by decide) rfl ?_
      exact jx_lv [3, 4, 5, 2, 1, 0] rfl h
    replace h := h.2 c13
    refine jx_ldcw jwC_X11_320 dX11_cut_29 ?_
    exact jx_iret dX11_cut_32 rfl rfl (jle rfl) (jle rfl) ⟨_, rfl, h⟩
  replace h := h.1 c8
  refine jx_ldc jwC_X11_87 dX11_cut_17 ?_
  exact jx_iret dX11_cut_19 rfl rfl (jle rfl) (jle rfl) ⟨_, rfl, h⟩
set_option maxRecDepth 100000 in
set_option maxHeartbeats 4000000 in
theorem T_X11_cut_41 {E : jEnv} {d : Nat} {Q : Int32 → jM → Prop} {a0 : Nat} {x1 : Int32} {x2 : Int32} {x3 : Int32} {x4 : Int32} {x5 : Int32} {S : jM} (h : jk S a0 = 11 ∧ ∃ b15, jr S a0 0 = some b15 ∧ (jk S b15 = 12 ∧ vp_in 0 (jl S b15) ∧ (((ji S b15 (Int32.toNatClampNeg 0)) ≤ x5 → (0 ≤ x3 → (x2 = 0 → Q x3 S) ∧ (¬ x2 = 0 → Q x4 S)) ∧ (¬ 0 ≤ x3 → Q (-1000000005) S)) ∧ (¬ (ji S b15 (Int32.toNatClampNeg 0)) ≤ x5 → L_X11_cut_58 E d Q a0 x1 x2 x3 x4 x5 0 0 S)))) : L_X11_cut_41 E d Q a0 x1 x2 x3 x4 x5 S := by
  show jX E mX11_cut (jRm (d + 2) 0 0) (jZm E (fun r S' => ∃ v : Int32, r = some (.int v) ∧ Q v S') 0 0) 41 [(0, .ref a0), (1, .int x1), (2, .int x2), (3, .int x3), (4, .int x4), (5, .int x5)] [] S 0 0
  refine jx_iload 5 dX11_cut_41 rfl ?_
  refine jx_aload_n 0 dX11_cut_43 rfl rfl ?_
  obtain ⟨hk14, h⟩ := h
  obtain ⟨b15, hb15, h⟩ := h
  refine jx_getr jc_11 (j := 0) (by decide) rfl jwF_X11_7 dX11_cut_44 hk14 hb15 ?_
  refine jx_iconst (v := 0) dX11_cut_47 (by decide) ?_
  obtain ⟨hk16, h⟩ := h
  obtain ⟨hi17, h⟩ := h
  refine jx_iald dX11_cut_48 hk16 hi17 ?_
  refine jx_icmp_ge (tgt := 142) dX11_cut_49 (by decide) (fun c18 => ?_) (fun c18 => ?_)
  · replace h := h.1 c18
    refine jx_iload_n 3 dX11_cut_142 rfl rfl ?_
    refine jx_if_ge (tgt := 151) dX11_cut_143 (by decide) (fun c19 => ?_) (fun c19 => ?_)
    · replace h := h.1 c19
      refine jx_iload_n 2 dX11_cut_151 rfl rfl ?_
      refine jx_if_ne (tgt := 159) dX11_cut_152 (by decide) (fun c20 => ?_) (fun c20 => ?_)
      · replace h := h.2 c20
        refine jx_iload 4 dX11_cut_159 rfl ?_
        exact jx_iret dX11_cut_161 rfl rfl (jle rfl) (jle rfl) ⟨_, rfl, h⟩
      replace h := h.1 c20
      refine jx_iload_n 3 dX11_cut_155 rfl rfl ?_
      refine jx_goto (tgt := 161) dX11_cut_156 (by decide) ?_
      exact jx_iret dX11_cut_161 rfl rfl (jle rfl) (jle rfl) ⟨_, rfl, h⟩
    replace h := h.2 c19
    refine jx_ldc jwC_X11_70 dX11_cut_146 ?_
    refine jx_goto (tgt := 161) dX11_cut_148 (by decide) ?_
    exact jx_iret dX11_cut_161 rfl rfl (jle rfl) (jle rfl) ⟨_, rfl, h⟩
  replace h := h.2 c18
  refine jx_iconst (v := 0) dX11_cut_52 (by decide) ?_
  refine jx_istore (lv1 := [(6, .int 0), (0, .ref a0), (1, .int x1), (2, .int x2), (3, .int x3), (4, .int x4), (5, .int x5)]) dX11_cut_53 (by decide) rfl ?_
  refine jx_iconst (v := 0) dX11_cut_55 (by decide) ?_
  refine jx_istore (lv1 := [(7, .int 0), (6, .int 0), (0, .ref a0), (1, .int x1), (2, .int x2), (3, .int x3), (4, .int x4), (5, .int x5)]) dX11_cut_56 (by decide) rfl ?_
  exact jx_lv [2, 3, 4, 5, 6, 7, 1, 0] rfl h
set_option maxRecDepth 100000 in
set_option maxHeartbeats 4000000 in
theorem T_X11_cut_58 {E : jEnv} {d : Nat} {Q : Int32 → jM → Prop} {a0 : Nat} {x1 : Int32} {x2 : Int32} {x3 : Int32} {x4 : Int32} {x5 : Int32} {x6 : Int32} {x7 : Int32} {S : jM} (h : jk S a0 = 11 ∧ ∃ b22, jr S a0 5 = some b22 ∧ (jk S b22 = 12 ∧ vp_in x1 (jl S b22) ∧ (((ji S b22 (Int32.toNatClampNeg x1)) ≤ x7 → (x3 < 0 → L_X11_cut_41 E d Q a0 x1 x2 x5 x6 (x5 + 1) S) ∧ (¬ x3 < 0 → (x4 ≤ x6 → L_X11_cut_41 E d Q a0 x1 x2 x3 x4 (x5 + 1) S) ∧ (¬ x4 ≤ x6 → L_X11_cut_41 E d Q a0 x1 x2 x5 x6 (x5 + 1) S))) ∧ (¬ (ji S b22 (Int32.toNatClampNeg x1)) ≤ x7 → ∃ b28, jr S a0 6 = some b28 ∧ (jk S b28 = 12 ∧ vp_in ((24 * x1) + x7) (jl S b28) ∧ (((ji S b28 (Int32.toNatClampNeg ((24 * x1) + x7))) = (-1000000005) → L_X11_cut_58 E d Q a0 x1 x2 x3 x4 x5 (x6 + 0) (x7 + 1) S) ∧ (¬ (ji S b28 (Int32.toNatClampNeg ((24 * x1) + x7))) = (-1000000005) → jFi E mX11_takes (d + 1) 0 0 [.ref a0, .int x5, .int x7] S (fun r33 S32 => L_X11_cut_58 E d Q a0 x1 x2 x3 x4 x5 (x6 + (joff (ji S b28 (Int32.toNatClampNeg ((24 * x1) + x7))) r33)) (x7 + 1) S32)))))))) : L_X11_cut_58 E d Q a0 x1 x2 x3 x4 x5 x6 x7 S := by
  show jX E mX11_cut (jRm (d + 2) 0 0) (jZm E (fun r S' => ∃ v : Int32, r = some (.int v) ∧ Q v S') 0 0) 58 [(0, .ref a0), (1, .int x1), (2, .int x2), (3, .int x3), (4, .int x4), (5, .int x5), (6, .int x6), (7, .int x7)] [] S 0 0
  refine jx_iload 7 dX11_cut_58 rfl ?_
  refine jx_aload_n 0 dX11_cut_60 rfl rfl ?_
  obtain ⟨hk21, h⟩ := h
  obtain ⟨b22, hb22, h⟩ := h
  refine jx_getr jc_11 (j := 5) (by decide) rfl jwF_X11_22 dX11_cut_61 hk21 hb22 ?_
  refine jx_iload_n 1 dX11_cut_64 rfl rfl ?_
  obtain ⟨hk23, h⟩ := h
  obtain ⟨hi24, h⟩ := h
  refine jx_iald dX11_cut_65 hk23 hi24 ?_
  refine jx_icmp_ge (tgt := 118) dX11_cut_66 (by decide) (fun c25 => ?_) (fun c25 => ?_)
  · replace h := h.1 c25
    refine jx_iload_n 3 dX11_cut_118 rfl rfl ?_
    refine jx_if_lt (tgt := 129) dX11_cut_119 (by decide) (fun c26 => ?_) (fun c26 => ?_)
    · replace h := h.1 c26
      refine jx_iload 5 dX11_cut_129 rfl ?_
      refine jx_istore_n (lv1 := [(3, .int x5), (0, .ref a0), (1, .int x1), (2, .int x2), (4, .int x4), (5, .int x5), (6, .int x6), (7, .int x7)]) dX11_cut_131 rfl (by decide) rfl ?_
      refine jx_iload 6 dX11_cut_132 rfl ?_
      refine jx_istore (lv1 := [(4, .int x6), (3, .int x5), (0, .ref a0), (1, .int x1), (2, .int x2), (5, .int x5), (6, .int x6), (7, .int x7)]) dX11_cut_134 (by decide) rfl ?_
      refine jx_iinc 5 (v := (x5 + 1)) (lv1 := [(5, .int (x5 + 1)), (4, .int x6), (3, .int x5), (0, .ref a0), (1, .int x1), (2, .int x2), (6, .int x6), (7, .int x7)]) kd98.2.2.1 rfl rfl (by decide) rfl ?_
      refine jx_goto (tgt := 41) kd98.2.2.2 (by decide) ?_
      exact jx_lv [3, 4, 5, 2, 1, 0] rfl h
    replace h := h.2 c26
    refine jx_iload 6 dX11_cut_122 rfl ?_
    refine jx_iload 4 dX11_cut_124 rfl ?_
    refine jx_icmp_ge (tgt := 136) dX11_cut_126 (by decide) (fun c27 => ?_) (fun c27 => ?_)
    · replace h := h.1 c27
      refine jx_iinc 5 (v := (x5 + 1)) (lv1 := [(5, .int (x5 + 1)), (0, .ref a0), (1, .int x1), (2, .int x2), (3, .int x3), (4, .int x4), (6, .int x6), (7, .int x7)]) kd98.2.2.1 rfl rfl (by decide) rfl ?_
      refine jx_goto (tgt := 41) kd98.2.2.2 (by decide) ?_
      exact jx_lv [1, 2, 3, 4, 5, 0] rfl h
    replace h := h.2 c27
    refine jx_iload 5 dX11_cut_129 rfl ?_
    refine jx_istore_n (lv1 := [(3, .int x5), (0, .ref a0), (1, .int x1), (2, .int x2), (4, .int x4), (5, .int x5), (6, .int x6), (7, .int x7)]) dX11_cut_131 rfl (by decide) rfl ?_
    refine jx_iload 6 dX11_cut_132 rfl ?_
    refine jx_istore (lv1 := [(4, .int x6), (3, .int x5), (0, .ref a0), (1, .int x1), (2, .int x2), (5, .int x5), (6, .int x6), (7, .int x7)]) dX11_cut_134 (by decide) rfl ?_
    refine jx_iinc 5 (v := (x5 + 1)) (lv1 := [(5, .int (x5 + 1)), (4, .int x6), (3, .int x5), (0, .ref a0), (1, .int x1), (2, .int x2), (6, .int x6), (7, .int x7)]) kd98.2.2.1 rfl rfl (by decide) rfl ?_
    refine jx_goto (tgt := 41) kd98.2.2.2 (by decide) ?_
    exact jx_lv [3, 4, 5, 2, 1, 0] rfl h
  replace h := h.2 c25
  refine jx_aload_n 0 dX11_cut_69 rfl rfl ?_
  obtain ⟨b28, hb28, h⟩ := h
  refine jx_getr jc_11 (j := 6) (by decide) rfl jwF_X11_25 dX11_cut_70 hk21 hb28 ?_
  refine jx_bipush (v := 24) dX11_cut_73 (by decide) ?_
  refine jx_iload_n 1 dX11_cut_75 rfl rfl ?_
  refine jx_imul dX11_cut_76 ?_
  refine jx_iload 7 dX11_cut_77 rfl ?_
  refine jx_iadd dX11_cut_79 ?_
  obtain ⟨hk29, h⟩ := h
  obtain ⟨hi30, h⟩ := h
  refine jx_iald dX11_cut_80 hk29 hi30 ?_
  refine jx_istore (lv1 := [(8, .int (ji S b28 (Int32.toNatClampNeg ((24 * x1) + x7)))), (0, .ref a0), (1, .int x1), (2, .int x2), (3, .int x3), (4, .int x4), (5, .int x5), (6, .int x6), (7, .int x7)]) dX11_cut_81 (by decide) rfl ?_
  refine jx_iload 7 dX11_cut_83 rfl ?_
  refine jx_iload 0 dX11_cut_85 rfl ?_
  refine jx_ldc jwC_X11_70 dX11_cut_87 ?_
  refine jx_icmp_ne (tgt := 96) dX11_cut_89 (by decide) (fun c31 => ?_) (fun c31 => ?_)
  · replace h := h.2 c31
    refine jx_iload 0 dX11_cut_96 rfl ?_
    refine jx_aload_n 1 dX11_cut_98 rfl rfl ?_
    refine jx_iload 6 dX11_cut_99 rfl ?_
    refine jx_iload 8 dX11_cut_101 rfl ?_
    refine jx_callVi (M' := mX11_takes) (As := [.int x5, .int x7]) jo_X11_takes jc_11 rfl jwM_X11_116 jwN_X11_takes jwX_X11_takes dX11_cut_103 (jRok_m _ _ _) rfl (jle rfl) ⟨jle rfl, jle rfl⟩ hk21 h (fun r33 S32 h => ?_)
    refine jx_callSi (M' := mX11_off) (As := [.int (ji S b28 (Int32.toNatClampNeg ((24 * x1) + x7))), .int r33]) jo_X11_off jwM_X11_326 jwS_X11_off dX11_cut_106 (jRok_m _ _ _) rfl (jle rfl) ⟨jle rfl, jle rfl⟩ (c_X11_off (Q := fun v S' => v = (joff (ji S b28 (Int32.toNatClampNeg ((24 * x1) + x7))) r33) ∧ S32 = S') ⟨rfl, rfl⟩) (fun r34 S35 hq36 => ?_)
    obtain ⟨rfl, rfl⟩ := hq36
    refine jx_iadd dX11_cut_109 ?_
    refine jx_istore (lv1 := [(6, .int (x6 + (joff (ji S b28 (Int32.toNatClampNeg ((24 * x1) + x7))) r33))), (8, .int (ji S b28 (Int32.toNatClampNeg ((24 * x1) + x7)))), (0, .ref a0), (1, .int x1), (2, .int x2), (3, .int x3), (4, .int x4), (5, .int x5), (7, .int x7)]) dX11_cut_110 (by decide) rfl ?_
    refine jx_iinc 8 (v := (x7 + 1)) (lv1 := [(7, .int (x7 + 1)), (6, .int (x6 + (joff (ji S b28 (Int32.toNatClampNeg ((24 * x1) + x7))) r33))), (8, .int (ji S b28 (Int32.toNatClampNeg ((24 * x1) + x7)))), (0, .ref a0), (1, .int x1), (2, .int x2), (3, .int x3), (4, .int x4), (5, .int x5)]) kd98.1 rfl rfl (by decide) rfl ?_
    refine jx_goto (tgt := 58) kd98.2.1 (by decide) ?_
    exact jx_lv [3, 4, 5, 6, 7, 8, 1, 0] rfl h
  replace h := h.1 c31
  refine jx_iconst (v := 0) dX11_cut_92 (by decide) ?_
  refine jx_goto (tgt := 109) dX11_cut_93 (by decide) ?_
  refine jx_iadd dX11_cut_109 ?_
  refine jx_istore (lv1 := [(6, .int (x6 + 0)), (8, .int (ji S b28 (Int32.toNatClampNeg ((24 * x1) + x7)))), (0, .ref a0), (1, .int x1), (2, .int x2), (3, .int x3), (4, .int x4), (5, .int x5), (7, .int x7)]) dX11_cut_110 (by decide) rfl ?_
  refine jx_iinc 8 (v := (x7 + 1)) (lv1 := [(7, .int (x7 + 1)), (6, .int (x6 + 0)), (8, .int (ji S b28 (Int32.toNatClampNeg ((24 * x1) + x7)))), (0, .ref a0), (1, .int x1), (2, .int x2), (3, .int x3), (4, .int x4), (5, .int x5)]) kd98.1 rfl rfl (by decide) rfl ?_
  refine jx_goto (tgt := 58) kd98.2.1 (by decide) ?_
  exact jx_lv [3, 4, 5, 6, 7, 8, 1, 0] rfl h
/-- X11_copy at its loop's head 113 -/
abbrev L_X11_copy_113 (E : jEnv) (d : Nat) (Q : Int32 → jM → Prop) (a0 : Nat) (x1 : Int32) (x2 : Int32) (x3 : Int32) (x4 : Int32) (x5 : Int32) (x6 : Int32) (S : jM) : Prop := jX E mX11_copy (jRm (d + 2) 0 0) (jZm E (fun r S' => ∃ v : Int32, r = some (.int v) ∧ Q v S') 0 0) 113 [(0, .ref a0), (1, .int x1), (2, .int x2), (3, .int x3), (4, .int x4), (5, .int x5), (6, .int x6)] [] S 0 0
/-- X11_copy at its loop's head 150 -/
abbrev L_X11_copy_150 (E : jEnv) (d : Nat) (Q : Int32 → jM → Prop) (a0 : Nat) (x3 : Int32) (x4 : Int32) (x5 : Int32) (x6 : Int32) (S : jM) : Prop := jX E mX11_copy (jRm (d + 2) 0 0) (jZm E (fun r S' => ∃ v : Int32, r = some (.int v) ∧ Q v S') 0 0) 150 [(0, .ref a0), (3, .int x3), (4, .int x4), (5, .int x5), (6, .int x6)] [] S 0 0
set_option maxRecDepth 100000 in
set_option maxHeartbeats 4000000 in
theorem T_X11_copy {E : jEnv} {d : Nat} {Q : Int32 → jM → Prop} {a0 : Nat} {x1 : Int32} {x2 : Int32} {x3 : Int32} {x4 : Int32} {x5 : Int32} {S : jM} (h : ((jissheet x1) = 0 → Q (-1000000001) S) ∧ (¬ (jissheet x1) = 0 → ((jissheet x3) = 0 → Q (-1000000001) S) ∧ (¬ (jissheet x3) = 0 → jk S a0 = 11 ∧ ∃ b10, jr S a0 4 = some b10 ∧ (jk S b10 = 12 ∧ vp_in x1 (jl S b10) ∧ (((ji S b10 (Int32.toNatClampNeg x1)) < 0 → Q (-1000000011) S) ∧ (¬ (ji S b10 (Int32.toNatClampNeg x1)) < 0 → vp_in x3 (jl S b10) ∧ ((0 ≤ (ji S b10 (Int32.toNatClampNeg x3)) → ((((ji S b10 (Int32.toNatClampNeg x1)) = (ji S b10 (Int32.toNatClampNeg x3)) → (x2 < 0 → Q (-1000000013) S) ∧ (¬ x2 < 0 → (x4 < 0 → Q (-1000000013) S) ∧ (¬ x4 < 0 → (x5 < 0 → Q (-1000000013) S) ∧ (¬ x5 < 0 → ∃ b20, jr S a0 5 = some b20 ∧ (jk S b20 = 12 ∧ vp_in x1 (jl S b20) ∧ ((0 < (lg_cmp ((Int32.toInt64 x2) + (Int32.toInt64 x5)) (Int32.toInt64 (ji S b20 (Int32.toNatClampNeg x1)))) → Q (-1000000013) S) ∧ (¬ 0 < (lg_cmp ((Int32.toInt64 x2) + (Int32.toInt64 x5)) (Int32.toInt64 (ji S b20 (Int32.toNatClampNeg x1)))) → vp_in x3 (jl S b20) ∧ (((lg_cmp ((Int32.toInt64 x4) + (Int32.toInt64 x5)) (Int32.toInt64 (ji S b20 (Int32.toNatClampNeg x3)))) ≤ 0 → L_X11_copy_113 E d Q a0 x1 x2 x3 x4 x5 0 S) ∧ (¬ (lg_cmp ((Int32.toInt64 x4) + (Int32.toInt64 x5)) (Int32.toInt64 (ji S b20 (Int32.toNatClampNeg x3)))) ≤ 0 → Q (-1000000013) S))))))))) ∧ (¬ (ji S b10 (Int32.toNatClampNeg x1)) = (ji S b10 (Int32.toNatClampNeg x3)) → Q (-1000000012) S)))) ∧ (¬ 0 ≤ (ji S b10 (Int32.toNatClampNeg x3)) → Q (-1000000011) S)))))))) : jFi E mX11_copy (d + 2) 0 0 [.ref a0, .int x1, .int x2, .int x3, .int x4, .int x5] S Q := by
  refine jF_of (by decide) (jle rfl) ?_
  refine jx_lv (lv1 := [(0, .ref a0), (1, .int x1), (2, .int x2), (3, .int x3), (4, .int x4), (5, .int x5)]) [0, 1, 2, 3, 4, 5] rfl ?_
  refine jx_iload_n 1 dX11_copy_0 rfl rfl ?_
  refine jx_callSi (M' := mX11_isSheet) (As := [.int x1]) jo_X11_isSheet jwM_X11_314 jwS_X11_isSheet dX11_copy_1 (jRok_m _ _ _) rfl (jle rfl) ⟨jle rfl, jle rfl⟩ (c_X11_isSheet (Q := fun v S' => v = (jissheet x1) ∧ S = S') ⟨rfl, rfl⟩) (fun r1 S2 hq3 => ?_)
  obtain ⟨rfl, rfl⟩ := hq3
  refine jx_if_eq (tgt := 14) dX11_copy_4 (by decide) (fun c4 => ?_) (fun c4 => ?_)
  · replace h := h.1 c4
    refine jx_ldc jwC_X11_87 dX11_copy_14 ?_
    exact jx_iret dX11_copy_16 rfl rfl (jle rfl) (jle rfl) ⟨_, rfl, h⟩
  replace h := h.2 c4
  refine jx_iload_n 3 dX11_copy_7 rfl rfl ?_
  refine jx_callSi (M' := mX11_isSheet) (As := [.int x3]) jo_X11_isSheet jwM_X11_314 jwS_X11_isSheet dX11_copy_8 (jRok_m _ _ _) rfl (jle rfl) ⟨jle rfl, jle rfl⟩ (c_X11_isSheet (Q := fun v S' => v = (jissheet x3) ∧ S = S') ⟨rfl, rfl⟩) (fun r5 S6 hq7 => ?_)
  obtain ⟨rfl, rfl⟩ := hq7
  refine jx_if_ne (tgt := 17) dX11_copy_11 (by decide) (fun c8 => ?_) (fun c8 => ?_)
  · replace h := h.2 c8
    refine jx_aload_n 0 dX11_copy_17 rfl rfl ?_
    obtain ⟨hk9, h⟩ := h
    obtain ⟨b10, hb10, h⟩ := h
    refine jx_getr jc_11 (j := 4) (by decide) rfl jwF_X11_19 dX11_copy_18 hk9 hb10 ?_
    refine jx_iload_n 1 dX11_copy_21 rfl rfl ?_
    obtain ⟨hk11, h⟩ := h
    obtain ⟨hi12, h⟩ := h
    refine jx_iald dX11_copy_22 hk11 hi12 ?_
    refine jx_if_lt (tgt := 35) dX11_copy_23 (by decide) (fun c13 => ?_) (fun c13 => ?_)
    · replace h := h.1 c13
      refine jx_ldcw jwC_X11_320 dX11_copy_35 ?_
      exact jx_iret dX11_copy_38 rfl rfl (jle rfl) (jle rfl) ⟨_, rfl, h⟩
    replace h := h.2 c13
    refine jx_aload_n 0 dX11_copy_26 rfl rfl ?_
    refine jx_getr jc_11 (j := 4) (by decide) rfl jwF_X11_19 dX11_copy_27 hk9 hb10 ?_
    refine jx_iload_n 3 dX11_copy_30 rfl rfl ?_
    obtain ⟨hi14, h⟩ := h
    refine jx_iald dX11_copy_31 hk11 hi14 ?_
    refine jx_if_ge (tgt := 39) dX11_copy_32 (by decide) (fun c15 => ?_) (fun c15 => ?_)
    · replace h := h.1 c15
      refine jx_aload_n 0 dX11_copy_39 rfl rfl ?_
      refine jx_getr jc_11 (j := 4) (by decide) rfl jwF_X11_19 dX11_copy_40 hk9 hb10 ?_
      refine jx_iload_n 1 dX11_copy_43 rfl rfl ?_
      refine jx_iald dX11_copy_44 hk11 hi12 ?_
      refine jx_aload_n 0 dX11_copy_45 rfl rfl ?_
      refine jx_getr jc_11 (j := 4) (by decide) rfl jwF_X11_19 dX11_copy_46 hk9 hb10 ?_
      refine jx_iload_n 3 dX11_copy_49 rfl rfl ?_
      refine jx_iald dX11_copy_50 hk11 hi14 ?_
      refine jx_icmp_eq (tgt := 57) dX11_copy_51 (by decide) (fun c16 => ?_) (fun c16 => ?_)
      · replace h := h.1 c16
        refine jx_iload_n 2 dX11_copy_57 rfl rfl ?_
        refine jx_if_lt (tgt := 106) dX11_copy_58 (by decide) (fun c17 => ?_) (fun c17 => ?_)
        · replace h := h.1 c17
          refine jx_ldcw jwC_X11_321 dX11_copy_106 ?_
          exact jx_iret dX11_copy_109 rfl rfl (jle rfl) (jle rfl) ⟨_, rfl, h⟩
        replace h := h.2 c17
        refine jx_iload 4 dX11_copy_61 rfl ?_
        refine jx_if_lt (tgt := 106) dX11_copy_63 (by decide) (fun c18 => ?_) (fun c18 => ?_)
        · replace h := h.1 c18
          refine jx_ldcw jwC_X11_321 dX11_copy_106 ?_
          exact jx_iret dX11_copy_109 rfl rfl (jle rfl) (jle rfl) ⟨_, rfl, h⟩
        replace h := h.2 c18
        refine jx_iload 5 dX11_copy_66 rfl ?_
        refine jx_if_lt (tgt := 106) dX11_copy_68 (by decide) (fun c19 => ?_) (fun c19 => ?_)
        · replace h := h.1 c19
          refine jx_ldcw jwC_X11_321 dX11_copy_106 ?_
          exact jx_iret dX11_copy_109 rfl rfl (jle rfl) (jle rfl) ⟨_, rfl, h⟩
        replace h := h.2 c19
        refine jx_iload_n 2 dX11_copy_71 rfl rfl ?_
        refine jx_i2l dX11_copy_72 ?_
        refine jx_iload 5 dX11_copy_73 rfl ?_
        refine jx_i2l dX11_copy_75 ?_
        refine jx_ladd dX11_copy_76 ?_
        refine jx_aload_n 0 dX11_copy_77 rfl rfl ?_
        obtain ⟨b20, hb20, h⟩ := h
        refine jx_getr jc_11 (j := 5) (by decide) rfl jwF_X11_22 dX11_copy_78 hk9 hb20 ?_
        refine jx_iload_n 1 dX11_copy_81 rfl rfl ?_
        obtain ⟨hk21, h⟩ := h
        obtain ⟨hi22, h⟩ := h
        refine jx_iald dX11_copy_82 hk21 hi22 ?_
        refine jx_i2l dX11_copy_83 ?_
        refine jx_lcmp dX11_copy_84 ?_
        refine jx_if_gt (tgt := 106) dX11_copy_85 (by decide) (fun c23 => ?_) (fun c23 => ?_)
        · replace h := h.1 c23
          refine jx_ldcw jwC_X11_321 dX11_copy_106 ?_
          exact jx_iret dX11_copy_109 rfl rfl (jle rfl) (jle rfl) ⟨_, rfl, h⟩
        replace h := h.2 c23
        refine jx_iload 4 dX11_copy_88 rfl ?_
        refine jx_i2l dX11_copy_90 ?_
        refine jx_iload 5 dX11_copy_91 rfl ?_
        refine jx_i2l dX11_copy_93 ?_
        refine jx_ladd dX11_copy_94 ?_
        refine jx_aload_n 0 dX11_copy_95 rfl rfl ?_
        refine jx_getr jc_11 (j := 5) (by decide) rfl jwF_X11_22 dX11_copy_96 hk9 hb20 ?_
        refine jx_iload_n 3 dX11_copy_99 rfl rfl ?_
        obtain ⟨hi24, h⟩ := h
        refine jx_iald dX11_copy_100 hk21 hi24 ?_
        refine jx_i2l dX11_copy_101 ?_
        refine jx_lcmp dX11_copy_102 ?_
        refine jx_if_le (tgt := 110) dX11_copy_103 (by decide) (fun c25 => ?_) (fun c25 => ?_)
        · replace h := h.1 c25
          refine jx_iconst (v := 0) dX11_copy_110 (by decide) ?_
          refine jx_istore (lv1 := [(6, .int 0), (0, .ref a0), (1, .int x1), (2, .int x2), (3, .int x3), (4, .int x4), (5, .int x5)]) dX11_copy_111 (by decide) rfl ?_
          exact jx_lv [1, 2, 3, 4, 5, 6, 0] rfl h
        replace h := h.2 c25
        refine jx_ldcw jwC_X11_321 dX11_copy_106 ?_
        exact jx_iret dX11_copy_109 rfl rfl (jle rfl) (jle rfl) ⟨_, rfl, h⟩
      replace h := h.2 c16
      refine jx_ldc jwC_X11_129 dX11_copy_54 ?_
      exact jx_iret dX11_copy_56 rfl rfl (jle rfl) (jle rfl) ⟨_, rfl, h⟩
    replace h := h.2 c15
    refine jx_ldcw jwC_X11_320 dX11_copy_35 ?_
    exact jx_iret dX11_copy_38 rfl rfl (jle rfl) (jle rfl) ⟨_, rfl, h⟩
  replace h := h.1 c8
  refine jx_ldc jwC_X11_87 dX11_copy_14 ?_
  exact jx_iret dX11_copy_16 rfl rfl (jle rfl) (jle rfl) ⟨_, rfl, h⟩
set_option maxRecDepth 100000 in
set_option maxHeartbeats 4000000 in
theorem T_X11_copy_113 {E : jEnv} {d : Nat} {Q : Int32 → jM → Prop} {a0 : Nat} {x1 : Int32} {x2 : Int32} {x3 : Int32} {x4 : Int32} {x5 : Int32} {x6 : Int32} {S : jM} (h : (x5 ≤ x6 → L_X11_copy_150 E d Q a0 x3 x4 x5 0 S) ∧ (¬ x5 ≤ x6 → jk S a0 = 11 ∧ ∃ b28, jr S a0 32 = some b28 ∧ (∃ b29, jr S a0 6 = some b29 ∧ (jk S b29 = 12 ∧ vp_in (((24 * x1) + x2) + x6) (jl S b29) ∧ (jk S b28 = 12 ∧ vp_in x6 (jl S b28) ∧ (L_X11_copy_113 E d Q a0 x1 x2 x3 x4 x5 (x6 + 1) (jput S b28 (Int32.toNatClampNeg x6) (ji S b29 (Int32.toNatClampNeg (((24 * x1) + x2) + x6)))))))))) : L_X11_copy_113 E d Q a0 x1 x2 x3 x4 x5 x6 S := by
  show jX E mX11_copy (jRm (d + 2) 0 0) (jZm E (fun r S' => ∃ v : Int32, r = some (.int v) ∧ Q v S') 0 0) 113 [(0, .ref a0), (1, .int x1), (2, .int x2), (3, .int x3), (4, .int x4), (5, .int x5), (6, .int x6)] [] S 0 0
  refine jx_iload 6 dX11_copy_113 rfl ?_
  refine jx_iload 5 dX11_copy_115 rfl ?_
  refine jx_icmp_ge (tgt := 147) dX11_copy_117 (by decide) (fun c26 => ?_) (fun c26 => ?_)
  · replace h := h.1 c26
    refine jx_iconst (v := 0) dX11_copy_147 (by decide) ?_
    refine jx_istore (lv1 := [(6, .int 0), (0, .ref a0), (1, .int x1), (2, .int x2), (3, .int x3), (4, .int x4), (5, .int x5)]) dX11_copy_148 (by decide) rfl ?_
    exact jx_lv [1, 4, 5, 6, 0] rfl h
  replace h := h.2 c26
  refine jx_aload_n 0 dX11_copy_120 rfl rfl ?_
  obtain ⟨hk27, h⟩ := h
  obtain ⟨b28, hb28, h⟩ := h
  refine jx_getr jc_11 (j := 32) (by decide) rfl jwF_X11_61 dX11_copy_121 hk27 hb28 ?_
  refine jx_iload 6 dX11_copy_124 rfl ?_
  refine jx_aload_n 0 dX11_copy_126 rfl rfl ?_
  obtain ⟨b29, hb29, h⟩ := h
  refine jx_getr jc_11 (j := 6) (by decide) rfl jwF_X11_25 dX11_copy_127 hk27 hb29 ?_
  refine jx_bipush (v := 24) dX11_copy_130 (by decide) ?_
  refine jx_iload_n 1 dX11_copy_132 rfl rfl ?_
  refine jx_imul dX11_copy_133 ?_
  refine jx_iload_n 2 dX11_copy_134 rfl rfl ?_
  refine jx_iadd dX11_copy_135 ?_
  refine jx_iload 6 dX11_copy_136 rfl ?_
  refine jx_iadd dX11_copy_138 ?_
  obtain ⟨hk30, h⟩ := h
  obtain ⟨hi31, h⟩ := h
  refine jx_iald dX11_copy_139 hk30 hi31 ?_
  obtain ⟨hk32, h⟩ := h
  obtain ⟨hi33, h⟩ := h
  refine jx_iast dX11_copy_140 hk32 hi33 ?_
  refine jx_iinc 6 (v := (x6 + 1)) (lv1 := [(6, .int (x6 + 1)), (0, .ref a0), (1, .int x1), (2, .int x2), (3, .int x3), (4, .int x4), (5, .int x5)]) kd99.1 rfl rfl (by decide) rfl ?_
  refine jx_goto (tgt := 113) kd99.2.1 (by decide) ?_
  exact jx_lv [1, 2, 3, 4, 5, 6, 0] rfl h
set_option maxRecDepth 100000 in
set_option maxHeartbeats 4000000 in
theorem T_X11_copy_150 {E : jEnv} {d : Nat} {Q : Int32 → jM → Prop} {a0 : Nat} {x3 : Int32} {x4 : Int32} {x5 : Int32} {x6 : Int32} {S : jM} (h : (x5 ≤ x6 → Q x5 S) ∧ (¬ x5 ≤ x6 → jk S a0 = 11 ∧ ∃ b36, jr S a0 6 = some b36 ∧ (∃ b37, jr S a0 32 = some b37 ∧ (jk S b37 = 12 ∧ vp_in x6 (jl S b37) ∧ (jk S b36 = 12 ∧ vp_in (((24 * x3) + x4) + x6) (jl S b36) ∧ (L_X11_copy_150 E d Q a0 x3 x4 x5 (x6 + 1) (jput S b36 (Int32.toNatClampNeg (((24 * x3) + x4) + x6)) (ji S b37 (Int32.toNatClampNeg x6))))))))) : L_X11_copy_150 E d Q a0 x3 x4 x5 x6 S := by
  show jX E mX11_copy (jRm (d + 2) 0 0) (jZm E (fun r S' => ∃ v : Int32, r = some (.int v) ∧ Q v S') 0 0) 150 [(0, .ref a0), (3, .int x3), (4, .int x4), (5, .int x5), (6, .int x6)] [] S 0 0
  refine jx_iload 4 dX11_copy_150 rfl ?_
  refine jx_iload 3 dX11_copy_152 rfl ?_
  refine jx_icmp_ge (tgt := 185) dX11_copy_154 (by decide) (fun c34 => ?_) (fun c34 => ?_)
  · replace h := h.1 c34
    refine jx_iload 3 dX11_copy_185 rfl ?_
    exact jx_iret dX11_copy_187 rfl rfl (jle rfl) (jle rfl) ⟨_, rfl, h⟩
  replace h := h.2 c34
  refine jx_aload_n 0 dX11_copy_157 rfl rfl ?_
  obtain ⟨hk35, h⟩ := h
  obtain ⟨b36, hb36, h⟩ := h
  refine jx_getr jc_11 (j := 6) (by decide) rfl jwF_X11_25 dX11_copy_158 hk35 hb36 ?_
  refine jx_bipush (v := 24) dX11_copy_161 (by decide) ?_
  refine jx_iload_n 1 dX11_copy_163 rfl rfl ?_
  refine jx_imul dX11_copy_164 ?_
  refine jx_iload 2 dX11_copy_165 rfl ?_
  refine jx_iadd dX11_copy_167 ?_
  refine jx_iload 4 dX11_copy_168 rfl ?_
  refine jx_iadd dX11_copy_170 ?_
  refine jx_aload_n 0 dX11_copy_171 rfl rfl ?_
  obtain ⟨b37, hb37, h⟩ := h
  refine jx_getr jc_11 (j := 32) (by decide) rfl jwF_X11_61 dX11_copy_172 hk35 hb37 ?_
  refine jx_iload 4 dX11_copy_175 rfl ?_
  obtain ⟨hk38, h⟩ := h
  obtain ⟨hi39, h⟩ := h
  refine jx_iald dX11_copy_177 hk38 hi39 ?_
  obtain ⟨hk40, h⟩ := h
  obtain ⟨hi41, h⟩ := h
  refine jx_iast dX11_copy_178 hk40 hi41 ?_
  refine jx_iinc 4 (v := (x6 + 1)) (lv1 := [(6, .int (x6 + 1)), (0, .ref a0), (3, .int x3), (4, .int x4), (5, .int x5)]) kd99.2.2.1 rfl rfl (by decide) rfl ?_
  refine jx_goto (tgt := 150) kd99.2.2.2 (by decide) ?_
  exact jx_lv [1, 2, 3, 4, 0] rfl h
/-- X11_lay at its loop's head 150 -/
abbrev L_X11_lay_150 (E : jEnv) (d : Nat) (Q : Int32 → jM → Prop) (a0 : Nat) (x1 : Int32) (x3 : Int32) (x5 : Int32) (x6 : Int32) (S : jM) : Prop := jX E mX11_lay (jRm (d + 2) 0 0) (jZm E (fun r S' => ∃ v : Int32, r = some (.int v) ∧ Q v S') 0 0) 150 [(0, .ref a0), (1, .int x1), (3, .int x3), (5, .int x5), (6, .int x6)] [] S 0 0
set_option maxRecDepth 100000 in
set_option maxHeartbeats 4000000 in
theorem T_X11_lay {E : jEnv} {d : Nat} {Q : Int32 → jM → Prop} {a0 : Nat} {x1 : Int32} {x2 : Int32} {x3 : Int32} {S : jM} (h : (x2 = 0 → ((jisslot x1) = 0 → Q (-1000000001) S) ∧ (¬ (jisslot x1) = 0 → (x2 = 2 → jk S a0 = 11 ∧ ∃ b29, jr S a0 4 = some b29 ∧ (jk S b29 = 12 ∧ vp_in x3 (jl S b29) ∧ ((0 ≤ (ji S b29 (Int32.toNatClampNeg x3)) → ∃ b33, jr S a0 7 = some b33 ∧ (jk S b33 = 12 ∧ vp_in x1 (jl S b33) ∧ ((∃ b36, jr S a0 8 = some b36 ∧ ((x2 = 1 → jFi E mX11_of (d + 1) 0 0 [.ref a0, .int x3, .int 0] (jput S b33 (Int32.toNatClampNeg x1) x2) (fun r50 S49 => jk S49 b36 = 12 ∧ vp_in x1 (jl S49 b36) ∧ (jk S49 a0 = 11 ∧ ∃ b54, jr S49 a0 9 = some b54 ∧ (jFi E mX11_worth (d + 1) 0 0 [.ref a0, .int x3] (jput S49 b36 (Int32.toNatClampNeg x1) r50) (fun r56 S55 => jk S55 b54 = 12 ∧ vp_in x1 (jl S55 b54) ∧ (jk S55 a0 = 11 ∧ ∃ b60, jr S55 a0 10 = some b60 ∧ (∃ b61, jr S55 a0 5 = some b61 ∧ (jk S55 b61 = 12 ∧ vp_in x3 (jl S55 b61) ∧ (jk S55 b60 = 12 ∧ vp_in x1 (jl S55 b60) ∧ (L_X11_lay_150 E d Q a0 x1 x3 (ji S b33 (Int32.toNatClampNeg x1)) 0 (jput (jput S55 b54 (Int32.toNatClampNeg x1) r56) b60 (Int32.toNatClampNeg x1) (ji (jput S55 b54 (Int32.toNatClampNeg x1) r56) b61 (Int32.toNatClampNeg x3))))))))))))) ∧ (¬ x2 = 1 → jk S b36 = 12 ∧ vp_in x1 (jl S b36) ∧ (∃ b40, jr S a0 9 = some b40 ∧ (jk S b40 = 12 ∧ vp_in x1 (jl S b40) ∧ (∃ b43, jr S a0 10 = some b43 ∧ (∃ b44, jr S a0 5 = some b44 ∧ (jk S b44 = 12 ∧ vp_in x3 (jl S b44) ∧ (jk S b43 = 12 ∧ vp_in x1 (jl S b43) ∧ (L_X11_lay_150 E d Q a0 x1 x3 (ji S b33 (Int32.toNatClampNeg x1)) 0 (jput (jput (jput (jput S b33 (Int32.toNatClampNeg x1) x2) b36 (Int32.toNatClampNeg x1) x3) b40 (Int32.toNatClampNeg x1) 0) b43 (Int32.toNatClampNeg x1) (ji (jput (jput (jput S b33 (Int32.toNatClampNeg x1) x2) b36 (Int32.toNatClampNeg x1) x3) b40 (Int32.toNatClampNeg x1) 0) b44 (Int32.toNatClampNeg x3)))))))))))))))) ∧ (¬ 0 ≤ (ji S b29 (Int32.toNatClampNeg x3)) → Q (-1000000011) S)))) ∧ (¬ x2 = 2 → jk S a0 = 11 ∧ ∃ b8, jr S a0 7 = some b8 ∧ (jk S b8 = 12 ∧ vp_in x1 (jl S b8) ∧ ((∃ b11, jr S a0 8 = some b11 ∧ ((x2 = 1 → jFi E mX11_of (d + 1) 0 0 [.ref a0, .int x3, .int 0] (jput S b8 (Int32.toNatClampNeg x1) x2) (fun r19 S18 => jk S18 b11 = 12 ∧ vp_in x1 (jl S18 b11) ∧ (jk S18 a0 = 11 ∧ ∃ b23, jr S18 a0 9 = some b23 ∧ (jFi E mX11_worth (d + 1) 0 0 [.ref a0, .int x3] (jput S18 b11 (Int32.toNatClampNeg x1) r19) (fun r25 S24 => jk S24 b23 = 12 ∧ vp_in x1 (jl S24 b23) ∧ (Q (ji S b8 (Int32.toNatClampNeg x1)) (jput S24 b23 (Int32.toNatClampNeg x1) r25))))))) ∧ (¬ x2 = 1 → jk S b11 = 12 ∧ vp_in x1 (jl S b11) ∧ (∃ b15, jr S a0 9 = some b15 ∧ (jk S b15 = 12 ∧ vp_in x1 (jl S b15) ∧ (Q (ji S b8 (Int32.toNatClampNeg x1)) (jput (jput (jput S b8 (Int32.toNatClampNeg x1) x2) b11 (Int32.toNatClampNeg x1) x3) b15 (Int32.toNatClampNeg x1) 0)))))))))))) ∧ (¬ x2 = 0 → (x2 = 3 → ((jisslot x1) = 0 → Q (-1000000001) S) ∧ (¬ (jisslot x1) = 0 → (x2 = 2 → jk S a0 = 11 ∧ ∃ b94, jr S a0 4 = some b94 ∧ (jk S b94 = 12 ∧ vp_in x3 (jl S b94) ∧ ((0 ≤ (ji S b94 (Int32.toNatClampNeg x3)) → ∃ b98, jr S a0 7 = some b98 ∧ (jk S b98 = 12 ∧ vp_in x1 (jl S b98) ∧ ((∃ b101, jr S a0 8 = some b101 ∧ ((x2 = 1 → jFi E mX11_of (d + 1) 0 0 [.ref a0, .int x3, .int 0] (jput S b98 (Int32.toNatClampNeg x1) x2) (fun r115 S114 => jk S114 b101 = 12 ∧ vp_in x1 (jl S114 b101) ∧ (jk S114 a0 = 11 ∧ ∃ b119, jr S114 a0 9 = some b119 ∧ (jFi E mX11_worth (d + 1) 0 0 [.ref a0, .int x3] (jput S114 b101 (Int32.toNatClampNeg x1) r115) (fun r121 S120 => jk S120 b119 = 12 ∧ vp_in x1 (jl S120 b119) ∧ (jk S120 a0 = 11 ∧ ∃ b125, jr S120 a0 10 = some b125 ∧ (∃ b126, jr S120 a0 5 = some b126 ∧ (jk S120 b126 = 12 ∧ vp_in x3 (jl S120 b126) ∧ (jk S120 b125 = 12 ∧ vp_in x1 (jl S120 b125) ∧ (L_X11_lay_150 E d Q a0 x1 x3 (ji S b98 (Int32.toNatClampNeg x1)) 0 (jput (jput S120 b119 (Int32.toNatClampNeg x1) r121) b125 (Int32.toNatClampNeg x1) (ji (jput S120 b119 (Int32.toNatClampNeg x1) r121) b126 (Int32.toNatClampNeg x3))))))))))))) ∧ (¬ x2 = 1 → jk S b101 = 12 ∧ vp_in x1 (jl S b101) ∧ (∃ b105, jr S a0 9 = some b105 ∧ (jk S b105 = 12 ∧ vp_in x1 (jl S b105) ∧ (∃ b108, jr S a0 10 = some b108 ∧ (∃ b109, jr S a0 5 = some b109 ∧ (jk S b109 = 12 ∧ vp_in x3 (jl S b109) ∧ (jk S b108 = 12 ∧ vp_in x1 (jl S b108) ∧ (L_X11_lay_150 E d Q a0 x1 x3 (ji S b98 (Int32.toNatClampNeg x1)) 0 (jput (jput (jput (jput S b98 (Int32.toNatClampNeg x1) x2) b101 (Int32.toNatClampNeg x1) x3) b105 (Int32.toNatClampNeg x1) 0) b108 (Int32.toNatClampNeg x1) (ji (jput (jput (jput S b98 (Int32.toNatClampNeg x1) x2) b101 (Int32.toNatClampNeg x1) x3) b105 (Int32.toNatClampNeg x1) 0) b109 (Int32.toNatClampNeg x3)))))))))))))))) ∧ (¬ 0 ≤ (ji S b94 (Int32.toNatClampNeg x3)) → Q (-1000000011) S)))) ∧ (¬ x2 = 2 → jk S a0 = 11 ∧ ∃ b73, jr S a0 7 = some b73 ∧ (jk S b73 = 12 ∧ vp_in x1 (jl S b73) ∧ ((∃ b76, jr S a0 8 = some b76 ∧ ((x2 = 1 → jFi E mX11_of (d + 1) 0 0 [.ref a0, .int x3, .int 0] (jput S b73 (Int32.toNatClampNeg x1) x2) (fun r84 S83 => jk S83 b76 = 12 ∧ vp_in x1 (jl S83 b76) ∧ (jk S83 a0 = 11 ∧ ∃ b88, jr S83 a0 9 = some b88 ∧ (jFi E mX11_worth (d + 1) 0 0 [.ref a0, .int x3] (jput S83 b76 (Int32.toNatClampNeg x1) r84) (fun r90 S89 => jk S89 b88 = 12 ∧ vp_in x1 (jl S89 b88) ∧ (Q (ji S b73 (Int32.toNatClampNeg x1)) (jput S89 b88 (Int32.toNatClampNeg x1) r90))))))) ∧ (¬ x2 = 1 → jk S b76 = 12 ∧ vp_in x1 (jl S b76) ∧ (∃ b80, jr S a0 9 = some b80 ∧ (jk S b80 = 12 ∧ vp_in x1 (jl S b80) ∧ (Q (ji S b73 (Int32.toNatClampNeg x1)) (jput (jput (jput S b73 (Int32.toNatClampNeg x1) x2) b76 (Int32.toNatClampNeg x1) x3) b80 (Int32.toNatClampNeg x1) 0)))))))))))) ∧ (¬ x2 = 3 → (x2 = 1 → jk S a0 = 11 ∧ jFi E mX11_isMaster (d + 1) 0 0 [.ref a0, .int x3] S (fun r171 S170 => (r171 = 0 → (x2 = 2 → ((jissheet x3) = 0 → ((jisslot x1) = 0 → Q (-1000000001) S170) ∧ (¬ (jisslot x1) = 0 → Q (-1000000001) S170)) ∧ (¬ (jissheet x3) = 0 → ((jisslot x1) = 0 → Q (-1000000001) S170) ∧ (¬ (jisslot x1) = 0 → jk S170 a0 = 11 ∧ ∃ b237, jr S170 a0 4 = some b237 ∧ (jk S170 b237 = 12 ∧ vp_in x3 (jl S170 b237) ∧ ((0 ≤ (ji S170 b237 (Int32.toNatClampNeg x3)) → ∃ b241, jr S170 a0 7 = some b241 ∧ (jk S170 b241 = 12 ∧ vp_in x1 (jl S170 b241) ∧ ((∃ b244, jr S170 a0 8 = some b244 ∧ (jFi E mX11_of (d + 1) 0 0 [.ref a0, .int x3, .int 0] (jput S170 b241 (Int32.toNatClampNeg x1) x2) (fun r246 S245 => jk S245 b244 = 12 ∧ vp_in x1 (jl S245 b244) ∧ (jk S245 a0 = 11 ∧ ∃ b250, jr S245 a0 9 = some b250 ∧ (jFi E mX11_worth (d + 1) 0 0 [.ref a0, .int x3] (jput S245 b244 (Int32.toNatClampNeg x1) r246) (fun r252 S251 => jk S251 b250 = 12 ∧ vp_in x1 (jl S251 b250) ∧ (jk S251 a0 = 11 ∧ ∃ b256, jr S251 a0 10 = some b256 ∧ (∃ b257, jr S251 a0 5 = some b257 ∧ (jk S251 b257 = 12 ∧ vp_in x3 (jl S251 b257) ∧ (jk S251 b256 = 12 ∧ vp_in x1 (jl S251 b256) ∧ (L_X11_lay_150 E d Q a0 x1 x3 (ji S170 b241 (Int32.toNatClampNeg x1)) 0 (jput (jput S251 b250 (Int32.toNatClampNeg x1) r252) b256 (Int32.toNatClampNeg x1) (ji (jput S251 b250 (Int32.toNatClampNeg x1) r252) b257 (Int32.toNatClampNeg x3))))))))))))))))) ∧ (¬ 0 ≤ (ji S170 b237 (Int32.toNatClampNeg x3)) → Q (-1000000011) S170)))))) ∧ (¬ x2 = 2 → ((jisslot x1) = 0 → Q (-1000000001) S170) ∧ (¬ (jisslot x1) = 0 → Q (-1000000001) S170))) ∧ (¬ r171 = 0 → ((jisslot x1) = 0 → Q (-1000000001) S170) ∧ (¬ (jisslot x1) = 0 → (x2 = 2 → jk S170 a0 = 11 ∧ ∃ b194, jr S170 a0 4 = some b194 ∧ (jk S170 b194 = 12 ∧ vp_in x3 (jl S170 b194) ∧ ((0 ≤ (ji S170 b194 (Int32.toNatClampNeg x3)) → ∃ b198, jr S170 a0 7 = some b198 ∧ (jk S170 b198 = 12 ∧ vp_in x1 (jl S170 b198) ∧ ((∃ b201, jr S170 a0 8 = some b201 ∧ (jFi E mX11_of (d + 1) 0 0 [.ref a0, .int x3, .int 0] (jput S170 b198 (Int32.toNatClampNeg x1) x2) (fun r203 S202 => jk S202 b201 = 12 ∧ vp_in x1 (jl S202 b201) ∧ (jk S202 a0 = 11 ∧ ∃ b207, jr S202 a0 9 = some b207 ∧ (jFi E mX11_worth (d + 1) 0 0 [.ref a0, .int x3] (jput S202 b201 (Int32.toNatClampNeg x1) r203) (fun r209 S208 => jk S208 b207 = 12 ∧ vp_in x1 (jl S208 b207) ∧ (jk S208 a0 = 11 ∧ ∃ b213, jr S208 a0 10 = some b213 ∧ (∃ b214, jr S208 a0 5 = some b214 ∧ (jk S208 b214 = 12 ∧ vp_in x3 (jl S208 b214) ∧ (jk S208 b213 = 12 ∧ vp_in x1 (jl S208 b213) ∧ (L_X11_lay_150 E d Q a0 x1 x3 (ji S170 b198 (Int32.toNatClampNeg x1)) 0 (jput (jput S208 b207 (Int32.toNatClampNeg x1) r209) b213 (Int32.toNatClampNeg x1) (ji (jput S208 b207 (Int32.toNatClampNeg x1) r209) b214 (Int32.toNatClampNeg x3))))))))))))))))) ∧ (¬ 0 ≤ (ji S170 b194 (Int32.toNatClampNeg x3)) → Q (-1000000011) S170)))) ∧ (¬ x2 = 2 → jk S170 a0 = 11 ∧ ∃ b179, jr S170 a0 7 = some b179 ∧ (jk S170 b179 = 12 ∧ vp_in x1 (jl S170 b179) ∧ ((∃ b182, jr S170 a0 8 = some b182 ∧ (jFi E mX11_of (d + 1) 0 0 [.ref a0, .int x3, .int 0] (jput S170 b179 (Int32.toNatClampNeg x1) x2) (fun r184 S183 => jk S183 b182 = 12 ∧ vp_in x1 (jl S183 b182) ∧ (jk S183 a0 = 11 ∧ ∃ b188, jr S183 a0 9 = some b188 ∧ (jFi E mX11_worth (d + 1) 0 0 [.ref a0, .int x3] (jput S183 b182 (Int32.toNatClampNeg x1) r184) (fun r190 S189 => jk S189 b188 = 12 ∧ vp_in x1 (jl S189 b188) ∧ (Q (ji S170 b179 (Int32.toNatClampNeg x1)) (jput S189 b188 (Int32.toNatClampNeg x1) r190))))))))))))))) ∧ (¬ x2 = 1 → (x2 = 2 → ((jissheet x3) = 0 → ((jisslot x1) = 0 → Q (-1000000001) S) ∧ (¬ (jisslot x1) = 0 → Q (-1000000001) S)) ∧ (¬ (jissheet x3) = 0 → ((jisslot x1) = 0 → Q (-1000000001) S) ∧ (¬ (jisslot x1) = 0 → jk S a0 = 11 ∧ ∃ b150, jr S a0 4 = some b150 ∧ (jk S b150 = 12 ∧ vp_in x3 (jl S b150) ∧ ((0 ≤ (ji S b150 (Int32.toNatClampNeg x3)) → ∃ b154, jr S a0 7 = some b154 ∧ (jk S b154 = 12 ∧ vp_in x1 (jl S b154) ∧ ((∃ b157, jr S a0 8 = some b157 ∧ (jk S b157 = 12 ∧ vp_in x1 (jl S b157) ∧ (∃ b160, jr S a0 9 = some b160 ∧ (jk S b160 = 12 ∧ vp_in x1 (jl S b160) ∧ (∃ b163, jr S a0 10 = some b163 ∧ (∃ b164, jr S a0 5 = some b164 ∧ (jk S b164 = 12 ∧ vp_in x3 (jl S b164) ∧ (jk S b163 = 12 ∧ vp_in x1 (jl S b163) ∧ (L_X11_lay_150 E d Q a0 x1 x3 (ji S b154 (Int32.toNatClampNeg x1)) 0 (jput (jput (jput (jput S b154 (Int32.toNatClampNeg x1) x2) b157 (Int32.toNatClampNeg x1) x3) b160 (Int32.toNatClampNeg x1) 0) b163 (Int32.toNatClampNeg x1) (ji (jput (jput (jput S b154 (Int32.toNatClampNeg x1) x2) b157 (Int32.toNatClampNeg x1) x3) b160 (Int32.toNatClampNeg x1) 0) b164 (Int32.toNatClampNeg x3))))))))))))))) ∧ (¬ 0 ≤ (ji S b150 (Int32.toNatClampNeg x3)) → Q (-1000000011) S)))))) ∧ (¬ x2 = 2 → ((jisslot x1) = 0 → Q (-1000000001) S) ∧ (¬ (jisslot x1) = 0 → Q (-1000000001) S)))))) : jFi E mX11_lay (d + 2) 0 0 [.ref a0, .int x1, .int x2, .int x3] S Q := by
  refine jF_of (by decide) (jle rfl) ?_
  refine jx_lv (lv1 := [(0, .ref a0), (1, .int x1), (2, .int x2), (3, .int x3)]) [0, 1, 2, 3] rfl ?_
  refine jx_iload_n 2 dX11_lay_0 rfl rfl ?_
  refine jx_if_eq (tgt := 34) dX11_lay_1 (by decide) (fun c1 => ?_) (fun c1 => ?_)
  · replace h := h.1 c1
    refine jx_iconst (v := 1) dX11_lay_34 (by decide) ?_
    refine jx_goto (tgt := 39) dX11_lay_35 (by decide) ?_
    refine jx_istore (lv1 := [(4, .int 1), (0, .ref a0), (1, .int x1), (2, .int x2), (3, .int x3)]) dX11_lay_39 (by decide) rfl ?_
    refine jx_iload_n 2 dX11_lay_41 rfl rfl ?_
    refine jx_callSi (M' := mX11_isSlot) (As := [.int x1]) jo_X11_isSlot jwM_X11_329 jwS_X11_isSlot dX11_lay_42 (jRok_m _ _ _) rfl (jle rfl) ⟨jle rfl, jle rfl⟩ (c_X11_isSlot (Q := fun v S' => v = (jisslot x1) ∧ S = S') ⟨rfl, rfl⟩) (fun r2 S3 hq4 => ?_)
    obtain ⟨rfl, rfl⟩ := hq4
    refine jx_if_eq (tgt := 53) dX11_lay_45 (by decide) (fun c5 => ?_) (fun c5 => ?_)
    · replace h := h.1 c5
      refine jx_ldc jwC_X11_87 dX11_lay_53 ?_
      exact jx_iret dX11_lay_55 rfl rfl (jle rfl) (jle rfl) ⟨_, rfl, h⟩
    replace h := h.2 c5
    refine jx_iload 0 dX11_lay_48 rfl ?_
    refine jx_if_ne (tgt := 56) dX11_lay_50 (by decide) (fun _ => ?_) (fun z9 => absurd z9 (by decide))
    refine jx_iload_n 3 dX11_lay_56 rfl rfl ?_
    refine jx_iconst (v := 2) dX11_lay_57 (by decide) ?_
    refine jx_icmp_ne (tgt := 74) dX11_lay_58 (by decide) (fun c6 => ?_) (fun c6 => ?_)
    · replace h := h.2 c6
      refine jx_aload_n 1 dX11_lay_74 rfl rfl ?_
      obtain ⟨hk7, h⟩ := h
      obtain ⟨b8, hb8, h⟩ := h
      refine jx_getr jc_11 (j := 7) (by decide) rfl jwF_X11_28 dX11_lay_75 hk7 hb8 ?_
      refine jx_iload_n 2 dX11_lay_78 rfl rfl ?_
      obtain ⟨hk9, h⟩ := h
      obtain ⟨hi10, h⟩ := h
      refine jx_iald dX11_lay_79 hk9 hi10 ?_
      refine jx_istore (lv1 := [(5, .int (ji S b8 (Int32.toNatClampNeg x1))), (4, .int 1), (0, .ref a0), (1, .int x1), (2, .int x2), (3, .int x3)]) dX11_lay_80 (by decide) rfl ?_
      refine jx_aload_n 2 dX11_lay_82 rfl rfl ?_
      refine jx_getr jc_11 (j := 7) (by decide) rfl jwF_X11_28 dX11_lay_83 hk7 hb8 ?_
      refine jx_iload_n 3 dX11_lay_86 rfl rfl ?_
      refine jx_iload_n 4 dX11_lay_87 rfl rfl ?_
      refine jx_iast dX11_lay_88 hk9 hi10 ?_
      refine jx_aload_n 2 dX11_lay_89 rfl rfl ?_
      obtain ⟨b11, hb11, h⟩ := h
      refine jx_getr jc_11 (j := 8) (by decide) rfl jwF_X11_31 dX11_lay_90 hk7 hb11 ?_
      refine jx_iload_n 3 dX11_lay_93 rfl rfl ?_
      refine jx_iload_n 4 dX11_lay_94 rfl rfl ?_
      refine jx_iconst (v := 1) dX11_lay_95 (by decide) ?_
      refine jx_icmp_ne (tgt := 108) dX11_lay_96 (by decide) (fun c12 => ?_) (fun c12 => ?_)
      · replace h := h.2 c12
        refine jx_iload_n 5 dX11_lay_108 rfl rfl ?_
        obtain ⟨hk13, h⟩ := h
        obtain ⟨hi14, h⟩ := h
        refine jx_iast dX11_lay_109 hk13 hi14 ?_
        refine jx_aload_n 2 dX11_lay_110 rfl rfl ?_
        obtain ⟨b15, hb15, h⟩ := h
        refine jx_getr jc_11 (j := 9) (by decide) rfl jwF_X11_34 dX11_lay_111 hk7 hb15 ?_
        refine jx_iload_n 3 dX11_lay_114 rfl rfl ?_
        refine jx_iload_n 4 dX11_lay_115 rfl rfl ?_
        refine jx_iconst (v := 1) dX11_lay_116 (by decide) ?_
        refine jx_icmp_ne (tgt := 128) dX11_lay_117 (by decide) (fun _ => ?_) (fun z9 => absurd z9 c12)
        refine jx_iconst (v := 0) dX11_lay_128 (by decide) ?_
        obtain ⟨hk16, h⟩ := h
        obtain ⟨hi17, h⟩ := h
        refine jx_iast dX11_lay_129 hk16 hi17 ?_
        refine jx_iload_n 4 dX11_lay_130 rfl rfl ?_
        refine jx_iconst (v := 2) dX11_lay_131 (by decide) ?_
        refine jx_icmp_ne (tgt := 187) dX11_lay_132 (by decide) (fun _ => ?_) (fun z9 => absurd z9 c6)
        refine jx_iload 0 dX11_lay_187 rfl ?_
        exact jx_iret dX11_lay_189 rfl rfl (jle rfl) (jle rfl) ⟨_, rfl, h⟩
      replace h := h.1 c12
      refine jx_aload_n 2 dX11_lay_99 rfl rfl ?_
      refine jx_iload_n 5 dX11_lay_100 rfl rfl ?_
      refine jx_iconst (v := 0) dX11_lay_101 (by decide) ?_
      refine jx_callVi (M' := mX11_of) (As := [.int x3, .int 0]) jo_X11_of jc_11 rfl jwM_X11_97 jwN_X11_of jwX_X11_of dX11_lay_102 (jRok_m _ _ _) rfl (jle rfl) ⟨jle rfl, jle rfl⟩ hk7 h (fun r19 S18 h => ?_)
      refine jx_goto (tgt := 109) dX11_lay_105 (by decide) ?_
      obtain ⟨hk20, h⟩ := h
      obtain ⟨hi21, h⟩ := h
      refine jx_iast dX11_lay_109 hk20 hi21 ?_
      refine jx_aload_n 2 dX11_lay_110 rfl rfl ?_
      obtain ⟨hk22, h⟩ := h
      obtain ⟨b23, hb23, h⟩ := h
      refine jx_getr jc_11 (j := 9) (by decide) rfl jwF_X11_34 dX11_lay_111 hk22 hb23 ?_
      refine jx_iload_n 3 dX11_lay_114 rfl rfl ?_
      refine jx_iload_n 4 dX11_lay_115 rfl rfl ?_
      refine jx_iconst (v := 1) dX11_lay_116 (by decide) ?_
      refine jx_icmp_ne (tgt := 128) dX11_lay_117 (by decide) (fun z9 => absurd c12 z9) (fun _ => ?_)
      refine jx_aload_n 2 dX11_lay_120 rfl rfl ?_
      refine jx_iload_n 5 dX11_lay_121 rfl rfl ?_
      refine jx_callVi (M' := mX11_worth) (As := [.int x3]) jo_X11_worth jc_11 rfl jwM_X11_119 jwN_X11_worth jwX_X11_worth dX11_lay_122 (jRok_m _ _ _) rfl (jle rfl) ⟨jle rfl, jle rfl⟩ hk22 h (fun r25 S24 h => ?_)
      refine jx_goto (tgt := 129) dX11_lay_125 (by decide) ?_
      obtain ⟨hk26, h⟩ := h
      obtain ⟨hi27, h⟩ := h
      refine jx_iast dX11_lay_129 hk26 hi27 ?_
      refine jx_iload_n 4 dX11_lay_130 rfl rfl ?_
      refine jx_iconst (v := 2) dX11_lay_131 (by decide) ?_
      refine jx_icmp_ne (tgt := 187) dX11_lay_132 (by decide) (fun _ => ?_) (fun z9 => absurd z9 c6)
      refine jx_iload 0 dX11_lay_187 rfl ?_
      exact jx_iret dX11_lay_189 rfl rfl (jle rfl) (jle rfl) ⟨_, rfl, h⟩
    replace h := h.1 c6
    refine jx_aload_n 1 dX11_lay_61 rfl rfl ?_
    obtain ⟨hk28, h⟩ := h
    obtain ⟨b29, hb29, h⟩ := h
    refine jx_getr jc_11 (j := 4) (by decide) rfl jwF_X11_19 dX11_lay_62 hk28 hb29 ?_
    refine jx_iload_n 4 dX11_lay_65 rfl rfl ?_
    obtain ⟨hk30, h⟩ := h
    obtain ⟨hi31, h⟩ := h
    refine jx_iald dX11_lay_66 hk30 hi31 ?_
    refine jx_if_ge (tgt := 74) dX11_lay_67 (by decide) (fun c32 => ?_) (fun c32 => ?_)
    · replace h := h.1 c32
      refine jx_aload_n 1 dX11_lay_74 rfl rfl ?_
      obtain ⟨b33, hb33, h⟩ := h
      refine jx_getr jc_11 (j := 7) (by decide) rfl jwF_X11_28 dX11_lay_75 hk28 hb33 ?_
      refine jx_iload_n 2 dX11_lay_78 rfl rfl ?_
      obtain ⟨hk34, h⟩ := h
      obtain ⟨hi35, h⟩ := h
      refine jx_iald dX11_lay_79 hk34 hi35 ?_
      refine jx_istore (lv1 := [(5, .int (ji S b33 (Int32.toNatClampNeg x1))), (4, .int 1), (0, .ref a0), (1, .int x1), (2, .int x2), (3, .int x3)]) dX11_lay_80 (by decide) rfl ?_
      refine jx_aload_n 2 dX11_lay_82 rfl rfl ?_
      refine jx_getr jc_11 (j := 7) (by decide) rfl jwF_X11_28 dX11_lay_83 hk28 hb33 ?_
      refine jx_iload_n 3 dX11_lay_86 rfl rfl ?_
      refine jx_iload_n 4 dX11_lay_87 rfl rfl ?_
      refine jx_iast dX11_lay_88 hk34 hi35 ?_
      refine jx_aload_n 2 dX11_lay_89 rfl rfl ?_
      obtain ⟨b36, hb36, h⟩ := h
      refine jx_getr jc_11 (j := 8) (by decide) rfl jwF_X11_31 dX11_lay_90 hk28 hb36 ?_
      refine jx_iload_n 3 dX11_lay_93 rfl rfl ?_
      refine jx_iload_n 4 dX11_lay_94 rfl rfl ?_
      refine jx_iconst (v := 1) dX11_lay_95 (by decide) ?_
      refine jx_icmp_ne (tgt := 108) dX11_lay_96 (by decide) (fun c37 => ?_) (fun c37 => ?_)
      · replace h := h.2 c37
        refine jx_iload_n 5 dX11_lay_108 rfl rfl ?_
        obtain ⟨hk38, h⟩ := h
        obtain ⟨hi39, h⟩ := h
        refine jx_iast dX11_lay_109 hk38 hi39 ?_
        refine jx_aload_n 2 dX11_lay_110 rfl rfl ?_
        obtain ⟨b40, hb40, h⟩ := h
        refine jx_getr jc_11 (j := 9) (by decide) rfl jwF_X11_34 dX11_lay_111 hk28 hb40 ?_
        refine jx_iload_n 3 dX11_lay_114 rfl rfl ?_
        refine jx_iload_n 4 dX11_lay_115 rfl rfl ?_
        refine jx_iconst (v := 1) dX11_lay_116 (by decide) ?_
        refine jx_icmp_ne (tgt := 128) dX11_lay_117 (by decide) (fun _ => ?_) (fun z9 => absurd z9 c37)
        refine jx_iconst (v := 0) dX11_lay_128 (by decide) ?_
        obtain ⟨hk41, h⟩ := h
        obtain ⟨hi42, h⟩ := h
        refine jx_iast dX11_lay_129 hk41 hi42 ?_
        refine jx_iload_n 4 dX11_lay_130 rfl rfl ?_
        refine jx_iconst (v := 2) dX11_lay_131 (by decide) ?_
        refine jx_icmp_ne (tgt := 187) dX11_lay_132 (by decide) (fun z9 => absurd c6 z9) (fun _ => ?_)
        refine jx_aload_n 2 dX11_lay_135 rfl rfl ?_
        obtain ⟨b43, hb43, h⟩ := h
        refine jx_getr jc_11 (j := 10) (by decide) rfl jwF_X11_37 dX11_lay_136 hk28 hb43 ?_
        refine jx_iload_n 3 dX11_lay_139 rfl rfl ?_
        refine jx_aload_n 2 dX11_lay_140 rfl rfl ?_
        obtain ⟨b44, hb44, h⟩ := h
        refine jx_getr jc_11 (j := 5) (by decide) rfl jwF_X11_22 dX11_lay_141 hk28 hb44 ?_
        refine jx_iload_n 5 dX11_lay_144 rfl rfl ?_
        obtain ⟨hk45, h⟩ := h
        obtain ⟨hi46, h⟩ := h
        refine jx_iald dX11_lay_145 hk45 hi46 ?_
        obtain ⟨hk47, h⟩ := h
        obtain ⟨hi48, h⟩ := h
        refine jx_iast dX11_lay_146 hk47 hi48 ?_
        refine jx_iconst (v := 0) dX11_lay_147 (by decide) ?_
        refine jx_istore (lv1 := [(6, .int 0), (5, .int (ji S b33 (Int32.toNatClampNeg x1))), (4, .int 1), (0, .ref a0), (1, .int x1), (2, .int x2), (3, .int x3)]) dX11_lay_148 (by decide) rfl ?_
        exact jx_lv [3, 4, 6, 1, 0] rfl h
      replace h := h.1 c37
      refine jx_aload_n 2 dX11_lay_99 rfl rfl ?_
      refine jx_iload_n 5 dX11_lay_100 rfl rfl ?_
      refine jx_iconst (v := 0) dX11_lay_101 (by decide) ?_
      refine jx_callVi (M' := mX11_of) (As := [.int x3, .int 0]) jo_X11_of jc_11 rfl jwM_X11_97 jwN_X11_of jwX_X11_of dX11_lay_102 (jRok_m _ _ _) rfl (jle rfl) ⟨jle rfl, jle rfl⟩ hk28 h (fun r50 S49 h => ?_)
      refine jx_goto (tgt := 109) dX11_lay_105 (by decide) ?_
      obtain ⟨hk51, h⟩ := h
      obtain ⟨hi52, h⟩ := h
      refine jx_iast dX11_lay_109 hk51 hi52 ?_
      refine jx_aload_n 2 dX11_lay_110 rfl rfl ?_
      obtain ⟨hk53, h⟩ := h
      obtain ⟨b54, hb54, h⟩ := h
      refine jx_getr jc_11 (j := 9) (by decide) rfl jwF_X11_34 dX11_lay_111 hk53 hb54 ?_
      refine jx_iload_n 3 dX11_lay_114 rfl rfl ?_
      refine jx_iload_n 4 dX11_lay_115 rfl rfl ?_
      refine jx_iconst (v := 1) dX11_lay_116 (by decide) ?_
      refine jx_icmp_ne (tgt := 128) dX11_lay_117 (by decide) (fun z9 => absurd c37 z9) (fun _ => ?_)
      refine jx_aload_n 2 dX11_lay_120 rfl rfl ?_
      refine jx_iload_n 5 dX11_lay_121 rfl rfl ?_
      refine jx_callVi (M' := mX11_worth) (As := [.int x3]) jo_X11_worth jc_11 rfl jwM_X11_119 jwN_X11_worth jwX_X11_worth dX11_lay_122 (jRok_m _ _ _) rfl (jle rfl) ⟨jle rfl, jle rfl⟩ hk53 h (fun r56 S55 h => ?_)
      refine jx_goto (tgt := 129) dX11_lay_125 (by decide) ?_
      obtain ⟨hk57, h⟩ := h
      obtain ⟨hi58, h⟩ := h
      refine jx_iast dX11_lay_129 hk57 hi58 ?_
      refine jx_iload_n 4 dX11_lay_130 rfl rfl ?_
      refine jx_iconst (v := 2) dX11_lay_131 (by decide) ?_
      refine jx_icmp_ne (tgt := 187) dX11_lay_132 (by decide) (fun z9 => absurd c6 z9) (fun _ => ?_)
      refine jx_aload_n 2 dX11_lay_135 rfl rfl ?_
      obtain ⟨hk59, h⟩ := h
      obtain ⟨b60, hb60, h⟩ := h
      refine jx_getr jc_11 (j := 10) (by decide) rfl jwF_X11_37 dX11_lay_136 hk59 hb60 ?_
      refine jx_iload_n 3 dX11_lay_139 rfl rfl ?_
      refine jx_aload_n 2 dX11_lay_140 rfl rfl ?_
      obtain ⟨b61, hb61, h⟩ := h
      refine jx_getr jc_11 (j := 5) (by decide) rfl jwF_X11_22 dX11_lay_141 hk59 hb61 ?_
      refine jx_iload_n 5 dX11_lay_144 rfl rfl ?_
      obtain ⟨hk62, h⟩ := h
      obtain ⟨hi63, h⟩ := h
      refine jx_iald dX11_lay_145 hk62 hi63 ?_
      obtain ⟨hk64, h⟩ := h
      obtain ⟨hi65, h⟩ := h
      refine jx_iast dX11_lay_146 hk64 hi65 ?_
      refine jx_iconst (v := 0) dX11_lay_147 (by decide) ?_
      refine jx_istore (lv1 := [(6, .int 0), (5, .int (ji S b33 (Int32.toNatClampNeg x1))), (4, .int 1), (0, .ref a0), (1, .int x1), (2, .int x2), (3, .int x3)]) dX11_lay_148 (by decide) rfl ?_
      exact jx_lv [3, 4, 6, 1, 0] rfl h
    replace h := h.2 c32
    refine jx_ldcw jwC_X11_320 dX11_lay_70 ?_
    exact jx_iret dX11_lay_73 rfl rfl (jle rfl) (jle rfl) ⟨_, rfl, h⟩
  replace h := h.2 c1
  refine jx_iload_n 2 dX11_lay_4 rfl rfl ?_
  refine jx_iconst (v := 3) dX11_lay_5 (by decide) ?_
  refine jx_icmp_eq (tgt := 34) dX11_lay_6 (by decide) (fun c66 => ?_) (fun c66 => ?_)
  · replace h := h.1 c66
    refine jx_iconst (v := 1) dX11_lay_34 (by decide) ?_
    refine jx_goto (tgt := 39) dX11_lay_35 (by decide) ?_
    refine jx_istore (lv1 := [(4, .int 1), (0, .ref a0), (1, .int x1), (2, .int x2), (3, .int x3)]) dX11_lay_39 (by decide) rfl ?_
    refine jx_iload_n 2 dX11_lay_41 rfl rfl ?_
    refine jx_callSi (M' := mX11_isSlot) (As := [.int x1]) jo_X11_isSlot jwM_X11_329 jwS_X11_isSlot dX11_lay_42 (jRok_m _ _ _) rfl (jle rfl) ⟨jle rfl, jle rfl⟩ (c_X11_isSlot (Q := fun v S' => v = (jisslot x1) ∧ S = S') ⟨rfl, rfl⟩) (fun r67 S68 hq69 => ?_)
    obtain ⟨rfl, rfl⟩ := hq69
    refine jx_if_eq (tgt := 53) dX11_lay_45 (by decide) (fun c70 => ?_) (fun c70 => ?_)
    · replace h := h.1 c70
      refine jx_ldc jwC_X11_87 dX11_lay_53 ?_
      exact jx_iret dX11_lay_55 rfl rfl (jle rfl) (jle rfl) ⟨_, rfl, h⟩
    replace h := h.2 c70
    refine jx_iload 0 dX11_lay_48 rfl ?_
    refine jx_if_ne (tgt := 56) dX11_lay_50 (by decide) (fun _ => ?_) (fun z9 => absurd z9 (by decide))
    refine jx_iload_n 3 dX11_lay_56 rfl rfl ?_
    refine jx_iconst (v := 2) dX11_lay_57 (by decide) ?_
    refine jx_icmp_ne (tgt := 74) dX11_lay_58 (by decide) (fun c71 => ?_) (fun c71 => ?_)
    · replace h := h.2 c71
      refine jx_aload_n 1 dX11_lay_74 rfl rfl ?_
      obtain ⟨hk72, h⟩ := h
      obtain ⟨b73, hb73, h⟩ := h
      refine jx_getr jc_11 (j := 7) (by decide) rfl jwF_X11_28 dX11_lay_75 hk72 hb73 ?_
      refine jx_iload_n 2 dX11_lay_78 rfl rfl ?_
      obtain ⟨hk74, h⟩ := h
      obtain ⟨hi75, h⟩ := h
      refine jx_iald dX11_lay_79 hk74 hi75 ?_
      refine jx_istore (lv1 := [(5, .int (ji S b73 (Int32.toNatClampNeg x1))), (4, .int 1), (0, .ref a0), (1, .int x1), (2, .int x2), (3, .int x3)]) dX11_lay_80 (by decide) rfl ?_
      refine jx_aload_n 2 dX11_lay_82 rfl rfl ?_
      refine jx_getr jc_11 (j := 7) (by decide) rfl jwF_X11_28 dX11_lay_83 hk72 hb73 ?_
      refine jx_iload_n 3 dX11_lay_86 rfl rfl ?_
      refine jx_iload_n 4 dX11_lay_87 rfl rfl ?_
      refine jx_iast dX11_lay_88 hk74 hi75 ?_
      refine jx_aload_n 2 dX11_lay_89 rfl rfl ?_
      obtain ⟨b76, hb76, h⟩ := h
      refine jx_getr jc_11 (j := 8) (by decide) rfl jwF_X11_31 dX11_lay_90 hk72 hb76 ?_
      refine jx_iload_n 3 dX11_lay_93 rfl rfl ?_
      refine jx_iload_n 4 dX11_lay_94 rfl rfl ?_
      refine jx_iconst (v := 1) dX11_lay_95 (by decide) ?_
      refine jx_icmp_ne (tgt := 108) dX11_lay_96 (by decide) (fun c77 => ?_) (fun c77 => ?_)
      · replace h := h.2 c77
        refine jx_iload_n 5 dX11_lay_108 rfl rfl ?_
        obtain ⟨hk78, h⟩ := h
        obtain ⟨hi79, h⟩ := h
        refine jx_iast dX11_lay_109 hk78 hi79 ?_
        refine jx_aload_n 2 dX11_lay_110 rfl rfl ?_
        obtain ⟨b80, hb80, h⟩ := h
        refine jx_getr jc_11 (j := 9) (by decide) rfl jwF_X11_34 dX11_lay_111 hk72 hb80 ?_
        refine jx_iload_n 3 dX11_lay_114 rfl rfl ?_
        refine jx_iload_n 4 dX11_lay_115 rfl rfl ?_
        refine jx_iconst (v := 1) dX11_lay_116 (by decide) ?_
        refine jx_icmp_ne (tgt := 128) dX11_lay_117 (by decide) (fun _ => ?_) (fun z9 => absurd z9 c77)
        refine jx_iconst (v := 0) dX11_lay_128 (by decide) ?_
        obtain ⟨hk81, h⟩ := h
        obtain ⟨hi82, h⟩ := h
        refine jx_iast dX11_lay_129 hk81 hi82 ?_
        refine jx_iload_n 4 dX11_lay_130 rfl rfl ?_
        refine jx_iconst (v := 2) dX11_lay_131 (by decide) ?_
        refine jx_icmp_ne (tgt := 187) dX11_lay_132 (by decide) (fun _ => ?_) (fun z9 => absurd z9 c71)
        refine jx_iload 0 dX11_lay_187 rfl ?_
        exact jx_iret dX11_lay_189 rfl rfl (jle rfl) (jle rfl) ⟨_, rfl, h⟩
      replace h := h.1 c77
      refine jx_aload_n 2 dX11_lay_99 rfl rfl ?_
      refine jx_iload_n 5 dX11_lay_100 rfl rfl ?_
      refine jx_iconst (v := 0) dX11_lay_101 (by decide) ?_
      refine jx_callVi (M' := mX11_of) (As := [.int x3, .int 0]) jo_X11_of jc_11 rfl jwM_X11_97 jwN_X11_of jwX_X11_of dX11_lay_102 (jRok_m _ _ _) rfl (jle rfl) ⟨jle rfl, jle rfl⟩ hk72 h (fun r84 S83 h => ?_)
      refine jx_goto (tgt := 109) dX11_lay_105 (by decide) ?_
      obtain ⟨hk85, h⟩ := h
      obtain ⟨hi86, h⟩ := h
      refine jx_iast dX11_lay_109 hk85 hi86 ?_
      refine jx_aload_n 2 dX11_lay_110 rfl rfl ?_
      obtain ⟨hk87, h⟩ := h
      obtain ⟨b88, hb88, h⟩ := h
      refine jx_getr jc_11 (j := 9) (by decide) rfl jwF_X11_34 dX11_lay_111 hk87 hb88 ?_
      refine jx_iload_n 3 dX11_lay_114 rfl rfl ?_
      refine jx_iload_n 4 dX11_lay_115 rfl rfl ?_
      refine jx_iconst (v := 1) dX11_lay_116 (by decide) ?_
      refine jx_icmp_ne (tgt := 128) dX11_lay_117 (by decide) (fun z9 => absurd c77 z9) (fun _ => ?_)
      refine jx_aload_n 2 dX11_lay_120 rfl rfl ?_
      refine jx_iload_n 5 dX11_lay_121 rfl rfl ?_
      refine jx_callVi (M' := mX11_worth) (As := [.int x3]) jo_X11_worth jc_11 rfl jwM_X11_119 jwN_X11_worth jwX_X11_worth dX11_lay_122 (jRok_m _ _ _) rfl (jle rfl) ⟨jle rfl, jle rfl⟩ hk87 h (fun r90 S89 h => ?_)
      refine jx_goto (tgt := 129) dX11_lay_125 (by decide) ?_
      obtain ⟨hk91, h⟩ := h
      obtain ⟨hi92, h⟩ := h
      refine jx_iast dX11_lay_129 hk91 hi92 ?_
      refine jx_iload_n 4 dX11_lay_130 rfl rfl ?_
      refine jx_iconst (v := 2) dX11_lay_131 (by decide) ?_
      refine jx_icmp_ne (tgt := 187) dX11_lay_132 (by decide) (fun _ => ?_) (fun z9 => absurd z9 c71)
      refine jx_iload 0 dX11_lay_187 rfl ?_
      exact jx_iret dX11_lay_189 rfl rfl (jle rfl) (jle rfl) ⟨_, rfl, h⟩
    replace h := h.1 c71
    refine jx_aload_n 1 dX11_lay_61 rfl rfl ?_
    obtain ⟨hk93, h⟩ := h
    obtain ⟨b94, hb94, h⟩ := h
    refine jx_getr jc_11 (j := 4) (by decide) rfl jwF_X11_19 dX11_lay_62 hk93 hb94 ?_
    refine jx_iload_n 4 dX11_lay_65 rfl rfl ?_
    obtain ⟨hk95, h⟩ := h
    obtain ⟨hi96, h⟩ := h
    refine jx_iald dX11_lay_66 hk95 hi96 ?_
    refine jx_if_ge (tgt := 74) dX11_lay_67 (by decide) (fun c97 => ?_) (fun c97 => ?_)
    · replace h := h.1 c97
      refine jx_aload_n 1 dX11_lay_74 rfl rfl ?_
      obtain ⟨b98, hb98, h⟩ := h
      refine jx_getr jc_11 (j := 7) (by decide) rfl jwF_X11_28 dX11_lay_75 hk93 hb98 ?_
      refine jx_iload_n 2 dX11_lay_78 rfl rfl ?_
      obtain ⟨hk99, h⟩ := h
      obtain ⟨hi100, h⟩ := h
      refine jx_iald dX11_lay_79 hk99 hi100 ?_
      refine jx_istore (lv1 := [(5, .int (ji S b98 (Int32.toNatClampNeg x1))), (4, .int 1), (0, .ref a0), (1, .int x1), (2, .int x2), (3, .int x3)]) dX11_lay_80 (by decide) rfl ?_
      refine jx_aload_n 2 dX11_lay_82 rfl rfl ?_
      refine jx_getr jc_11 (j := 7) (by decide) rfl jwF_X11_28 dX11_lay_83 hk93 hb98 ?_
      refine jx_iload_n 3 dX11_lay_86 rfl rfl ?_
      refine jx_iload_n 4 dX11_lay_87 rfl rfl ?_
      refine jx_iast dX11_lay_88 hk99 hi100 ?_
      refine jx_aload_n 2 dX11_lay_89 rfl rfl ?_
      obtain ⟨b101, hb101, h⟩ := h
      refine jx_getr jc_11 (j := 8) (by decide) rfl jwF_X11_31 dX11_lay_90 hk93 hb101 ?_
      refine jx_iload_n 3 dX11_lay_93 rfl rfl ?_
      refine jx_iload_n 4 dX11_lay_94 rfl rfl ?_
      refine jx_iconst (v := 1) dX11_lay_95 (by decide) ?_
      refine jx_icmp_ne (tgt := 108) dX11_lay_96 (by decide) (fun c102 => ?_) (fun c102 => ?_)
      · replace h := h.2 c102
        refine jx_iload_n 5 dX11_lay_108 rfl rfl ?_
        obtain ⟨hk103, h⟩ := h
        obtain ⟨hi104, h⟩ := h
        refine jx_iast dX11_lay_109 hk103 hi104 ?_
        refine jx_aload_n 2 dX11_lay_110 rfl rfl ?_
        obtain ⟨b105, hb105, h⟩ := h
        refine jx_getr jc_11 (j := 9) (by decide) rfl jwF_X11_34 dX11_lay_111 hk93 hb105 ?_
        refine jx_iload_n 3 dX11_lay_114 rfl rfl ?_
        refine jx_iload_n 4 dX11_lay_115 rfl rfl ?_
        refine jx_iconst (v := 1) dX11_lay_116 (by decide) ?_
        refine jx_icmp_ne (tgt := 128) dX11_lay_117 (by decide) (fun _ => ?_) (fun z9 => absurd z9 c102)
        refine jx_iconst (v := 0) dX11_lay_128 (by decide) ?_
        obtain ⟨hk106, h⟩ := h
        obtain ⟨hi107, h⟩ := h
        refine jx_iast dX11_lay_129 hk106 hi107 ?_
        refine jx_iload_n 4 dX11_lay_130 rfl rfl ?_
        refine jx_iconst (v := 2) dX11_lay_131 (by decide) ?_
        refine jx_icmp_ne (tgt := 187) dX11_lay_132 (by decide) (fun z9 => absurd c71 z9) (fun _ => ?_)
        refine jx_aload_n 2 dX11_lay_135 rfl rfl ?_
        obtain ⟨b108, hb108, h⟩ := h
        refine jx_getr jc_11 (j := 10) (by decide) rfl jwF_X11_37 dX11_lay_136 hk93 hb108 ?_
        refine jx_iload_n 3 dX11_lay_139 rfl rfl ?_
        refine jx_aload_n 2 dX11_lay_140 rfl rfl ?_
        obtain ⟨b109, hb109, h⟩ := h
        refine jx_getr jc_11 (j := 5) (by decide) rfl jwF_X11_22 dX11_lay_141 hk93 hb109 ?_
        refine jx_iload_n 5 dX11_lay_144 rfl rfl ?_
        obtain ⟨hk110, h⟩ := h
        obtain ⟨hi111, h⟩ := h
        refine jx_iald dX11_lay_145 hk110 hi111 ?_
        obtain ⟨hk112, h⟩ := h
        obtain ⟨hi113, h⟩ := h
        refine jx_iast dX11_lay_146 hk112 hi113 ?_
        refine jx_iconst (v := 0) dX11_lay_147 (by decide) ?_
        refine jx_istore (lv1 := [(6, .int 0), (5, .int (ji S b98 (Int32.toNatClampNeg x1))), (4, .int 1), (0, .ref a0), (1, .int x1), (2, .int x2), (3, .int x3)]) dX11_lay_148 (by decide) rfl ?_
        exact jx_lv [3, 4, 6, 1, 0] rfl h
      replace h := h.1 c102
      refine jx_aload_n 2 dX11_lay_99 rfl rfl ?_
      refine jx_iload_n 5 dX11_lay_100 rfl rfl ?_
      refine jx_iconst (v := 0) dX11_lay_101 (by decide) ?_
      refine jx_callVi (M' := mX11_of) (As := [.int x3, .int 0]) jo_X11_of jc_11 rfl jwM_X11_97 jwN_X11_of jwX_X11_of dX11_lay_102 (jRok_m _ _ _) rfl (jle rfl) ⟨jle rfl, jle rfl⟩ hk93 h (fun r115 S114 h => ?_)
      refine jx_goto (tgt := 109) dX11_lay_105 (by decide) ?_
      obtain ⟨hk116, h⟩ := h
      obtain ⟨hi117, h⟩ := h
      refine jx_iast dX11_lay_109 hk116 hi117 ?_
      refine jx_aload_n 2 dX11_lay_110 rfl rfl ?_
      obtain ⟨hk118, h⟩ := h
      obtain ⟨b119, hb119, h⟩ := h
      refine jx_getr jc_11 (j := 9) (by decide) rfl jwF_X11_34 dX11_lay_111 hk118 hb119 ?_
      refine jx_iload_n 3 dX11_lay_114 rfl rfl ?_
      refine jx_iload_n 4 dX11_lay_115 rfl rfl ?_
      refine jx_iconst (v := 1) dX11_lay_116 (by decide) ?_
      refine jx_icmp_ne (tgt := 128) dX11_lay_117 (by decide) (fun z9 => absurd c102 z9) (fun _ => ?_)
      refine jx_aload_n 2 dX11_lay_120 rfl rfl ?_
      refine jx_iload_n 5 dX11_lay_121 rfl rfl ?_
      refine jx_callVi (M' := mX11_worth) (As := [.int x3]) jo_X11_worth jc_11 rfl jwM_X11_119 jwN_X11_worth jwX_X11_worth dX11_lay_122 (jRok_m _ _ _) rfl (jle rfl) ⟨jle rfl, jle rfl⟩ hk118 h (fun r121 S120 h => ?_)
      refine jx_goto (tgt := 129) dX11_lay_125 (by decide) ?_
      obtain ⟨hk122, h⟩ := h
      obtain ⟨hi123, h⟩ := h
      refine jx_iast dX11_lay_129 hk122 hi123 ?_
      refine jx_iload_n 4 dX11_lay_130 rfl rfl ?_
      refine jx_iconst (v := 2) dX11_lay_131 (by decide) ?_
      refine jx_icmp_ne (tgt := 187) dX11_lay_132 (by decide) (fun z9 => absurd c71 z9) (fun _ => ?_)
      refine jx_aload_n 2 dX11_lay_135 rfl rfl ?_
      obtain ⟨hk124, h⟩ := h
      obtain ⟨b125, hb125, h⟩ := h
      refine jx_getr jc_11 (j := 10) (by decide) rfl jwF_X11_37 dX11_lay_136 hk124 hb125 ?_
      refine jx_iload_n 3 dX11_lay_139 rfl rfl ?_
      refine jx_aload_n 2 dX11_lay_140 rfl rfl ?_
      obtain ⟨b126, hb126, h⟩ := h
      refine jx_getr jc_11 (j := 5) (by decide) rfl jwF_X11_22 dX11_lay_141 hk124 hb126 ?_
      refine jx_iload_n 5 dX11_lay_144 rfl rfl ?_
      obtain ⟨hk127, h⟩ := h
      obtain ⟨hi128, h⟩ := h
      refine jx_iald dX11_lay_145 hk127 hi128 ?_
      obtain ⟨hk129, h⟩ := h
      obtain ⟨hi130, h⟩ := h
      refine jx_iast dX11_lay_146 hk129 hi130 ?_
      refine jx_iconst (v := 0) dX11_lay_147 (by decide) ?_
      refine jx_istore (lv1 := [(6, .int 0), (5, .int (ji S b98 (Int32.toNatClampNeg x1))), (4, .int 1), (0, .ref a0), (1, .int x1), (2, .int x2), (3, .int x3)]) dX11_lay_148 (by decide) rfl ?_
      exact jx_lv [3, 4, 6, 1, 0] rfl h
    replace h := h.2 c97
    refine jx_ldcw jwC_X11_320 dX11_lay_70 ?_
    exact jx_iret dX11_lay_73 rfl rfl (jle rfl) (jle rfl) ⟨_, rfl, h⟩
  replace h := h.2 c66
  refine jx_iload_n 2 dX11_lay_9 rfl rfl ?_
  refine jx_iconst (v := 1) dX11_lay_10 (by decide) ?_
  refine jx_icmp_ne (tgt := 22) dX11_lay_11 (by decide) (fun c131 => ?_) (fun c131 => ?_)
  · replace h := h.2 c131
    refine jx_iload_n 2 dX11_lay_22 rfl rfl ?_
    refine jx_iconst (v := 2) dX11_lay_23 (by decide) ?_
    refine jx_icmp_ne (tgt := 38) dX11_lay_24 (by decide) (fun c132 => ?_) (fun c132 => ?_)
    · replace h := h.2 c132
      refine jx_iconst (v := 0) dX11_lay_38 (by decide) ?_
      refine jx_istore (lv1 := [(4, .int 0), (0, .ref a0), (1, .int x1), (2, .int x2), (3, .int x3)]) dX11_lay_39 (by decide) rfl ?_
      refine jx_iload_n 2 dX11_lay_41 rfl rfl ?_
      refine jx_callSi (M' := mX11_isSlot) (As := [.int x1]) jo_X11_isSlot jwM_X11_329 jwS_X11_isSlot dX11_lay_42 (jRok_m _ _ _) rfl (jle rfl) ⟨jle rfl, jle rfl⟩ (c_X11_isSlot (Q := fun v S' => v = (jisslot x1) ∧ S = S') ⟨rfl, rfl⟩) (fun r133 S134 hq135 => ?_)
      obtain ⟨rfl, rfl⟩ := hq135
      refine jx_if_eq (tgt := 53) dX11_lay_45 (by decide) (fun c136 => ?_) (fun c136 => ?_)
      · replace h := h.1 c136
        refine jx_ldc jwC_X11_87 dX11_lay_53 ?_
        exact jx_iret dX11_lay_55 rfl rfl (jle rfl) (jle rfl) ⟨_, rfl, h⟩
      replace h := h.2 c136
      refine jx_iload 0 dX11_lay_48 rfl ?_
      refine jx_if_ne (tgt := 56) dX11_lay_50 (by decide) (fun z9 => absurd z9 (by decide)) (fun _ => ?_)
      refine jx_ldc jwC_X11_87 dX11_lay_53 ?_
      exact jx_iret dX11_lay_55 rfl rfl (jle rfl) (jle rfl) ⟨_, rfl, h⟩
    replace h := h.1 c132
    refine jx_iload_n 3 dX11_lay_27 rfl rfl ?_
    refine jx_callSi (M' := mX11_isSheet) (As := [.int x3]) jo_X11_isSheet jwM_X11_314 jwS_X11_isSheet dX11_lay_28 (jRok_m _ _ _) rfl (jle rfl) ⟨jle rfl, jle rfl⟩ (c_X11_isSheet (Q := fun v S' => v = (jissheet x3) ∧ S = S') ⟨rfl, rfl⟩) (fun r137 S138 hq139 => ?_)
    obtain ⟨rfl, rfl⟩ := hq139
    refine jx_if_eq (tgt := 38) dX11_lay_31 (by decide) (fun c140 => ?_) (fun c140 => ?_)
    · replace h := h.1 c140
      refine jx_iconst (v := 0) dX11_lay_38 (by decide) ?_
      refine jx_istore (lv1 := [(4, .int 0), (0, .ref a0), (1, .int x1), (2, .int x2), (3, .int x3)]) dX11_lay_39 (by decide) rfl ?_
      refine jx_iload_n 2 dX11_lay_41 rfl rfl ?_
      refine jx_callSi (M' := mX11_isSlot) (As := [.int x1]) jo_X11_isSlot jwM_X11_329 jwS_X11_isSlot dX11_lay_42 (jRok_m _ _ _) rfl (jle rfl) ⟨jle rfl, jle rfl⟩ (c_X11_isSlot (Q := fun v S' => v = (jisslot x1) ∧ S = S') ⟨rfl, rfl⟩) (fun r141 S142 hq143 => ?_)
      obtain ⟨rfl, rfl⟩ := hq143
      refine jx_if_eq (tgt := 53) dX11_lay_45 (by decide) (fun c144 => ?_) (fun c144 => ?_)
      · replace h := h.1 c144
        refine jx_ldc jwC_X11_87 dX11_lay_53 ?_
        exact jx_iret dX11_lay_55 rfl rfl (jle rfl) (jle rfl) ⟨_, rfl, h⟩
      replace h := h.2 c144
      refine jx_iload 0 dX11_lay_48 rfl ?_
      refine jx_if_ne (tgt := 56) dX11_lay_50 (by decide) (fun z9 => absurd z9 (by decide)) (fun _ => ?_)
      refine jx_ldc jwC_X11_87 dX11_lay_53 ?_
      exact jx_iret dX11_lay_55 rfl rfl (jle rfl) (jle rfl) ⟨_, rfl, h⟩
    replace h := h.2 c140
    refine jx_iconst (v := 1) dX11_lay_34 (by decide) ?_
    refine jx_goto (tgt := 39) dX11_lay_35 (by decide) ?_
    refine jx_istore (lv1 := [(4, .int 1), (0, .ref a0), (1, .int x1), (2, .int x2), (3, .int x3)]) dX11_lay_39 (by decide) rfl ?_
    refine jx_iload_n 2 dX11_lay_41 rfl rfl ?_
    refine jx_callSi (M' := mX11_isSlot) (As := [.int x1]) jo_X11_isSlot jwM_X11_329 jwS_X11_isSlot dX11_lay_42 (jRok_m _ _ _) rfl (jle rfl) ⟨jle rfl, jle rfl⟩ (c_X11_isSlot (Q := fun v S' => v = (jisslot x1) ∧ S = S') ⟨rfl, rfl⟩) (fun r145 S146 hq147 => ?_)
    obtain ⟨rfl, rfl⟩ := hq147
    refine jx_if_eq (tgt := 53) dX11_lay_45 (by decide) (fun c148 => ?_) (fun c148 => ?_)
    · replace h := h.1 c148
      refine jx_ldc jwC_X11_87 dX11_lay_53 ?_
      exact jx_iret dX11_lay_55 rfl rfl (jle rfl) (jle rfl) ⟨_, rfl, h⟩
    replace h := h.2 c148
    refine jx_iload 0 dX11_lay_48 rfl ?_
    refine jx_if_ne (tgt := 56) dX11_lay_50 (by decide) (fun _ => ?_) (fun z9 => absurd z9 (by decide))
    refine jx_iload_n 3 dX11_lay_56 rfl rfl ?_
    refine jx_iconst (v := 2) dX11_lay_57 (by decide) ?_
    refine jx_icmp_ne (tgt := 74) dX11_lay_58 (by decide) (fun z9 => absurd c132 z9) (fun _ => ?_)
    refine jx_aload_n 1 dX11_lay_61 rfl rfl ?_
    obtain ⟨hk149, h⟩ := h
    obtain ⟨b150, hb150, h⟩ := h
    refine jx_getr jc_11 (j := 4) (by decide) rfl jwF_X11_19 dX11_lay_62 hk149 hb150 ?_
    refine jx_iload_n 4 dX11_lay_65 rfl rfl ?_
    obtain ⟨hk151, h⟩ := h
    obtain ⟨hi152, h⟩ := h
    refine jx_iald dX11_lay_66 hk151 hi152 ?_
    refine jx_if_ge (tgt := 74) dX11_lay_67 (by decide) (fun c153 => ?_) (fun c153 => ?_)
    · replace h := h.1 c153
      refine jx_aload_n 1 dX11_lay_74 rfl rfl ?_
      obtain ⟨b154, hb154, h⟩ := h
      refine jx_getr jc_11 (j := 7) (by decide) rfl jwF_X11_28 dX11_lay_75 hk149 hb154 ?_
      refine jx_iload_n 2 dX11_lay_78 rfl rfl ?_
      obtain ⟨hk155, h⟩ := h
      obtain ⟨hi156, h⟩ := h
      refine jx_iald dX11_lay_79 hk155 hi156 ?_
      refine jx_istore (lv1 := [(5, .int (ji S b154 (Int32.toNatClampNeg x1))), (4, .int 1), (0, .ref a0), (1, .int x1), (2, .int x2), (3, .int x3)]) dX11_lay_80 (by decide) rfl ?_
      refine jx_aload_n 2 dX11_lay_82 rfl rfl ?_
      refine jx_getr jc_11 (j := 7) (by decide) rfl jwF_X11_28 dX11_lay_83 hk149 hb154 ?_
      refine jx_iload_n 3 dX11_lay_86 rfl rfl ?_
      refine jx_iload_n 4 dX11_lay_87 rfl rfl ?_
      refine jx_iast dX11_lay_88 hk155 hi156 ?_
      refine jx_aload_n 2 dX11_lay_89 rfl rfl ?_
      obtain ⟨b157, hb157, h⟩ := h
      refine jx_getr jc_11 (j := 8) (by decide) rfl jwF_X11_31 dX11_lay_90 hk149 hb157 ?_
      refine jx_iload_n 3 dX11_lay_93 rfl rfl ?_
      refine jx_iload_n 4 dX11_lay_94 rfl rfl ?_
      refine jx_iconst (v := 1) dX11_lay_95 (by decide) ?_
      refine jx_icmp_ne (tgt := 108) dX11_lay_96 (by decide) (fun _ => ?_) (fun z9 => absurd z9 c131)
      refine jx_iload_n 5 dX11_lay_108 rfl rfl ?_
      obtain ⟨hk158, h⟩ := h
      obtain ⟨hi159, h⟩ := h
      refine jx_iast dX11_lay_109 hk158 hi159 ?_
      refine jx_aload_n 2 dX11_lay_110 rfl rfl ?_
      obtain ⟨b160, hb160, h⟩ := h
      refine jx_getr jc_11 (j := 9) (by decide) rfl jwF_X11_34 dX11_lay_111 hk149 hb160 ?_
      refine jx_iload_n 3 dX11_lay_114 rfl rfl ?_
      refine jx_iload_n 4 dX11_lay_115 rfl rfl ?_
      refine jx_iconst (v := 1) dX11_lay_116 (by decide) ?_
      refine jx_icmp_ne (tgt := 128) dX11_lay_117 (by decide) (fun _ => ?_) (fun z9 => absurd z9 c131)
      refine jx_iconst (v := 0) dX11_lay_128 (by decide) ?_
      obtain ⟨hk161, h⟩ := h
      obtain ⟨hi162, h⟩ := h
      refine jx_iast dX11_lay_129 hk161 hi162 ?_
      refine jx_iload_n 4 dX11_lay_130 rfl rfl ?_
      refine jx_iconst (v := 2) dX11_lay_131 (by decide) ?_
      refine jx_icmp_ne (tgt := 187) dX11_lay_132 (by decide) (fun z9 => absurd c132 z9) (fun _ => ?_)
      refine jx_aload_n 2 dX11_lay_135 rfl rfl ?_
      obtain ⟨b163, hb163, h⟩ := h
      refine jx_getr jc_11 (j := 10) (by decide) rfl jwF_X11_37 dX11_lay_136 hk149 hb163 ?_
      refine jx_iload_n 3 dX11_lay_139 rfl rfl ?_
      refine jx_aload_n 2 dX11_lay_140 rfl rfl ?_
      obtain ⟨b164, hb164, h⟩ := h
      refine jx_getr jc_11 (j := 5) (by decide) rfl jwF_X11_22 dX11_lay_141 hk149 hb164 ?_
      refine jx_iload_n 5 dX11_lay_144 rfl rfl ?_
      obtain ⟨hk165, h⟩ := h
      obtain ⟨hi166, h⟩ := h
      refine jx_iald dX11_lay_145 hk165 hi166 ?_
      obtain ⟨hk167, h⟩ := h
      obtain ⟨hi168, h⟩ := h
      refine jx_iast dX11_lay_146 hk167 hi168 ?_
      refine jx_iconst (v := 0) dX11_lay_147 (by decide) ?_
      refine jx_istore (lv1 := [(6, .int 0), (5, .int (ji S b154 (Int32.toNatClampNeg x1))), (4, .int 1), (0, .ref a0), (1, .int x1), (2, .int x2), (3, .int x3)]) dX11_lay_148 (by decide) rfl ?_
      exact jx_lv [3, 4, 6, 1, 0] rfl h
    replace h := h.2 c153
    refine jx_ldcw jwC_X11_320 dX11_lay_70 ?_
    exact jx_iret dX11_lay_73 rfl rfl (jle rfl) (jle rfl) ⟨_, rfl, h⟩
  replace h := h.1 c131
  refine jx_aload_n 0 dX11_lay_14 rfl rfl ?_
  refine jx_iload_n 3 dX11_lay_15 rfl rfl ?_
  obtain ⟨hk169, h⟩ := h
  refine jx_callVi (M' := mX11_isMaster) (As := [.int x3]) jo_X11_isMaster jc_11 rfl jwM_X11_111 jwN_X11_isMaster jwX_X11_isMaster dX11_lay_16 (jRok_m _ _ _) rfl (jle rfl) ⟨jle rfl, jle rfl⟩ hk169 h (fun r171 S170 h => ?_)
  refine jx_if_ne (tgt := 34) dX11_lay_19 (by decide) (fun c172 => ?_) (fun c172 => ?_)
  · replace h := h.2 c172
    refine jx_iconst (v := 1) dX11_lay_34 (by decide) ?_
    refine jx_goto (tgt := 39) dX11_lay_35 (by decide) ?_
    refine jx_istore (lv1 := [(4, .int 1), (0, .ref a0), (1, .int x1), (2, .int x2), (3, .int x3)]) dX11_lay_39 (by decide) rfl ?_
    refine jx_iload_n 2 dX11_lay_41 rfl rfl ?_
    refine jx_callSi (M' := mX11_isSlot) (As := [.int x1]) jo_X11_isSlot jwM_X11_329 jwS_X11_isSlot dX11_lay_42 (jRok_m _ _ _) rfl (jle rfl) ⟨jle rfl, jle rfl⟩ (c_X11_isSlot (Q := fun v S' => v = (jisslot x1) ∧ S170 = S') ⟨rfl, rfl⟩) (fun r173 S174 hq175 => ?_)
    obtain ⟨rfl, rfl⟩ := hq175
    refine jx_if_eq (tgt := 53) dX11_lay_45 (by decide) (fun c176 => ?_) (fun c176 => ?_)
    · replace h := h.1 c176
      refine jx_ldc jwC_X11_87 dX11_lay_53 ?_
      exact jx_iret dX11_lay_55 rfl rfl (jle rfl) (jle rfl) ⟨_, rfl, h⟩
    replace h := h.2 c176
    refine jx_iload 0 dX11_lay_48 rfl ?_
    refine jx_if_ne (tgt := 56) dX11_lay_50 (by decide) (fun _ => ?_) (fun z9 => absurd z9 (by decide))
    refine jx_iload_n 3 dX11_lay_56 rfl rfl ?_
    refine jx_iconst (v := 2) dX11_lay_57 (by decide) ?_
    refine jx_icmp_ne (tgt := 74) dX11_lay_58 (by decide) (fun c177 => ?_) (fun c177 => ?_)
    · replace h := h.2 c177
      refine jx_aload_n 1 dX11_lay_74 rfl rfl ?_
      obtain ⟨hk178, h⟩ := h
      obtain ⟨b179, hb179, h⟩ := h
      refine jx_getr jc_11 (j := 7) (by decide) rfl jwF_X11_28 dX11_lay_75 hk178 hb179 ?_
      refine jx_iload_n 2 dX11_lay_78 rfl rfl ?_
      obtain ⟨hk180, h⟩ := h
      obtain ⟨hi181, h⟩ := h
      refine jx_iald dX11_lay_79 hk180 hi181 ?_
      refine jx_istore (lv1 := [(5, .int (ji S170 b179 (Int32.toNatClampNeg x1))), (4, .int 1), (0, .ref a0), (1, .int x1), (2, .int x2), (3, .int x3)]) dX11_lay_80 (by decide) rfl ?_
      refine jx_aload_n 2 dX11_lay_82 rfl rfl ?_
      refine jx_getr jc_11 (j := 7) (by decide) rfl jwF_X11_28 dX11_lay_83 hk178 hb179 ?_
      refine jx_iload_n 3 dX11_lay_86 rfl rfl ?_
      refine jx_iload_n 4 dX11_lay_87 rfl rfl ?_
      refine jx_iast dX11_lay_88 hk180 hi181 ?_
      refine jx_aload_n 2 dX11_lay_89 rfl rfl ?_
      obtain ⟨b182, hb182, h⟩ := h
      refine jx_getr jc_11 (j := 8) (by decide) rfl jwF_X11_31 dX11_lay_90 hk178 hb182 ?_
      refine jx_iload_n 3 dX11_lay_93 rfl rfl ?_
      refine jx_iload_n 4 dX11_lay_94 rfl rfl ?_
      refine jx_iconst (v := 1) dX11_lay_95 (by decide) ?_
      refine jx_icmp_ne (tgt := 108) dX11_lay_96 (by decide) (fun z9 => absurd c131 z9) (fun _ => ?_)
      refine jx_aload_n 2 dX11_lay_99 rfl rfl ?_
      refine jx_iload_n 5 dX11_lay_100 rfl rfl ?_
      refine jx_iconst (v := 0) dX11_lay_101 (by decide) ?_
      refine jx_callVi (M' := mX11_of) (As := [.int x3, .int 0]) jo_X11_of jc_11 rfl jwM_X11_97 jwN_X11_of jwX_X11_of dX11_lay_102 (jRok_m _ _ _) rfl (jle rfl) ⟨jle rfl, jle rfl⟩ hk178 h (fun r184 S183 h => ?_)
      refine jx_goto (tgt := 109) dX11_lay_105 (by decide) ?_
      obtain ⟨hk185, h⟩ := h
      obtain ⟨hi186, h⟩ := h
      refine jx_iast dX11_lay_109 hk185 hi186 ?_
      refine jx_aload_n 2 dX11_lay_110 rfl rfl ?_
      obtain ⟨hk187, h⟩ := h
      obtain ⟨b188, hb188, h⟩ := h
      refine jx_getr jc_11 (j := 9) (by decide) rfl jwF_X11_34 dX11_lay_111 hk187 hb188 ?_
      refine jx_iload_n 3 dX11_lay_114 rfl rfl ?_
      refine jx_iload_n 4 dX11_lay_115 rfl rfl ?_
      refine jx_iconst (v := 1) dX11_lay_116 (by decide) ?_
      refine jx_icmp_ne (tgt := 128) dX11_lay_117 (by decide) (fun z9 => absurd c131 z9) (fun _ => ?_)
      refine jx_aload_n 2 dX11_lay_120 rfl rfl ?_
      refine jx_iload_n 5 dX11_lay_121 rfl rfl ?_
      refine jx_callVi (M' := mX11_worth) (As := [.int x3]) jo_X11_worth jc_11 rfl jwM_X11_119 jwN_X11_worth jwX_X11_worth dX11_lay_122 (jRok_m _ _ _) rfl (jle rfl) ⟨jle rfl, jle rfl⟩ hk187 h (fun r190 S189 h => ?_)
      refine jx_goto (tgt := 129) dX11_lay_125 (by decide) ?_
      obtain ⟨hk191, h⟩ := h
      obtain ⟨hi192, h⟩ := h
      refine jx_iast dX11_lay_129 hk191 hi192 ?_
      refine jx_iload_n 4 dX11_lay_130 rfl rfl ?_
      refine jx_iconst (v := 2) dX11_lay_131 (by decide) ?_
      refine jx_icmp_ne (tgt := 187) dX11_lay_132 (by decide) (fun _ => ?_) (fun z9 => absurd z9 c177)
      refine jx_iload 0 dX11_lay_187 rfl ?_
      exact jx_iret dX11_lay_189 rfl rfl (jle rfl) (jle rfl) ⟨_, rfl, h⟩
    replace h := h.1 c177
    refine jx_aload_n 1 dX11_lay_61 rfl rfl ?_
    obtain ⟨hk193, h⟩ := h
    obtain ⟨b194, hb194, h⟩ := h
    refine jx_getr jc_11 (j := 4) (by decide) rfl jwF_X11_19 dX11_lay_62 hk193 hb194 ?_
    refine jx_iload_n 4 dX11_lay_65 rfl rfl ?_
    obtain ⟨hk195, h⟩ := h
    obtain ⟨hi196, h⟩ := h
    refine jx_iald dX11_lay_66 hk195 hi196 ?_
    refine jx_if_ge (tgt := 74) dX11_lay_67 (by decide) (fun c197 => ?_) (fun c197 => ?_)
    · replace h := h.1 c197
      refine jx_aload_n 1 dX11_lay_74 rfl rfl ?_
      obtain ⟨b198, hb198, h⟩ := h
      refine jx_getr jc_11 (j := 7) (by decide) rfl jwF_X11_28 dX11_lay_75 hk193 hb198 ?_
      refine jx_iload_n 2 dX11_lay_78 rfl rfl ?_
      obtain ⟨hk199, h⟩ := h
      obtain ⟨hi200, h⟩ := h
      refine jx_iald dX11_lay_79 hk199 hi200 ?_
      refine jx_istore (lv1 := [(5, .int (ji S170 b198 (Int32.toNatClampNeg x1))), (4, .int 1), (0, .ref a0), (1, .int x1), (2, .int x2), (3, .int x3)]) dX11_lay_80 (by decide) rfl ?_
      refine jx_aload_n 2 dX11_lay_82 rfl rfl ?_
      refine jx_getr jc_11 (j := 7) (by decide) rfl jwF_X11_28 dX11_lay_83 hk193 hb198 ?_
      refine jx_iload_n 3 dX11_lay_86 rfl rfl ?_
      refine jx_iload_n 4 dX11_lay_87 rfl rfl ?_
      refine jx_iast dX11_lay_88 hk199 hi200 ?_
      refine jx_aload_n 2 dX11_lay_89 rfl rfl ?_
      obtain ⟨b201, hb201, h⟩ := h
      refine jx_getr jc_11 (j := 8) (by decide) rfl jwF_X11_31 dX11_lay_90 hk193 hb201 ?_
      refine jx_iload_n 3 dX11_lay_93 rfl rfl ?_
      refine jx_iload_n 4 dX11_lay_94 rfl rfl ?_
      refine jx_iconst (v := 1) dX11_lay_95 (by decide) ?_
      refine jx_icmp_ne (tgt := 108) dX11_lay_96 (by decide) (fun z9 => absurd c131 z9) (fun _ => ?_)
      refine jx_aload_n 2 dX11_lay_99 rfl rfl ?_
      refine jx_iload_n 5 dX11_lay_100 rfl rfl ?_
      refine jx_iconst (v := 0) dX11_lay_101 (by decide) ?_
      refine jx_callVi (M' := mX11_of) (As := [.int x3, .int 0]) jo_X11_of jc_11 rfl jwM_X11_97 jwN_X11_of jwX_X11_of dX11_lay_102 (jRok_m _ _ _) rfl (jle rfl) ⟨jle rfl, jle rfl⟩ hk193 h (fun r203 S202 h => ?_)
      refine jx_goto (tgt := 109) dX11_lay_105 (by decide) ?_
      obtain ⟨hk204, h⟩ := h
      obtain ⟨hi205, h⟩ := h
      refine jx_iast dX11_lay_109 hk204 hi205 ?_
      refine jx_aload_n 2 dX11_lay_110 rfl rfl ?_
      obtain ⟨hk206, h⟩ := h
      obtain ⟨b207, hb207, h⟩ := h
      refine jx_getr jc_11 (j := 9) (by decide) rfl jwF_X11_34 dX11_lay_111 hk206 hb207 ?_
      refine jx_iload_n 3 dX11_lay_114 rfl rfl ?_
      refine jx_iload_n 4 dX11_lay_115 rfl rfl ?_
      refine jx_iconst (v := 1) dX11_lay_116 (by decide) ?_
      refine jx_icmp_ne (tgt := 128) dX11_lay_117 (by decide) (fun z9 => absurd c131 z9) (fun _ => ?_)
      refine jx_aload_n 2 dX11_lay_120 rfl rfl ?_
      refine jx_iload_n 5 dX11_lay_121 rfl rfl ?_
      refine jx_callVi (M' := mX11_worth) (As := [.int x3]) jo_X11_worth jc_11 rfl jwM_X11_119 jwN_X11_worth jwX_X11_worth dX11_lay_122 (jRok_m _ _ _) rfl (jle rfl) ⟨jle rfl, jle rfl⟩ hk206 h (fun r209 S208 h => ?_)
      refine jx_goto (tgt := 129) dX11_lay_125 (by decide) ?_
      obtain ⟨hk210, h⟩ := h
      obtain ⟨hi211, h⟩ := h
      refine jx_iast dX11_lay_129 hk210 hi211 ?_
      refine jx_iload_n 4 dX11_lay_130 rfl rfl ?_
      refine jx_iconst (v := 2) dX11_lay_131 (by decide) ?_
      refine jx_icmp_ne (tgt := 187) dX11_lay_132 (by decide) (fun z9 => absurd c177 z9) (fun _ => ?_)
      refine jx_aload_n 2 dX11_lay_135 rfl rfl ?_
      obtain ⟨hk212, h⟩ := h
      obtain ⟨b213, hb213, h⟩ := h
      refine jx_getr jc_11 (j := 10) (by decide) rfl jwF_X11_37 dX11_lay_136 hk212 hb213 ?_
      refine jx_iload_n 3 dX11_lay_139 rfl rfl ?_
      refine jx_aload_n 2 dX11_lay_140 rfl rfl ?_
      obtain ⟨b214, hb214, h⟩ := h
      refine jx_getr jc_11 (j := 5) (by decide) rfl jwF_X11_22 dX11_lay_141 hk212 hb214 ?_
      refine jx_iload_n 5 dX11_lay_144 rfl rfl ?_
      obtain ⟨hk215, h⟩ := h
      obtain ⟨hi216, h⟩ := h
      refine jx_iald dX11_lay_145 hk215 hi216 ?_
      obtain ⟨hk217, h⟩ := h
      obtain ⟨hi218, h⟩ := h
      refine jx_iast dX11_lay_146 hk217 hi218 ?_
      refine jx_iconst (v := 0) dX11_lay_147 (by decide) ?_
      refine jx_istore (lv1 := [(6, .int 0), (5, .int (ji S170 b198 (Int32.toNatClampNeg x1))), (4, .int 1), (0, .ref a0), (1, .int x1), (2, .int x2), (3, .int x3)]) dX11_lay_148 (by decide) rfl ?_
      exact jx_lv [3, 4, 6, 1, 0] rfl h
    replace h := h.2 c197
    refine jx_ldcw jwC_X11_320 dX11_lay_70 ?_
    exact jx_iret dX11_lay_73 rfl rfl (jle rfl) (jle rfl) ⟨_, rfl, h⟩
  replace h := h.1 c172
  refine jx_iload_n 2 dX11_lay_22 rfl rfl ?_
  refine jx_iconst (v := 2) dX11_lay_23 (by decide) ?_
  refine jx_icmp_ne (tgt := 38) dX11_lay_24 (by decide) (fun c219 => ?_) (fun c219 => ?_)
  · replace h := h.2 c219
    refine jx_iconst (v := 0) dX11_lay_38 (by decide) ?_
    refine jx_istore (lv1 := [(4, .int 0), (0, .ref a0), (1, .int x1), (2, .int x2), (3, .int x3)]) dX11_lay_39 (by decide) rfl ?_
    refine jx_iload_n 2 dX11_lay_41 rfl rfl ?_
    refine jx_callSi (M' := mX11_isSlot) (As := [.int x1]) jo_X11_isSlot jwM_X11_329 jwS_X11_isSlot dX11_lay_42 (jRok_m _ _ _) rfl (jle rfl) ⟨jle rfl, jle rfl⟩ (c_X11_isSlot (Q := fun v S' => v = (jisslot x1) ∧ S170 = S') ⟨rfl, rfl⟩) (fun r220 S221 hq222 => ?_)
    obtain ⟨rfl, rfl⟩ := hq222
    refine jx_if_eq (tgt := 53) dX11_lay_45 (by decide) (fun c223 => ?_) (fun c223 => ?_)
    · replace h := h.1 c223
      refine jx_ldc jwC_X11_87 dX11_lay_53 ?_
      exact jx_iret dX11_lay_55 rfl rfl (jle rfl) (jle rfl) ⟨_, rfl, h⟩
    replace h := h.2 c223
    refine jx_iload 0 dX11_lay_48 rfl ?_
    refine jx_if_ne (tgt := 56) dX11_lay_50 (by decide) (fun z9 => absurd z9 (by decide)) (fun _ => ?_)
    refine jx_ldc jwC_X11_87 dX11_lay_53 ?_
    exact jx_iret dX11_lay_55 rfl rfl (jle rfl) (jle rfl) ⟨_, rfl, h⟩
  replace h := h.1 c219
  refine jx_iload_n 3 dX11_lay_27 rfl rfl ?_
  refine jx_callSi (M' := mX11_isSheet) (As := [.int x3]) jo_X11_isSheet jwM_X11_314 jwS_X11_isSheet dX11_lay_28 (jRok_m _ _ _) rfl (jle rfl) ⟨jle rfl, jle rfl⟩ (c_X11_isSheet (Q := fun v S' => v = (jissheet x3) ∧ S170 = S') ⟨rfl, rfl⟩) (fun r224 S225 hq226 => ?_)
  obtain ⟨rfl, rfl⟩ := hq226
  refine jx_if_eq (tgt := 38) dX11_lay_31 (by decide) (fun c227 => ?_) (fun c227 => ?_)
  · replace h := h.1 c227
    refine jx_iconst (v := 0) dX11_lay_38 (by decide) ?_
    refine jx_istore (lv1 := [(4, .int 0), (0, .ref a0), (1, .int x1), (2, .int x2), (3, .int x3)]) dX11_lay_39 (by decide) rfl ?_
    refine jx_iload_n 2 dX11_lay_41 rfl rfl ?_
    refine jx_callSi (M' := mX11_isSlot) (As := [.int x1]) jo_X11_isSlot jwM_X11_329 jwS_X11_isSlot dX11_lay_42 (jRok_m _ _ _) rfl (jle rfl) ⟨jle rfl, jle rfl⟩ (c_X11_isSlot (Q := fun v S' => v = (jisslot x1) ∧ S170 = S') ⟨rfl, rfl⟩) (fun r228 S229 hq230 => ?_)
    obtain ⟨rfl, rfl⟩ := hq230
    refine jx_if_eq (tgt := 53) dX11_lay_45 (by decide) (fun c231 => ?_) (fun c231 => ?_)
    · replace h := h.1 c231
      refine jx_ldc jwC_X11_87 dX11_lay_53 ?_
      exact jx_iret dX11_lay_55 rfl rfl (jle rfl) (jle rfl) ⟨_, rfl, h⟩
    replace h := h.2 c231
    refine jx_iload 0 dX11_lay_48 rfl ?_
    refine jx_if_ne (tgt := 56) dX11_lay_50 (by decide) (fun z9 => absurd z9 (by decide)) (fun _ => ?_)
    refine jx_ldc jwC_X11_87 dX11_lay_53 ?_
    exact jx_iret dX11_lay_55 rfl rfl (jle rfl) (jle rfl) ⟨_, rfl, h⟩
  replace h := h.2 c227
  refine jx_iconst (v := 1) dX11_lay_34 (by decide) ?_
  refine jx_goto (tgt := 39) dX11_lay_35 (by decide) ?_
  refine jx_istore (lv1 := [(4, .int 1), (0, .ref a0), (1, .int x1), (2, .int x2), (3, .int x3)]) dX11_lay_39 (by decide) rfl ?_
  refine jx_iload_n 2 dX11_lay_41 rfl rfl ?_
  refine jx_callSi (M' := mX11_isSlot) (As := [.int x1]) jo_X11_isSlot jwM_X11_329 jwS_X11_isSlot dX11_lay_42 (jRok_m _ _ _) rfl (jle rfl) ⟨jle rfl, jle rfl⟩ (c_X11_isSlot (Q := fun v S' => v = (jisslot x1) ∧ S170 = S') ⟨rfl, rfl⟩) (fun r232 S233 hq234 => ?_)
  obtain ⟨rfl, rfl⟩ := hq234
  refine jx_if_eq (tgt := 53) dX11_lay_45 (by decide) (fun c235 => ?_) (fun c235 => ?_)
  · replace h := h.1 c235
    refine jx_ldc jwC_X11_87 dX11_lay_53 ?_
    exact jx_iret dX11_lay_55 rfl rfl (jle rfl) (jle rfl) ⟨_, rfl, h⟩
  replace h := h.2 c235
  refine jx_iload 0 dX11_lay_48 rfl ?_
  refine jx_if_ne (tgt := 56) dX11_lay_50 (by decide) (fun _ => ?_) (fun z9 => absurd z9 (by decide))
  refine jx_iload_n 3 dX11_lay_56 rfl rfl ?_
  refine jx_iconst (v := 2) dX11_lay_57 (by decide) ?_
  refine jx_icmp_ne (tgt := 74) dX11_lay_58 (by decide) (fun z9 => absurd c219 z9) (fun _ => ?_)
  refine jx_aload_n 1 dX11_lay_61 rfl rfl ?_
  obtain ⟨hk236, h⟩ := h
  obtain ⟨b237, hb237, h⟩ := h
  refine jx_getr jc_11 (j := 4) (by decide) rfl jwF_X11_19 dX11_lay_62 hk236 hb237 ?_
  refine jx_iload_n 4 dX11_lay_65 rfl rfl ?_
  obtain ⟨hk238, h⟩ := h
  obtain ⟨hi239, h⟩ := h
  refine jx_iald dX11_lay_66 hk238 hi239 ?_
  refine jx_if_ge (tgt := 74) dX11_lay_67 (by decide) (fun c240 => ?_) (fun c240 => ?_)
  · replace h := h.1 c240
    refine jx_aload_n 1 dX11_lay_74 rfl rfl ?_
    obtain ⟨b241, hb241, h⟩ := h
    refine jx_getr jc_11 (j := 7) (by decide) rfl jwF_X11_28 dX11_lay_75 hk236 hb241 ?_
    refine jx_iload_n 2 dX11_lay_78 rfl rfl ?_
    obtain ⟨hk242, h⟩ := h
    obtain ⟨hi243, h⟩ := h
    refine jx_iald dX11_lay_79 hk242 hi243 ?_
    refine jx_istore (lv1 := [(5, .int (ji S170 b241 (Int32.toNatClampNeg x1))), (4, .int 1), (0, .ref a0), (1, .int x1), (2, .int x2), (3, .int x3)]) dX11_lay_80 (by decide) rfl ?_
    refine jx_aload_n 2 dX11_lay_82 rfl rfl ?_
    refine jx_getr jc_11 (j := 7) (by decide) rfl jwF_X11_28 dX11_lay_83 hk236 hb241 ?_
    refine jx_iload_n 3 dX11_lay_86 rfl rfl ?_
    refine jx_iload_n 4 dX11_lay_87 rfl rfl ?_
    refine jx_iast dX11_lay_88 hk242 hi243 ?_
    refine jx_aload_n 2 dX11_lay_89 rfl rfl ?_
    obtain ⟨b244, hb244, h⟩ := h
    refine jx_getr jc_11 (j := 8) (by decide) rfl jwF_X11_31 dX11_lay_90 hk236 hb244 ?_
    refine jx_iload_n 3 dX11_lay_93 rfl rfl ?_
    refine jx_iload_n 4 dX11_lay_94 rfl rfl ?_
    refine jx_iconst (v := 1) dX11_lay_95 (by decide) ?_
    refine jx_icmp_ne (tgt := 108) dX11_lay_96 (by decide) (fun z9 => absurd c131 z9) (fun _ => ?_)
    refine jx_aload_n 2 dX11_lay_99 rfl rfl ?_
    refine jx_iload_n 5 dX11_lay_100 rfl rfl ?_
    refine jx_iconst (v := 0) dX11_lay_101 (by decide) ?_
    refine jx_callVi (M' := mX11_of) (As := [.int x3, .int 0]) jo_X11_of jc_11 rfl jwM_X11_97 jwN_X11_of jwX_X11_of dX11_lay_102 (jRok_m _ _ _) rfl (jle rfl) ⟨jle rfl, jle rfl⟩ hk236 h (fun r246 S245 h => ?_)
    refine jx_goto (tgt := 109) dX11_lay_105 (by decide) ?_
    obtain ⟨hk247, h⟩ := h
    obtain ⟨hi248, h⟩ := h
    refine jx_iast dX11_lay_109 hk247 hi248 ?_
    refine jx_aload_n 2 dX11_lay_110 rfl rfl ?_
    obtain ⟨hk249, h⟩ := h
    obtain ⟨b250, hb250, h⟩ := h
    refine jx_getr jc_11 (j := 9) (by decide) rfl jwF_X11_34 dX11_lay_111 hk249 hb250 ?_
    refine jx_iload_n 3 dX11_lay_114 rfl rfl ?_
    refine jx_iload_n 4 dX11_lay_115 rfl rfl ?_
    refine jx_iconst (v := 1) dX11_lay_116 (by decide) ?_
    refine jx_icmp_ne (tgt := 128) dX11_lay_117 (by decide) (fun z9 => absurd c131 z9) (fun _ => ?_)
    refine jx_aload_n 2 dX11_lay_120 rfl rfl ?_
    refine jx_iload_n 5 dX11_lay_121 rfl rfl ?_
    refine jx_callVi (M' := mX11_worth) (As := [.int x3]) jo_X11_worth jc_11 rfl jwM_X11_119 jwN_X11_worth jwX_X11_worth dX11_lay_122 (jRok_m _ _ _) rfl (jle rfl) ⟨jle rfl, jle rfl⟩ hk249 h (fun r252 S251 h => ?_)
    refine jx_goto (tgt := 129) dX11_lay_125 (by decide) ?_
    obtain ⟨hk253, h⟩ := h
    obtain ⟨hi254, h⟩ := h
    refine jx_iast dX11_lay_129 hk253 hi254 ?_
    refine jx_iload_n 4 dX11_lay_130 rfl rfl ?_
    refine jx_iconst (v := 2) dX11_lay_131 (by decide) ?_
    refine jx_icmp_ne (tgt := 187) dX11_lay_132 (by decide) (fun z9 => absurd c219 z9) (fun _ => ?_)
    refine jx_aload_n 2 dX11_lay_135 rfl rfl ?_
    obtain ⟨hk255, h⟩ := h
    obtain ⟨b256, hb256, h⟩ := h
    refine jx_getr jc_11 (j := 10) (by decide) rfl jwF_X11_37 dX11_lay_136 hk255 hb256 ?_
    refine jx_iload_n 3 dX11_lay_139 rfl rfl ?_
    refine jx_aload_n 2 dX11_lay_140 rfl rfl ?_
    obtain ⟨b257, hb257, h⟩ := h
    refine jx_getr jc_11 (j := 5) (by decide) rfl jwF_X11_22 dX11_lay_141 hk255 hb257 ?_
    refine jx_iload_n 5 dX11_lay_144 rfl rfl ?_
    obtain ⟨hk258, h⟩ := h
    obtain ⟨hi259, h⟩ := h
    refine jx_iald dX11_lay_145 hk258 hi259 ?_
    obtain ⟨hk260, h⟩ := h
    obtain ⟨hi261, h⟩ := h
    refine jx_iast dX11_lay_146 hk260 hi261 ?_
    refine jx_iconst (v := 0) dX11_lay_147 (by decide) ?_
    refine jx_istore (lv1 := [(6, .int 0), (5, .int (ji S170 b241 (Int32.toNatClampNeg x1))), (4, .int 1), (0, .ref a0), (1, .int x1), (2, .int x2), (3, .int x3)]) dX11_lay_148 (by decide) rfl ?_
    exact jx_lv [3, 4, 6, 1, 0] rfl h
  replace h := h.2 c240
  refine jx_ldcw jwC_X11_320 dX11_lay_70 ?_
  exact jx_iret dX11_lay_73 rfl rfl (jle rfl) (jle rfl) ⟨_, rfl, h⟩
set_option maxRecDepth 100000 in
set_option maxHeartbeats 4000000 in
theorem T_X11_lay_150 {E : jEnv} {d : Nat} {Q : Int32 → jM → Prop} {a0 : Nat} {x1 : Int32} {x3 : Int32} {x5 : Int32} {x6 : Int32} {S : jM} (h : (24 ≤ x6 → Q x5 S) ∧ (¬ 24 ≤ x6 → jk S a0 = 11 ∧ ∃ b264, jr S a0 11 = some b264 ∧ (∃ b265, jr S a0 6 = some b265 ∧ (jk S b265 = 12 ∧ vp_in ((24 * x3) + x6) (jl S b265) ∧ (jk S b264 = 12 ∧ vp_in ((24 * x1) + x6) (jl S b264) ∧ (L_X11_lay_150 E d Q a0 x1 x3 x5 (x6 + 1) (jput S b264 (Int32.toNatClampNeg ((24 * x1) + x6)) (ji S b265 (Int32.toNatClampNeg ((24 * x3) + x6)))))))))) : L_X11_lay_150 E d Q a0 x1 x3 x5 x6 S := by
  show jX E mX11_lay (jRm (d + 2) 0 0) (jZm E (fun r S' => ∃ v : Int32, r = some (.int v) ∧ Q v S') 0 0) 150 [(0, .ref a0), (1, .int x1), (3, .int x3), (5, .int x5), (6, .int x6)] [] S 0 0
  refine jx_iload 4 dX11_lay_150 rfl ?_
  refine jx_bipush (v := 24) dX11_lay_152 (by decide) ?_
  refine jx_icmp_ge (tgt := 187) dX11_lay_154 (by decide) (fun c262 => ?_) (fun c262 => ?_)
  · replace h := h.1 c262
    refine jx_iload 3 dX11_lay_187 rfl ?_
    exact jx_iret dX11_lay_189 rfl rfl (jle rfl) (jle rfl) ⟨_, rfl, h⟩
  replace h := h.2 c262
  refine jx_aload_n 0 dX11_lay_157 rfl rfl ?_
  obtain ⟨hk263, h⟩ := h
  obtain ⟨b264, hb264, h⟩ := h
  refine jx_getr jc_11 (j := 11) (by decide) rfl jwF_X11_40 dX11_lay_158 hk263 hb264 ?_
  refine jx_bipush (v := 24) dX11_lay_161 (by decide) ?_
  refine jx_iload_n 1 dX11_lay_163 rfl rfl ?_
  refine jx_imul dX11_lay_164 ?_
  refine jx_iload 4 dX11_lay_165 rfl ?_
  refine jx_iadd dX11_lay_167 ?_
  refine jx_aload_n 0 dX11_lay_168 rfl rfl ?_
  obtain ⟨b265, hb265, h⟩ := h
  refine jx_getr jc_11 (j := 6) (by decide) rfl jwF_X11_25 dX11_lay_169 hk263 hb265 ?_
  refine jx_bipush (v := 24) dX11_lay_172 (by decide) ?_
  refine jx_iload_n 2 dX11_lay_174 rfl rfl ?_
  refine jx_imul dX11_lay_175 ?_
  refine jx_iload 4 dX11_lay_176 rfl ?_
  refine jx_iadd dX11_lay_178 ?_
  obtain ⟨hk266, h⟩ := h
  obtain ⟨hi267, h⟩ := h
  refine jx_iald dX11_lay_179 hk266 hi267 ?_
  obtain ⟨hk268, h⟩ := h
  obtain ⟨hi269, h⟩ := h
  refine jx_iast dX11_lay_180 hk268 hi269 ?_
  refine jx_iinc 4 (v := (x6 + 1)) (lv1 := [(6, .int (x6 + 1)), (0, .ref a0), (1, .int x1), (3, .int x3), (5, .int x5)]) kd100.1 rfl rfl (by decide) rfl ?_
  refine jx_goto (tgt := 150) kd100.2 (by decide) ?_
  exact jx_lv [1, 2, 3, 4, 0] rfl h
set_option maxRecDepth 100000 in
set_option maxHeartbeats 4000000 in
theorem T_X11_ask {E : jEnv} {d : Nat} {Q : Int32 → jM → Prop} {a0 : Nat} {x1 : Int32} {x2 : Int32} {S : jM} (h : ((jisslot x1) = 0 → Q (-1000000001) S) ∧ (¬ (jisslot x1) = 0 → ((jisin (Int32.toInt64 x2) 0 5) = 0 → Q (-1000000001) S) ∧ (¬ (jisin (Int32.toInt64 x2) 0 5) = 0 → jk S a0 = 11 ∧ ∃ b10, jr S a0 7 = some b10 ∧ (jk S b10 = 12 ∧ vp_in x1 (jl S b10) ∧ (((ji S b10 (Int32.toNatClampNeg x1)) = 0 → Q (-1000000011) S) ∧ (¬ (ji S b10 (Int32.toNatClampNeg x1)) = 0 → (((ji S b10 (Int32.toNatClampNeg x1)) = 1 → ∃ b15, jr S a0 8 = some b15 ∧ (jk S b15 = 12 ∧ vp_in x1 (jl S b15) ∧ (((jisof (ji S b15 (Int32.toNatClampNeg x1)) x2) = 0 → Q (-1000000012) S) ∧ (¬ (jisof (ji S b15 (Int32.toNatClampNeg x1)) x2) = 0 → ∃ b22, jr S a0 9 = some b22 ∧ (jk S b22 = 12 ∧ vp_in x1 (jl S b22) ∧ (Q (ji S b22 (Int32.toNatClampNeg x1)) S)))))) ∧ (¬ (ji S b10 (Int32.toNatClampNeg x1)) = 1 → Q (-1000000012) S)))))))) : jFi E mX11_ask (d + 2) 0 0 [.ref a0, .int x1, .int x2] S Q := by
  refine jF_of (by decide) (jle rfl) ?_
  refine jx_lv (lv1 := [(0, .ref a0), (1, .int x1), (2, .int x2)]) [0, 1, 2] rfl ?_
  refine jx_iload_n 1 dX11_ask_0 rfl rfl ?_
  refine jx_callSi (M' := mX11_isSlot) (As := [.int x1]) jo_X11_isSlot jwM_X11_329 jwS_X11_isSlot dX11_ask_1 (jRok_m _ _ _) rfl (jle rfl) ⟨jle rfl, jle rfl⟩ (c_X11_isSlot (Q := fun v S' => v = (jisslot x1) ∧ S = S') ⟨rfl, rfl⟩) (fun r1 S2 hq3 => ?_)
  obtain ⟨rfl, rfl⟩ := hq3
  refine jx_if_eq (tgt := 19) dX11_ask_4 (by decide) (fun c4 => ?_) (fun c4 => ?_)
  · replace h := h.1 c4
    refine jx_ldc jwC_X11_87 dX11_ask_19 ?_
    exact jx_iret dX11_ask_21 rfl rfl (jle rfl) (jle rfl) ⟨_, rfl, h⟩
  replace h := h.2 c4
  refine jx_iload_n 2 dX11_ask_7 rfl rfl ?_
  refine jx_i2l dX11_ask_8 ?_
  refine jx_lconst (v := 0) dX11_ask_9 (by decide) ?_
  refine jx_ldc2 jwL_X11_76 dX11_ask_10 ?_
  refine jx_callSi (M' := mX11_isIn) (As := [.long (Int32.toInt64 x2), .long 0, .long 5]) jo_X11_isIn jwM_X11_71 jwS_X11_isIn dX11_ask_13 (jRok_m _ _ _) rfl (jle rfl) ⟨jle rfl, jle rfl⟩ (c_X11_isIn (Q := fun v S' => v = (jisin (Int32.toInt64 x2) 0 5) ∧ S = S') ⟨rfl, rfl⟩) (fun r5 S6 hq7 => ?_)
  obtain ⟨rfl, rfl⟩ := hq7
  refine jx_if_ne (tgt := 22) dX11_ask_16 (by decide) (fun c8 => ?_) (fun c8 => ?_)
  · replace h := h.2 c8
    refine jx_aload_n 0 dX11_ask_22 rfl rfl ?_
    obtain ⟨hk9, h⟩ := h
    obtain ⟨b10, hb10, h⟩ := h
    refine jx_getr jc_11 (j := 7) (by decide) rfl jwF_X11_28 dX11_ask_23 hk9 hb10 ?_
    refine jx_iload_n 1 dX11_ask_26 rfl rfl ?_
    obtain ⟨hk11, h⟩ := h
    obtain ⟨hi12, h⟩ := h
    refine jx_iald dX11_ask_27 hk11 hi12 ?_
    refine jx_if_ne (tgt := 35) dX11_ask_28 (by decide) (fun c13 => ?_) (fun c13 => ?_)
    · replace h := h.2 c13
      refine jx_aload_n 0 dX11_ask_35 rfl rfl ?_
      refine jx_getr jc_11 (j := 7) (by decide) rfl jwF_X11_28 dX11_ask_36 hk9 hb10 ?_
      refine jx_iload_n 1 dX11_ask_39 rfl rfl ?_
      refine jx_iald dX11_ask_40 hk11 hi12 ?_
      refine jx_iconst (v := 1) dX11_ask_41 (by decide) ?_
      refine jx_icmp_ne (tgt := 67) dX11_ask_42 (by decide) (fun c14 => ?_) (fun c14 => ?_)
      · replace h := h.2 c14
        refine jx_ldc jwC_X11_129 dX11_ask_67 ?_
        exact jx_iret dX11_ask_69 rfl rfl (jle rfl) (jle rfl) ⟨_, rfl, h⟩
      replace h := h.1 c14
      refine jx_aload_n 0 dX11_ask_45 rfl rfl ?_
      obtain ⟨b15, hb15, h⟩ := h
      refine jx_getr jc_11 (j := 8) (by decide) rfl jwF_X11_31 dX11_ask_46 hk9 hb15 ?_
      refine jx_iload_n 1 dX11_ask_49 rfl rfl ?_
      obtain ⟨hk16, h⟩ := h
      obtain ⟨hi17, h⟩ := h
      refine jx_iald dX11_ask_50 hk16 hi17 ?_
      refine jx_iload_n 2 dX11_ask_51 rfl rfl ?_
      refine jx_callSi (M' := mX11_isOf) (As := [.int (ji S b15 (Int32.toNatClampNeg x1)), .int x2]) jo_X11_isOf jwM_X11_126 jwS_X11_isOf dX11_ask_52 (jRok_m _ _ _) rfl (jle rfl) ⟨jle rfl, jle rfl⟩ (c_X11_isOf (Q := fun v S' => v = (jisof (ji S b15 (Int32.toNatClampNeg x1)) x2) ∧ S = S') ⟨rfl, rfl⟩) (fun r18 S19 hq20 => ?_)
      obtain ⟨rfl, rfl⟩ := hq20
      refine jx_if_eq (tgt := 67) dX11_ask_55 (by decide) (fun c21 => ?_) (fun c21 => ?_)
      · replace h := h.1 c21
        refine jx_ldc jwC_X11_129 dX11_ask_67 ?_
        exact jx_iret dX11_ask_69 rfl rfl (jle rfl) (jle rfl) ⟨_, rfl, h⟩
      replace h := h.2 c21
      refine jx_aload_n 0 dX11_ask_58 rfl rfl ?_
      obtain ⟨b22, hb22, h⟩ := h
      refine jx_getr jc_11 (j := 9) (by decide) rfl jwF_X11_34 dX11_ask_59 hk9 hb22 ?_
      refine jx_iload_n 1 dX11_ask_62 rfl rfl ?_
      obtain ⟨hk23, h⟩ := h
      obtain ⟨hi24, h⟩ := h
      refine jx_iald dX11_ask_63 hk23 hi24 ?_
      refine jx_goto (tgt := 69) dX11_ask_64 (by decide) ?_
      exact jx_iret dX11_ask_69 rfl rfl (jle rfl) (jle rfl) ⟨_, rfl, h⟩
    replace h := h.1 c13
    refine jx_ldcw jwC_X11_320 dX11_ask_31 ?_
    exact jx_iret dX11_ask_34 rfl rfl (jle rfl) (jle rfl) ⟨_, rfl, h⟩
  replace h := h.1 c8
  refine jx_ldc jwC_X11_87 dX11_ask_19 ?_
  exact jx_iret dX11_ask_21 rfl rfl (jle rfl) (jle rfl) ⟨_, rfl, h⟩
set_option maxRecDepth 100000 in
set_option maxHeartbeats 4000000 in
theorem T_X11_item {E : jEnv} {d : Nat} {Q : Int32 → jM → Prop} {a0 : Nat} {x1 : Int32} {x2 : Int32} {S : jM} (h : ((jisslot x1) = 0 → Q (-1000000001) S) ∧ (¬ (jisslot x1) = 0 → jk S a0 = 11 ∧ ∃ b6, jr S a0 7 = some b6 ∧ (jk S b6 = 12 ∧ vp_in x1 (jl S b6) ∧ (((ji S b6 (Int32.toNatClampNeg x1)) = 2 → ∃ b10, jr S a0 10 = some b10 ∧ (jk S b10 = 12 ∧ vp_in x1 (jl S b10) ∧ (((jisin (Int32.toInt64 x2) 0 (Int32.toInt64 ((ji S b10 (Int32.toNatClampNeg x1)) - 1))) = 0 → Q (-1000000013) S) ∧ (¬ (jisin (Int32.toInt64 x2) 0 (Int32.toInt64 ((ji S b10 (Int32.toNatClampNeg x1)) - 1))) = 0 → ∃ b17, jr S a0 11 = some b17 ∧ (jk S b17 = 12 ∧ vp_in ((24 * x1) + x2) (jl S b17) ∧ (((ji S b17 (Int32.toNatClampNeg ((24 * x1) + x2))) = (-1000000005) → Q (-1000000012) S) ∧ (¬ (ji S b17 (Int32.toNatClampNeg ((24 * x1) + x2))) = (-1000000005) → Q (ji S b17 (Int32.toNatClampNeg ((24 * x1) + x2))) S))))))) ∧ (¬ (ji S b6 (Int32.toNatClampNeg x1)) = 2 → (((ji S b6 (Int32.toNatClampNeg x1)) = 0 → Q (-1000000011) S) ∧ (¬ (ji S b6 (Int32.toNatClampNeg x1)) = 0 → Q (-1000000012) S))))))) : jFi E mX11_item (d + 2) 0 0 [.ref a0, .int x1, .int x2] S Q := by
  refine jF_of (by decide) (jle rfl) ?_
  refine jx_lv (lv1 := [(0, .ref a0), (1, .int x1), (2, .int x2)]) [0, 1, 2] rfl ?_
  refine jx_iload_n 1 dX11_item_0 rfl rfl ?_
  refine jx_callSi (M' := mX11_isSlot) (As := [.int x1]) jo_X11_isSlot jwM_X11_329 jwS_X11_isSlot dX11_item_1 (jRok_m _ _ _) rfl (jle rfl) ⟨jle rfl, jle rfl⟩ (c_X11_isSlot (Q := fun v S' => v = (jisslot x1) ∧ S = S') ⟨rfl, rfl⟩) (fun r1 S2 hq3 => ?_)
  obtain ⟨rfl, rfl⟩ := hq3
  refine jx_if_ne (tgt := 10) dX11_item_4 (by decide) (fun c4 => ?_) (fun c4 => ?_)
  · replace h := h.2 c4
    refine jx_aload_n 0 dX11_item_10 rfl rfl ?_
    obtain ⟨hk5, h⟩ := h
    obtain ⟨b6, hb6, h⟩ := h
    refine jx_getr jc_11 (j := 7) (by decide) rfl jwF_X11_28 dX11_item_11 hk5 hb6 ?_
    refine jx_iload_n 1 dX11_item_14 rfl rfl ?_
    obtain ⟨hk7, h⟩ := h
    obtain ⟨hi8, h⟩ := h
    refine jx_iald dX11_item_15 hk7 hi8 ?_
    refine jx_iconst (v := 2) dX11_item_16 (by decide) ?_
    refine jx_icmp_eq (tgt := 38) dX11_item_17 (by decide) (fun c9 => ?_) (fun c9 => ?_)
    · replace h := h.1 c9
      refine jx_iload_n 2 dX11_item_38 rfl rfl ?_
      refine jx_i2l dX11_item_39 ?_
      refine jx_lconst (v := 0) dX11_item_40 (by decide) ?_
      refine jx_aload_n 0 dX11_item_41 rfl rfl ?_
      obtain ⟨b10, hb10, h⟩ := h
      refine jx_getr jc_11 (j := 10) (by decide) rfl jwF_X11_37 dX11_item_42 hk5 hb10 ?_
      refine jx_iload_n 1 dX11_item_45 rfl rfl ?_
      obtain ⟨hk11, h⟩ := h
      obtain ⟨hi12, h⟩ := h
      refine jx_iald dX11_item_46 hk11 hi12 ?_
      refine jx_iconst (v := 1) dX11_item_47 (by decide) ?_
      refine jx_isub dX11_item_48 ?_
      refine jx_i2l dX11_item_49 ?_
      refine jx_callSi (M' := mX11_isIn) (As := [.long (Int32.toInt64 x2), .long 0, .long (Int32.toInt64 ((ji S b10 (Int32.toNatClampNeg x1)) - 1))]) jo_X11_isIn jwM_X11_71 jwS_X11_isIn dX11_item_50 (jRok_m _ _ _) rfl (jle rfl) ⟨jle rfl, jle rfl⟩ (c_X11_isIn (Q := fun v S' => v = (jisin (Int32.toInt64 x2) 0 (Int32.toInt64 ((ji S b10 (Int32.toNatClampNeg x1)) - 1))) ∧ S = S') ⟨rfl, rfl⟩) (fun r13 S14 hq15 => ?_)
      obtain ⟨rfl, rfl⟩ := hq15
      refine jx_if_ne (tgt := 60) dX11_item_53 (by decide) (fun c16 => ?_) (fun c16 => ?_)
      · replace h := h.2 c16
        refine jx_aload_n 0 dX11_item_60 rfl rfl ?_
        obtain ⟨b17, hb17, h⟩ := h
        refine jx_getr jc_11 (j := 11) (by decide) rfl jwF_X11_40 dX11_item_61 hk5 hb17 ?_
        refine jx_bipush (v := 24) dX11_item_64 (by decide) ?_
        refine jx_iload_n 1 dX11_item_66 rfl rfl ?_
        refine jx_imul dX11_item_67 ?_
        refine jx_iload_n 2 dX11_item_68 rfl rfl ?_
        refine jx_iadd dX11_item_69 ?_
        obtain ⟨hk18, h⟩ := h
        obtain ⟨hi19, h⟩ := h
        refine jx_iald dX11_item_70 hk18 hi19 ?_
        refine jx_istore_n (lv1 := [(3, .int (ji S b17 (Int32.toNatClampNeg ((24 * x1) + x2)))), (0, .ref a0), (1, .int x1), (2, .int x2)]) dX11_item_71 rfl (by decide) rfl ?_
        refine jx_iload_n 0 dX11_item_72 rfl rfl ?_
        refine jx_ldc jwC_X11_70 dX11_item_73 ?_
        refine jx_icmp_ne (tgt := 83) dX11_item_75 (by decide) (fun c20 => ?_) (fun c20 => ?_)
        · replace h := h.2 c20
          refine jx_iload_n 0 dX11_item_83 rfl rfl ?_
          exact jx_iret dX11_item_84 rfl rfl (jle rfl) (jle rfl) ⟨_, rfl, h⟩
        replace h := h.1 c20
        refine jx_ldc jwC_X11_129 dX11_item_78 ?_
        refine jx_goto (tgt := 84) dX11_item_80 (by decide) ?_
        exact jx_iret dX11_item_84 rfl rfl (jle rfl) (jle rfl) ⟨_, rfl, h⟩
      replace h := h.1 c16
      refine jx_ldcw jwC_X11_321 dX11_item_56 ?_
      exact jx_iret dX11_item_59 rfl rfl (jle rfl) (jle rfl) ⟨_, rfl, h⟩
    replace h := h.2 c9
    refine jx_aload_n 0 dX11_item_20 rfl rfl ?_
    refine jx_getr jc_11 (j := 7) (by decide) rfl jwF_X11_28 dX11_item_21 hk5 hb6 ?_
    refine jx_iload_n 1 dX11_item_24 rfl rfl ?_
    refine jx_iald dX11_item_25 hk7 hi8 ?_
    refine jx_if_ne (tgt := 35) dX11_item_26 (by decide) (fun c21 => ?_) (fun c21 => ?_)
    · replace h := h.2 c21
      refine jx_ldc jwC_X11_129 dX11_item_35 ?_
      exact jx_iret dX11_item_37 rfl rfl (jle rfl) (jle rfl) ⟨_, rfl, h⟩
    replace h := h.1 c21
    refine jx_ldcw jwC_X11_320 dX11_item_29 ?_
    refine jx_goto (tgt := 37) dX11_item_32 (by decide) ?_
    exact jx_iret dX11_item_37 rfl rfl (jle rfl) (jle rfl) ⟨_, rfl, h⟩
  replace h := h.1 c4
  refine jx_ldc jwC_X11_87 dX11_item_7 ?_
  exact jx_iret dX11_item_9 rfl rfl (jle rfl) (jle rfl) ⟨_, rfl, h⟩
set_option maxRecDepth 100000 in
set_option maxHeartbeats 4000000 in
theorem T_X11_rest {E : jEnv} {d : Nat} {Q : Int32 → jM → Prop} {a0 : Nat} {x1 : Int32} {x2 : Int32} {S : jM} (h : ((jisslot x1) = 0 → Q (-1000000001) S) ∧ (¬ (jisslot x1) = 0 → jk S a0 = 11 ∧ ∃ b6, jr S a0 7 = some b6 ∧ (jk S b6 = 12 ∧ vp_in x1 (jl S b6) ∧ (((ji S b6 (Int32.toNatClampNeg x1)) = 3 → (x2 = 0 → Q (-1000000002) S) ∧ (¬ x2 = 0 → ∃ b11, jr S a0 8 = some b11 ∧ (jk S b11 = 12 ∧ vp_in x1 (jl S b11) ∧ ((¬ x2 = 0) ∧ (Q (jrem (ji S b11 (Int32.toNatClampNeg x1)) x2) S))))) ∧ (¬ (ji S b6 (Int32.toNatClampNeg x1)) = 3 → (((ji S b6 (Int32.toNatClampNeg x1)) = 0 → Q (-1000000011) S) ∧ (¬ (ji S b6 (Int32.toNatClampNeg x1)) = 0 → Q (-1000000012) S))))))) : jFi E mX11_rest (d + 2) 0 0 [.ref a0, .int x1, .int x2] S Q := by
  refine jF_of (by decide) (jle rfl) ?_
  refine jx_lv (lv1 := [(0, .ref a0), (1, .int x1), (2, .int x2)]) [0, 1, 2] rfl ?_
  refine jx_iload_n 1 dX11_rest_0 rfl rfl ?_
  refine jx_callSi (M' := mX11_isSlot) (As := [.int x1]) jo_X11_isSlot jwM_X11_329 jwS_X11_isSlot dX11_rest_1 (jRok_m _ _ _) rfl (jle rfl) ⟨jle rfl, jle rfl⟩ (c_X11_isSlot (Q := fun v S' => v = (jisslot x1) ∧ S = S') ⟨rfl, rfl⟩) (fun r1 S2 hq3 => ?_)
  obtain ⟨rfl, rfl⟩ := hq3
  refine jx_if_ne (tgt := 10) dX11_rest_4 (by decide) (fun c4 => ?_) (fun c4 => ?_)
  · replace h := h.2 c4
    refine jx_aload_n 0 dX11_rest_10 rfl rfl ?_
    obtain ⟨hk5, h⟩ := h
    obtain ⟨b6, hb6, h⟩ := h
    refine jx_getr jc_11 (j := 7) (by decide) rfl jwF_X11_28 dX11_rest_11 hk5 hb6 ?_
    refine jx_iload_n 1 dX11_rest_14 rfl rfl ?_
    obtain ⟨hk7, h⟩ := h
    obtain ⟨hi8, h⟩ := h
    refine jx_iald dX11_rest_15 hk7 hi8 ?_
    refine jx_iconst (v := 3) dX11_rest_16 (by decide) ?_
    refine jx_icmp_eq (tgt := 38) dX11_rest_17 (by decide) (fun c9 => ?_) (fun c9 => ?_)
    · replace h := h.1 c9
      refine jx_iload_n 2 dX11_rest_38 rfl rfl ?_
      refine jx_if_ne (tgt := 47) dX11_rest_39 (by decide) (fun c10 => ?_) (fun c10 => ?_)
      · replace h := h.2 c10
        refine jx_aload_n 0 dX11_rest_47 rfl rfl ?_
        obtain ⟨b11, hb11, h⟩ := h
        refine jx_getr jc_11 (j := 8) (by decide) rfl jwF_X11_31 dX11_rest_48 hk5 hb11 ?_
        refine jx_iload_n 1 dX11_rest_51 rfl rfl ?_
        obtain ⟨hk12, h⟩ := h
        obtain ⟨hi13, h⟩ := h
        refine jx_iald dX11_rest_52 hk12 hi13 ?_
        refine jx_iload_n 2 dX11_rest_53 rfl rfl ?_
        obtain ⟨hz14, h⟩ := h
        refine jx_irem dX11_rest_54 hz14 ?_
        exact jx_iret dX11_rest_55 rfl rfl (jle rfl) (jle rfl) ⟨_, rfl, h⟩
      replace h := h.1 c10
      refine jx_ldc jwC_X11_153 dX11_rest_42 ?_
      refine jx_goto (tgt := 55) dX11_rest_44 (by decide) ?_
      exact jx_iret dX11_rest_55 rfl rfl (jle rfl) (jle rfl) ⟨_, rfl, h⟩
    replace h := h.2 c9
    refine jx_aload_n 0 dX11_rest_20 rfl rfl ?_
    refine jx_getr jc_11 (j := 7) (by decide) rfl jwF_X11_28 dX11_rest_21 hk5 hb6 ?_
    refine jx_iload_n 1 dX11_rest_24 rfl rfl ?_
    refine jx_iald dX11_rest_25 hk7 hi8 ?_
    refine jx_if_ne (tgt := 35) dX11_rest_26 (by decide) (fun c15 => ?_) (fun c15 => ?_)
    · replace h := h.2 c15
      refine jx_ldc jwC_X11_129 dX11_rest_35 ?_
      exact jx_iret dX11_rest_37 rfl rfl (jle rfl) (jle rfl) ⟨_, rfl, h⟩
    replace h := h.1 c15
    refine jx_ldcw jwC_X11_320 dX11_rest_29 ?_
    refine jx_goto (tgt := 37) dX11_rest_32 (by decide) ?_
    exact jx_iret dX11_rest_37 rfl rfl (jle rfl) (jle rfl) ⟨_, rfl, h⟩
  replace h := h.1 c4
  refine jx_ldc jwC_X11_87 dX11_rest_7 ?_
  exact jx_iret dX11_rest_9 rfl rfl (jle rfl) (jle rfl) ⟨_, rfl, h⟩
set_option maxRecDepth 100000 in
set_option maxHeartbeats 4000000 in
theorem T_X11_tell {E : jEnv} {d : Nat} {Q : Int32 → jM → Prop} {a0 : Nat} {x1 : Int32} {S : jM} (h : jk S a0 = 11 ∧ ((ji S a0 34) = 60 → Q (-1000000003) S) ∧ (¬ (ji S a0 34) = 60 → ∃ b3, jr S a0 33 = some b3 ∧ (jk S b3 = 12 ∧ vp_in (ji S a0 34) (jl S b3) ∧ (Q ((ji S a0 34) + 1) (jput (jput S b3 (Int32.toNatClampNeg (ji S a0 34)) x1) a0 34 ((ji S a0 34) + 1)))))) : jFi E mX11_tell d 0 0 [.ref a0, .int x1] S Q := by
  refine jF_of (by decide) (jle rfl) ?_
  refine jx_lv (lv1 := [(0, .ref a0), (1, .int x1)]) [0, 1] rfl ?_
  refine jx_aload_n 0 dX11_tell_0 rfl rfl ?_
  obtain ⟨hk1, h⟩ := h
  refine jx_geti jc_11 (j := 34) (by decide) rfl jwF_X11_332 dX11_tell_1 hk1 ?_
  refine jx_bipush (v := 60) dX11_tell_4 (by decide) ?_
  refine jx_icmp_ne (tgt := 12) dX11_tell_6 (by decide) (fun c2 => ?_) (fun c2 => ?_)
  · replace h := h.2 c2
    refine jx_aload_n 0 dX11_tell_12 rfl rfl ?_
    obtain ⟨b3, hb3, h⟩ := h
    refine jx_getr jc_11 (j := 33) (by decide) rfl jwF_X11_64 dX11_tell_13 hk1 hb3 ?_
    refine jx_aload_n 0 dX11_tell_16 rfl rfl ?_
    refine jx_geti jc_11 (j := 34) (by decide) rfl jwF_X11_332 dX11_tell_17 hk1 ?_
    refine jx_iload_n 1 dX11_tell_20 rfl rfl ?_
    obtain ⟨hk4, h⟩ := h
    obtain ⟨hi5, h⟩ := h
    refine jx_iast dX11_tell_21 hk4 hi5 ?_
    refine jx_aload_n 0 dX11_tell_22 rfl rfl ?_
    refine jx_dup dX11_tell_23 rfl ?_
    refine jx_geti jc_11 (j := 34) (by decide) rfl jwF_X11_332 dX11_tell_24 hk1 ?_
    refine jx_topi (y := (ji S a0 34)) (by simp [ji_put, ji_row, ji_putr, jne hk1 hk4 (by decide)]) ?_
    refine jx_iconst (v := 1) dX11_tell_27 (by decide) ?_
    refine jx_iadd dX11_tell_28 ?_
    refine jx_puti jc_11 (j := 34) (by decide) rfl jwF_X11_332 rfl rfl rfl dX11_tell_29 hk1 ?_
    refine jx_aload_n 0 dX11_tell_32 rfl rfl ?_
    refine jx_geti jc_11 (j := 34) (by decide) rfl jwF_X11_332 dX11_tell_33 hk1 ?_
    refine jx_topi (y := ((ji S a0 34) + 1)) (by simp [ji_put, ji_row, ji_putr]) ?_
    exact jx_iret dX11_tell_36 rfl rfl (jle rfl) (jle rfl) ⟨_, rfl, h⟩
  replace h := h.1 c2
  refine jx_ldc jwC_X11_88 dX11_tell_9 ?_
  exact jx_iret dX11_tell_11 rfl rfl (jle rfl) (jle rfl) ⟨_, rfl, h⟩
/-- X11_setAside at its loop's head 2 -/
abbrev L_X11_setAside_2 (E : jEnv) (d : Nat) (Q : jM → Prop) (a1 : Nat) (a2 : Nat) (x3 : Int32) (S : jM) : Prop := jX E mX11_setAside (jRm d 0 0) (jZm E (fun r S' => r = none ∧ Q S') 0 0) 2 [(1, .ref a1), (2, .ref a2), (3, .int x3)] [] S 0 0
set_option maxRecDepth 100000 in
set_option maxHeartbeats 4000000 in
theorem T_X11_setAside {E : jEnv} {d : Nat} {Q : jM → Prop} {a0 : Nat} {a1 : Nat} {a2 : Nat} {S : jM} (h : L_X11_setAside_2 E d Q a1 a2 0 S) : jFv E mX11_setAside d 0 0 [.ref a0, .ref a1, .ref a2] S Q := by
  refine jF_of (by decide) (jle rfl) ?_
  refine jx_lv (lv1 := [(0, .ref a0), (1, .ref a1), (2, .ref a2)]) [0, 1, 2] rfl ?_
  refine jx_iconst (v := 0) dX11_setAside_0 (by decide) ?_
  refine jx_istore_n (lv1 := [(3, .int 0), (0, .ref a0), (1, .ref a1), (2, .ref a2)]) dX11_setAside_1 rfl (by decide) rfl ?_
  exact jx_lv [2, 3, 0] rfl h
set_option maxRecDepth 100000 in
set_option maxHeartbeats 4000000 in
theorem T_X11_setAside_2 {E : jEnv} {d : Nat} {Q : jM → Prop} {a1 : Nat} {a2 : Nat} {x3 : Int32} {S : jM} (h : (2935 ≤ x3 → Q S) ∧ (¬ 2935 ≤ x3 → jk S a1 = 12 ∧ vp_in x3 (jl S a1) ∧ (jk S a2 = 12 ∧ vp_in x3 (jl S a2) ∧ (L_X11_setAside_2 E d Q a1 a2 (x3 + 1) (jput S a2 (Int32.toNatClampNeg x3) (ji S a1 (Int32.toNatClampNeg x3))))))) : L_X11_setAside_2 E d Q a1 a2 x3 S := by
  show jX E mX11_setAside (jRm d 0 0) (jZm E (fun r S' => r = none ∧ Q S') 0 0) 2 [(1, .ref a1), (2, .ref a2), (3, .int x3)] [] S 0 0
  refine jx_iload_n 2 dX11_setAside_2 rfl rfl ?_
  refine jx_sipush (v := 2935) dX11_setAside_3 (by decide) ?_
  refine jx_icmp_ge (tgt := 21) dX11_setAside_6 (by decide) (fun c1 => ?_) (fun c1 => ?_)
  · replace h := h.1 c1
    exact jx_vret dX11_setAside_21 rfl (jle rfl) (jle rfl) ⟨rfl, h⟩
  replace h := h.2 c1
  refine jx_aload_n 1 dX11_setAside_9 rfl rfl ?_
  refine jx_iload_n 2 dX11_setAside_10 rfl rfl ?_
  refine jx_aload_n 0 dX11_setAside_11 rfl rfl ?_
  refine jx_iload_n 2 dX11_setAside_12 rfl rfl ?_
  obtain ⟨hk2, h⟩ := h
  obtain ⟨hi3, h⟩ := h
  refine jx_iald dX11_setAside_13 hk2 hi3 ?_
  obtain ⟨hk4, h⟩ := h
  obtain ⟨hi5, h⟩ := h
  refine jx_iast dX11_setAside_14 hk4 hi5 ?_
  refine jx_iinc 2 (v := (x3 + 1)) (lv1 := [(3, .int (x3 + 1)), (1, .ref a1), (2, .ref a2)]) kd101.1 rfl rfl (by decide) rfl ?_
  refine jx_goto (tgt := 2) kd101.2 (by decide) ?_
  exact jx_lv [1, 2, 0] rfl h
/-- X11_allOf at its loop's head 4 -/
abbrev L_X11_allOf_4 (E : jEnv) (d : Nat) (Q : Int32 → jM → Prop) (a0 : Nat) (x1 : Int32) (x2 : Int32) (x3 : Int32) (S : jM) : Prop := jX E mX11_allOf (jRm (d + 1) 0 0) (jZm E (fun r S' => ∃ v : Int32, r = some (.int v) ∧ Q v S') 0 0) 4 [(0, .ref a0), (1, .int x1), (2, .int x2), (3, .int x3)] [] S 0 0
set_option maxRecDepth 100000 in
set_option maxHeartbeats 4000000 in
theorem T_X11_allOf {E : jEnv} {d : Nat} {Q : Int32 → jM → Prop} {a0 : Nat} {x1 : Int32} {S : jM} (h : L_X11_allOf_4 E d Q a0 x1 0 0 S) : jFi E mX11_allOf (d + 1) 0 0 [.ref a0, .int x1] S Q := by
  refine jF_of (by decide) (jle rfl) ?_
  refine jx_lv (lv1 := [(0, .ref a0), (1, .int x1)]) [0, 1] rfl ?_
  refine jx_iconst (v := 0) dX11_allOf_0 (by decide) ?_
  refine jx_istore_n (lv1 := [(2, .int 0), (0, .ref a0), (1, .int x1)]) dX11_allOf_1 rfl (by decide) rfl ?_
  refine jx_iconst (v := 0) dX11_allOf_2 (by decide) ?_
  refine jx_istore_n (lv1 := [(3, .int 0), (2, .int 0), (0, .ref a0), (1, .int x1)]) dX11_allOf_3 rfl (by decide) rfl ?_
  exact jx_lv [2, 3, 1, 0] rfl h
set_option maxRecDepth 100000 in
set_option maxHeartbeats 4000000 in
theorem T_X11_allOf_4 {E : jEnv} {d : Nat} {Q : Int32 → jM → Prop} {a0 : Nat} {x1 : Int32} {x2 : Int32} {x3 : Int32} {S : jM} (h : jk S a0 = 11 ∧ ∃ b2, jr S a0 0 = some b2 ∧ (jk S b2 = 12 ∧ vp_in 0 (jl S b2) ∧ (((ji S b2 (Int32.toNatClampNeg 0)) ≤ x3 → Q x2 S) ∧ (¬ (ji S b2 (Int32.toNatClampNeg 0)) ≤ x3 → jFi E mX11_of d 0 0 [.ref a0, .int x3, .int x1] S (fun r7 S6 => L_X11_allOf_4 E d Q a0 x1 (x2 + r7) (x3 + 1) S6))))) : L_X11_allOf_4 E d Q a0 x1 x2 x3 S := by
  show jX E mX11_allOf (jRm (d + 1) 0 0) (jZm E (fun r S' => ∃ v : Int32, r = some (.int v) ∧ Q v S') 0 0) 4 [(0, .ref a0), (1, .int x1), (2, .int x2), (3, .int x3)] [] S 0 0
  refine jx_iload_n 3 dX11_allOf_4 rfl rfl ?_
  refine jx_aload_n 0 dX11_allOf_5 rfl rfl ?_
  obtain ⟨hk1, h⟩ := h
  obtain ⟨b2, hb2, h⟩ := h
  refine jx_getr jc_11 (j := 0) (by decide) rfl jwF_X11_7 dX11_allOf_6 hk1 hb2 ?_
  refine jx_iconst (v := 0) dX11_allOf_9 (by decide) ?_
  obtain ⟨hk3, h⟩ := h
  obtain ⟨hi4, h⟩ := h
  refine jx_iald dX11_allOf_10 hk3 hi4 ?_
  refine jx_icmp_ge (tgt := 29) dX11_allOf_11 (by decide) (fun c5 => ?_) (fun c5 => ?_)
  · replace h := h.1 c5
    refine jx_iload_n 2 dX11_allOf_29 rfl rfl ?_
    exact jx_iret dX11_allOf_30 rfl rfl (jle rfl) (jle rfl) ⟨_, rfl, h⟩
  replace h := h.2 c5
  refine jx_iload_n 2 dX11_allOf_14 rfl rfl ?_
  refine jx_aload_n 0 dX11_allOf_15 rfl rfl ?_
  refine jx_iload_n 3 dX11_allOf_16 rfl rfl ?_
  refine jx_iload_n 1 dX11_allOf_17 rfl rfl ?_
  refine jx_callVi (M' := mX11_of) (As := [.int x3, .int x1]) jo_X11_of jc_11 rfl jwM_X11_97 jwN_X11_of jwX_X11_of dX11_allOf_18 (jRok_m _ _ _) rfl (jle rfl) ⟨jle rfl, jle rfl⟩ hk1 h (fun r7 S6 h => ?_)
  refine jx_iadd dX11_allOf_21 ?_
  refine jx_istore_n (lv1 := [(2, .int (x2 + r7)), (0, .ref a0), (1, .int x1), (3, .int x3)]) dX11_allOf_22 rfl (by decide) rfl ?_
  refine jx_iinc 3 (v := (x3 + 1)) (lv1 := [(3, .int (x3 + 1)), (2, .int (x2 + r7)), (0, .ref a0), (1, .int x1)]) kd102.1 rfl rfl (by decide) rfl ?_
  refine jx_goto (tgt := 4) kd102.2 (by decide) ?_
  exact jx_lv [2, 3, 1, 0] rfl h
/-- X11_check at its loop's head 64 -/
abbrev L_X11_check_64 (E : jEnv) (d : Nat) (Q : Int32 → jM → Prop) (a0 : Nat) (x1 : Int32) (x2 : Int32) (x3 : Int32) (x4 : Int32) (S : jM) : Prop := jX E mX11_check (jRm (d + 1) 0 0) (jZm E (fun r S' => ∃ v : Int32, r = some (.int v) ∧ Q v S') 0 0) 64 [(0, .ref a0), (1, .int x1), (2, .int x2), (3, .int x3), (4, .int x4)] [] S 0 0
/-- X11_check at its loop's head 125 -/
abbrev L_X11_check_125 (E : jEnv) (d : Nat) (Q : Int32 → jM → Prop) (a0 : Nat) (x2 : Int32) (x3 : Int32) (x4 : Int32) (S : jM) : Prop := jX E mX11_check (jRm (d + 1) 0 0) (jZm E (fun r S' => ∃ v : Int32, r = some (.int v) ∧ Q v S') 0 0) 125 [(0, .ref a0), (2, .int x2), (3, .int x3), (4, .int x4)] [] S 0 0
set_option maxRecDepth 100000 in
set_option maxHeartbeats 4000000 in
theorem T_X11_check {E : jEnv} {d : Nat} {Q : Int32 → jM → Prop} {a0 : Nat} {x1 : Int32} {S : jM} (h : jk S a0 = 11 ∧ ((jisin (Int32.toInt64 x1) 1 30) = 0 → Q (-1000000001) (jput S a0 34 0)) ∧ (¬ (jisin (Int32.toInt64 x1) 1 30) = 0 → ((ji S a0 3) = 0 → Q (-1000000002) (jput S a0 34 0)) ∧ (¬ (ji S a0 3) = 0 → ∃ b7, jr S a0 0 = some b7 ∧ (∃ b8, jr S a0 2 = some b8 ∧ (jFv E mX11_setAside d 0 0 [.ref a0, .ref b7, .ref b8] (jput S a0 34 0) (fun S9 => jk S9 a0 = 11 ∧ ∃ b11, jr S9 a0 1 = some b11 ∧ (∃ b12, jr S9 a0 0 = some b12 ∧ (jFv E mX11_setAside d 0 0 [.ref a0, .ref b11, .ref b12] S9 (fun S13 => L_X11_check_64 E d Q a0 x1 (ji S a0 34) 0 0 S13))))))))) : jFi E mX11_check (d + 1) 0 0 [.ref a0, .int x1] S Q := by
  refine jF_of (by decide) (jle rfl) ?_
  refine jx_lv (lv1 := [(0, .ref a0), (1, .int x1)]) [0, 1] rfl ?_
  refine jx_aload_n 0 dX11_check_0 rfl rfl ?_
  obtain ⟨hk1, h⟩ := h
  refine jx_geti jc_11 (j := 34) (by decide) rfl jwF_X11_332 dX11_check_1 hk1 ?_
  refine jx_istore_n (lv1 := [(2, .int (ji S a0 34)), (0, .ref a0), (1, .int x1)]) dX11_check_4 rfl (by decide) rfl ?_
  refine jx_aload_n 1 dX11_check_5 rfl rfl ?_
  refine jx_iconst (v := 0) dX11_check_6 (by decide) ?_
  refine jx_puti jc_11 (j := 34) (by decide) rfl jwF_X11_332 rfl rfl rfl dX11_check_7 hk1 ?_
  refine jx_iload_n 2 dX11_check_10 rfl rfl ?_
  refine jx_i2l dX11_check_11 ?_
  refine jx_lconst (v := 1) dX11_check_12 (by decide) ?_
  refine jx_ldc2 jwL_X11_335 dX11_check_13 ?_
  refine jx_callSi (M' := mX11_isIn) (As := [.long (Int32.toInt64 x1), .long 1, .long 30]) jo_X11_isIn jwM_X11_71 jwS_X11_isIn dX11_check_16 (jRok_m _ _ _) rfl (jle rfl) ⟨jle rfl, jle rfl⟩ (c_X11_isIn (Q := fun v S' => v = (jisin (Int32.toInt64 x1) 1 30) ∧ (jput S a0 34 0) = S') ⟨rfl, rfl⟩) (fun r2 S3 hq4 => ?_)
  obtain ⟨rfl, rfl⟩ := hq4
  refine jx_if_ne (tgt := 25) dX11_check_19 (by decide) (fun c5 => ?_) (fun c5 => ?_)
  · replace h := h.2 c5
    refine jx_aload_n 1 dX11_check_25 rfl rfl ?_
    refine jx_geti jc_11 (j := 3) (by decide) rfl jwF_X11_337 dX11_check_26 hk1 ?_
    refine jx_topi (y := (ji S a0 3)) (by simp [ji_put, ji_row, ji_putr]) ?_
    refine jx_if_ne (tgt := 35) dX11_check_29 (by decide) (fun c6 => ?_) (fun c6 => ?_)
    · replace h := h.2 c6
      refine jx_aload_n 1 dX11_check_35 rfl rfl ?_
      refine jx_aload_n 1 dX11_check_36 rfl rfl ?_
      obtain ⟨b7, hb7, h⟩ := h
      refine jx_getr jc_11 (j := 0) (by decide) rfl jwF_X11_7 dX11_check_37 hk1 hb7 ?_
      refine jx_aload_n 1 dX11_check_40 rfl rfl ?_
      obtain ⟨b8, hb8, h⟩ := h
      refine jx_getr jc_11 (j := 2) (by decide) rfl jwF_X11_16 dX11_check_41 hk1 hb8 ?_
      refine jx_callVv (M' := mX11_setAside) (As := [.ref b7, .ref b8]) jo_X11_setAside jc_11 rfl jwM_X11_341 jwN_X11_setAside jwX_X11_setAside dX11_check_44 (jRok_m _ _ _) rfl (jle rfl) ⟨jle rfl, jle rfl⟩ hk1 h (fun S9 h => ?_)
      refine jx_aload_n 1 dX11_check_47 rfl rfl ?_
      refine jx_aload_n 1 dX11_check_48 rfl rfl ?_
      obtain ⟨hk10, h⟩ := h
      obtain ⟨b11, hb11, h⟩ := h
      refine jx_getr jc_11 (j := 1) (by decide) rfl jwF_X11_13 dX11_check_49 hk10 hb11 ?_
      refine jx_aload_n 1 dX11_check_52 rfl rfl ?_
      obtain ⟨b12, hb12, h⟩ := h
      refine jx_getr jc_11 (j := 0) (by decide) rfl jwF_X11_7 dX11_check_53 hk10 hb12 ?_
      refine jx_callVv (M' := mX11_setAside) (As := [.ref b11, .ref b12]) jo_X11_setAside jc_11 rfl jwM_X11_341 jwN_X11_setAside jwX_X11_setAside dX11_check_56 (jRok_m _ _ _) rfl (jle rfl) ⟨jle rfl, jle rfl⟩ hk10 h (fun S13 h => ?_)
      refine jx_iconst (v := 0) dX11_check_59 (by decide) ?_
      refine jx_istore_n (lv1 := [(3, .int 0), (2, .int (ji S a0 34)), (0, .ref a0), (1, .int x1)]) dX11_check_60 rfl (by decide) rfl ?_
      refine jx_iconst (v := 0) dX11_check_61 (by decide) ?_
      refine jx_istore (lv1 := [(4, .int 0), (3, .int 0), (2, .int (ji S a0 34)), (0, .ref a0), (1, .int x1)]) dX11_check_62 (by decide) rfl ?_
      exact jx_lv [3, 4, 2, 1, 0] rfl h
    replace h := h.1 c6
    refine jx_ldc jwC_X11_153 dX11_check_32 ?_
    exact jx_iret dX11_check_34 rfl rfl (jle rfl) (jle rfl) ⟨_, rfl, h⟩
  replace h := h.1 c5
  refine jx_ldc jwC_X11_87 dX11_check_22 ?_
  exact jx_iret dX11_check_24 rfl rfl (jle rfl) (jle rfl) ⟨_, rfl, h⟩
set_option maxRecDepth 100000 in
set_option maxHeartbeats 4000000 in
theorem T_X11_check_64 {E : jEnv} {d : Nat} {Q : Int32 → jM → Prop} {a0 : Nat} {x1 : Int32} {x2 : Int32} {x3 : Int32} {x4 : Int32} {S : jM} (h : (x1 ≤ x4 → jk S a0 = 11 ∧ ∃ b16, jr S a0 2 = some b16 ∧ (∃ b17, jr S a0 0 = some b17 ∧ (jFv E mX11_setAside d 0 0 [.ref a0, .ref b16, .ref b17] S (fun S18 => L_X11_check_125 E d Q a0 x2 x3 0 S18)))) ∧ (¬ x1 ≤ x4 → jk S a0 = 11 ∧ jFi E mX11_year d 0 0 [.ref a0] S (fun r21 S20 => jk S20 a0 = 11 ∧ ∃ b23, jr S20 a0 35 = some b23 ∧ (jFi E mX11_allOf d 0 0 [.ref a0, .int 6] S20 (fun r25 S24 => jk S24 b23 = 12 ∧ vp_in x3 (jl S24 b23) ∧ (jk S24 a0 = 11 ∧ ∃ b29, jr S24 a0 35 = some b29 ∧ (jFi E mX11_allOf d 0 0 [.ref a0, .int 5] (jput S24 b23 (Int32.toNatClampNeg x3) r25) (fun r31 S30 => jk S30 b29 = 12 ∧ vp_in (x3 + 1) (jl S30 b29) ∧ (L_X11_check_64 E d Q a0 x1 x2 (x3 + 2) (x4 + 1) (jput S30 b29 (Int32.toNatClampNeg (x3 + 1)) r31)))))))))) : L_X11_check_64 E d Q a0 x1 x2 x3 x4 S := by
  show jX E mX11_check (jRm (d + 1) 0 0) (jZm E (fun r S' => ∃ v : Int32, r = some (.int v) ∧ Q v S') 0 0) 64 [(0, .ref a0), (1, .int x1), (2, .int x2), (3, .int x3), (4, .int x4)] [] S 0 0
  refine jx_iload 4 dX11_check_64 rfl ?_
  refine jx_iload_n 1 dX11_check_66 rfl rfl ?_
  refine jx_icmp_ge (tgt := 110) dX11_check_67 (by decide) (fun c14 => ?_) (fun c14 => ?_)
  · replace h := h.1 c14
    refine jx_aload_n 0 dX11_check_110 rfl rfl ?_
    refine jx_aload_n 0 dX11_check_111 rfl rfl ?_
    obtain ⟨hk15, h⟩ := h
    obtain ⟨b16, hb16, h⟩ := h
    refine jx_getr jc_11 (j := 2) (by decide) rfl jwF_X11_16 dX11_check_112 hk15 hb16 ?_
    refine jx_aload_n 0 dX11_check_115 rfl rfl ?_
    obtain ⟨b17, hb17, h⟩ := h
    refine jx_getr jc_11 (j := 0) (by decide) rfl jwF_X11_7 dX11_check_116 hk15 hb17 ?_
    refine jx_callVv (M' := mX11_setAside) (As := [.ref b16, .ref b17]) jo_X11_setAside jc_11 rfl jwM_X11_341 jwN_X11_setAside jwX_X11_setAside dX11_check_119 (jRok_m _ _ _) rfl (jle rfl) ⟨jle rfl, jle rfl⟩ hk15 h (fun S18 h => ?_)
    refine jx_iconst (v := 0) dX11_check_122 (by decide) ?_
    refine jx_istore (lv1 := [(4, .int 0), (0, .ref a0), (1, .int x1), (2, .int x2), (3, .int x3)]) dX11_check_123 (by decide) rfl ?_
    exact jx_lv [1, 3, 4, 0] rfl h
  replace h := h.2 c14
  refine jx_aload_n 0 dX11_check_70 rfl rfl ?_
  obtain ⟨hk19, h⟩ := h
  refine jx_callVi (M' := mX11_year) (As := []) jo_X11_year jc_11 rfl jwM_X11_208 jwN_X11_year jwX_X11_year dX11_check_71 (jRok_m _ _ _) rfl (jle rfl) ⟨jle rfl, jle rfl⟩ hk19 h (fun r21 S20 h => ?_)
  refine jx_istore (lv1 := [(5, .int r21), (0, .ref a0), (1, .int x1), (2, .int x2), (3, .int x3), (4, .int x4)]) dX11_check_74 (by decide) rfl ?_
  refine jx_aload_n 1 dX11_check_76 rfl rfl ?_
  obtain ⟨hk22, h⟩ := h
  obtain ⟨b23, hb23, h⟩ := h
  refine jx_getr jc_11 (j := 35) (by decide) rfl jwF_X11_67 dX11_check_77 hk22 hb23 ?_
  refine jx_iload_n 4 dX11_check_80 rfl rfl ?_
  refine jx_aload_n 1 dX11_check_81 rfl rfl ?_
  refine jx_bipush (v := 6) dX11_check_82 (by decide) ?_
  refine jx_callVi (M' := mX11_allOf) (As := [.int 6]) jo_X11_allOf jc_11 rfl jwM_X11_345 jwN_X11_allOf jwX_X11_allOf dX11_check_84 (jRok_m _ _ _) rfl (jle rfl) ⟨jle rfl, jle rfl⟩ hk22 h (fun r25 S24 h => ?_)
  obtain ⟨hk26, h⟩ := h
  obtain ⟨hi27, h⟩ := h
  refine jx_iast dX11_check_87 hk26 hi27 ?_
  refine jx_aload_n 1 dX11_check_88 rfl rfl ?_
  obtain ⟨hk28, h⟩ := h
  obtain ⟨b29, hb29, h⟩ := h
  refine jx_getr jc_11 (j := 35) (by decide) rfl jwF_X11_67 dX11_check_89 hk28 hb29 ?_
  refine jx_iload_n 4 dX11_check_92 rfl rfl ?_
  refine jx_iconst (v := 1) dX11_check_93 (by decide) ?_
  refine jx_iadd dX11_check_94 ?_
  refine jx_aload_n 1 dX11_check_95 rfl rfl ?_
  refine jx_iconst (v := 5) dX11_check_96 (by decide) ?_
  refine jx_callVi (M' := mX11_allOf) (As := [.int 5]) jo_X11_allOf jc_11 rfl jwM_X11_345 jwN_X11_allOf jwX_X11_allOf dX11_check_97 (jRok_m _ _ _) rfl (jle rfl) ⟨jle rfl, jle rfl⟩ hk28 h (fun r31 S30 h => ?_)
  obtain ⟨hk32, h⟩ := h
  obtain ⟨hi33, h⟩ := h
  refine jx_iast dX11_check_100 hk32 hi33 ?_
  refine jx_iinc 4 (v := (x3 + 2)) (lv1 := [(3, .int (x3 + 2)), (5, .int r21), (0, .ref a0), (1, .int x1), (2, .int x2), (4, .int x4)]) kd103.1 rfl rfl (by decide) rfl ?_
  refine jx_iinc 5 (v := (x4 + 1)) (lv1 := [(4, .int (x4 + 1)), (3, .int (x3 + 2)), (5, .int r21), (0, .ref a0), (1, .int x1), (2, .int x2)]) kd103.2.1 rfl rfl (by decide) rfl ?_
  refine jx_goto (tgt := 64) kd103.2.2.1 (by decide) ?_
  exact jx_lv [3, 4, 5, 1, 0] rfl h
set_option maxRecDepth 100000 in
set_option maxHeartbeats 4000000 in
theorem T_X11_check_125 {E : jEnv} {d : Nat} {Q : Int32 → jM → Prop} {a0 : Nat} {x2 : Int32} {x3 : Int32} {x4 : Int32} {S : jM} (h : (x2 ≤ x4 → (x4 = x2 → (x4 = x3 → Q 0 S) ∧ (¬ x4 = x3 → Q (1 + x4) S)) ∧ (¬ x4 = x2 → Q (1 + x4) S)) ∧ (¬ x2 ≤ x4 → (x3 ≤ x4 → (x4 = x2 → (x4 = x3 → Q 0 S) ∧ (¬ x4 = x3 → Q (1 + x4) S)) ∧ (¬ x4 = x2 → Q (1 + x4) S)) ∧ (¬ x3 ≤ x4 → jk S a0 = 11 ∧ ∃ b41, jr S a0 33 = some b41 ∧ (jk S b41 = 12 ∧ vp_in x4 (jl S b41) ∧ (∃ b44, jr S a0 35 = some b44 ∧ (jk S b44 = 12 ∧ vp_in x4 (jl S b44) ∧ (((ji S b41 (Int32.toNatClampNeg x4)) = (ji S b44 (Int32.toNatClampNeg x4)) → L_X11_check_125 E d Q a0 x2 x3 (x4 + 1) S) ∧ (¬ (ji S b41 (Int32.toNatClampNeg x4)) = (ji S b44 (Int32.toNatClampNeg x4)) → (x4 = x2 → (x4 = x3 → Q 0 S) ∧ (¬ x4 = x3 → Q (1 + x4) S)) ∧ (¬ x4 = x2 → Q (1 + x4) S))))))))) : L_X11_check_125 E d Q a0 x2 x3 x4 S := by
  show jX E mX11_check (jRm (d + 1) 0 0) (jZm E (fun r S' => ∃ v : Int32, r = some (.int v) ∧ Q v S') 0 0) 125 [(0, .ref a0), (2, .int x2), (3, .int x3), (4, .int x4)] [] S 0 0
  refine jx_iload 3 dX11_check_125 rfl ?_
  refine jx_iload_n 1 dX11_check_127 rfl rfl ?_
  refine jx_icmp_ge (tgt := 160) dX11_check_128 (by decide) (fun c34 => ?_) (fun c34 => ?_)
  · replace h := h.1 c34
    refine jx_iload 3 dX11_check_160 rfl ?_
    refine jx_iload_n 1 dX11_check_162 rfl rfl ?_
    refine jx_icmp_ne (tgt := 176) dX11_check_163 (by decide) (fun c35 => ?_) (fun c35 => ?_)
    · replace h := h.2 c35
      refine jx_iconst (v := 1) dX11_check_176 (by decide) ?_
      refine jx_iload 3 dX11_check_177 rfl ?_
      refine jx_iadd dX11_check_179 ?_
      exact jx_iret dX11_check_180 rfl rfl (jle rfl) (jle rfl) ⟨_, rfl, h⟩
    replace h := h.1 c35
    refine jx_iload 3 dX11_check_166 rfl ?_
    refine jx_iload_n 2 dX11_check_168 rfl rfl ?_
    refine jx_icmp_ne (tgt := 176) dX11_check_169 (by decide) (fun c36 => ?_) (fun c36 => ?_)
    · replace h := h.2 c36
      refine jx_iconst (v := 1) dX11_check_176 (by decide) ?_
      refine jx_iload 3 dX11_check_177 rfl ?_
      refine jx_iadd dX11_check_179 ?_
      exact jx_iret dX11_check_180 rfl rfl (jle rfl) (jle rfl) ⟨_, rfl, h⟩
    replace h := h.1 c36
    refine jx_iconst (v := 0) dX11_check_172 (by decide) ?_
    refine jx_goto (tgt := 180) dX11_check_173 (by decide) ?_
    exact jx_iret dX11_check_180 rfl rfl (jle rfl) (jle rfl) ⟨_, rfl, h⟩
  replace h := h.2 c34
  refine jx_iload 3 dX11_check_131 rfl ?_
  refine jx_iload_n 2 dX11_check_133 rfl rfl ?_
  refine jx_icmp_ge (tgt := 160) dX11_check_134 (by decide) (fun c37 => ?_) (fun c37 => ?_)
  · replace h := h.1 c37
    refine jx_iload 3 dX11_check_160 rfl ?_
    refine jx_iload_n 1 dX11_check_162 rfl rfl ?_
    refine jx_icmp_ne (tgt := 176) dX11_check_163 (by decide) (fun c38 => ?_) (fun c38 => ?_)
    · replace h := h.2 c38
      refine jx_iconst (v := 1) dX11_check_176 (by decide) ?_
      refine jx_iload 3 dX11_check_177 rfl ?_
      refine jx_iadd dX11_check_179 ?_
      exact jx_iret dX11_check_180 rfl rfl (jle rfl) (jle rfl) ⟨_, rfl, h⟩
    replace h := h.1 c38
    refine jx_iload 3 dX11_check_166 rfl ?_
    refine jx_iload_n 2 dX11_check_168 rfl rfl ?_
    refine jx_icmp_ne (tgt := 176) dX11_check_169 (by decide) (fun c39 => ?_) (fun c39 => ?_)
    · replace h := h.2 c39
      refine jx_iconst (v := 1) dX11_check_176 (by decide) ?_
      refine jx_iload 3 dX11_check_177 rfl ?_
      refine jx_iadd dX11_check_179 ?_
      exact jx_iret dX11_check_180 rfl rfl (jle rfl) (jle rfl) ⟨_, rfl, h⟩
    replace h := h.1 c39
    refine jx_iconst (v := 0) dX11_check_172 (by decide) ?_
    refine jx_goto (tgt := 180) dX11_check_173 (by decide) ?_
    exact jx_iret dX11_check_180 rfl rfl (jle rfl) (jle rfl) ⟨_, rfl, h⟩
  replace h := h.2 c37
  refine jx_aload_n 0 dX11_check_137 rfl rfl ?_
  obtain ⟨hk40, h⟩ := h
  obtain ⟨b41, hb41, h⟩ := h
  refine jx_getr jc_11 (j := 33) (by decide) rfl jwF_X11_64 dX11_check_138 hk40 hb41 ?_
  refine jx_iload 3 dX11_check_141 rfl ?_
  obtain ⟨hk42, h⟩ := h
  obtain ⟨hi43, h⟩ := h
  refine jx_iald dX11_check_143 hk42 hi43 ?_
  refine jx_aload_n 0 dX11_check_144 rfl rfl ?_
  obtain ⟨b44, hb44, h⟩ := h
  refine jx_getr jc_11 (j := 35) (by decide) rfl jwF_X11_67 dX11_check_145 hk40 hb44 ?_
  refine jx_iload 3 dX11_check_148 rfl ?_
  obtain ⟨hk45, h⟩ := h
  obtain ⟨hi46, h⟩ := h
  refine jx_iald dX11_check_150 hk45 hi46 ?_
  refine jx_icmp_ne (tgt := 160) dX11_check_151 (by decide) (fun c47 => ?_) (fun c47 => ?_)
  · replace h := h.2 c47
    refine jx_iload 3 dX11_check_160 rfl ?_
    refine jx_iload_n 1 dX11_check_162 rfl rfl ?_
    refine jx_icmp_ne (tgt := 176) dX11_check_163 (by decide) (fun c48 => ?_) (fun c48 => ?_)
    · replace h := h.2 c48
      refine jx_iconst (v := 1) dX11_check_176 (by decide) ?_
      refine jx_iload 3 dX11_check_177 rfl ?_
      refine jx_iadd dX11_check_179 ?_
      exact jx_iret dX11_check_180 rfl rfl (jle rfl) (jle rfl) ⟨_, rfl, h⟩
    replace h := h.1 c48
    refine jx_iload 3 dX11_check_166 rfl ?_
    refine jx_iload_n 2 dX11_check_168 rfl rfl ?_
    refine jx_icmp_ne (tgt := 176) dX11_check_169 (by decide) (fun c49 => ?_) (fun c49 => ?_)
    · replace h := h.2 c49
      refine jx_iconst (v := 1) dX11_check_176 (by decide) ?_
      refine jx_iload 3 dX11_check_177 rfl ?_
      refine jx_iadd dX11_check_179 ?_
      exact jx_iret dX11_check_180 rfl rfl (jle rfl) (jle rfl) ⟨_, rfl, h⟩
    replace h := h.1 c49
    refine jx_iconst (v := 0) dX11_check_172 (by decide) ?_
    refine jx_goto (tgt := 180) dX11_check_173 (by decide) ?_
    exact jx_iret dX11_check_180 rfl rfl (jle rfl) (jle rfl) ⟨_, rfl, h⟩
  replace h := h.1 c47
  refine jx_iinc 3 (v := (x4 + 1)) (lv1 := [(4, .int (x4 + 1)), (0, .ref a0), (2, .int x2), (3, .int x3)]) kd103.2.2.2.1 rfl rfl (by decide) rfl ?_
  refine jx_goto (tgt := 125) kd103.2.2.2.2 (by decide) ?_
  exact jx_lv [1, 2, 3, 0] rfl h
set_option maxRecDepth 100000 in
set_option maxHeartbeats 4000000 in
theorem T_X11_keep {E : jEnv} {d : Nat} {Q : Int32 → jM → Prop} {a0 : Nat} {S : jM} (h : jk S a0 = 11 ∧ ∃ b2, jr S a0 0 = some b2 ∧ (∃ b3, jr S a0 1 = some b3 ∧ (jFv E mX11_setAside d 0 0 [.ref a0, .ref b2, .ref b3] (jput S a0 3 1) (fun S4 => jk S4 a0 = 11 ∧ ∃ b6, jr S4 a0 0 = some b6 ∧ (jk S4 b6 = 12 ∧ vp_in 0 (jl S4 b6) ∧ (Q (ji S4 b6 (Int32.toNatClampNeg 0)) S4)))))) : jFi E mX11_keep (d + 1) 0 0 [.ref a0] S Q := by
  refine jF_of (by decide) (jle rfl) ?_
  refine jx_lv (lv1 := [(0, .ref a0)]) [0] rfl ?_
  refine jx_aload_n 0 dX11_keep_0 rfl rfl ?_
  refine jx_iconst (v := 1) dX11_keep_1 (by decide) ?_
  obtain ⟨hk1, h⟩ := h
  refine jx_puti jc_11 (j := 3) (by decide) rfl jwF_X11_337 rfl (by decide) (by decide) dX11_keep_2 hk1 ?_
  refine jx_aload_n 0 dX11_keep_5 rfl rfl ?_
  refine jx_aload_n 0 dX11_keep_6 rfl rfl ?_
  obtain ⟨b2, hb2, h⟩ := h
  refine jx_getr jc_11 (j := 0) (by decide) rfl jwF_X11_7 dX11_keep_7 hk1 hb2 ?_
  refine jx_aload_n 0 dX11_keep_10 rfl rfl ?_
  obtain ⟨b3, hb3, h⟩ := h
  refine jx_getr jc_11 (j := 1) (by decide) rfl jwF_X11_13 dX11_keep_11 hk1 hb3 ?_
  refine jx_callVv (M' := mX11_setAside) (As := [.ref b2, .ref b3]) jo_X11_setAside jc_11 rfl jwM_X11_341 jwN_X11_setAside jwX_X11_setAside dX11_keep_14 (jRok_m _ _ _) rfl (jle rfl) ⟨jle rfl, jle rfl⟩ hk1 h (fun S4 h => ?_)
  refine jx_aload_n 0 dX11_keep_17 rfl rfl ?_
  obtain ⟨hk5, h⟩ := h
  obtain ⟨b6, hb6, h⟩ := h
  refine jx_getr jc_11 (j := 0) (by decide) rfl jwF_X11_7 dX11_keep_18 hk5 hb6 ?_
  refine jx_iconst (v := 0) dX11_keep_21 (by decide) ?_
  obtain ⟨hk7, h⟩ := h
  obtain ⟨hi8, h⟩ := h
  refine jx_iald dX11_keep_22 hk7 hi8 ?_
  exact jx_iret dX11_keep_23 rfl rfl (jle rfl) (jle rfl) ⟨_, rfl, h⟩
set_option maxRecDepth 100000 in
set_option maxHeartbeats 4000000 in
theorem T_X11_back {E : jEnv} {d : Nat} {Q : Int32 → jM → Prop} {a0 : Nat} {S : jM} (h : jk S a0 = 11 ∧ ((ji S a0 3) = 0 → Q (-1000000002) S) ∧ (¬ (ji S a0 3) = 0 → ∃ b3, jr S a0 1 = some b3 ∧ (∃ b4, jr S a0 0 = some b4 ∧ (jFv E mX11_setAside d 0 0 [.ref a0, .ref b3, .ref b4] S (fun S5 => jk S5 a0 = 11 ∧ ∃ b7, jr S5 a0 0 = some b7 ∧ (jk S5 b7 = 12 ∧ vp_in 0 (jl S5 b7) ∧ (Q (ji S5 b7 (Int32.toNatClampNeg 0)) S5))))))) : jFi E mX11_back (d + 1) 0 0 [.ref a0] S Q := by
  refine jF_of (by decide) (jle rfl) ?_
  refine jx_lv (lv1 := [(0, .ref a0)]) [0] rfl ?_
  refine jx_aload_n 0 dX11_back_0 rfl rfl ?_
  obtain ⟨hk1, h⟩ := h
  refine jx_geti jc_11 (j := 3) (by decide) rfl jwF_X11_337 dX11_back_1 hk1 ?_
  refine jx_if_ne (tgt := 10) dX11_back_4 (by decide) (fun c2 => ?_) (fun c2 => ?_)
  · replace h := h.2 c2
    refine jx_aload_n 0 dX11_back_10 rfl rfl ?_
    refine jx_aload_n 0 dX11_back_11 rfl rfl ?_
    obtain ⟨b3, hb3, h⟩ := h
    refine jx_getr jc_11 (j := 1) (by decide) rfl jwF_X11_13 dX11_back_12 hk1 hb3 ?_
    refine jx_aload_n 0 dX11_back_15 rfl rfl ?_
    obtain ⟨b4, hb4, h⟩ := h
    refine jx_getr jc_11 (j := 0) (by decide) rfl jwF_X11_7 dX11_back_16 hk1 hb4 ?_
    refine jx_callVv (M' := mX11_setAside) (As := [.ref b3, .ref b4]) jo_X11_setAside jc_11 rfl jwM_X11_341 jwN_X11_setAside jwX_X11_setAside dX11_back_19 (jRok_m _ _ _) rfl (jle rfl) ⟨jle rfl, jle rfl⟩ hk1 h (fun S5 h => ?_)
    refine jx_aload_n 0 dX11_back_22 rfl rfl ?_
    obtain ⟨hk6, h⟩ := h
    obtain ⟨b7, hb7, h⟩ := h
    refine jx_getr jc_11 (j := 0) (by decide) rfl jwF_X11_7 dX11_back_23 hk6 hb7 ?_
    refine jx_iconst (v := 0) dX11_back_26 (by decide) ?_
    obtain ⟨hk8, h⟩ := h
    obtain ⟨hi9, h⟩ := h
    refine jx_iald dX11_back_27 hk8 hi9 ?_
    exact jx_iret dX11_back_28 rfl rfl (jle rfl) (jle rfl) ⟨_, rfl, h⟩
  replace h := h.1 c2
  refine jx_ldc jwC_X11_153 dX11_back_7 ?_
  exact jx_iret dX11_back_9 rfl rfl (jle rfl) (jle rfl) ⟨_, rfl, h⟩
set_option maxRecDepth 100000 in
set_option maxHeartbeats 4000000 in
theorem T_X11_count {E : jEnv} {d : Nat} {Q : Int32 → jM → Prop} {a0 : Nat} {x1 : Int32} {S : jM} (h : (x1 = 0 → jk S a0 = 11 ∧ ∃ b3, jr S a0 0 = some b3 ∧ (jk S b3 = 12 ∧ vp_in 0 (jl S b3) ∧ (Q (ji S b3 (Int32.toNatClampNeg 0)) S))) ∧ (x1 = 1 → jk S a0 = 11 ∧ jFi E mX11_allOf d 0 0 [.ref a0, .int 6] S (fun r9 S8 => Q r9 S8)) ∧ (x1 = 2 → jk S a0 = 11 ∧ ∃ b12, jr S a0 0 = some b12 ∧ (jk S b12 = 12 ∧ vp_in 2 (jl S b12) ∧ (Q (ji S b12 (Int32.toNatClampNeg 2)) S))) ∧ (x1 = 3 → jk S a0 = 11 ∧ ∃ b17, jr S a0 0 = some b17 ∧ (jk S b17 = 12 ∧ vp_in 4 (jl S b17) ∧ (Q (jmany (ji S b17 (Int32.toNatClampNeg 4))) S))) ∧ (x1 = 4 → jk S a0 = 11 ∧ ∃ b25, jr S a0 0 = some b25 ∧ (jk S b25 = 12 ∧ vp_in 7 (jl S b25) ∧ (Q (ji S b25 (Int32.toNatClampNeg 7)) S))) ∧ (x1 = 5 → jk S a0 = 11 ∧ jFi E mX11_can d 0 0 [.ref a0] S (fun r31 S30 => (r31 = 0 → Q 0 S30) ∧ (¬ r31 = 0 → Q 1 S30))) ∧ (x1 = 6 → jk S a0 = 11 ∧ ∃ b35, jr S a0 0 = some b35 ∧ (jk S b35 = 12 ∧ vp_in 1 (jl S b35) ∧ (Q (ji S b35 (Int32.toNatClampNeg 1)) S))) ∧ (x1 = 7 → jk S a0 = 11 ∧ Q (ji S a0 34) S) ∧ (x1 = 8 → jk S a0 = 11 ∧ Q (ji S a0 19) S) ∧ (x1 = 9 → jk S a0 = 11 ∧ ∃ b44, jr S a0 0 = some b44 ∧ (jk S b44 = 12 ∧ vp_in 8 (jl S b44) ∧ (Q (ji S b44 (Int32.toNatClampNeg 8)) S))) ∧ (¬ x1 = 0 → ¬ x1 = 1 → ¬ x1 = 2 → ¬ x1 = 3 → ¬ x1 = 4 → ¬ x1 = 5 → ¬ x1 = 6 → ¬ x1 = 7 → ¬ x1 = 8 → ¬ x1 = 9 → Q (-1000000001) S)) : jFi E mX11_count (d + 1) 0 0 [.ref a0, .int x1] S Q := by
  refine jF_of (by decide) (jle rfl) ?_
  refine jx_lv (lv1 := [(0, .ref a0), (1, .int x1)]) [0, 1] rfl ?_
  refine jx_iload_n 1 dX11_count_0 rfl rfl ?_
  by_cases c1 : x1 = 0
  · replace h := h.1 c1
    refine jx_tableIn (v := 0) (tgt := 56) (off := 55) kd104 c1 (by decide) (by decide) (by decide) (by decide) ?_
    refine jx_aload_n 0 dX11_count_56 rfl rfl ?_
    obtain ⟨hk2, h⟩ := h
    obtain ⟨b3, hb3, h⟩ := h
    refine jx_getr jc_11 (j := 0) (by decide) rfl jwF_X11_7 dX11_count_57 hk2 hb3 ?_
    refine jx_iconst (v := 0) dX11_count_60 (by decide) ?_
    obtain ⟨hk4, h⟩ := h
    obtain ⟨hi5, h⟩ := h
    refine jx_iald dX11_count_61 hk4 hi5 ?_
    exact jx_iret dX11_count_62 rfl rfl (jle rfl) (jle rfl) ⟨_, rfl, h⟩
  replace h := h.2
  by_cases c6 : x1 = 1
  · replace h := h.1 c6
    refine jx_tableIn (v := 1) (tgt := 63) (off := 62) kd104 c6 (by decide) (by decide) (by decide) (by decide) ?_
    refine jx_aload_n 0 dX11_count_63 rfl rfl ?_
    refine jx_bipush (v := 6) dX11_count_64 (by decide) ?_
    obtain ⟨hk7, h⟩ := h
    refine jx_callVi (M' := mX11_allOf) (As := [.int 6]) jo_X11_allOf jc_11 rfl jwM_X11_345 jwN_X11_allOf jwX_X11_allOf dX11_count_66 (jRok_m _ _ _) rfl (jle rfl) ⟨jle rfl, jle rfl⟩ hk7 h (fun r9 S8 h => ?_)
    exact jx_iret dX11_count_69 rfl rfl (jle rfl) (jle rfl) ⟨_, rfl, h⟩
  replace h := h.2
  by_cases c10 : x1 = 2
  · replace h := h.1 c10
    refine jx_tableIn (v := 2) (tgt := 70) (off := 69) kd104 c10 (by decide) (by decide) (by decide) (by decide) ?_
    refine jx_aload_n 0 dX11_count_70 rfl rfl ?_
    obtain ⟨hk11, h⟩ := h
    obtain ⟨b12, hb12, h⟩ := h
    refine jx_getr jc_11 (j := 0) (by decide) rfl jwF_X11_7 dX11_count_71 hk11 hb12 ?_
    refine jx_iconst (v := 2) dX11_count_74 (by decide) ?_
    obtain ⟨hk13, h⟩ := h
    obtain ⟨hi14, h⟩ := h
    refine jx_iald dX11_count_75 hk13 hi14 ?_
    exact jx_iret dX11_count_76 rfl rfl (jle rfl) (jle rfl) ⟨_, rfl, h⟩
  replace h := h.2
  by_cases c15 : x1 = 3
  · replace h := h.1 c15
    refine jx_tableIn (v := 3) (tgt := 77) (off := 76) kd104 c15 (by decide) (by decide) (by decide) (by decide) ?_
    refine jx_aload_n 0 dX11_count_77 rfl rfl ?_
    obtain ⟨hk16, h⟩ := h
    obtain ⟨b17, hb17, h⟩ := h
    refine jx_getr jc_11 (j := 0) (by decide) rfl jwF_X11_7 dX11_count_78 hk16 hb17 ?_
    refine jx_iconst (v := 4) dX11_count_81 (by decide) ?_
    obtain ⟨hk18, h⟩ := h
    obtain ⟨hi19, h⟩ := h
    refine jx_iald dX11_count_82 hk18 hi19 ?_
    refine jx_callSi (M' := mX11_manyIn) (As := [.int (ji S b17 (Int32.toNatClampNeg 4))]) jo_X11_manyIn jwM_X11_108 jwS_X11_manyIn dX11_count_83 (jRok_m _ _ _) rfl (jle rfl) ⟨jle rfl, jle rfl⟩ (c_X11_manyIn (Q := fun v S' => v = (jmany (ji S b17 (Int32.toNatClampNeg 4))) ∧ S = S') ⟨rfl, rfl⟩) (fun r20 S21 hq22 => ?_)
    obtain ⟨rfl, rfl⟩ := hq22
    exact jx_iret dX11_count_86 rfl rfl (jle rfl) (jle rfl) ⟨_, rfl, h⟩
  replace h := h.2
  by_cases c23 : x1 = 4
  · replace h := h.1 c23
    refine jx_tableIn (v := 4) (tgt := 87) (off := 86) kd104 c23 (by decide) (by decide) (by decide) (by decide) ?_
    refine jx_aload_n 0 dX11_count_87 rfl rfl ?_
    obtain ⟨hk24, h⟩ := h
    obtain ⟨b25, hb25, h⟩ := h
    refine jx_getr jc_11 (j := 0) (by decide) rfl jwF_X11_7 dX11_count_88 hk24 hb25 ?_
    refine jx_bipush (v := 7) dX11_count_91 (by decide) ?_
    obtain ⟨hk26, h⟩ := h
    obtain ⟨hi27, h⟩ := h
    refine jx_iald dX11_count_93 hk26 hi27 ?_
    exact jx_iret dX11_count_94 rfl rfl (jle rfl) (jle rfl) ⟨_, rfl, h⟩
  replace h := h.2
  by_cases c28 : x1 = 5
  · replace h := h.1 c28
    refine jx_tableIn (v := 5) (tgt := 95) (off := 94) kd104 c28 (by decide) (by decide) (by decide) (by decide) ?_
    refine jx_aload_n 0 dX11_count_95 rfl rfl ?_
    obtain ⟨hk29, h⟩ := h
    refine jx_callVi (M' := mX11_can) (As := []) jo_X11_can jc_11 rfl jwM_X11_172 jwN_X11_can jwX_X11_can dX11_count_96 (jRok_m _ _ _) rfl (jle rfl) ⟨jle rfl, jle rfl⟩ hk29 h (fun r31 S30 h => ?_)
    refine jx_if_eq (tgt := 106) dX11_count_99 (by decide) (fun c32 => ?_) (fun c32 => ?_)
    · replace h := h.1 c32
      refine jx_iconst (v := 0) dX11_count_106 (by decide) ?_
      exact jx_iret dX11_count_107 rfl rfl (jle rfl) (jle rfl) ⟨_, rfl, h⟩
    replace h := h.2 c32
    refine jx_iconst (v := 1) dX11_count_102 (by decide) ?_
    refine jx_goto (tgt := 107) dX11_count_103 (by decide) ?_
    exact jx_iret dX11_count_107 rfl rfl (jle rfl) (jle rfl) ⟨_, rfl, h⟩
  replace h := h.2
  by_cases c33 : x1 = 6
  · replace h := h.1 c33
    refine jx_tableIn (v := 6) (tgt := 108) (off := 107) kd104 c33 (by decide) (by decide) (by decide) (by decide) ?_
    refine jx_aload_n 0 dX11_count_108 rfl rfl ?_
    obtain ⟨hk34, h⟩ := h
    obtain ⟨b35, hb35, h⟩ := h
    refine jx_getr jc_11 (j := 0) (by decide) rfl jwF_X11_7 dX11_count_109 hk34 hb35 ?_
    refine jx_iconst (v := 1) dX11_count_112 (by decide) ?_
    obtain ⟨hk36, h⟩ := h
    obtain ⟨hi37, h⟩ := h
    refine jx_iald dX11_count_113 hk36 hi37 ?_
    exact jx_iret dX11_count_114 rfl rfl (jle rfl) (jle rfl) ⟨_, rfl, h⟩
  replace h := h.2
  by_cases c38 : x1 = 7
  · replace h := h.1 c38
    refine jx_tableIn (v := 7) (tgt := 115) (off := 114) kd104 c38 (by decide) (by decide) (by decide) (by decide) ?_
    refine jx_aload_n 0 dX11_count_115 rfl rfl ?_
    obtain ⟨hk39, h⟩ := h
    refine jx_geti jc_11 (j := 34) (by decide) rfl jwF_X11_332 dX11_count_116 hk39 ?_
    exact jx_iret dX11_count_119 rfl rfl (jle rfl) (jle rfl) ⟨_, rfl, h⟩
  replace h := h.2
  by_cases c40 : x1 = 8
  · replace h := h.1 c40
    refine jx_tableIn (v := 8) (tgt := 120) (off := 119) kd104 c40 (by decide) (by decide) (by decide) (by decide) ?_
    refine jx_aload_n 0 dX11_count_120 rfl rfl ?_
    obtain ⟨hk41, h⟩ := h
    refine jx_geti jc_11 (j := 19) (by decide) rfl jwF_X11_214 dX11_count_121 hk41 ?_
    exact jx_iret dX11_count_124 rfl rfl (jle rfl) (jle rfl) ⟨_, rfl, h⟩
  replace h := h.2
  by_cases c42 : x1 = 9
  · replace h := h.1 c42
    refine jx_tableIn (v := 9) (tgt := 125) (off := 124) kd104 c42 (by decide) (by decide) (by decide) (by decide) ?_
    refine jx_aload_n 0 dX11_count_125 rfl rfl ?_
    obtain ⟨hk43, h⟩ := h
    obtain ⟨b44, hb44, h⟩ := h
    refine jx_getr jc_11 (j := 0) (by decide) rfl jwF_X11_7 dX11_count_126 hk43 hb44 ?_
    refine jx_bipush (v := 8) dX11_count_129 (by decide) ?_
    obtain ⟨hk45, h⟩ := h
    obtain ⟨hi46, h⟩ := h
    refine jx_iald dX11_count_131 hk45 hi46 ?_
    exact jx_iret dX11_count_132 rfl rfl (jle rfl) (jle rfl) ⟨_, rfl, h⟩
  replace h := h.2
  replace h := h c1 c6 c10 c15 c23 c28 c33 c38 c40 c42
  refine jx_tableD (tgt := 133) ([0, 1, 2, 3, 4, 5, 6, 7, 8, 9] : List Int) kd104 (by simp only [List.mem_cons, List.not_mem_nil, or_false, forall_eq_or_imp, forall_eq]; exact ⟨lv_neT c1 (by decide), lv_neT c6 (by decide), lv_neT c10 (by decide), lv_neT c15 (by decide), lv_neT c23 (by decide), lv_neT c28 (by decide), lv_neT c33 (by decide), lv_neT c38 (by decide), lv_neT c40 (by decide), lv_neT c42 (by decide)⟩) (by decide) (by decide) (by decide) ?_
  refine jx_ldc jwC_X11_87 dX11_count_133 ?_
  exact jx_iret dX11_count_135 rfl rfl (jle rfl) (jle rfl) ⟨_, rfl, h⟩
end
