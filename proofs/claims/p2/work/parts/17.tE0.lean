/-- X11_init at its loop's head 180 -/
abbrev L_X11_init_180 (E : jEnv) (d : Nat) (Q : jM → Prop) (a0 : Nat) (x1 : Int32) (S : jM) (c9 k9 : Nat) : Prop := jX E mX11_init (jRm (d + 1) 20 10292) (jZm E (fun r S' => r = none ∧ Q S') 20 10292) 180 [(0, .ref a0), (1, .int x1)] [] S c9 k9
set_option maxRecDepth 100000 in
set_option maxHeartbeats 4000000 in
theorem T_X11_init {E : jEnv} {d : Nat} {Q : jM → Prop} {a0 : Nat} {S : jM} (h : ∀ q1, q1 = jn S → jk (jnew S 12 3135) a0 = 11 ∧ ∀ q4, q4 = jn (jputr (jnew S 12 3135) a0 0 (some q1)) → jk (jnew (jputr (jnew S 12 3135) a0 0 (some q1)) 12 3135) a0 = 11 ∧ ∀ q7, q7 = jn (jputr (jnew (jputr (jnew S 12 3135) a0 0 (some q1)) 12 3135) a0 1 (some q4)) → jk (jnew (jputr (jnew (jputr (jnew S 12 3135) a0 0 (some q1)) 12 3135) a0 1 (some q4)) 12 3135) a0 = 11 ∧ ∀ q10, q10 = jn (jputr (jnew (jputr (jnew (jputr (jnew S 12 3135) a0 0 (some q1)) 12 3135) a0 1 (some q4)) 12 3135) a0 2 (some q7)) → jk (jnew (jputr (jnew (jputr (jnew (jputr (jnew S 12 3135) a0 0 (some q1)) 12 3135) a0 1 (some q4)) 12 3135) a0 2 (some q7)) 12 4) a0 = 11 ∧ ∀ q13, q13 = jn (jputr (jnew (jputr (jnew (jputr (jnew (jputr (jnew S 12 3135) a0 0 (some q1)) 12 3135) a0 1 (some q4)) 12 3135) a0 2 (some q7)) 12 4) a0 4 (some q10)) → jk (jnew (jputr (jnew (jputr (jnew (jputr (jnew (jputr (jnew S 12 3135) a0 0 (some q1)) 12 3135) a0 1 (some q4)) 12 3135) a0 2 (some q7)) 12 4) a0 4 (some q10)) 12 4) a0 = 11 ∧ ∀ q16, q16 = jn (jputr (jnew (jputr (jnew (jputr (jnew (jputr (jnew (jputr (jnew S 12 3135) a0 0 (some q1)) 12 3135) a0 1 (some q4)) 12 3135) a0 2 (some q7)) 12 4) a0 4 (some q10)) 12 4) a0 5 (some q13)) → jk (jnew (jputr (jnew (jputr (jnew (jputr (jnew (jputr (jnew (jputr (jnew S 12 3135) a0 0 (some q1)) 12 3135) a0 1 (some q4)) 12 3135) a0 2 (some q7)) 12 4) a0 4 (some q10)) 12 4) a0 5 (some q13)) 12 96) a0 = 11 ∧ ∀ q19, q19 = jn (jputr (jnew (jputr (jnew (jputr (jnew (jputr (jnew (jputr (jnew (jputr (jnew S 12 3135) a0 0 (some q1)) 12 3135) a0 1 (some q4)) 12 3135) a0 2 (some q7)) 12 4) a0 4 (some q10)) 12 4) a0 5 (some q13)) 12 96) a0 6 (some q16)) → jk (jnew (jputr (jnew (jputr (jnew (jputr (jnew (jputr (jnew (jputr (jnew (jputr (jnew S 12 3135) a0 0 (some q1)) 12 3135) a0 1 (some q4)) 12 3135) a0 2 (some q7)) 12 4) a0 4 (some q10)) 12 4) a0 5 (some q13)) 12 96) a0 6 (some q16)) 12 5) a0 = 11 ∧ ∀ q22, q22 = jn (jputr (jnew (jputr (jnew (jputr (jnew (jputr (jnew (jputr (jnew (jputr (jnew (jputr (jnew S 12 3135) a0 0 (some q1)) 12 3135) a0 1 (some q4)) 12 3135) a0 2 (some q7)) 12 4) a0 4 (some q10)) 12 4) a0 5 (some q13)) 12 96) a0 6 (some q16)) 12 5) a0 7 (some q19)) → jk (jnew (jputr (jnew (jputr (jnew (jputr (jnew (jputr (jnew (jputr (jnew (jputr (jnew (jputr (jnew S 12 3135) a0 0 (some q1)) 12 3135) a0 1 (some q4)) 12 3135) a0 2 (some q7)) 12 4) a0 4 (some q10)) 12 4) a0 5 (some q13)) 12 96) a0 6 (some q16)) 12 5) a0 7 (some q19)) 12 5) a0 = 11 ∧ ∀ q25, q25 = jn (jputr (jnew (jputr (jnew (jputr (jnew (jputr (jnew (jputr (jnew (jputr (jnew (jputr (jnew (jputr (jnew S 12 3135) a0 0 (some q1)) 12 3135) a0 1 (some q4)) 12 3135) a0 2 (some q7)) 12 4) a0 4 (some q10)) 12 4) a0 5 (some q13)) 12 96) a0 6 (some q16)) 12 5) a0 7 (some q19)) 12 5) a0 8 (some q22)) → jk (jnew (jputr (jnew (jputr (jnew (jputr (jnew (jputr (jnew (jputr (jnew (jputr (jnew (jputr (jnew (jputr (jnew S 12 3135) a0 0 (some q1)) 12 3135) a0 1 (some q4)) 12 3135) a0 2 (some q7)) 12 4) a0 4 (some q10)) 12 4) a0 5 (some q13)) 12 96) a0 6 (some q16)) 12 5) a0 7 (some q19)) 12 5) a0 8 (some q22)) 12 5) a0 = 11 ∧ ∀ q28, q28 = jn (jputr (jnew (jputr (jnew (jputr (jnew (jputr (jnew (jputr (jnew (jputr (jnew (jputr (jnew (jputr (jnew (jputr (jnew S 12 3135) a0 0 (some q1)) 12 3135) a0 1 (some q4)) 12 3135) a0 2 (some q7)) 12 4) a0 4 (some q10)) 12 4) a0 5 (some q13)) 12 96) a0 6 (some q16)) 12 5) a0 7 (some q19)) 12 5) a0 8 (some q22)) 12 5) a0 9 (some q25)) → jk (jnew (jputr (jnew (jputr (jnew (jputr (jnew (jputr (jnew (jputr (jnew (jputr (jnew (jputr (jnew (jputr (jnew (jputr (jnew S 12 3135) a0 0 (some q1)) 12 3135) a0 1 (some q4)) 12 3135) a0 2 (some q7)) 12 4) a0 4 (some q10)) 12 4) a0 5 (some q13)) 12 96) a0 6 (some q16)) 12 5) a0 7 (some q19)) 12 5) a0 8 (some q22)) 12 5) a0 9 (some q25)) 12 5) a0 = 11 ∧ ∀ q31, q31 = jn (jputr (jnew (jputr (jnew (jputr (jnew (jputr (jnew (jputr (jnew (jputr (jnew (jputr (jnew (jputr (jnew (jputr (jnew (jputr (jnew S 12 3135) a0 0 (some q1)) 12 3135) a0 1 (some q4)) 12 3135) a0 2 (some q7)) 12 4) a0 4 (some q10)) 12 4) a0 5 (some q13)) 12 96) a0 6 (some q16)) 12 5) a0 7 (some q19)) 12 5) a0 8 (some q22)) 12 5) a0 9 (some q25)) 12 5) a0 10 (some q28)) → jk (jnew (jputr (jnew (jputr (jnew (jputr (jnew (jputr (jnew (jputr (jnew (jputr (jnew (jputr (jnew (jputr (jnew (jputr (jnew (jputr (jnew S 12 3135) a0 0 (some q1)) 12 3135) a0 1 (some q4)) 12 3135) a0 2 (some q7)) 12 4) a0 4 (some q10)) 12 4) a0 5 (some q13)) 12 96) a0 6 (some q16)) 12 5) a0 7 (some q19)) 12 5) a0 8 (some q22)) 12 5) a0 9 (some q25)) 12 5) a0 10 (some q28)) 12 120) a0 = 11 ∧ ∀ q34, q34 = jn (jputr (jnew (jputr (jnew (jputr (jnew (jputr (jnew (jputr (jnew (jputr (jnew (jputr (jnew (jputr (jnew (jputr (jnew (jputr (jnew (jputr (jnew S 12 3135) a0 0 (some q1)) 12 3135) a0 1 (some q4)) 12 3135) a0 2 (some q7)) 12 4) a0 4 (some q10)) 12 4) a0 5 (some q13)) 12 96) a0 6 (some q16)) 12 5) a0 7 (some q19)) 12 5) a0 8 (some q22)) 12 5) a0 9 (some q25)) 12 5) a0 10 (some q28)) 12 120) a0 11 (some q31)) → jk (jnew (jputr (jnew (jputr (jnew (jputr (jnew (jputr (jnew (jputr (jnew (jputr (jnew (jputr (jnew (jputr (jnew (jputr (jnew (jputr (jnew (jputr (jnew S 12 3135) a0 0 (some q1)) 12 3135) a0 1 (some q4)) 12 3135) a0 2 (some q7)) 12 4) a0 4 (some q10)) 12 4) a0 5 (some q13)) 12 96) a0 6 (some q16)) 12 5) a0 7 (some q19)) 12 5) a0 8 (some q22)) 12 5) a0 9 (some q25)) 12 5) a0 10 (some q28)) 12 120) a0 11 (some q31)) 12 36) a0 = 11 ∧ ∀ q37, q37 = jn (jputr (jnew (jputr (jnew (jputr (jnew (jputr (jnew (jputr (jnew (jputr (jnew (jputr (jnew (jputr (jnew (jputr (jnew (jputr (jnew (jputr (jnew (jputr (jnew S 12 3135) a0 0 (some q1)) 12 3135) a0 1 (some q4)) 12 3135) a0 2 (some q7)) 12 4) a0 4 (some q10)) 12 4) a0 5 (some q13)) 12 96) a0 6 (some q16)) 12 5) a0 7 (some q19)) 12 5) a0 8 (some q22)) 12 5) a0 9 (some q25)) 12 5) a0 10 (some q28)) 12 120) a0 11 (some q31)) 12 36) a0 12 (some q34)) → jk (jnew (jputr (jnew (jputr (jnew (jputr (jnew (jputr (jnew (jputr (jnew (jputr (jnew (jputr (jnew (jputr (jnew (jputr (jnew (jputr (jnew (jputr (jnew (jputr (jnew S 12 3135) a0 0 (some q1)) 12 3135) a0 1 (some q4)) 12 3135) a0 2 (some q7)) 12 4) a0 4 (some q10)) 12 4) a0 5 (some q13)) 12 96) a0 6 (some q16)) 12 5) a0 7 (some q19)) 12 5) a0 8 (some q22)) 12 5) a0 9 (some q25)) 12 5) a0 10 (some q28)) 12 120) a0 11 (some q31)) 12 36) a0 12 (some q34)) 12 135) a0 = 11 ∧ ∀ q40, q40 = jn (jputr (jnew (jputr (jnew (jputr (jnew (jputr (jnew (jputr (jnew (jputr (jnew (jputr (jnew (jputr (jnew (jputr (jnew (jputr (jnew (jputr (jnew (jputr (jnew (jputr (jnew S 12 3135) a0 0 (some q1)) 12 3135) a0 1 (some q4)) 12 3135) a0 2 (some q7)) 12 4) a0 4 (some q10)) 12 4) a0 5 (some q13)) 12 96) a0 6 (some q16)) 12 5) a0 7 (some q19)) 12 5) a0 8 (some q22)) 12 5) a0 9 (some q25)) 12 5) a0 10 (some q28)) 12 120) a0 11 (some q31)) 12 36) a0 12 (some q34)) 12 135) a0 13 (some q37)) → jk (jnew (jputr (jnew (jputr (jnew (jputr (jnew (jputr (jnew (jputr (jnew (jputr (jnew (jputr (jnew (jputr (jnew (jputr (jnew (jputr (jnew (jputr (jnew (jputr (jnew (jputr (jnew S 12 3135) a0 0 (some q1)) 12 3135) a0 1 (some q4)) 12 3135) a0 2 (some q7)) 12 4) a0 4 (some q10)) 12 4) a0 5 (some q13)) 12 96) a0 6 (some q16)) 12 5) a0 7 (some q19)) 12 5) a0 8 (some q22)) 12 5) a0 9 (some q25)) 12 5) a0 10 (some q28)) 12 120) a0 11 (some q31)) 12 36) a0 12 (some q34)) 12 135) a0 13 (some q37)) 12 4) a0 = 11 ∧ ∀ q43, q43 = jn (jputr (jnew (jputr (jnew (jputr (jnew (jputr (jnew (jputr (jnew (jputr (jnew (jputr (jnew (jputr (jnew (jputr (jnew (jputr (jnew (jputr (jnew (jputr (jnew (jputr (jnew (jputr (jnew S 12 3135) a0 0 (some q1)) 12 3135) a0 1 (some q4)) 12 3135) a0 2 (some q7)) 12 4) a0 4 (some q10)) 12 4) a0 5 (some q13)) 12 96) a0 6 (some q16)) 12 5) a0 7 (some q19)) 12 5) a0 8 (some q22)) 12 5) a0 9 (some q25)) 12 5) a0 10 (some q28)) 12 120) a0 11 (some q31)) 12 36) a0 12 (some q34)) 12 135) a0 13 (some q37)) 12 4) a0 14 (some q40)) → jk (jnew (jputr (jnew (jputr (jnew (jputr (jnew (jputr (jnew (jputr (jnew (jputr (jnew (jputr (jnew (jputr (jnew (jputr (jnew (jputr (jnew (jputr (jnew (jputr (jnew (jputr (jnew (jputr (jnew S 12 3135) a0 0 (some q1)) 12 3135) a0 1 (some q4)) 12 3135) a0 2 (some q7)) 12 4) a0 4 (some q10)) 12 4) a0 5 (some q13)) 12 96) a0 6 (some q16)) 12 5) a0 7 (some q19)) 12 5) a0 8 (some q22)) 12 5) a0 9 (some q25)) 12 5) a0 10 (some q28)) 12 120) a0 11 (some q31)) 12 36) a0 12 (some q34)) 12 135) a0 13 (some q37)) 12 4) a0 14 (some q40)) 12 96) a0 = 11 ∧ ∀ q46, q46 = jn (jputr (jnew (jputr (jnew (jputr (jnew (jputr (jnew (jputr (jnew (jputr (jnew (jputr (jnew (jputr (jnew (jputr (jnew (jputr (jnew (jputr (jnew (jputr (jnew (jputr (jnew (jputr (jnew (jputr (jnew S 12 3135) a0 0 (some q1)) 12 3135) a0 1 (some q4)) 12 3135) a0 2 (some q7)) 12 4) a0 4 (some q10)) 12 4) a0 5 (some q13)) 12 96) a0 6 (some q16)) 12 5) a0 7 (some q19)) 12 5) a0 8 (some q22)) 12 5) a0 9 (some q25)) 12 5) a0 10 (some q28)) 12 120) a0 11 (some q31)) 12 36) a0 12 (some q34)) 12 135) a0 13 (some q37)) 12 4) a0 14 (some q40)) 12 96) a0 18 (some q43)) → jk (jnew (jputr (jnew (jputr (jnew (jputr (jnew (jputr (jnew (jputr (jnew (jputr (jnew (jputr (jnew (jputr (jnew (jputr (jnew (jputr (jnew (jputr (jnew (jputr (jnew (jputr (jnew (jputr (jnew (jputr (jnew S 12 3135) a0 0 (some q1)) 12 3135) a0 1 (some q4)) 12 3135) a0 2 (some q7)) 12 4) a0 4 (some q10)) 12 4) a0 5 (some q13)) 12 96) a0 6 (some q16)) 12 5) a0 7 (some q19)) 12 5) a0 8 (some q22)) 12 5) a0 9 (some q25)) 12 5) a0 10 (some q28)) 12 120) a0 11 (some q31)) 12 36) a0 12 (some q34)) 12 135) a0 13 (some q37)) 12 4) a0 14 (some q40)) 12 96) a0 18 (some q43)) 12 128) a0 = 11 ∧ ∀ q49, q49 = jn (jputr (jnew (jputr (jnew (jputr (jnew (jputr (jnew (jputr (jnew (jputr (jnew (jputr (jnew (jputr (jnew (jputr (jnew (jputr (jnew (jputr (jnew (jputr (jnew (jputr (jnew (jputr (jnew (jputr (jnew (jputr (jnew S 12 3135) a0 0 (some q1)) 12 3135) a0 1 (some q4)) 12 3135) a0 2 (some q7)) 12 4) a0 4 (some q10)) 12 4) a0 5 (some q13)) 12 96) a0 6 (some q16)) 12 5) a0 7 (some q19)) 12 5) a0 8 (some q22)) 12 5) a0 9 (some q25)) 12 5) a0 10 (some q28)) 12 120) a0 11 (some q31)) 12 36) a0 12 (some q34)) 12 135) a0 13 (some q37)) 12 4) a0 14 (some q40)) 12 96) a0 18 (some q43)) 12 128) a0 30 (some q46)) → jk (jnew (jputr (jnew (jputr (jnew (jputr (jnew (jputr (jnew (jputr (jnew (jputr (jnew (jputr (jnew (jputr (jnew (jputr (jnew (jputr (jnew (jputr (jnew (jputr (jnew (jputr (jnew (jputr (jnew (jputr (jnew (jputr (jnew S 12 3135) a0 0 (some q1)) 12 3135) a0 1 (some q4)) 12 3135) a0 2 (some q7)) 12 4) a0 4 (some q10)) 12 4) a0 5 (some q13)) 12 96) a0 6 (some q16)) 12 5) a0 7 (some q19)) 12 5) a0 8 (some q22)) 12 5) a0 9 (some q25)) 12 5) a0 10 (some q28)) 12 120) a0 11 (some q31)) 12 36) a0 12 (some q34)) 12 135) a0 13 (some q37)) 12 4) a0 14 (some q40)) 12 96) a0 18 (some q43)) 12 128) a0 30 (some q46)) 12 100) a0 = 11 ∧ ∀ q52, q52 = jn (jputr (jnew (jputr (jnew (jputr (jnew (jputr (jnew (jputr (jnew (jputr (jnew (jputr (jnew (jputr (jnew (jputr (jnew (jputr (jnew (jputr (jnew (jputr (jnew (jputr (jnew (jputr (jnew (jputr (jnew (jputr (jnew (jputr (jnew S 12 3135) a0 0 (some q1)) 12 3135) a0 1 (some q4)) 12 3135) a0 2 (some q7)) 12 4) a0 4 (some q10)) 12 4) a0 5 (some q13)) 12 96) a0 6 (some q16)) 12 5) a0 7 (some q19)) 12 5) a0 8 (some q22)) 12 5) a0 9 (some q25)) 12 5) a0 10 (some q28)) 12 120) a0 11 (some q31)) 12 36) a0 12 (some q34)) 12 135) a0 13 (some q37)) 12 4) a0 14 (some q40)) 12 96) a0 18 (some q43)) 12 128) a0 30 (some q46)) 12 100) a0 31 (some q49)) → jk (jnew (jputr (jnew (jputr (jnew (jputr (jnew (jputr (jnew (jputr (jnew (jputr (jnew (jputr (jnew (jputr (jnew (jputr (jnew (jputr (jnew (jputr (jnew (jputr (jnew (jputr (jnew (jputr (jnew (jputr (jnew (jputr (jnew (jputr (jnew S 12 3135) a0 0 (some q1)) 12 3135) a0 1 (some q4)) 12 3135) a0 2 (some q7)) 12 4) a0 4 (some q10)) 12 4) a0 5 (some q13)) 12 96) a0 6 (some q16)) 12 5) a0 7 (some q19)) 12 5) a0 8 (some q22)) 12 5) a0 9 (some q25)) 12 5) a0 10 (some q28)) 12 120) a0 11 (some q31)) 12 36) a0 12 (some q34)) 12 135) a0 13 (some q37)) 12 4) a0 14 (some q40)) 12 96) a0 18 (some q43)) 12 128) a0 30 (some q46)) 12 100) a0 31 (some q49)) 12 24) a0 = 11 ∧ ∀ q55, q55 = jn (jputr (jnew (jputr (jnew (jputr (jnew (jputr (jnew (jputr (jnew (jputr (jnew (jputr (jnew (jputr (jnew (jputr (jnew (jputr (jnew (jputr (jnew (jputr (jnew (jputr (jnew (jputr (jnew (jputr (jnew (jputr (jnew (jputr (jnew (jputr (jnew S 12 3135) a0 0 (some q1)) 12 3135) a0 1 (some q4)) 12 3135) a0 2 (some q7)) 12 4) a0 4 (some q10)) 12 4) a0 5 (some q13)) 12 96) a0 6 (some q16)) 12 5) a0 7 (some q19)) 12 5) a0 8 (some q22)) 12 5) a0 9 (some q25)) 12 5) a0 10 (some q28)) 12 120) a0 11 (some q31)) 12 36) a0 12 (some q34)) 12 135) a0 13 (some q37)) 12 4) a0 14 (some q40)) 12 96) a0 18 (some q43)) 12 128) a0 30 (some q46)) 12 100) a0 31 (some q49)) 12 24) a0 32 (some q52)) → jk (jnew (jputr (jnew (jputr (jnew (jputr (jnew (jputr (jnew (jputr (jnew (jputr (jnew (jputr (jnew (jputr (jnew (jputr (jnew (jputr (jnew (jputr (jnew (jputr (jnew (jputr (jnew (jputr (jnew (jputr (jnew (jputr (jnew (jputr (jnew (jputr (jnew S 12 3135) a0 0 (some q1)) 12 3135) a0 1 (some q4)) 12 3135) a0 2 (some q7)) 12 4) a0 4 (some q10)) 12 4) a0 5 (some q13)) 12 96) a0 6 (some q16)) 12 5) a0 7 (some q19)) 12 5) a0 8 (some q22)) 12 5) a0 9 (some q25)) 12 5) a0 10 (some q28)) 12 120) a0 11 (some q31)) 12 36) a0 12 (some q34)) 12 135) a0 13 (some q37)) 12 4) a0 14 (some q40)) 12 96) a0 18 (some q43)) 12 128) a0 30 (some q46)) 12 100) a0 31 (some q49)) 12 24) a0 32 (some q52)) 12 60) a0 = 11 ∧ ∀ q58, q58 = jn (jputr (jnew (jputr (jnew (jputr (jnew (jputr (jnew (jputr (jnew (jputr (jnew (jputr (jnew (jputr (jnew (jputr (jnew (jputr (jnew (jputr (jnew (jputr (jnew (jputr (jnew (jputr (jnew (jputr (jnew (jputr (jnew (jputr (jnew (jputr (jnew (jputr (jnew S 12 3135) a0 0 (some q1)) 12 3135) a0 1 (some q4)) 12 3135) a0 2 (some q7)) 12 4) a0 4 (some q10)) 12 4) a0 5 (some q13)) 12 96) a0 6 (some q16)) 12 5) a0 7 (some q19)) 12 5) a0 8 (some q22)) 12 5) a0 9 (some q25)) 12 5) a0 10 (some q28)) 12 120) a0 11 (some q31)) 12 36) a0 12 (some q34)) 12 135) a0 13 (some q37)) 12 4) a0 14 (some q40)) 12 96) a0 18 (some q43)) 12 128) a0 30 (some q46)) 12 100) a0 31 (some q49)) 12 24) a0 32 (some q52)) 12 60) a0 33 (some q55)) → jk (jnew (jputr (jnew (jputr (jnew (jputr (jnew (jputr (jnew (jputr (jnew (jputr (jnew (jputr (jnew (jputr (jnew (jputr (jnew (jputr (jnew (jputr (jnew (jputr (jnew (jputr (jnew (jputr (jnew (jputr (jnew (jputr (jnew (jputr (jnew (jputr (jnew (jputr (jnew S 12 3135) a0 0 (some q1)) 12 3135) a0 1 (some q4)) 12 3135) a0 2 (some q7)) 12 4) a0 4 (some q10)) 12 4) a0 5 (some q13)) 12 96) a0 6 (some q16)) 12 5) a0 7 (some q19)) 12 5) a0 8 (some q22)) 12 5) a0 9 (some q25)) 12 5) a0 10 (some q28)) 12 120) a0 11 (some q31)) 12 36) a0 12 (some q34)) 12 135) a0 13 (some q37)) 12 4) a0 14 (some q40)) 12 96) a0 18 (some q43)) 12 128) a0 30 (some q46)) 12 100) a0 31 (some q49)) 12 24) a0 32 (some q52)) 12 60) a0 33 (some q55)) 12 60) a0 = 11 ∧ ∃ b61, jr (jputr (jnew (jputr (jnew (jputr (jnew (jputr (jnew (jputr (jnew (jputr (jnew (jputr (jnew (jputr (jnew (jputr (jnew (jputr (jnew (jputr (jnew (jputr (jnew (jputr (jnew (jputr (jnew (jputr (jnew (jputr (jnew (jputr (jnew (jputr (jnew (jputr (jnew (jputr (jnew S 12 3135) a0 0 (some q1)) 12 3135) a0 1 (some q4)) 12 3135) a0 2 (some q7)) 12 4) a0 4 (some q10)) 12 4) a0 5 (some q13)) 12 96) a0 6 (some q16)) 12 5) a0 7 (some q19)) 12 5) a0 8 (some q22)) 12 5) a0 9 (some q25)) 12 5) a0 10 (some q28)) 12 120) a0 11 (some q31)) 12 36) a0 12 (some q34)) 12 135) a0 13 (some q37)) 12 4) a0 14 (some q40)) 12 96) a0 18 (some q43)) 12 128) a0 30 (some q46)) 12 100) a0 31 (some q49)) 12 24) a0 32 (some q52)) 12 60) a0 33 (some q55)) 12 60) a0 35 (some q58)) a0 0 = some b61 ∧ (jk (jnew (jputr (jnew (jputr (jnew (jputr (jnew (jputr (jnew (jputr (jnew (jputr (jnew (jputr (jnew (jputr (jnew (jputr (jnew (jputr (jnew (jputr (jnew (jputr (jnew (jputr (jnew (jputr (jnew (jputr (jnew (jputr (jnew (jputr (jnew (jputr (jnew (jputr (jnew S 12 3135) a0 0 (some q1)) 12 3135) a0 1 (some q4)) 12 3135) a0 2 (some q7)) 12 4) a0 4 (some q10)) 12 4) a0 5 (some q13)) 12 96) a0 6 (some q16)) 12 5) a0 7 (some q19)) 12 5) a0 8 (some q22)) 12 5) a0 9 (some q25)) 12 5) a0 10 (some q28)) 12 120) a0 11 (some q31)) 12 36) a0 12 (some q34)) 12 135) a0 13 (some q37)) 12 4) a0 14 (some q40)) 12 96) a0 18 (some q43)) 12 128) a0 30 (some q46)) 12 100) a0 31 (some q49)) 12 24) a0 32 (some q52)) 12 60) a0 33 (some q55)) 12 60) b61 = 12 ∧ vp_in 8 (jl (jnew (jputr (jnew (jputr (jnew (jputr (jnew (jputr (jnew (jputr (jnew (jputr (jnew (jputr (jnew (jputr (jnew (jputr (jnew (jputr (jnew (jputr (jnew (jputr (jnew (jputr (jnew (jputr (jnew (jputr (jnew (jputr (jnew (jputr (jnew (jputr (jnew (jputr (jnew S 12 3135) a0 0 (some q1)) 12 3135) a0 1 (some q4)) 12 3135) a0 2 (some q7)) 12 4) a0 4 (some q10)) 12 4) a0 5 (some q13)) 12 96) a0 6 (some q16)) 12 5) a0 7 (some q19)) 12 5) a0 8 (some q22)) 12 5) a0 9 (some q25)) 12 5) a0 10 (some q28)) 12 120) a0 11 (some q31)) 12 36) a0 12 (some q34)) 12 135) a0 13 (some q37)) 12 4) a0 14 (some q40)) 12 96) a0 18 (some q43)) 12 128) a0 30 (some q46)) 12 100) a0 31 (some q49)) 12 24) a0 32 (some q52)) 12 60) a0 33 (some q55)) 12 60) b61) ∧ (vp_in 5 (jl (jnew (jputr (jnew (jputr (jnew (jputr (jnew (jputr (jnew (jputr (jnew (jputr (jnew (jputr (jnew (jputr (jnew (jputr (jnew (jputr (jnew (jputr (jnew (jputr (jnew (jputr (jnew (jputr (jnew (jputr (jnew (jputr (jnew (jputr (jnew (jputr (jnew (jputr (jnew S 12 3135) a0 0 (some q1)) 12 3135) a0 1 (some q4)) 12 3135) a0 2 (some q7)) 12 4) a0 4 (some q10)) 12 4) a0 5 (some q13)) 12 96) a0 6 (some q16)) 12 5) a0 7 (some q19)) 12 5) a0 8 (some q22)) 12 5) a0 9 (some q25)) 12 5) a0 10 (some q28)) 12 120) a0 11 (some q31)) 12 36) a0 12 (some q34)) 12 135) a0 13 (some q37)) 12 4) a0 14 (some q40)) 12 96) a0 18 (some q43)) 12 128) a0 30 (some q46)) 12 100) a0 31 (some q49)) 12 24) a0 32 (some q52)) 12 60) a0 33 (some q55)) 12 60) b61) ∧ (L_X11_init_180 E d Q a0 0 (jput (jput (jputr (jnew (jputr (jnew (jputr (jnew (jputr (jnew (jputr (jnew (jputr (jnew (jputr (jnew (jputr (jnew (jputr (jnew (jputr (jnew (jputr (jnew (jputr (jnew (jputr (jnew (jputr (jnew (jputr (jnew (jputr (jnew (jputr (jnew (jputr (jnew (jputr (jnew (jputr (jnew S 12 3135) a0 0 (some q1)) 12 3135) a0 1 (some q4)) 12 3135) a0 2 (some q7)) 12 4) a0 4 (some q10)) 12 4) a0 5 (some q13)) 12 96) a0 6 (some q16)) 12 5) a0 7 (some q19)) 12 5) a0 8 (some q22)) 12 5) a0 9 (some q25)) 12 5) a0 10 (some q28)) 12 120) a0 11 (some q31)) 12 36) a0 12 (some q34)) 12 135) a0 13 (some q37)) 12 4) a0 14 (some q40)) 12 96) a0 18 (some q43)) 12 128) a0 30 (some q46)) 12 100) a0 31 (some q49)) 12 24) a0 32 (some q52)) 12 60) a0 33 (some q55)) 12 60) a0 35 (some q58)) b61 (Int32.toNatClampNeg 8) 1) b61 (Int32.toNatClampNeg 5) 100) 20 10292)))) : jFv E mX11_init (d + 1) 20 10292 [.ref a0] S Q := by
  refine jF_of (by decide) (jle rfl) ?_
  refine jx_lv (lv1 := [(0, .ref a0)]) [0] rfl ?_
  refine jx_aload_n 0 dX11_init_0 rfl rfl ?_
  refine jx_objInit jwM_X11_1 jwN_obj jwO_obj dX11_init_1 (jRok_m _ _ _) (jle rfl) ?_
  refine jx_aload_n 0 dX11_init_4 rfl rfl ?_
  refine jx_sipush (v := 3135) dX11_init_5 (by decide) ?_
  refine jx_newa (N := 3135) jwA dX11_init_8 (by decide) (by decide) (by decide) ⟨jle rfl, jle rfl⟩ ?_
  obtain ⟨q1, hq1⟩ : ∃ q, q = jn S := ⟨_, rfl⟩
  rw [← hq1]
  replace h := h q1 hq1
  obtain ⟨hk2, h⟩ := h
  refine jx_putrF jc_11 (j := 0) (by decide) rfl jwF_X11_7 rfl rfl rfl rfl rfl dX11_init_10 hk2 ?_
  refine jx_aload_n 0 dX11_init_13 rfl rfl ?_
  refine jx_sipush (v := 3135) dX11_init_14 (by decide) ?_
  refine jx_newa (N := 3135) jwA dX11_init_17 (by decide) (by decide) (by decide) ⟨jle rfl, jle rfl⟩ ?_
  obtain ⟨q4, hq4⟩ : ∃ q, q = jn (jputr (jnew S 12 3135) a0 0 (some q1)) := ⟨_, rfl⟩
  rw [← hq4]
  replace h := h q4 hq4
  obtain ⟨hk5, h⟩ := h
  refine jx_putrF jc_11 (j := 1) (by decide) rfl jwF_X11_13 rfl rfl rfl rfl rfl dX11_init_19 hk5 ?_
  refine jx_aload_n 0 dX11_init_22 rfl rfl ?_
  refine jx_sipush (v := 3135) dX11_init_23 (by decide) ?_
  refine jx_newa (N := 3135) jwA dX11_init_26 (by decide) (by decide) (by decide) ⟨jle rfl, jle rfl⟩ ?_
  obtain ⟨q7, hq7⟩ : ∃ q, q = jn (jputr (jnew (jputr (jnew S 12 3135) a0 0 (some q1)) 12 3135) a0 1 (some q4)) := ⟨_, rfl⟩
  rw [← hq7]
  replace h := h q7 hq7
  obtain ⟨hk8, h⟩ := h
  refine jx_putrF jc_11 (j := 2) (by decide) rfl jwF_X11_16 rfl rfl rfl rfl rfl dX11_init_28 hk8 ?_
  refine jx_aload_n 0 dX11_init_31 rfl rfl ?_
  refine jx_iconst (v := 4) dX11_init_32 (by decide) ?_
  refine jx_newa (N := 4) jwA dX11_init_33 (by decide) (by decide) (by decide) ⟨jle rfl, jle rfl⟩ ?_
  obtain ⟨q10, hq10⟩ : ∃ q, q = jn (jputr (jnew (jputr (jnew (jputr (jnew S 12 3135) a0 0 (some q1)) 12 3135) a0 1 (some q4)) 12 3135) a0 2 (some q7)) := ⟨_, rfl⟩
  rw [← hq10]
  replace h := h q10 hq10
  obtain ⟨hk11, h⟩ := h
  refine jx_putrF jc_11 (j := 4) (by decide) rfl jwF_X11_19 rfl rfl rfl rfl rfl dX11_init_35 hk11 ?_
  refine jx_aload_n 0 dX11_init_38 rfl rfl ?_
  refine jx_iconst (v := 4) dX11_init_39 (by decide) ?_
  refine jx_newa (N := 4) jwA dX11_init_40 (by decide) (by decide) (by decide) ⟨jle rfl, jle rfl⟩ ?_
  obtain ⟨q13, hq13⟩ : ∃ q, q = jn (jputr (jnew (jputr (jnew (jputr (jnew (jputr (jnew S 12 3135) a0 0 (some q1)) 12 3135) a0 1 (some q4)) 12 3135) a0 2 (some q7)) 12 4) a0 4 (some q10)) := ⟨_, rfl⟩
  rw [← hq13]
  replace h := h q13 hq13
  obtain ⟨hk14, h⟩ := h
  refine jx_putrF jc_11 (j := 5) (by decide) rfl jwF_X11_22 rfl rfl rfl rfl rfl dX11_init_42 hk14 ?_
  refine jx_aload_n 0 dX11_init_45 rfl rfl ?_
  refine jx_bipush (v := 96) dX11_init_46 (by decide) ?_
  refine jx_newa (N := 96) jwA dX11_init_48 (by decide) (by decide) (by decide) ⟨jle rfl, jle rfl⟩ ?_
  obtain ⟨q16, hq16⟩ : ∃ q, q = jn (jputr (jnew (jputr (jnew (jputr (jnew (jputr (jnew (jputr (jnew S 12 3135) a0 0 (some q1)) 12 3135) a0 1 (some q4)) 12 3135) a0 2 (some q7)) 12 4) a0 4 (some q10)) 12 4) a0 5 (some q13)) := ⟨_, rfl⟩
  rw [← hq16]
  replace h := h q16 hq16
  obtain ⟨hk17, h⟩ := h
  refine jx_putrF jc_11 (j := 6) (by decide) rfl jwF_X11_25 rfl rfl rfl rfl rfl dX11_init_50 hk17 ?_
  refine jx_aload_n 0 dX11_init_53 rfl rfl ?_
  refine jx_iconst (v := 5) dX11_init_54 (by decide) ?_
  refine jx_newa (N := 5) jwA dX11_init_55 (by decide) (by decide) (by decide) ⟨jle rfl, jle rfl⟩ ?_
  obtain ⟨q19, hq19⟩ : ∃ q, q = jn (jputr (jnew (jputr (jnew (jputr (jnew (jputr (jnew (jputr (jnew (jputr (jnew S 12 3135) a0 0 (some q1)) 12 3135) a0 1 (some q4)) 12 3135) a0 2 (some q7)) 12 4) a0 4 (some q10)) 12 4) a0 5 (some q13)) 12 96) a0 6 (some q16)) := ⟨_, rfl⟩
  rw [← hq19]
  replace h := h q19 hq19
  obtain ⟨hk20, h⟩ := h
  refine jx_putrF jc_11 (j := 7) (by decide) rfl jwF_X11_28 rfl rfl rfl rfl rfl dX11_init_57 hk20 ?_
  refine jx_aload_n 0 dX11_init_60 rfl rfl ?_
  refine jx_iconst (v := 5) dX11_init_61 (by decide) ?_
  refine jx_newa (N := 5) jwA dX11_init_62 (by decide) (by decide) (by decide) ⟨jle rfl, jle rfl⟩ ?_
  obtain ⟨q22, hq22⟩ : ∃ q, q = jn (jputr (jnew (jputr (jnew (jputr (jnew (jputr (jnew (jputr (jnew (jputr (jnew (jputr (jnew S 12 3135) a0 0 (some q1)) 12 3135) a0 1 (some q4)) 12 3135) a0 2 (some q7)) 12 4) a0 4 (some q10)) 12 4) a0 5 (some q13)) 12 96) a0 6 (some q16)) 12 5) a0 7 (some q19)) := ⟨_, rfl⟩
  rw [← hq22]
  replace h := h q22 hq22
  obtain ⟨hk23, h⟩ := h
  refine jx_putrF jc_11 (j := 8) (by decide) rfl jwF_X11_31 rfl rfl rfl rfl rfl dX11_init_64 hk23 ?_
  refine jx_aload_n 0 dX11_init_67 rfl rfl ?_
  refine jx_iconst (v := 5) dX11_init_68 (by decide) ?_
  refine jx_newa (N := 5) jwA dX11_init_69 (by decide) (by decide) (by decide) ⟨jle rfl, jle rfl⟩ ?_
  obtain ⟨q25, hq25⟩ : ∃ q, q = jn (jputr (jnew (jputr (jnew (jputr (jnew (jputr (jnew (jputr (jnew (jputr (jnew (jputr (jnew (jputr (jnew S 12 3135) a0 0 (some q1)) 12 3135) a0 1 (some q4)) 12 3135) a0 2 (some q7)) 12 4) a0 4 (some q10)) 12 4) a0 5 (some q13)) 12 96) a0 6 (some q16)) 12 5) a0 7 (some q19)) 12 5) a0 8 (some q22)) := ⟨_, rfl⟩
  rw [← hq25]
  replace h := h q25 hq25
  obtain ⟨hk26, h⟩ := h
  refine jx_putrF jc_11 (j := 9) (by decide) rfl jwF_X11_34 rfl rfl rfl rfl rfl dX11_init_71 hk26 ?_
  refine jx_aload_n 0 dX11_init_74 rfl rfl ?_
  refine jx_iconst (v := 5) dX11_init_75 (by decide) ?_
  refine jx_newa (N := 5) jwA dX11_init_76 (by decide) (by decide) (by decide) ⟨jle rfl, jle rfl⟩ ?_
  obtain ⟨q28, hq28⟩ : ∃ q, q = jn (jputr (jnew (jputr (jnew (jputr (jnew (jputr (jnew (jputr (jnew (jputr (jnew (jputr (jnew (jputr (jnew (jputr (jnew S 12 3135) a0 0 (some q1)) 12 3135) a0 1 (some q4)) 12 3135) a0 2 (some q7)) 12 4) a0 4 (some q10)) 12 4) a0 5 (some q13)) 12 96) a0 6 (some q16)) 12 5) a0 7 (some q19)) 12 5) a0 8 (some q22)) 12 5) a0 9 (some q25)) := ⟨_, rfl⟩
  rw [← hq28]
  replace h := h q28 hq28
  obtain ⟨hk29, h⟩ := h
  refine jx_putrF jc_11 (j := 10) (by decide) rfl jwF_X11_37 rfl rfl rfl rfl rfl dX11_init_78 hk29 ?_
  refine jx_aload_n 0 dX11_init_81 rfl rfl ?_
  refine jx_bipush (v := 120) dX11_init_82 (by decide) ?_
  refine jx_newa (N := 120) jwA dX11_init_84 (by decide) (by decide) (by decide) ⟨jle rfl, jle rfl⟩ ?_
  obtain ⟨q31, hq31⟩ : ∃ q, q = jn (jputr (jnew (jputr (jnew (jputr (jnew (jputr (jnew (jputr (jnew (jputr (jnew (jputr (jnew (jputr (jnew (jputr (jnew (jputr (jnew S 12 3135) a0 0 (some q1)) 12 3135) a0 1 (some q4)) 12 3135) a0 2 (some q7)) 12 4) a0 4 (some q10)) 12 4) a0 5 (some q13)) 12 96) a0 6 (some q16)) 12 5) a0 7 (some q19)) 12 5) a0 8 (some q22)) 12 5) a0 9 (some q25)) 12 5) a0 10 (some q28)) := ⟨_, rfl⟩
  rw [← hq31]
  replace h := h q31 hq31
  obtain ⟨hk32, h⟩ := h
  refine jx_putrF jc_11 (j := 11) (by decide) rfl jwF_X11_40 rfl rfl rfl rfl rfl dX11_init_86 hk32 ?_
  refine jx_aload_n 0 dX11_init_89 rfl rfl ?_
  refine jx_bipush (v := 36) dX11_init_90 (by decide) ?_
  refine jx_newa (N := 36) jwA dX11_init_92 (by decide) (by decide) (by decide) ⟨jle rfl, jle rfl⟩ ?_
  obtain ⟨q34, hq34⟩ : ∃ q, q = jn (jputr (jnew (jputr (jnew (jputr (jnew (jputr (jnew (jputr (jnew (jputr (jnew (jputr (jnew (jputr (jnew (jputr (jnew (jputr (jnew (jputr (jnew S 12 3135) a0 0 (some q1)) 12 3135) a0 1 (some q4)) 12 3135) a0 2 (some q7)) 12 4) a0 4 (some q10)) 12 4) a0 5 (some q13)) 12 96) a0 6 (some q16)) 12 5) a0 7 (some q19)) 12 5) a0 8 (some q22)) 12 5) a0 9 (some q25)) 12 5) a0 10 (some q28)) 12 120) a0 11 (some q31)) := ⟨_, rfl⟩
  rw [← hq34]
  replace h := h q34 hq34
  obtain ⟨hk35, h⟩ := h
  refine jx_putrF jc_11 (j := 12) (by decide) rfl jwF_X11_43 rfl rfl rfl rfl rfl dX11_init_94 hk35 ?_
  refine jx_aload_n 0 dX11_init_97 rfl rfl ?_
  refine jx_sipush (v := 135) dX11_init_98 (by decide) ?_
  refine jx_newa (N := 135) jwA dX11_init_101 (by decide) (by decide) (by decide) ⟨jle rfl, jle rfl⟩ ?_
  obtain ⟨q37, hq37⟩ : ∃ q, q = jn (jputr (jnew (jputr (jnew (jputr (jnew (jputr (jnew (jputr (jnew (jputr (jnew (jputr (jnew (jputr (jnew (jputr (jnew (jputr (jnew (jputr (jnew (jputr (jnew S 12 3135) a0 0 (some q1)) 12 3135) a0 1 (some q4)) 12 3135) a0 2 (some q7)) 12 4) a0 4 (some q10)) 12 4) a0 5 (some q13)) 12 96) a0 6 (some q16)) 12 5) a0 7 (some q19)) 12 5) a0 8 (some q22)) 12 5) a0 9 (some q25)) 12 5) a0 10 (some q28)) 12 120) a0 11 (some q31)) 12 36) a0 12 (some q34)) := ⟨_, rfl⟩
  rw [← hq37]
  replace h := h q37 hq37
  obtain ⟨hk38, h⟩ := h
  refine jx_putrF jc_11 (j := 13) (by decide) rfl jwF_X11_46 rfl rfl rfl rfl rfl dX11_init_103 hk38 ?_
  refine jx_aload_n 0 dX11_init_106 rfl rfl ?_
  refine jx_iconst (v := 4) dX11_init_107 (by decide) ?_
  refine jx_newa (N := 4) jwA dX11_init_108 (by decide) (by decide) (by decide) ⟨jle rfl, jle rfl⟩ ?_
  obtain ⟨q40, hq40⟩ : ∃ q, q = jn (jputr (jnew (jputr (jnew (jputr (jnew (jputr (jnew (jputr (jnew (jputr (jnew (jputr (jnew (jputr (jnew (jputr (jnew (jputr (jnew (jputr (jnew (jputr (jnew (jputr (jnew S 12 3135) a0 0 (some q1)) 12 3135) a0 1 (some q4)) 12 3135) a0 2 (some q7)) 12 4) a0 4 (some q10)) 12 4) a0 5 (some q13)) 12 96) a0 6 (some q16)) 12 5) a0 7 (some q19)) 12 5) a0 8 (some q22)) 12 5) a0 9 (some q25)) 12 5) a0 10 (some q28)) 12 120) a0 11 (some q31)) 12 36) a0 12 (some q34)) 12 135) a0 13 (some q37)) := ⟨_, rfl⟩
  rw [← hq40]
  replace h := h q40 hq40
  obtain ⟨hk41, h⟩ := h
  refine jx_putrF jc_11 (j := 14) (by decide) rfl jwF_X11_49 rfl rfl rfl rfl rfl dX11_init_110 hk41 ?_
  refine jx_aload_n 0 dX11_init_113 rfl rfl ?_
  refine jx_bipush (v := 96) dX11_init_114 (by decide) ?_
  refine jx_newa (N := 96) jwA dX11_init_116 (by decide) (by decide) (by decide) ⟨jle rfl, jle rfl⟩ ?_
  obtain ⟨q43, hq43⟩ : ∃ q, q = jn (jputr (jnew (jputr (jnew (jputr (jnew (jputr (jnew (jputr (jnew (jputr (jnew (jputr (jnew (jputr (jnew (jputr (jnew (jputr (jnew (jputr (jnew (jputr (jnew (jputr (jnew (jputr (jnew S 12 3135) a0 0 (some q1)) 12 3135) a0 1 (some q4)) 12 3135) a0 2 (some q7)) 12 4) a0 4 (some q10)) 12 4) a0 5 (some q13)) 12 96) a0 6 (some q16)) 12 5) a0 7 (some q19)) 12 5) a0 8 (some q22)) 12 5) a0 9 (some q25)) 12 5) a0 10 (some q28)) 12 120) a0 11 (some q31)) 12 36) a0 12 (some q34)) 12 135) a0 13 (some q37)) 12 4) a0 14 (some q40)) := ⟨_, rfl⟩
  rw [← hq43]
  replace h := h q43 hq43
  obtain ⟨hk44, h⟩ := h
  refine jx_putrF jc_11 (j := 18) (by decide) rfl jwF_X11_52 rfl rfl rfl rfl rfl dX11_init_118 hk44 ?_
  refine jx_aload_n 0 dX11_init_121 rfl rfl ?_
  refine jx_sipush (v := 128) dX11_init_122 (by decide) ?_
  refine jx_newa (N := 128) jwA dX11_init_125 (by decide) (by decide) (by decide) ⟨jle rfl, jle rfl⟩ ?_
  obtain ⟨q46, hq46⟩ : ∃ q, q = jn (jputr (jnew (jputr (jnew (jputr (jnew (jputr (jnew (jputr (jnew (jputr (jnew (jputr (jnew (jputr (jnew (jputr (jnew (jputr (jnew (jputr (jnew (jputr (jnew (jputr (jnew (jputr (jnew (jputr (jnew S 12 3135) a0 0 (some q1)) 12 3135) a0 1 (some q4)) 12 3135) a0 2 (some q7)) 12 4) a0 4 (some q10)) 12 4) a0 5 (some q13)) 12 96) a0 6 (some q16)) 12 5) a0 7 (some q19)) 12 5) a0 8 (some q22)) 12 5) a0 9 (some q25)) 12 5) a0 10 (some q28)) 12 120) a0 11 (some q31)) 12 36) a0 12 (some q34)) 12 135) a0 13 (some q37)) 12 4) a0 14 (some q40)) 12 96) a0 18 (some q43)) := ⟨_, rfl⟩
  rw [← hq46]
  replace h := h q46 hq46
  obtain ⟨hk47, h⟩ := h
  refine jx_putrF jc_11 (j := 30) (by decide) rfl jwF_X11_55 rfl rfl rfl rfl rfl dX11_init_127 hk47 ?_
  refine jx_aload_n 0 dX11_init_130 rfl rfl ?_
  refine jx_bipush (v := 100) dX11_init_131 (by decide) ?_
  refine jx_newa (N := 100) jwA dX11_init_133 (by decide) (by decide) (by decide) ⟨jle rfl, jle rfl⟩ ?_
  obtain ⟨q49, hq49⟩ : ∃ q, q = jn (jputr (jnew (jputr (jnew (jputr (jnew (jputr (jnew (jputr (jnew (jputr (jnew (jputr (jnew (jputr (jnew (jputr (jnew (jputr (jnew (jputr (jnew (jputr (jnew (jputr (jnew (jputr (jnew (jputr (jnew (jputr (jnew S 12 3135) a0 0 (some q1)) 12 3135) a0 1 (some q4)) 12 3135) a0 2 (some q7)) 12 4) a0 4 (some q10)) 12 4) a0 5 (some q13)) 12 96) a0 6 (some q16)) 12 5) a0 7 (some q19)) 12 5) a0 8 (some q22)) 12 5) a0 9 (some q25)) 12 5) a0 10 (some q28)) 12 120) a0 11 (some q31)) 12 36) a0 12 (some q34)) 12 135) a0 13 (some q37)) 12 4) a0 14 (some q40)) 12 96) a0 18 (some q43)) 12 128) a0 30 (some q46)) := ⟨_, rfl⟩
  rw [← hq49]
  replace h := h q49 hq49
  obtain ⟨hk50, h⟩ := h
  refine jx_putrF jc_11 (j := 31) (by decide) rfl jwF_X11_58 rfl rfl rfl rfl rfl dX11_init_135 hk50 ?_
  refine jx_aload_n 0 dX11_init_138 rfl rfl ?_
  refine jx_bipush (v := 24) dX11_init_139 (by decide) ?_
  refine jx_newa (N := 24) jwA dX11_init_141 (by decide) (by decide) (by decide) ⟨jle rfl, jle rfl⟩ ?_
  obtain ⟨q52, hq52⟩ : ∃ q, q = jn (jputr (jnew (jputr (jnew (jputr (jnew (jputr (jnew (jputr (jnew (jputr (jnew (jputr (jnew (jputr (jnew (jputr (jnew (jputr (jnew (jputr (jnew (jputr (jnew (jputr (jnew (jputr (jnew (jputr (jnew (jputr (jnew (jputr (jnew S 12 3135) a0 0 (some q1)) 12 3135) a0 1 (some q4)) 12 3135) a0 2 (some q7)) 12 4) a0 4 (some q10)) 12 4) a0 5 (some q13)) 12 96) a0 6 (some q16)) 12 5) a0 7 (some q19)) 12 5) a0 8 (some q22)) 12 5) a0 9 (some q25)) 12 5) a0 10 (some q28)) 12 120) a0 11 (some q31)) 12 36) a0 12 (some q34)) 12 135) a0 13 (some q37)) 12 4) a0 14 (some q40)) 12 96) a0 18 (some q43)) 12 128) a0 30 (some q46)) 12 100) a0 31 (some q49)) := ⟨_, rfl⟩
  rw [← hq52]
  replace h := h q52 hq52
  obtain ⟨hk53, h⟩ := h
  refine jx_putrF jc_11 (j := 32) (by decide) rfl jwF_X11_61 rfl rfl rfl rfl rfl dX11_init_143 hk53 ?_
  refine jx_aload_n 0 dX11_init_146 rfl rfl ?_
  refine jx_bipush (v := 60) dX11_init_147 (by decide) ?_
  refine jx_newa (N := 60) jwA dX11_init_149 (by decide) (by decide) (by decide) ⟨jle rfl, jle rfl⟩ ?_
  obtain ⟨q55, hq55⟩ : ∃ q, q = jn (jputr (jnew (jputr (jnew (jputr (jnew (jputr (jnew (jputr (jnew (jputr (jnew (jputr (jnew (jputr (jnew (jputr (jnew (jputr (jnew (jputr (jnew (jputr (jnew (jputr (jnew (jputr (jnew (jputr (jnew (jputr (jnew (jputr (jnew (jputr (jnew S 12 3135) a0 0 (some q1)) 12 3135) a0 1 (some q4)) 12 3135) a0 2 (some q7)) 12 4) a0 4 (some q10)) 12 4) a0 5 (some q13)) 12 96) a0 6 (some q16)) 12 5) a0 7 (some q19)) 12 5) a0 8 (some q22)) 12 5) a0 9 (some q25)) 12 5) a0 10 (some q28)) 12 120) a0 11 (some q31)) 12 36) a0 12 (some q34)) 12 135) a0 13 (some q37)) 12 4) a0 14 (some q40)) 12 96) a0 18 (some q43)) 12 128) a0 30 (some q46)) 12 100) a0 31 (some q49)) 12 24) a0 32 (some q52)) := ⟨_, rfl⟩
  rw [← hq55]
  replace h := h q55 hq55
  obtain ⟨hk56, h⟩ := h
  refine jx_putrF jc_11 (j := 33) (by decide) rfl jwF_X11_64 rfl rfl rfl rfl rfl dX11_init_151 hk56 ?_
  refine jx_aload_n 0 dX11_init_154 rfl rfl ?_
  refine jx_bipush (v := 60) dX11_init_155 (by decide) ?_
  refine jx_newa (N := 60) jwA dX11_init_157 (by decide) (by decide) (by decide) ⟨jle rfl, jle rfl⟩ ?_
  obtain ⟨q58, hq58⟩ : ∃ q, q = jn (jputr (jnew (jputr (jnew (jputr (jnew (jputr (jnew (jputr (jnew (jputr (jnew (jputr (jnew (jputr (jnew (jputr (jnew (jputr (jnew (jputr (jnew (jputr (jnew (jputr (jnew (jputr (jnew (jputr (jnew (jputr (jnew (jputr (jnew (jputr (jnew (jputr (jnew S 12 3135) a0 0 (some q1)) 12 3135) a0 1 (some q4)) 12 3135) a0 2 (some q7)) 12 4) a0 4 (some q10)) 12 4) a0 5 (some q13)) 12 96) a0 6 (some q16)) 12 5) a0 7 (some q19)) 12 5) a0 8 (some q22)) 12 5) a0 9 (some q25)) 12 5) a0 10 (some q28)) 12 120) a0 11 (some q31)) 12 36) a0 12 (some q34)) 12 135) a0 13 (some q37)) 12 4) a0 14 (some q40)) 12 96) a0 18 (some q43)) 12 128) a0 30 (some q46)) 12 100) a0 31 (some q49)) 12 24) a0 32 (some q52)) 12 60) a0 33 (some q55)) := ⟨_, rfl⟩
  rw [← hq58]
  replace h := h q58 hq58
  obtain ⟨hk59, h⟩ := h
  refine jx_putrF jc_11 (j := 35) (by decide) rfl jwF_X11_67 rfl rfl rfl rfl rfl dX11_init_159 hk59 ?_
  refine jx_aload_n 0 dX11_init_162 rfl rfl ?_
  obtain ⟨b61, hb61, h⟩ := h
  refine jx_getr jc_11 (j := 0) (by decide) rfl jwF_X11_7 dX11_init_163 hk59 hb61 ?_
  refine jx_bipush (v := 8) dX11_init_166 (by decide) ?_
  refine jx_iconst (v := 1) dX11_init_168 (by decide) ?_
  obtain ⟨hk62, h⟩ := h
  obtain ⟨hi63, h⟩ := h
  refine jx_iast dX11_init_169 hk62 hi63 ?_
  refine jx_aload_n 0 dX11_init_170 rfl rfl ?_
  refine jx_getr jc_11 (j := 0) (by decide) rfl jwF_X11_7 dX11_init_171 hk59 hb61 ?_
  refine jx_iconst (v := 5) dX11_init_174 (by decide) ?_
  refine jx_bipush (v := 100) dX11_init_175 (by decide) ?_
  obtain ⟨hi64, h⟩ := h
  refine jx_iast dX11_init_177 hk62 hi64 ?_
  refine jx_iconst (v := 0) dX11_init_178 (by decide) ?_
  refine jx_istore_n (lv1 := [(1, .int 0), (0, .ref a0)]) dX11_init_179 rfl (by decide) rfl ?_
  exact jx_lv [1, 0] rfl h
set_option maxRecDepth 100000 in
set_option maxHeartbeats 4000000 in
theorem T_X11_init_180 {E : jEnv} {d : Nat} {Q : jM → Prop} {a0 : Nat} {x1 : Int32} {S : jM} {c9 k9 : Nat} (h : (4 ≤ x1 → (c9 ≤ 20 ∧ k9 ≤ 10292) ∧ Q S) ∧ (¬ 4 ≤ x1 → jk S a0 = 11 ∧ ∃ b68, jr S a0 4 = some b68 ∧ (jk S b68 = 12 ∧ vp_in x1 (jl S b68) ∧ (L_X11_init_180 E d Q a0 (x1 + 1) (jput S b68 (Int32.toNatClampNeg x1) (-1)) c9 k9)))) : L_X11_init_180 E d Q a0 x1 S c9 k9 := by
  show jX E mX11_init (jRm (d + 1) 20 10292) (jZm E (fun r S' => r = none ∧ Q S') 20 10292) 180 [(0, .ref a0), (1, .int x1)] [] S c9 k9
  refine jx_iload_n 1 dX11_init_180 rfl rfl ?_
  refine jx_iconst (v := 4) dX11_init_181 (by decide) ?_
  refine jx_icmp_ge (tgt := 198) dX11_init_182 (by decide) (fun c65 => ?_) (fun c65 => ?_)
  · replace h := h.1 c65
    obtain ⟨hm66, h⟩ := h
    exact jx_vret dX11_init_198 rfl hm66.1 hm66.2 ⟨rfl, h⟩
  replace h := h.2 c65
  refine jx_aload_n 0 dX11_init_185 rfl rfl ?_
  obtain ⟨hk67, h⟩ := h
  obtain ⟨b68, hb68, h⟩ := h
  refine jx_getr jc_11 (j := 4) (by decide) rfl jwF_X11_19 dX11_init_186 hk67 hb68 ?_
  refine jx_iload_n 1 dX11_init_189 rfl rfl ?_
  refine jx_iconst (v := (-1)) dX11_init_190 (by decide) ?_
  obtain ⟨hk69, h⟩ := h
  obtain ⟨hi70, h⟩ := h
  refine jx_iast dX11_init_191 hk69 hi70 ?_
  refine jx_iinc 1 (v := (x1 + 1)) (lv1 := [(1, .int (x1 + 1)), (0, .ref a0)]) dX11_init_192 rfl rfl (by decide) rfl ?_
  refine jx_goto (tgt := 180) dX11_init_195 (by decide) ?_
  exact jx_lv [1, 0] rfl h
set_option maxRecDepth 100000 in
set_option maxHeartbeats 4000000 in
theorem T_X11_becomes {E : jEnv} {d : Nat} {Q : Int32 → jM → Prop} {a0 : Nat} {x1 : Int32} {x2 : Int32} {S : jM} (h : jk S a0 = 11 ∧ ∃ b2, jr S a0 0 = some b2 ∧ (jk S b2 = 12 ∧ vp_in x1 (jl S b2) ∧ ((Q (ji S b2 (Int32.toNatClampNeg x1)) (jput S b2 (Int32.toNatClampNeg x1) x2))))) : jFi E mX11_becomes d 0 0 [.ref a0, .int x1, .int x2] S Q := by
  refine jF_of (by decide) (jle rfl) ?_
  refine jx_lv (lv1 := [(0, .ref a0), (1, .int x1), (2, .int x2)]) [0, 1, 2] rfl ?_
  refine jx_aload_n 0 dX11_becomes_0 rfl rfl ?_
  obtain ⟨hk1, h⟩ := h
  obtain ⟨b2, hb2, h⟩ := h
  refine jx_getr jc_11 (j := 0) (by decide) rfl jwF_X11_7 dX11_becomes_1 hk1 hb2 ?_
  refine jx_iload_n 1 dX11_becomes_4 rfl rfl ?_
  obtain ⟨hk3, h⟩ := h
  obtain ⟨hi4, h⟩ := h
  refine jx_iald dX11_becomes_5 hk3 hi4 ?_
  refine jx_istore_n (lv1 := [(3, .int (ji S b2 (Int32.toNatClampNeg x1))), (0, .ref a0), (1, .int x1), (2, .int x2)]) dX11_becomes_6 rfl (by decide) rfl ?_
  refine jx_aload_n 1 dX11_becomes_7 rfl rfl ?_
  refine jx_getr jc_11 (j := 0) (by decide) rfl jwF_X11_7 dX11_becomes_8 hk1 hb2 ?_
  refine jx_iload_n 2 dX11_becomes_11 rfl rfl ?_
  refine jx_iload_n 3 dX11_becomes_12 rfl rfl ?_
  refine jx_iast dX11_becomes_13 hk3 hi4 ?_
  refine jx_iload_n 0 dX11_becomes_14 rfl rfl ?_
  exact jx_iret dX11_becomes_15 rfl rfl (jle rfl) (jle rfl) ⟨_, rfl, h⟩
set_option maxRecDepth 100000 in
set_option maxHeartbeats 4000000 in
theorem T_X11_of {E : jEnv} {d : Nat} {Q : Int32 → jM → Prop} {a0 : Nat} {x1 : Int32} {x2 : Int32} {S : jM} (h : jk S a0 = 11 ∧ ∃ b2, jr S a0 0 = some b2 ∧ (jk S b2 = 12 ∧ vp_in ((72 + (7 * x1)) + x2) (jl S b2) ∧ (Q (ji S b2 (Int32.toNatClampNeg ((72 + (7 * x1)) + x2))) S))) : jFi E mX11_of d 0 0 [.ref a0, .int x1, .int x2] S Q := by
  refine jF_of (by decide) (jle rfl) ?_
  refine jx_lv (lv1 := [(0, .ref a0), (1, .int x1), (2, .int x2)]) [0, 1, 2] rfl ?_
  refine jx_aload_n 0 dX11_of_0 rfl rfl ?_
  obtain ⟨hk1, h⟩ := h
  obtain ⟨b2, hb2, h⟩ := h
  refine jx_getr jc_11 (j := 0) (by decide) rfl jwF_X11_7 dX11_of_1 hk1 hb2 ?_
  refine jx_bipush (v := 72) dX11_of_4 (by decide) ?_
  refine jx_bipush (v := 7) dX11_of_6 (by decide) ?_
  refine jx_iload_n 1 dX11_of_8 rfl rfl ?_
  refine jx_imul dX11_of_9 ?_
  refine jx_iadd dX11_of_10 ?_
  refine jx_iload_n 2 dX11_of_11 rfl rfl ?_
  refine jx_iadd dX11_of_12 ?_
  obtain ⟨hk3, h⟩ := h
  obtain ⟨hi4, h⟩ := h
  refine jx_iald dX11_of_13 hk3 hi4 ?_
  exact jx_iret dX11_of_14 rfl rfl (jle rfl) (jle rfl) ⟨_, rfl, h⟩
set_option maxRecDepth 100000 in
set_option maxHeartbeats 4000000 in
theorem T_X11_isMaster {E : jEnv} {d : Nat} {Q : Int32 → jM → Prop} {a0 : Nat} {x1 : Int32} {S : jM} (h : jk S a0 = 11 ∧ ∃ b2, jr S a0 0 = some b2 ∧ (jk S b2 = 12 ∧ vp_in 0 (jl S b2) ∧ (((jisin (Int32.toInt64 x1) 0 (Int32.toInt64 ((ji S b2 (Int32.toNatClampNeg 0)) - 1))) = 0 ∨ (jisin (Int32.toInt64 x1) 0 (Int32.toInt64 ((ji S b2 (Int32.toNatClampNeg 0)) - 1))) = 1) ∧ Q (jisin (Int32.toInt64 x1) 0 (Int32.toInt64 ((ji S b2 (Int32.toNatClampNeg 0)) - 1))) S))) : jFi E mX11_isMaster (d + 1) 0 0 [.ref a0, .int x1] S Q := by
  refine jF_of (by decide) (jle rfl) ?_
  refine jx_lv (lv1 := [(0, .ref a0), (1, .int x1)]) [0, 1] rfl ?_
  refine jx_iload_n 1 dX11_isMaster_0 rfl rfl ?_
  refine jx_i2l dX11_isMaster_1 ?_
  refine jx_lconst (v := 0) dX11_isMaster_2 (by decide) ?_
  refine jx_aload_n 0 dX11_isMaster_3 rfl rfl ?_
  obtain ⟨hk1, h⟩ := h
  obtain ⟨b2, hb2, h⟩ := h
  refine jx_getr jc_11 (j := 0) (by decide) rfl jwF_X11_7 dX11_isMaster_4 hk1 hb2 ?_
  refine jx_iconst (v := 0) dX11_isMaster_7 (by decide) ?_
  obtain ⟨hk3, h⟩ := h
  obtain ⟨hi4, h⟩ := h
  refine jx_iald dX11_isMaster_8 hk3 hi4 ?_
  refine jx_iconst (v := 1) dX11_isMaster_9 (by decide) ?_
  refine jx_isub dX11_isMaster_10 ?_
  refine jx_i2l dX11_isMaster_11 ?_
  refine jx_callSi (M' := mX11_isIn) (As := [.long (Int32.toInt64 x1), .long 0, .long (Int32.toInt64 ((ji S b2 (Int32.toNatClampNeg 0)) - 1))]) jo_X11_isIn jwM_X11_71 jwS_X11_isIn dX11_isMaster_12 (jRok_m _ _ _) rfl (jle rfl) ⟨jle rfl, jle rfl⟩ (c_X11_isIn (Q := fun v S' => v = (jisin (Int32.toInt64 x1) 0 (Int32.toInt64 ((ji S b2 (Int32.toNatClampNeg 0)) - 1))) ∧ S = S') ⟨rfl, rfl⟩) (fun r5 S6 hq7 => ?_)
  obtain ⟨rfl, rfl⟩ := hq7
  obtain ⟨hb8, h⟩ := h
  exact jx_iret dX11_isMaster_15 rfl (jb_nar hb8) (jle rfl) (jle rfl) ⟨_, rfl, h⟩
set_option maxRecDepth 100000 in
set_option maxHeartbeats 4000000 in
theorem T_X11_isText {E : jEnv} {d : Nat} {Q : Int32 → jM → Prop} {a0 : Nat} {x1 : Int32} {S : jM} (h : jk S a0 = 11 ∧ ∃ b2, jr S a0 0 = some b2 ∧ (jk S b2 = 12 ∧ vp_in 1 (jl S b2) ∧ (((jisin (Int32.toInt64 x1) 0 (Int32.toInt64 ((ji S b2 (Int32.toNatClampNeg 1)) - 1))) = 0 ∨ (jisin (Int32.toInt64 x1) 0 (Int32.toInt64 ((ji S b2 (Int32.toNatClampNeg 1)) - 1))) = 1) ∧ Q (jisin (Int32.toInt64 x1) 0 (Int32.toInt64 ((ji S b2 (Int32.toNatClampNeg 1)) - 1))) S))) : jFi E mX11_isText (d + 1) 0 0 [.ref a0, .int x1] S Q := by
  refine jF_of (by decide) (jle rfl) ?_
  refine jx_lv (lv1 := [(0, .ref a0), (1, .int x1)]) [0, 1] rfl ?_
  refine jx_iload_n 1 dX11_isText_0 rfl rfl ?_
  refine jx_i2l dX11_isText_1 ?_
  refine jx_lconst (v := 0) dX11_isText_2 (by decide) ?_
  refine jx_aload_n 0 dX11_isText_3 rfl rfl ?_
  obtain ⟨hk1, h⟩ := h
  obtain ⟨b2, hb2, h⟩ := h
  refine jx_getr jc_11 (j := 0) (by decide) rfl jwF_X11_7 dX11_isText_4 hk1 hb2 ?_
  refine jx_iconst (v := 1) dX11_isText_7 (by decide) ?_
  obtain ⟨hk3, h⟩ := h
  obtain ⟨hi4, h⟩ := h
  refine jx_iald dX11_isText_8 hk3 hi4 ?_
  refine jx_iconst (v := 1) dX11_isText_9 (by decide) ?_
  refine jx_isub dX11_isText_10 ?_
  refine jx_i2l dX11_isText_11 ?_
  refine jx_callSi (M' := mX11_isIn) (As := [.long (Int32.toInt64 x1), .long 0, .long (Int32.toInt64 ((ji S b2 (Int32.toNatClampNeg 1)) - 1))]) jo_X11_isIn jwM_X11_71 jwS_X11_isIn dX11_isText_12 (jRok_m _ _ _) rfl (jle rfl) ⟨jle rfl, jle rfl⟩ (c_X11_isIn (Q := fun v S' => v = (jisin (Int32.toInt64 x1) 0 (Int32.toInt64 ((ji S b2 (Int32.toNatClampNeg 1)) - 1))) ∧ S = S') ⟨rfl, rfl⟩) (fun r5 S6 hq7 => ?_)
  obtain ⟨rfl, rfl⟩ := hq7
  obtain ⟨hb8, h⟩ := h
  exact jx_iret dX11_isText_15 rfl (jb_nar hb8) (jle rfl) (jle rfl) ⟨_, rfl, h⟩
set_option maxRecDepth 100000 in
set_option maxHeartbeats 4000000 in
theorem T_X11_drawn {E : jEnv} {d : Nat} {Q : Int32 → jM → Prop} {a0 : Nat} {S : jM} (h : jk S a0 = 11 ∧ ∃ b2, jr S a0 0 = some b2 ∧ (jk S b2 = 12 ∧ vp_in 8 (jl S b2) ∧ (((Q (jushr (((ji S b2 (Int32.toNatClampNeg 8)) * 1103515245) + 12345) 8) (jput S b2 (Int32.toNatClampNeg 8) (((ji S b2 (Int32.toNatClampNeg 8)) * 1103515245) + 12345))))))) : jFi E mX11_drawn d 0 0 [.ref a0] S Q := by
  refine jF_of (by decide) (jle rfl) ?_
  refine jx_lv (lv1 := [(0, .ref a0)]) [0] rfl ?_
  refine jx_aload_n 0 dX11_drawn_0 rfl rfl ?_
  obtain ⟨hk1, h⟩ := h
  obtain ⟨b2, hb2, h⟩ := h
  refine jx_getr jc_11 (j := 0) (by decide) rfl jwF_X11_7 dX11_drawn_1 hk1 hb2 ?_
  refine jx_bipush (v := 8) dX11_drawn_4 (by decide) ?_
  refine jx_aload_n 0 dX11_drawn_6 rfl rfl ?_
  refine jx_getr jc_11 (j := 0) (by decide) rfl jwF_X11_7 dX11_drawn_7 hk1 hb2 ?_
  refine jx_bipush (v := 8) dX11_drawn_10 (by decide) ?_
  obtain ⟨hk3, h⟩ := h
  obtain ⟨hi4, h⟩ := h
  refine jx_iald dX11_drawn_12 hk3 hi4 ?_
  refine jx_ldc jwC_X11_75 dX11_drawn_13 ?_
  refine jx_imul dX11_drawn_15 ?_
  refine jx_sipush (v := 12345) dX11_drawn_16 (by decide) ?_
  refine jx_iadd dX11_drawn_19 ?_
  refine jx_iast dX11_drawn_20 hk3 hi4 ?_
  refine jx_aload_n 0 dX11_drawn_21 rfl rfl ?_
  refine jx_getr jc_11 (j := 0) (by decide) rfl jwF_X11_7 dX11_drawn_22 hk1 hb2 ?_
  refine jx_bipush (v := 8) dX11_drawn_25 (by decide) ?_
  refine jx_iald dX11_drawn_27 hk3 hi4 ?_
  refine jx_topi (y := (((ji S b2 (Int32.toNatClampNeg 8)) * 1103515245) + 12345)) (by simp [ji_put, ji_row, ji_putr]) ?_
  refine jx_bipush (v := 8) dX11_drawn_28 (by decide) ?_
  refine jx_iushr dX11_drawn_30 ?_
  exact jx_iret dX11_drawn_31 rfl rfl (jle rfl) (jle rfl) ⟨_, rfl, h⟩
set_option maxRecDepth 100000 in
set_option maxHeartbeats 4000000 in
theorem T_X11_comes {E : jEnv} {d : Nat} {Q : jM → Prop} {a0 : Nat} {x1 : Int32} {x2 : Int32} {x3 : Int32} {x4 : Int32} {S : jM} (h : jk S a0 = 11 ∧ ∃ b2, jr S a0 0 = some b2 ∧ (jk S b2 = 12 ∧ vp_in 0 (jl S b2) ∧ (vp_in (72 + (7 * (ji S b2 (Int32.toNatClampNeg 0)))) (jl S b2) ∧ (vp_in ((72 + (7 * (ji S b2 (Int32.toNatClampNeg 0)))) + 1) (jl S b2) ∧ (vp_in ((72 + (7 * (ji S b2 (Int32.toNatClampNeg 0)))) + 2) (jl S b2) ∧ (vp_in ((72 + (7 * (ji S b2 (Int32.toNatClampNeg 0)))) + 3) (jl S b2) ∧ (vp_in ((72 + (7 * (ji S b2 (Int32.toNatClampNeg 0)))) + 4) (jl S b2) ∧ (vp_in ((72 + (7 * (ji S b2 (Int32.toNatClampNeg 0)))) + 5) (jl S b2) ∧ (vp_in ((72 + (7 * (ji S b2 (Int32.toNatClampNeg 0)))) + 6) (jl S b2) ∧ (((Q (jput (jput (jput (jput (jput (jput (jput (jput S b2 (Int32.toNatClampNeg (72 + (7 * (ji S b2 (Int32.toNatClampNeg 0))))) x1) b2 (Int32.toNatClampNeg ((72 + (7 * (ji S b2 (Int32.toNatClampNeg 0)))) + 1)) x2) b2 (Int32.toNatClampNeg ((72 + (7 * (ji S b2 (Int32.toNatClampNeg 0)))) + 2)) x3) b2 (Int32.toNatClampNeg ((72 + (7 * (ji S b2 (Int32.toNatClampNeg 0)))) + 3)) 0) b2 (Int32.toNatClampNeg ((72 + (7 * (ji S b2 (Int32.toNatClampNeg 0)))) + 4)) x4) b2 (Int32.toNatClampNeg ((72 + (7 * (ji S b2 (Int32.toNatClampNeg 0)))) + 5)) 40) b2 (Int32.toNatClampNeg ((72 + (7 * (ji S b2 (Int32.toNatClampNeg 0)))) + 6)) 0) b2 (Int32.toNatClampNeg 0) ((ji (jput (jput (jput (jput (jput (jput (jput S b2 (Int32.toNatClampNeg (72 + (7 * (ji S b2 (Int32.toNatClampNeg 0))))) x1) b2 (Int32.toNatClampNeg ((72 + (7 * (ji S b2 (Int32.toNatClampNeg 0)))) + 1)) x2) b2 (Int32.toNatClampNeg ((72 + (7 * (ji S b2 (Int32.toNatClampNeg 0)))) + 2)) x3) b2 (Int32.toNatClampNeg ((72 + (7 * (ji S b2 (Int32.toNatClampNeg 0)))) + 3)) 0) b2 (Int32.toNatClampNeg ((72 + (7 * (ji S b2 (Int32.toNatClampNeg 0)))) + 4)) x4) b2 (Int32.toNatClampNeg ((72 + (7 * (ji S b2 (Int32.toNatClampNeg 0)))) + 5)) 40) b2 (Int32.toNatClampNeg ((72 + (7 * (ji S b2 (Int32.toNatClampNeg 0)))) + 6)) 0) b2 (Int32.toNatClampNeg 0)) + 1)))))))))))))) : jFv E mX11_comes d 0 0 [.ref a0, .int x1, .int x2, .int x3, .int x4] S Q := by
  refine jF_of (by decide) (jle rfl) ?_
  refine jx_lv (lv1 := [(0, .ref a0), (1, .int x1), (2, .int x2), (3, .int x3), (4, .int x4)]) [0, 1, 2, 3, 4] rfl ?_
  refine jx_bipush (v := 72) dX11_comes_0 (by decide) ?_
  refine jx_bipush (v := 7) dX11_comes_2 (by decide) ?_
  refine jx_aload_n 0 dX11_comes_4 rfl rfl ?_
  obtain ⟨hk1, h⟩ := h
  obtain ⟨b2, hb2, h⟩ := h
  refine jx_getr jc_11 (j := 0) (by decide) rfl jwF_X11_7 dX11_comes_5 hk1 hb2 ?_
  refine jx_iconst (v := 0) dX11_comes_8 (by decide) ?_
  obtain ⟨hk3, h⟩ := h
  obtain ⟨hi4, h⟩ := h
  refine jx_iald dX11_comes_9 hk3 hi4 ?_
  refine jx_imul dX11_comes_10 ?_
  refine jx_iadd dX11_comes_11 ?_
  refine jx_istore (lv1 := [(5, .int (72 + (7 * (ji S b2 (Int32.toNatClampNeg 0))))), (0, .ref a0), (1, .int x1), (2, .int x2), (3, .int x3), (4, .int x4)]) dX11_comes_12 (by decide) rfl ?_
  refine jx_aload_n 1 dX11_comes_14 rfl rfl ?_
  refine jx_getr jc_11 (j := 0) (by decide) rfl jwF_X11_7 dX11_comes_15 hk1 hb2 ?_
  refine jx_iload 0 dX11_comes_18 rfl ?_
  refine jx_iload_n 2 dX11_comes_20 rfl rfl ?_
  obtain ⟨hi5, h⟩ := h
  refine jx_iast dX11_comes_21 hk3 hi5 ?_
  refine jx_aload_n 1 dX11_comes_22 rfl rfl ?_
  refine jx_getr jc_11 (j := 0) (by decide) rfl jwF_X11_7 dX11_comes_23 hk1 hb2 ?_
  refine jx_iload 0 dX11_comes_26 rfl ?_
  refine jx_iconst (v := 1) dX11_comes_28 (by decide) ?_
  refine jx_iadd dX11_comes_29 ?_
  refine jx_iload_n 3 dX11_comes_30 rfl rfl ?_
  obtain ⟨hi6, h⟩ := h
  refine jx_iast dX11_comes_31 hk3 hi6 ?_
  refine jx_aload_n 1 dX11_comes_32 rfl rfl ?_
  refine jx_getr jc_11 (j := 0) (by decide) rfl jwF_X11_7 dX11_comes_33 hk1 hb2 ?_
  refine jx_iload 0 dX11_comes_36 rfl ?_
  refine jx_iconst (v := 2) dX11_comes_38 (by decide) ?_
  refine jx_iadd dX11_comes_39 ?_
  refine jx_iload_n 4 dX11_comes_40 rfl rfl ?_
  obtain ⟨hi7, h⟩ := h
  refine jx_iast dX11_comes_41 hk3 hi7 ?_
  refine jx_aload_n 1 dX11_comes_42 rfl rfl ?_
  refine jx_getr jc_11 (j := 0) (by decide) rfl jwF_X11_7 dX11_comes_43 hk1 hb2 ?_
  refine jx_iload 0 dX11_comes_46 rfl ?_
  refine jx_iconst (v := 3) dX11_comes_48 (by decide) ?_
  refine jx_iadd dX11_comes_49 ?_
  refine jx_iconst (v := 0) dX11_comes_50 (by decide) ?_
  obtain ⟨hi8, h⟩ := h
  refine jx_iast dX11_comes_51 hk3 hi8 ?_
  refine jx_aload_n 1 dX11_comes_52 rfl rfl ?_
  refine jx_getr jc_11 (j := 0) (by decide) rfl jwF_X11_7 dX11_comes_53 hk1 hb2 ?_
  refine jx_iload 0 dX11_comes_56 rfl ?_
  refine jx_iconst (v := 4) dX11_comes_58 (by decide) ?_
  refine jx_iadd dX11_comes_59 ?_
  refine jx_iload 5 dX11_comes_60 rfl ?_
  obtain ⟨hi9, h⟩ := h
  refine jx_iast dX11_comes_62 hk3 hi9 ?_
  refine jx_aload_n 1 dX11_comes_63 rfl rfl ?_
  refine jx_getr jc_11 (j := 0) (by decide) rfl jwF_X11_7 dX11_comes_64 hk1 hb2 ?_
  refine jx_iload 0 dX11_comes_67 rfl ?_
  refine jx_iconst (v := 5) dX11_comes_69 (by decide) ?_
  refine jx_iadd dX11_comes_70 ?_
  refine jx_bipush (v := 40) dX11_comes_71 (by decide) ?_
  obtain ⟨hi10, h⟩ := h
  refine jx_iast dX11_comes_73 hk3 hi10 ?_
  refine jx_aload_n 1 dX11_comes_74 rfl rfl ?_
  refine jx_getr jc_11 (j := 0) (by decide) rfl jwF_X11_7 dX11_comes_75 hk1 hb2 ?_
  refine jx_iload 0 dX11_comes_78 rfl ?_
  refine jx_bipush (v := 6) dX11_comes_80 (by decide) ?_
  refine jx_iadd dX11_comes_82 ?_
  refine jx_iconst (v := 0) dX11_comes_83 (by decide) ?_
  obtain ⟨hi11, h⟩ := h
  refine jx_iast dX11_comes_84 hk3 hi11 ?_
  refine jx_aload_n 1 dX11_comes_85 rfl rfl ?_
  refine jx_getr jc_11 (j := 0) (by decide) rfl jwF_X11_7 dX11_comes_86 hk1 hb2 ?_
  refine jx_iconst (v := 0) dX11_comes_89 (by decide) ?_
  refine jx_dup2 dX11_comes_90 rfl rfl ?_
  refine jx_iald dX11_comes_91 hk3 hi4 ?_
  refine jx_iconst (v := 1) dX11_comes_92 (by decide) ?_
  refine jx_iadd dX11_comes_93 ?_
  refine jx_iast dX11_comes_94 hk3 hi4 ?_
  exact jx_vret dX11_comes_95 rfl (jle rfl) (jle rfl) ⟨rfl, h⟩
set_option maxRecDepth 100000 in
set_option maxHeartbeats 4000000 in
theorem T_X11_master {E : jEnv} {d : Nat} {Q : Int32 → jM → Prop} {a0 : Nat} {x1 : Int32} {x2 : Int32} {x3 : Int32} {x4 : Int32} {S : jM} (h : ((jisin (Int32.toInt64 x1) 0 5) = 0 → Q (-1000000001) S) ∧ (¬ (jisin (Int32.toInt64 x1) 0 5) = 0 → ((jist x2) = 0 → Q (-1000000001) S) ∧ (¬ (jist x2) = 0 → ((jisg x3) = 0 → Q (-1000000001) S) ∧ (¬ (jisg x3) = 0 → ((jisin (Int32.toInt64 x4) 0 99) = 0 → Q (-1000000001) S) ∧ (¬ (jisin (Int32.toInt64 x4) 0 99) = 0 → jk S a0 = 11 ∧ ∃ b18, jr S a0 0 = some b18 ∧ (jk S b18 = 12 ∧ vp_in 0 (jl S b18) ∧ (((ji S b18 (Int32.toNatClampNeg 0)) = 9 → Q (-1000000003) S) ∧ (¬ (ji S b18 (Int32.toNatClampNeg 0)) = 9 → jFv E mX11_comes d 0 0 [.ref a0, .int x1, .int x2, .int x3, .int x4] S (fun S22 => jk S22 a0 = 11 ∧ ∃ b24, jr S22 a0 0 = some b24 ∧ (jk S22 b24 = 12 ∧ vp_in 0 (jl S22 b24) ∧ (Q ((ji S22 b24 (Int32.toNatClampNeg 0)) - 1) S22))))))))))) : jFi E mX11_master (d + 1) 0 0 [.ref a0, .int x1, .int x2, .int x3, .int x4] S Q := by
  refine jF_of (by decide) (jle rfl) ?_
  refine jx_lv (lv1 := [(0, .ref a0), (1, .int x1), (2, .int x2), (3, .int x3), (4, .int x4)]) [0, 1, 2, 3, 4] rfl ?_
  refine jx_iload_n 1 dX11_master_0 rfl rfl ?_
  refine jx_i2l dX11_master_1 ?_
  refine jx_lconst (v := 0) dX11_master_2 (by decide) ?_
  refine jx_ldc2 jwL_X11_76 dX11_master_3 ?_
  refine jx_callSi (M' := mX11_isIn) (As := [.long (Int32.toInt64 x1), .long 0, .long 5]) jo_X11_isIn jwM_X11_71 jwS_X11_isIn dX11_master_6 (jRok_m _ _ _) rfl (jle rfl) ⟨jle rfl, jle rfl⟩ (c_X11_isIn (Q := fun v S' => v = (jisin (Int32.toInt64 x1) 0 5) ∧ S = S') ⟨rfl, rfl⟩) (fun r1 S2 hq3 => ?_)
  obtain ⟨rfl, rfl⟩ := hq3
  refine jx_if_eq (tgt := 39) dX11_master_9 (by decide) (fun c4 => ?_) (fun c4 => ?_)
  · replace h := h.1 c4
    refine jx_ldc jwC_X11_87 dX11_master_39 ?_
    exact jx_iret dX11_master_41 rfl rfl (jle rfl) (jle rfl) ⟨_, rfl, h⟩
  replace h := h.2 c4
  refine jx_iload_n 2 dX11_master_12 rfl rfl ?_
  refine jx_callSi (M' := mX11_isTown) (As := [.int x2]) jo_X11_isTown jwM_X11_78 jwS_X11_isTown dX11_master_13 (jRok_m _ _ _) rfl (jle rfl) ⟨jle rfl, jle rfl⟩ (c_X11_isTown (Q := fun v S' => v = (jist x2) ∧ S = S') ⟨rfl, rfl⟩) (fun r5 S6 hq7 => ?_)
  obtain ⟨rfl, rfl⟩ := hq7
  refine jx_if_eq (tgt := 39) dX11_master_16 (by decide) (fun c8 => ?_) (fun c8 => ?_)
  · replace h := h.1 c8
    refine jx_ldc jwC_X11_87 dX11_master_39 ?_
    exact jx_iret dX11_master_41 rfl rfl (jle rfl) (jle rfl) ⟨_, rfl, h⟩
  replace h := h.2 c8
  refine jx_iload_n 3 dX11_master_19 rfl rfl ?_
  refine jx_callSi (M' := mX11_isGesture) (As := [.int x3]) jo_X11_isGesture jwM_X11_82 jwS_X11_isGesture dX11_master_20 (jRok_m _ _ _) rfl (jle rfl) ⟨jle rfl, jle rfl⟩ (c_X11_isGesture (Q := fun v S' => v = (jisg x3) ∧ S = S') ⟨rfl, rfl⟩) (fun r9 S10 hq11 => ?_)
  obtain ⟨rfl, rfl⟩ := hq11
  refine jx_if_eq (tgt := 39) dX11_master_23 (by decide) (fun c12 => ?_) (fun c12 => ?_)
  · replace h := h.1 c12
    refine jx_ldc jwC_X11_87 dX11_master_39 ?_
    exact jx_iret dX11_master_41 rfl rfl (jle rfl) (jle rfl) ⟨_, rfl, h⟩
  replace h := h.2 c12
  refine jx_iload 4 dX11_master_26 rfl ?_
  refine jx_i2l dX11_master_28 ?_
  refine jx_lconst (v := 0) dX11_master_29 (by decide) ?_
  refine jx_ldc2 jwL_X11_85 dX11_master_30 ?_
  refine jx_callSi (M' := mX11_isIn) (As := [.long (Int32.toInt64 x4), .long 0, .long 99]) jo_X11_isIn jwM_X11_71 jwS_X11_isIn dX11_master_33 (jRok_m _ _ _) rfl (jle rfl) ⟨jle rfl, jle rfl⟩ (c_X11_isIn (Q := fun v S' => v = (jisin (Int32.toInt64 x4) 0 99) ∧ S = S') ⟨rfl, rfl⟩) (fun r13 S14 hq15 => ?_)
  obtain ⟨rfl, rfl⟩ := hq15
  refine jx_if_ne (tgt := 42) dX11_master_36 (by decide) (fun c16 => ?_) (fun c16 => ?_)
  · replace h := h.2 c16
    refine jx_aload_n 0 dX11_master_42 rfl rfl ?_
    obtain ⟨hk17, h⟩ := h
    obtain ⟨b18, hb18, h⟩ := h
    refine jx_getr jc_11 (j := 0) (by decide) rfl jwF_X11_7 dX11_master_43 hk17 hb18 ?_
    refine jx_iconst (v := 0) dX11_master_46 (by decide) ?_
    obtain ⟨hk19, h⟩ := h
    obtain ⟨hi20, h⟩ := h
    refine jx_iald dX11_master_47 hk19 hi20 ?_
    refine jx_bipush (v := 9) dX11_master_48 (by decide) ?_
    refine jx_icmp_ne (tgt := 56) dX11_master_50 (by decide) (fun c21 => ?_) (fun c21 => ?_)
    · replace h := h.2 c21
      refine jx_aload_n 0 dX11_master_56 rfl rfl ?_
      refine jx_iload_n 1 dX11_master_57 rfl rfl ?_
      refine jx_iload_n 2 dX11_master_58 rfl rfl ?_
      refine jx_iload_n 3 dX11_master_59 rfl rfl ?_
      refine jx_iload 4 dX11_master_60 rfl ?_
      refine jx_callVv (M' := mX11_comes) (As := [.int x1, .int x2, .int x3, .int x4]) jo_X11_comes jc_11 rfl jwM_X11_89 jwN_X11_comes jwX_X11_comes dX11_master_62 (jRok_m _ _ _) rfl (jle rfl) ⟨jle rfl, jle rfl⟩ hk17 h (fun S22 h => ?_)
      refine jx_aload_n 0 dX11_master_65 rfl rfl ?_
      obtain ⟨hk23, h⟩ := h
      obtain ⟨b24, hb24, h⟩ := h
      refine jx_getr jc_11 (j := 0) (by decide) rfl jwF_X11_7 dX11_master_66 hk23 hb24 ?_
      refine jx_iconst (v := 0) dX11_master_69 (by decide) ?_
      obtain ⟨hk25, h⟩ := h
      obtain ⟨hi26, h⟩ := h
      refine jx_iald dX11_master_70 hk25 hi26 ?_
      refine jx_iconst (v := 1) dX11_master_71 (by decide) ?_
      refine jx_isub dX11_master_72 ?_
      exact jx_iret dX11_master_73 rfl rfl (jle rfl) (jle rfl) ⟨_, rfl, h⟩
    replace h := h.1 c21
    refine jx_ldc jwC_X11_88 dX11_master_53 ?_
    exact jx_iret dX11_master_55 rfl rfl (jle rfl) (jle rfl) ⟨_, rfl, h⟩
  replace h := h.1 c16
  refine jx_ldc jwC_X11_87 dX11_master_39 ?_
  exact jx_iret dX11_master_41 rfl rfl (jle rfl) (jle rfl) ⟨_, rfl, h⟩
set_option maxRecDepth 100000 in
set_option maxHeartbeats 4000000 in
theorem T_X11_takes {E : jEnv} {d : Nat} {Q : Int32 → jM → Prop} {a0 : Nat} {x1 : Int32} {x2 : Int32} {S : jM} (h : jk S a0 = 11 ∧ jFi E mX11_counts d 0 0 [.ref a0, .int 0] S (fun r3 S2 => (r3 < 0 → ((3 + x2) ≤ 1 → jk S2 a0 = 11 ∧ jFi E mX11_of d 0 0 [.ref a0, .int x1, .int 0] S2 (fun r8 S7 => (r8 = 1 → Q (2 * (3 + x2)) S7) ∧ (r8 = 2 → Q 1 S7) ∧ (r8 = 3 → jk S7 a0 = 11 ∧ jFi E mX11_of d 0 0 [.ref a0, .int x1, .int 5] S7 (fun r14 S13 => Q ((2 * (3 + x2)) + (r14 / 10)) S13)) ∧ (r8 = 4 → Q 1 S7) ∧ (r8 = 5 → Q 1 S7) ∧ (¬ r8 = 1 → ¬ r8 = 2 → ¬ r8 = 3 → ¬ r8 = 4 → ¬ r8 = 5 → Q (3 + x2) S7))) ∧ (¬ (3 + x2) ≤ 1 → jk S2 a0 = 11 ∧ jFi E mX11_of d 0 0 [.ref a0, .int x1, .int 0] S2 (fun r19 S18 => (r19 = 1 → Q (2 * (3 + x2)) S18) ∧ (r19 = 2 → Q ((3 + x2) - 1) S18) ∧ (r19 = 3 → jk S18 a0 = 11 ∧ jFi E mX11_of d 0 0 [.ref a0, .int x1, .int 5] S18 (fun r25 S24 => Q ((2 * (3 + x2)) + (r25 / 10)) S24)) ∧ (r19 = 4 → (((3 + x2) - 1) ≤ 1 → Q 1 S18) ∧ (¬ ((3 + x2) - 1) ≤ 1 → Q (((3 + x2) - 1) / 2) S18)) ∧ (r19 = 5 → Q 1 S18) ∧ (¬ r19 = 1 → ¬ r19 = 2 → ¬ r19 = 3 → ¬ r19 = 4 → ¬ r19 = 5 → Q (3 + x2) S18)))) ∧ (¬ r3 < 0 → jk S2 a0 = 11 ∧ ∃ b30, jr S2 a0 30 = some b30 ∧ (jk S2 b30 = 12 ∧ vp_in 107 (jl S2 b30) ∧ (jFi E mX11_of d 0 0 [.ref a0, .int x1, .int 2] (jput S2 b30 (Int32.toNatClampNeg 107) x2) (fun r34 S33 => jk S33 b30 = 12 ∧ vp_in 103 (jl S33 b30) ∧ (jk S33 a0 = 11 ∧ ∃ b38, jr S33 a0 30 = some b38 ∧ (jFi E mX11_of d 0 0 [.ref a0, .int x1, .int 5] (jput S33 b30 (Int32.toNatClampNeg 103) r34) (fun r40 S39 => jk S39 b38 = 12 ∧ vp_in 97 (jl S39 b38) ∧ (jk S39 a0 = 11 ∧ jFi E mX11_worked d 0 0 [.ref a0, .int r3] (jput S39 b38 (Int32.toNatClampNeg 97) r40) (fun r45 S44 => ((jclamp r45 1 99) ≤ 1 → jk S44 a0 = 11 ∧ jFi E mX11_of d 0 0 [.ref a0, .int x1, .int 0] S44 (fun r52 S51 => (r52 = 1 → Q (2 * (jclamp r45 1 99)) S51) ∧ (r52 = 2 → Q 1 S51) ∧ (r52 = 3 → jk S51 a0 = 11 ∧ jFi E mX11_of d 0 0 [.ref a0, .int x1, .int 5] S51 (fun r58 S57 => Q ((2 * (jclamp r45 1 99)) + (r58 / 10)) S57)) ∧ (r52 = 4 → Q 1 S51) ∧ (r52 = 5 → Q 1 S51) ∧ (¬ r52 = 1 → ¬ r52 = 2 → ¬ r52 = 3 → ¬ r52 = 4 → ¬ r52 = 5 → Q (jclamp r45 1 99) S51))) ∧ (¬ (jclamp r45 1 99) ≤ 1 → jk S44 a0 = 11 ∧ jFi E mX11_of d 0 0 [.ref a0, .int x1, .int 0] S44 (fun r63 S62 => (r63 = 1 → Q (2 * (jclamp r45 1 99)) S62) ∧ (r63 = 2 → Q ((jclamp r45 1 99) - 1) S62) ∧ (r63 = 3 → jk S62 a0 = 11 ∧ jFi E mX11_of d 0 0 [.ref a0, .int x1, .int 5] S62 (fun r69 S68 => Q ((2 * (jclamp r45 1 99)) + (r69 / 10)) S68)) ∧ (r63 = 4 → (((jclamp r45 1 99) - 1) ≤ 1 → Q 1 S62) ∧ (¬ ((jclamp r45 1 99) - 1) ≤ 1 → Q (((jclamp r45 1 99) - 1) / 2) S62)) ∧ (r63 = 5 → Q 1 S62) ∧ (¬ r63 = 1 → ¬ r63 = 2 → ¬ r63 = 3 → ¬ r63 = 4 → ¬ r63 = 5 → Q (jclamp r45 1 99) S62)))))))))))))) : jFi E mX11_takes (d + 1) 0 0 [.ref a0, .int x1, .int x2] S Q := by
  refine jF_of (by decide) (jle rfl) ?_
  refine jx_lv (lv1 := [(0, .ref a0), (1, .int x1), (2, .int x2)]) [0, 1, 2] rfl ?_
  refine jx_iconst (v := 3) dX11_takes_0 (by decide) ?_
  refine jx_iload_n 2 dX11_takes_1 rfl rfl ?_
  refine jx_iadd dX11_takes_2 ?_
  refine jx_istore_n (lv1 := [(3, .int (3 + x2)), (0, .ref a0), (1, .int x1), (2, .int x2)]) dX11_takes_3 rfl (by decide) rfl ?_
  refine jx_aload_n 1 dX11_takes_4 rfl rfl ?_
  refine jx_iconst (v := 0) dX11_takes_5 (by decide) ?_
  obtain ⟨hk1, h⟩ := h
  refine jx_callVi (M' := mX11_counts) (As := [.int 0]) jo_X11_counts jc_11 rfl jwM_X11_93 jwN_X11_counts jwX_X11_counts dX11_takes_6 (jRok_m _ _ _) rfl (jle rfl) ⟨jle rfl, jle rfl⟩ hk1 h (fun r3 S2 h => ?_)
  refine jx_istore (lv1 := [(4, .int r3), (3, .int (3 + x2)), (0, .ref a0), (1, .int x1), (2, .int x2)]) dX11_takes_9 (by decide) rfl ?_
  refine jx_iload 0 dX11_takes_11 rfl ?_
  refine jx_if_lt (tgt := 63) dX11_takes_13 (by decide) (fun c4 => ?_) (fun c4 => ?_)
  · replace h := h.1 c4
    refine jx_iload_n 1 dX11_takes_63 rfl rfl ?_
    refine jx_iconst (v := 1) dX11_takes_64 (by decide) ?_
    refine jx_icmp_le (tgt := 74) dX11_takes_65 (by decide) (fun c5 => ?_) (fun c5 => ?_)
    · replace h := h.1 c5
      refine jx_iconst (v := 1) dX11_takes_74 (by decide) ?_
      refine jx_istore (lv1 := [(5, .int 1), (4, .int r3), (3, .int (3 + x2)), (0, .ref a0), (1, .int x1), (2, .int x2)]) dX11_takes_75 (by decide) rfl ?_
      refine jx_aload_n 3 dX11_takes_77 rfl rfl ?_
      refine jx_iload_n 4 dX11_takes_78 rfl rfl ?_
      refine jx_iconst (v := 0) dX11_takes_79 (by decide) ?_
      obtain ⟨hk6, h⟩ := h
      refine jx_callVi (M' := mX11_of) (As := [.int x1, .int 0]) jo_X11_of jc_11 rfl jwM_X11_97 jwN_X11_of jwX_X11_of dX11_takes_80 (jRok_m _ _ _) rfl (jle rfl) ⟨jle rfl, jle rfl⟩ hk6 h (fun r8 S7 h => ?_)
      by_cases c9 : r8 = 1
      · replace h := h.1 c9
        refine jx_tableIn (v := 1) (tgt := 116) (off := 33) dX11_takes_83 c9 (by decide) (by decide) (by decide) (by decide) ?_
        refine jx_iconst (v := 2) dX11_takes_116 (by decide) ?_
        refine jx_iload_n 2 dX11_takes_117 rfl rfl ?_
        refine jx_imul dX11_takes_118 ?_
        exact jx_iret dX11_takes_119 rfl rfl (jle rfl) (jle rfl) ⟨_, rfl, h⟩
      replace h := h.2
      by_cases c10 : r8 = 2
      · replace h := h.1 c10
        refine jx_tableIn (v := 2) (tgt := 120) (off := 37) dX11_takes_83 c10 (by decide) (by decide) (by decide) (by decide) ?_
        refine jx_iload 0 dX11_takes_120 rfl ?_
        exact jx_iret dX11_takes_122 rfl rfl (jle rfl) (jle rfl) ⟨_, rfl, h⟩
      replace h := h.2
      by_cases c11 : r8 = 3
      · replace h := h.1 c11
        refine jx_tableIn (v := 3) (tgt := 123) (off := 40) dX11_takes_83 c11 (by decide) (by decide) (by decide) (by decide) ?_
        refine jx_iconst (v := 2) dX11_takes_123 (by decide) ?_
        refine jx_iload_n 2 dX11_takes_124 rfl rfl ?_
        refine jx_imul dX11_takes_125 ?_
        refine jx_aload_n 3 dX11_takes_126 rfl rfl ?_
        refine jx_iload_n 4 dX11_takes_127 rfl rfl ?_
        refine jx_iconst (v := 5) dX11_takes_128 (by decide) ?_
        obtain ⟨hk12, h⟩ := h
        refine jx_callVi (M' := mX11_of) (As := [.int x1, .int 5]) jo_X11_of jc_11 rfl jwM_X11_97 jwN_X11_of jwX_X11_of dX11_takes_129 (jRok_m _ _ _) rfl (jle rfl) ⟨jle rfl, jle rfl⟩ hk12 h (fun r14 S13 h => ?_)
        refine jx_bipush (v := 10) dX11_takes_132 (by decide) ?_
        refine jx_idiv dX11_takes_134 (by decide) ?_
        refine jx_iadd dX11_takes_135 ?_
        exact jx_iret dX11_takes_136 rfl rfl (jle rfl) (jle rfl) ⟨_, rfl, h⟩
      replace h := h.2
      by_cases c15 : r8 = 4
      · replace h := h.1 c15
        refine jx_tableIn (v := 4) (tgt := 137) (off := 54) dX11_takes_83 c15 (by decide) (by decide) (by decide) (by decide) ?_
        refine jx_iload 0 dX11_takes_137 rfl ?_
        refine jx_iconst (v := 1) dX11_takes_139 (by decide) ?_
        refine jx_icmp_le (tgt := 150) dX11_takes_140 (by decide) (fun _ => ?_) (fun z9 => absurd z9 (by decide))
        refine jx_iconst (v := 1) dX11_takes_150 (by decide) ?_
        exact jx_iret dX11_takes_151 rfl rfl (jle rfl) (jle rfl) ⟨_, rfl, h⟩
      replace h := h.2
      by_cases c16 : r8 = 5
      · replace h := h.1 c16
        refine jx_tableIn (v := 5) (tgt := 152) (off := 69) dX11_takes_83 c16 (by decide) (by decide) (by decide) (by decide) ?_
        refine jx_iconst (v := 1) dX11_takes_152 (by decide) ?_
        exact jx_iret dX11_takes_153 rfl rfl (jle rfl) (jle rfl) ⟨_, rfl, h⟩
      replace h := h.2
      replace h := h c9 c10 c11 c15 c16
      refine jx_tableD (tgt := 154) ([1, 2, 3, 4, 5] : List Int) dX11_takes_83 (by simp only [List.mem_cons, List.not_mem_nil, or_false, forall_eq_or_imp, forall_eq]; exact ⟨lv_neT c9 (by decide), lv_neT c10 (by decide), lv_neT c11 (by decide), lv_neT c15 (by decide), lv_neT c16 (by decide)⟩) (by decide) (by decide) (by decide) ?_
      refine jx_iload_n 2 dX11_takes_154 rfl rfl ?_
      exact jx_iret dX11_takes_155 rfl rfl (jle rfl) (jle rfl) ⟨_, rfl, h⟩
    replace h := h.2 c5
    refine jx_iload_n 1 dX11_takes_68 rfl rfl ?_
    refine jx_iconst (v := 1) dX11_takes_69 (by decide) ?_
    refine jx_isub dX11_takes_70 ?_
    refine jx_goto (tgt := 75) dX11_takes_71 (by decide) ?_
    refine jx_istore (lv1 := [(5, .int ((3 + x2) - 1)), (4, .int r3), (3, .int (3 + x2)), (0, .ref a0), (1, .int x1), (2, .int x2)]) dX11_takes_75 (by decide) rfl ?_
    refine jx_aload_n 3 dX11_takes_77 rfl rfl ?_
    refine jx_iload_n 4 dX11_takes_78 rfl rfl ?_
    refine jx_iconst (v := 0) dX11_takes_79 (by decide) ?_
    obtain ⟨hk17, h⟩ := h
    refine jx_callVi (M' := mX11_of) (As := [.int x1, .int 0]) jo_X11_of jc_11 rfl jwM_X11_97 jwN_X11_of jwX_X11_of dX11_takes_80 (jRok_m _ _ _) rfl (jle rfl) ⟨jle rfl, jle rfl⟩ hk17 h (fun r19 S18 h => ?_)
    by_cases c20 : r19 = 1
    · replace h := h.1 c20
      refine jx_tableIn (v := 1) (tgt := 116) (off := 33) dX11_takes_83 c20 (by decide) (by decide) (by decide) (by decide) ?_
      refine jx_iconst (v := 2) dX11_takes_116 (by decide) ?_
      refine jx_iload_n 2 dX11_takes_117 rfl rfl ?_
      refine jx_imul dX11_takes_118 ?_
      exact jx_iret dX11_takes_119 rfl rfl (jle rfl) (jle rfl) ⟨_, rfl, h⟩
    replace h := h.2
    by_cases c21 : r19 = 2
    · replace h := h.1 c21
      refine jx_tableIn (v := 2) (tgt := 120) (off := 37) dX11_takes_83 c21 (by decide) (by decide) (by decide) (by decide) ?_
      refine jx_iload 0 dX11_takes_120 rfl ?_
      exact jx_iret dX11_takes_122 rfl rfl (jle rfl) (jle rfl) ⟨_, rfl, h⟩
    replace h := h.2
    by_cases c22 : r19 = 3
    · replace h := h.1 c22
      refine jx_tableIn (v := 3) (tgt := 123) (off := 40) dX11_takes_83 c22 (by decide) (by decide) (by decide) (by decide) ?_
      refine jx_iconst (v := 2) dX11_takes_123 (by decide) ?_
      refine jx_iload_n 2 dX11_takes_124 rfl rfl ?_
      refine jx_imul dX11_takes_125 ?_
      refine jx_aload_n 3 dX11_takes_126 rfl rfl ?_
      refine jx_iload_n 4 dX11_takes_127 rfl rfl ?_
      refine jx_iconst (v := 5) dX11_takes_128 (by decide) ?_
      obtain ⟨hk23, h⟩ := h
      refine jx_callVi (M' := mX11_of) (As := [.int x1, .int 5]) jo_X11_of jc_11 rfl jwM_X11_97 jwN_X11_of jwX_X11_of dX11_takes_129 (jRok_m _ _ _) rfl (jle rfl) ⟨jle rfl, jle rfl⟩ hk23 h (fun r25 S24 h => ?_)
      refine jx_bipush (v := 10) dX11_takes_132 (by decide) ?_
      refine jx_idiv dX11_takes_134 (by decide) ?_
      refine jx_iadd dX11_takes_135 ?_
      exact jx_iret dX11_takes_136 rfl rfl (jle rfl) (jle rfl) ⟨_, rfl, h⟩
    replace h := h.2
    by_cases c26 : r19 = 4
    · replace h := h.1 c26
      refine jx_tableIn (v := 4) (tgt := 137) (off := 54) dX11_takes_83 c26 (by decide) (by decide) (by decide) (by decide) ?_
      refine jx_iload 0 dX11_takes_137 rfl ?_
      refine jx_iconst (v := 1) dX11_takes_139 (by decide) ?_
      refine jx_icmp_le (tgt := 150) dX11_takes_140 (by decide) (fun c27 => ?_) (fun c27 => ?_)
      · replace h := h.1 c27
        refine jx_iconst (v := 1) dX11_takes_150 (by decide) ?_
        exact jx_iret dX11_takes_151 rfl rfl (jle rfl) (jle rfl) ⟨_, rfl, h⟩
      replace h := h.2 c27
      refine jx_iload 0 dX11_takes_143 rfl ?_
      refine jx_iconst (v := 2) dX11_takes_145 (by decide) ?_
      refine jx_idiv dX11_takes_146 (by decide) ?_
      refine jx_goto (tgt := 151) dX11_takes_147 (by decide) ?_
      exact jx_iret dX11_takes_151 rfl rfl (jle rfl) (jle rfl) ⟨_, rfl, h⟩
    replace h := h.2
    by_cases c28 : r19 = 5
    · replace h := h.1 c28
      refine jx_tableIn (v := 5) (tgt := 152) (off := 69) dX11_takes_83 c28 (by decide) (by decide) (by decide) (by decide) ?_
      refine jx_iconst (v := 1) dX11_takes_152 (by decide) ?_
      exact jx_iret dX11_takes_153 rfl rfl (jle rfl) (jle rfl) ⟨_, rfl, h⟩
    replace h := h.2
    replace h := h c20 c21 c22 c26 c28
    refine jx_tableD (tgt := 154) ([1, 2, 3, 4, 5] : List Int) dX11_takes_83 (by simp only [List.mem_cons, List.not_mem_nil, or_false, forall_eq_or_imp, forall_eq]; exact ⟨lv_neT c20 (by decide), lv_neT c21 (by decide), lv_neT c22 (by decide), lv_neT c26 (by decide), lv_neT c28 (by decide)⟩) (by decide) (by decide) (by decide) ?_
    refine jx_iload_n 2 dX11_takes_154 rfl rfl ?_
    exact jx_iret dX11_takes_155 rfl rfl (jle rfl) (jle rfl) ⟨_, rfl, h⟩
  replace h := h.2 c4
  refine jx_aload_n 2 dX11_takes_16 rfl rfl ?_
  obtain ⟨hk29, h⟩ := h
  obtain ⟨b30, hb30, h⟩ := h
  refine jx_getr jc_11 (j := 30) (by decide) rfl jwF_X11_55 dX11_takes_17 hk29 hb30 ?_
  refine jx_bipush (v := 107) dX11_takes_20 (by decide) ?_
  refine jx_iload_n 4 dX11_takes_22 rfl rfl ?_
  obtain ⟨hk31, h⟩ := h
  obtain ⟨hi32, h⟩ := h
  refine jx_iast dX11_takes_23 hk31 hi32 ?_
  refine jx_aload_n 2 dX11_takes_24 rfl rfl ?_
  refine jx_getr jc_11 (j := 30) (by decide) rfl jwF_X11_55 dX11_takes_25 hk29 hb30 ?_
  refine jx_bipush (v := 103) dX11_takes_28 (by decide) ?_
  refine jx_aload_n 2 dX11_takes_30 rfl rfl ?_
  refine jx_iload_n 3 dX11_takes_31 rfl rfl ?_
  refine jx_iconst (v := 2) dX11_takes_32 (by decide) ?_
  refine jx_callVi (M' := mX11_of) (As := [.int x1, .int 2]) jo_X11_of jc_11 rfl jwM_X11_97 jwN_X11_of jwX_X11_of dX11_takes_33 (jRok_m _ _ _) rfl (jle rfl) ⟨jle rfl, jle rfl⟩ hk29 h (fun r34 S33 h => ?_)
  obtain ⟨hk35, h⟩ := h
  obtain ⟨hi36, h⟩ := h
  refine jx_iast dX11_takes_36 hk35 hi36 ?_
  refine jx_aload_n 2 dX11_takes_37 rfl rfl ?_
  obtain ⟨hk37, h⟩ := h
  obtain ⟨b38, hb38, h⟩ := h
  refine jx_getr jc_11 (j := 30) (by decide) rfl jwF_X11_55 dX11_takes_38 hk37 hb38 ?_
  refine jx_bipush (v := 97) dX11_takes_41 (by decide) ?_
  refine jx_aload_n 2 dX11_takes_43 rfl rfl ?_
  refine jx_iload_n 3 dX11_takes_44 rfl rfl ?_
  refine jx_iconst (v := 5) dX11_takes_45 (by decide) ?_
  refine jx_callVi (M' := mX11_of) (As := [.int x1, .int 5]) jo_X11_of jc_11 rfl jwM_X11_97 jwN_X11_of jwX_X11_of dX11_takes_46 (jRok_m _ _ _) rfl (jle rfl) ⟨jle rfl, jle rfl⟩ hk37 h (fun r40 S39 h => ?_)
  obtain ⟨hk41, h⟩ := h
  obtain ⟨hi42, h⟩ := h
  refine jx_iast dX11_takes_49 hk41 hi42 ?_
  refine jx_aload_n 2 dX11_takes_50 rfl rfl ?_
  refine jx_iload 0 dX11_takes_51 rfl ?_
  obtain ⟨hk43, h⟩ := h
  refine jx_callVi (M' := mX11_worked) (As := [.int r3]) jo_X11_worked jc_11 rfl jwM_X11_101 jwN_X11_worked jwX_X11_worked dX11_takes_53 (jRok_m _ _ _) rfl (jle rfl) ⟨jle rfl, jle rfl⟩ hk43 h (fun r45 S44 h => ?_)
  refine jx_iconst (v := 1) dX11_takes_56 (by decide) ?_
  refine jx_bipush (v := 99) dX11_takes_57 (by decide) ?_
  refine jx_callSi (M' := mX11_within) (As := [.int r45, .int 1, .int 99]) jo_X11_within jwM_X11_104 jwS_X11_within dX11_takes_59 (jRok_m _ _ _) rfl (jle rfl) ⟨jle rfl, jle rfl⟩ (c_X11_within (Q := fun v S' => v = (jclamp r45 1 99) ∧ S44 = S') ⟨rfl, rfl⟩) (fun r46 S47 hq48 => ?_)
  obtain ⟨rfl, rfl⟩ := hq48
  refine jx_istore_n (lv1 := [(3, .int (jclamp r45 1 99)), (4, .int r3), (0, .ref a0), (1, .int x1), (2, .int x2)]) dX11_takes_62 rfl (by decide) rfl ?_
  refine jx_iload_n 0 dX11_takes_63 rfl rfl ?_
  refine jx_iconst (v := 1) dX11_takes_64 (by decide) ?_
  refine jx_icmp_le (tgt := 74) dX11_takes_65 (by decide) (fun c49 => ?_) (fun c49 => ?_)
  · replace h := h.1 c49
    refine jx_iconst (v := 1) dX11_takes_74 (by decide) ?_
    refine jx_istore (lv1 := [(5, .int 1), (3, .int (jclamp r45 1 99)), (4, .int r3), (0, .ref a0), (1, .int x1), (2, .int x2)]) dX11_takes_75 (by decide) rfl ?_
    refine jx_aload_n 3 dX11_takes_77 rfl rfl ?_
    refine jx_iload_n 4 dX11_takes_78 rfl rfl ?_
    refine jx_iconst (v := 0) dX11_takes_79 (by decide) ?_
    obtain ⟨hk50, h⟩ := h
    refine jx_callVi (M' := mX11_of) (As := [.int x1, .int 0]) jo_X11_of jc_11 rfl jwM_X11_97 jwN_X11_of jwX_X11_of dX11_takes_80 (jRok_m _ _ _) rfl (jle rfl) ⟨jle rfl, jle rfl⟩ hk50 h (fun r52 S51 h => ?_)
    by_cases c53 : r52 = 1
    · replace h := h.1 c53
      refine jx_tableIn (v := 1) (tgt := 116) (off := 33) dX11_takes_83 c53 (by decide) (by decide) (by decide) (by decide) ?_
      refine jx_iconst (v := 2) dX11_takes_116 (by decide) ?_
      refine jx_iload_n 1 dX11_takes_117 rfl rfl ?_
      refine jx_imul dX11_takes_118 ?_
      exact jx_iret dX11_takes_119 rfl rfl (jle rfl) (jle rfl) ⟨_, rfl, h⟩
    replace h := h.2
    by_cases c54 : r52 = 2
    · replace h := h.1 c54
      refine jx_tableIn (v := 2) (tgt := 120) (off := 37) dX11_takes_83 c54 (by decide) (by decide) (by decide) (by decide) ?_
      refine jx_iload 0 dX11_takes_120 rfl ?_
      exact jx_iret dX11_takes_122 rfl rfl (jle rfl) (jle rfl) ⟨_, rfl, h⟩
    replace h := h.2
    by_cases c55 : r52 = 3
    · replace h := h.1 c55
      refine jx_tableIn (v := 3) (tgt := 123) (off := 40) dX11_takes_83 c55 (by decide) (by decide) (by decide) (by decide) ?_
      refine jx_iconst (v := 2) dX11_takes_123 (by decide) ?_
      refine jx_iload_n 1 dX11_takes_124 rfl rfl ?_
      refine jx_imul dX11_takes_125 ?_
      refine jx_aload_n 3 dX11_takes_126 rfl rfl ?_
      refine jx_iload_n 4 dX11_takes_127 rfl rfl ?_
      refine jx_iconst (v := 5) dX11_takes_128 (by decide) ?_
      obtain ⟨hk56, h⟩ := h
      refine jx_callVi (M' := mX11_of) (As := [.int x1, .int 5]) jo_X11_of jc_11 rfl jwM_X11_97 jwN_X11_of jwX_X11_of dX11_takes_129 (jRok_m _ _ _) rfl (jle rfl) ⟨jle rfl, jle rfl⟩ hk56 h (fun r58 S57 h => ?_)
      refine jx_bipush (v := 10) dX11_takes_132 (by decide) ?_
      refine jx_idiv dX11_takes_134 (by decide) ?_
      refine jx_iadd dX11_takes_135 ?_
      exact jx_iret dX11_takes_136 rfl rfl (jle rfl) (jle rfl) ⟨_, rfl, h⟩
    replace h := h.2
    by_cases c59 : r52 = 4
    · replace h := h.1 c59
      refine jx_tableIn (v := 4) (tgt := 137) (off := 54) dX11_takes_83 c59 (by decide) (by decide) (by decide) (by decide) ?_
      refine jx_iload 0 dX11_takes_137 rfl ?_
      refine jx_iconst (v := 1) dX11_takes_139 (by decide) ?_
      refine jx_icmp_le (tgt := 150) dX11_takes_140 (by decide) (fun _ => ?_) (fun z9 => absurd z9 (by decide))
      refine jx_iconst (v := 1) dX11_takes_150 (by decide) ?_
      exact jx_iret dX11_takes_151 rfl rfl (jle rfl) (jle rfl) ⟨_, rfl, h⟩
    replace h := h.2
    by_cases c60 : r52 = 5
    · replace h := h.1 c60
      refine jx_tableIn (v := 5) (tgt := 152) (off := 69) dX11_takes_83 c60 (by decide) (by decide) (by decide) (by decide) ?_
      refine jx_iconst (v := 1) dX11_takes_152 (by decide) ?_
      exact jx_iret dX11_takes_153 rfl rfl (jle rfl) (jle rfl) ⟨_, rfl, h⟩
    replace h := h.2
    replace h := h c53 c54 c55 c59 c60
    refine jx_tableD (tgt := 154) ([1, 2, 3, 4, 5] : List Int) dX11_takes_83 (by simp only [List.mem_cons, List.not_mem_nil, or_false, forall_eq_or_imp, forall_eq]; exact ⟨lv_neT c53 (by decide), lv_neT c54 (by decide), lv_neT c55 (by decide), lv_neT c59 (by decide), lv_neT c60 (by decide)⟩) (by decide) (by decide) (by decide) ?_
    refine jx_iload_n 1 dX11_takes_154 rfl rfl ?_
    exact jx_iret dX11_takes_155 rfl rfl (jle rfl) (jle rfl) ⟨_, rfl, h⟩
  replace h := h.2 c49
  refine jx_iload_n 0 dX11_takes_68 rfl rfl ?_
  refine jx_iconst (v := 1) dX11_takes_69 (by decide) ?_
  refine jx_isub dX11_takes_70 ?_
  refine jx_goto (tgt := 75) dX11_takes_71 (by decide) ?_
  refine jx_istore (lv1 := [(5, .int ((jclamp r45 1 99) - 1)), (3, .int (jclamp r45 1 99)), (4, .int r3), (0, .ref a0), (1, .int x1), (2, .int x2)]) dX11_takes_75 (by decide) rfl ?_
  refine jx_aload_n 3 dX11_takes_77 rfl rfl ?_
  refine jx_iload_n 4 dX11_takes_78 rfl rfl ?_
  refine jx_iconst (v := 0) dX11_takes_79 (by decide) ?_
  obtain ⟨hk61, h⟩ := h
  refine jx_callVi (M' := mX11_of) (As := [.int x1, .int 0]) jo_X11_of jc_11 rfl jwM_X11_97 jwN_X11_of jwX_X11_of dX11_takes_80 (jRok_m _ _ _) rfl (jle rfl) ⟨jle rfl, jle rfl⟩ hk61 h (fun r63 S62 h => ?_)
  by_cases c64 : r63 = 1
  · replace h := h.1 c64
    refine jx_tableIn (v := 1) (tgt := 116) (off := 33) dX11_takes_83 c64 (by decide) (by decide) (by decide) (by decide) ?_
    refine jx_iconst (v := 2) dX11_takes_116 (by decide) ?_
    refine jx_iload_n 1 dX11_takes_117 rfl rfl ?_
    refine jx_imul dX11_takes_118 ?_
    exact jx_iret dX11_takes_119 rfl rfl (jle rfl) (jle rfl) ⟨_, rfl, h⟩
  replace h := h.2
  by_cases c65 : r63 = 2
  · replace h := h.1 c65
    refine jx_tableIn (v := 2) (tgt := 120) (off := 37) dX11_takes_83 c65 (by decide) (by decide) (by decide) (by decide) ?_
    refine jx_iload 0 dX11_takes_120 rfl ?_
    exact jx_iret dX11_takes_122 rfl rfl (jle rfl) (jle rfl) ⟨_, rfl, h⟩
  replace h := h.2
  by_cases c66 : r63 = 3
  · replace h := h.1 c66
    refine jx_tableIn (v := 3) (tgt := 123) (off := 40) dX11_takes_83 c66 (by decide) (by decide) (by decide) (by decide) ?_
    refine jx_iconst (v := 2) dX11_takes_123 (by decide) ?_
    refine jx_iload_n 1 dX11_takes_124 rfl rfl ?_
    refine jx_imul dX11_takes_125 ?_
    refine jx_aload_n 3 dX11_takes_126 rfl rfl ?_
    refine jx_iload_n 4 dX11_takes_127 rfl rfl ?_
    refine jx_iconst (v := 5) dX11_takes_128 (by decide) ?_
    obtain ⟨hk67, h⟩ := h
    refine jx_callVi (M' := mX11_of) (As := [.int x1, .int 5]) jo_X11_of jc_11 rfl jwM_X11_97 jwN_X11_of jwX_X11_of dX11_takes_129 (jRok_m _ _ _) rfl (jle rfl) ⟨jle rfl, jle rfl⟩ hk67 h (fun r69 S68 h => ?_)
    refine jx_bipush (v := 10) dX11_takes_132 (by decide) ?_
    refine jx_idiv dX11_takes_134 (by decide) ?_
    refine jx_iadd dX11_takes_135 ?_
    exact jx_iret dX11_takes_136 rfl rfl (jle rfl) (jle rfl) ⟨_, rfl, h⟩
  replace h := h.2
  by_cases c70 : r63 = 4
  · replace h := h.1 c70
    refine jx_tableIn (v := 4) (tgt := 137) (off := 54) dX11_takes_83 c70 (by decide) (by decide) (by decide) (by decide) ?_
    refine jx_iload 0 dX11_takes_137 rfl ?_
    refine jx_iconst (v := 1) dX11_takes_139 (by decide) ?_
    refine jx_icmp_le (tgt := 150) dX11_takes_140 (by decide) (fun c71 => ?_) (fun c71 => ?_)
    · replace h := h.1 c71
      refine jx_iconst (v := 1) dX11_takes_150 (by decide) ?_
      exact jx_iret dX11_takes_151 rfl rfl (jle rfl) (jle rfl) ⟨_, rfl, h⟩
    replace h := h.2 c71
    refine jx_iload 0 dX11_takes_143 rfl ?_
    refine jx_iconst (v := 2) dX11_takes_145 (by decide) ?_
    refine jx_idiv dX11_takes_146 (by decide) ?_
    refine jx_goto (tgt := 151) dX11_takes_147 (by decide) ?_
    exact jx_iret dX11_takes_151 rfl rfl (jle rfl) (jle rfl) ⟨_, rfl, h⟩
  replace h := h.2
  by_cases c72 : r63 = 5
  · replace h := h.1 c72
    refine jx_tableIn (v := 5) (tgt := 152) (off := 69) dX11_takes_83 c72 (by decide) (by decide) (by decide) (by decide) ?_
    refine jx_iconst (v := 1) dX11_takes_152 (by decide) ?_
    exact jx_iret dX11_takes_153 rfl rfl (jle rfl) (jle rfl) ⟨_, rfl, h⟩
  replace h := h.2
  replace h := h c64 c65 c66 c70 c72
  refine jx_tableD (tgt := 154) ([1, 2, 3, 4, 5] : List Int) dX11_takes_83 (by simp only [List.mem_cons, List.not_mem_nil, or_false, forall_eq_or_imp, forall_eq]; exact ⟨lv_neT c64 (by decide), lv_neT c65 (by decide), lv_neT c66 (by decide), lv_neT c70 (by decide), lv_neT c72 (by decide)⟩) (by decide) (by decide) (by decide) ?_
  refine jx_iload_n 1 dX11_takes_154 rfl rfl ?_
  exact jx_iret dX11_takes_155 rfl rfl (jle rfl) (jle rfl) ⟨_, rfl, h⟩
set_option maxRecDepth 100000 in
set_option maxHeartbeats 4000000 in
theorem T_X11_teaches {E : jEnv} {d : Nat} {Q : Int32 → jM → Prop} {a0 : Nat} {x1 : Int32} {x2 : Int32} {S : jM} (h : jk S a0 = 11 ∧ jFi E mX11_of d 0 0 [.ref a0, .int x1, .int 3] S (fun r3 S2 => jk S2 a0 = 11 ∧ jFi E mX11_of d 0 0 [.ref a0, .int x1, .int 0] S2 (fun r9 S8 => (r9 = 2 → Q 1 S8) ∧ (r9 = 3 → ((jmany (x2 &&& r3)) = 0 → ((jmany x2) < 3 → Q 0 S8) ∧ (¬ (jmany x2) < 3 → Q 1 S8)) ∧ (¬ (jmany (x2 &&& r3)) = 0 → Q 0 S8)) ∧ (r9 = 4 → Q 1 S8) ∧ (r9 = 5 → (2 ≤ (jmany (x2 &&& r3)) → Q 0 S8) ∧ (¬ 2 ≤ (jmany (x2 &&& r3)) → Q 1 S8)) ∧ (¬ r9 = 2 → ¬ r9 = 3 → ¬ r9 = 4 → ¬ r9 = 5 → ((jmany (x2 &&& r3)) = 0 → Q 1 S8) ∧ (¬ (jmany (x2 &&& r3)) = 0 → Q 0 S8))))) : jFi E mX11_teaches (d + 1) 0 0 [.ref a0, .int x1, .int x2] S Q := by
  refine jF_of (by decide) (jle rfl) ?_
  refine jx_lv (lv1 := [(0, .ref a0), (1, .int x1), (2, .int x2)]) [0, 1, 2] rfl ?_
  refine jx_iload_n 2 dX11_teaches_0 rfl rfl ?_
  refine jx_aload_n 0 dX11_teaches_1 rfl rfl ?_
  refine jx_iload_n 1 dX11_teaches_2 rfl rfl ?_
  refine jx_iconst (v := 3) dX11_teaches_3 (by decide) ?_
  obtain ⟨hk1, h⟩ := h
  refine jx_callVi (M' := mX11_of) (As := [.int x1, .int 3]) jo_X11_of jc_11 rfl jwM_X11_97 jwN_X11_of jwX_X11_of dX11_teaches_4 (jRok_m _ _ _) rfl (jle rfl) ⟨jle rfl, jle rfl⟩ hk1 h (fun r3 S2 h => ?_)
  refine jx_iand dX11_teaches_7 ?_
  refine jx_callSi (M' := mX11_manyIn) (As := [.int (x2 &&& r3)]) jo_X11_manyIn jwM_X11_108 jwS_X11_manyIn dX11_teaches_8 (jRok_m _ _ _) rfl (jle rfl) ⟨jle rfl, jle rfl⟩ (c_X11_manyIn (Q := fun v S' => v = (jmany (x2 &&& r3)) ∧ S2 = S') ⟨rfl, rfl⟩) (fun r4 S5 hq6 => ?_)
  obtain ⟨rfl, rfl⟩ := hq6
  refine jx_istore_n (lv1 := [(3, .int (jmany (x2 &&& r3))), (0, .ref a0), (1, .int x1), (2, .int x2)]) dX11_teaches_11 rfl (by decide) rfl ?_
  refine jx_aload_n 1 dX11_teaches_12 rfl rfl ?_
  refine jx_iload_n 2 dX11_teaches_13 rfl rfl ?_
  refine jx_iconst (v := 0) dX11_teaches_14 (by decide) ?_
  obtain ⟨hk7, h⟩ := h
  refine jx_callVi (M' := mX11_of) (As := [.int x1, .int 0]) jo_X11_of jc_11 rfl jwM_X11_97 jwN_X11_of jwX_X11_of dX11_teaches_15 (jRok_m _ _ _) rfl (jle rfl) ⟨jle rfl, jle rfl⟩ hk7 h (fun r9 S8 h => ?_)
  by_cases c10 : r9 = 2
  · replace h := h.1 c10
    refine jx_tableIn (v := 2) (tgt := 48) (off := 30) dX11_teaches_18 c10 (by decide) (by decide) (by decide) (by decide) ?_
    refine jx_iconst (v := 1) dX11_teaches_48 (by decide) ?_
    exact jx_iret dX11_teaches_49 rfl (by decide) (jle rfl) (jle rfl) ⟨_, rfl, h⟩
  replace h := h.2
  by_cases c11 : r9 = 3
  · replace h := h.1 c11
    refine jx_tableIn (v := 3) (tgt := 50) (off := 32) dX11_teaches_18 c11 (by decide) (by decide) (by decide) (by decide) ?_
    refine jx_iload_n 0 dX11_teaches_50 rfl rfl ?_
    refine jx_if_ne (tgt := 66) dX11_teaches_51 (by decide) (fun c12 => ?_) (fun c12 => ?_)
    · replace h := h.2 c12
      refine jx_iconst (v := 0) dX11_teaches_66 (by decide) ?_
      exact jx_iret dX11_teaches_67 rfl (by decide) (jle rfl) (jle rfl) ⟨_, rfl, h⟩
    replace h := h.1 c12
    refine jx_iload_n 3 dX11_teaches_54 rfl rfl ?_
    refine jx_callSi (M' := mX11_manyIn) (As := [.int x2]) jo_X11_manyIn jwM_X11_108 jwS_X11_manyIn dX11_teaches_55 (jRok_m _ _ _) rfl (jle rfl) ⟨jle rfl, jle rfl⟩ (c_X11_manyIn (Q := fun v S' => v = (jmany x2) ∧ S8 = S') ⟨rfl, rfl⟩) (fun r13 S14 hq15 => ?_)
    obtain ⟨rfl, rfl⟩ := hq15
    refine jx_iconst (v := 3) dX11_teaches_58 (by decide) ?_
    refine jx_icmp_lt (tgt := 66) dX11_teaches_59 (by decide) (fun c16 => ?_) (fun c16 => ?_)
    · replace h := h.1 c16
      refine jx_iconst (v := 0) dX11_teaches_66 (by decide) ?_
      exact jx_iret dX11_teaches_67 rfl (by decide) (jle rfl) (jle rfl) ⟨_, rfl, h⟩
    replace h := h.2 c16
    refine jx_iconst (v := 1) dX11_teaches_62 (by decide) ?_
    refine jx_goto (tgt := 67) dX11_teaches_63 (by decide) ?_
    exact jx_iret dX11_teaches_67 rfl (by decide) (jle rfl) (jle rfl) ⟨_, rfl, h⟩
  replace h := h.2
  by_cases c17 : r9 = 4
  · replace h := h.1 c17
    refine jx_tableIn (v := 4) (tgt := 48) (off := 30) dX11_teaches_18 c17 (by decide) (by decide) (by decide) (by decide) ?_
    refine jx_iconst (v := 1) dX11_teaches_48 (by decide) ?_
    exact jx_iret dX11_teaches_49 rfl (by decide) (jle rfl) (jle rfl) ⟨_, rfl, h⟩
  replace h := h.2
  by_cases c18 : r9 = 5
  · replace h := h.1 c18
    refine jx_tableIn (v := 5) (tgt := 68) (off := 50) dX11_teaches_18 c18 (by decide) (by decide) (by decide) (by decide) ?_
    refine jx_iload_n 0 dX11_teaches_68 rfl rfl ?_
    refine jx_iconst (v := 2) dX11_teaches_69 (by decide) ?_
    refine jx_icmp_ge (tgt := 77) dX11_teaches_70 (by decide) (fun c19 => ?_) (fun c19 => ?_)
    · replace h := h.1 c19
      refine jx_iconst (v := 0) dX11_teaches_77 (by decide) ?_
      exact jx_iret dX11_teaches_78 rfl (by decide) (jle rfl) (jle rfl) ⟨_, rfl, h⟩
    replace h := h.2 c19
    refine jx_iconst (v := 1) dX11_teaches_73 (by decide) ?_
    refine jx_goto (tgt := 78) dX11_teaches_74 (by decide) ?_
    exact jx_iret dX11_teaches_78 rfl (by decide) (jle rfl) (jle rfl) ⟨_, rfl, h⟩
  replace h := h.2
  replace h := h c10 c11 c17 c18
  refine jx_tableD (tgt := 79) ([2, 3, 4, 5] : List Int) dX11_teaches_18 (by simp only [List.mem_cons, List.not_mem_nil, or_false, forall_eq_or_imp, forall_eq]; exact ⟨lv_neT c10 (by decide), lv_neT c11 (by decide), lv_neT c17 (by decide), lv_neT c18 (by decide)⟩) (by decide) (by decide) (by decide) ?_
  refine jx_iload_n 0 dX11_teaches_79 rfl rfl ?_
  refine jx_if_ne (tgt := 87) dX11_teaches_80 (by decide) (fun c20 => ?_) (fun c20 => ?_)
  · replace h := h.2 c20
    refine jx_iconst (v := 0) dX11_teaches_87 (by decide) ?_
    exact jx_iret dX11_teaches_88 rfl (by decide) (jle rfl) (jle rfl) ⟨_, rfl, h⟩
  replace h := h.1 c20
  refine jx_iconst (v := 1) dX11_teaches_83 (by decide) ?_
  refine jx_goto (tgt := 88) dX11_teaches_84 (by decide) ?_
  exact jx_iret dX11_teaches_88 rfl (by decide) (jle rfl) (jle rfl) ⟨_, rfl, h⟩
set_option maxRecDepth 100000 in
set_option maxHeartbeats 4000000 in
theorem T_X11_behindLesson {E : jEnv} {d : Nat} {Q : Int32 → jM → Prop} {a0 : Nat} {x1 : Int32} {x2 : Int32} {S : jM} (h : jk S a0 = 11 ∧ jFi E mX11_of d 0 0 [.ref a0, .int x1, .int 0] S (fun r3 S2 => (r3 = 2 → jk S2 a0 = 11 ∧ jFi E mX11_of d 0 0 [.ref a0, .int x1, .int 3] S2 (fun r10 S9 => jk S9 a0 = 11 ∧ jFi E mX11_of d 0 0 [.ref a0, .int x1, .int 2] S9 (fun r13 S12 => Q ((x2 &&& (r10 ^^^ (-1))) ||| (jshl 1 r13)) S12))) ∧ (¬ r3 = 2 → jk S2 a0 = 11 ∧ jFi E mX11_of d 0 0 [.ref a0, .int x1, .int 2] S2 (fun r7 S6 => Q (x2 ||| (jshl 1 r7)) S6)))) : jFi E mX11_behindLesson (d + 1) 0 0 [.ref a0, .int x1, .int x2] S Q := by
  refine jF_of (by decide) (jle rfl) ?_
  refine jx_lv (lv1 := [(0, .ref a0), (1, .int x1), (2, .int x2)]) [0, 1, 2] rfl ?_
  refine jx_aload_n 0 dX11_behindLesson_0 rfl rfl ?_
  refine jx_iload_n 1 dX11_behindLesson_1 rfl rfl ?_
  refine jx_iconst (v := 0) dX11_behindLesson_2 (by decide) ?_
  obtain ⟨hk1, h⟩ := h
  refine jx_callVi (M' := mX11_of) (As := [.int x1, .int 0]) jo_X11_of jc_11 rfl jwM_X11_97 jwN_X11_of jwX_X11_of dX11_behindLesson_3 (jRok_m _ _ _) rfl (jle rfl) ⟨jle rfl, jle rfl⟩ hk1 h (fun r3 S2 h => ?_)
  refine jx_iconst (v := 2) dX11_behindLesson_6 (by decide) ?_
  refine jx_icmp_ne (tgt := 23) dX11_behindLesson_7 (by decide) (fun c4 => ?_) (fun c4 => ?_)
  · replace h := h.2 c4
    refine jx_iload_n 2 dX11_behindLesson_23 rfl rfl ?_
    refine jx_istore_n (lv1 := [(3, .int x2), (0, .ref a0), (1, .int x1), (2, .int x2)]) dX11_behindLesson_24 rfl (by decide) rfl ?_
    refine jx_iload_n 0 dX11_behindLesson_25 rfl rfl ?_
    refine jx_iconst (v := 1) dX11_behindLesson_26 (by decide) ?_
    refine jx_aload_n 1 dX11_behindLesson_27 rfl rfl ?_
    refine jx_iload_n 2 dX11_behindLesson_28 rfl rfl ?_
    refine jx_iconst (v := 2) dX11_behindLesson_29 (by decide) ?_
    obtain ⟨hk5, h⟩ := h
    refine jx_callVi (M' := mX11_of) (As := [.int x1, .int 2]) jo_X11_of jc_11 rfl jwM_X11_97 jwN_X11_of jwX_X11_of dX11_behindLesson_30 (jRok_m _ _ _) rfl (jle rfl) ⟨jle rfl, jle rfl⟩ hk5 h (fun r7 S6 h => ?_)
    refine jx_ishl dX11_behindLesson_33 ?_
    refine jx_ior dX11_behindLesson_34 ?_
    exact jx_iret dX11_behindLesson_35 rfl rfl (jle rfl) (jle rfl) ⟨_, rfl, h⟩
  replace h := h.1 c4
  refine jx_iload_n 2 dX11_behindLesson_10 rfl rfl ?_
  refine jx_aload_n 0 dX11_behindLesson_11 rfl rfl ?_
  refine jx_iload_n 1 dX11_behindLesson_12 rfl rfl ?_
  refine jx_iconst (v := 3) dX11_behindLesson_13 (by decide) ?_
  obtain ⟨hk8, h⟩ := h
  refine jx_callVi (M' := mX11_of) (As := [.int x1, .int 3]) jo_X11_of jc_11 rfl jwM_X11_97 jwN_X11_of jwX_X11_of dX11_behindLesson_14 (jRok_m _ _ _) rfl (jle rfl) ⟨jle rfl, jle rfl⟩ hk8 h (fun r10 S9 h => ?_)
  refine jx_iconst (v := (-1)) dX11_behindLesson_17 (by decide) ?_
  refine jx_ixor dX11_behindLesson_18 ?_
  refine jx_iand dX11_behindLesson_19 ?_
  refine jx_goto (tgt := 24) dX11_behindLesson_20 (by decide) ?_
  refine jx_istore_n (lv1 := [(3, .int (x2 &&& (r10 ^^^ (-1)))), (0, .ref a0), (1, .int x1), (2, .int x2)]) dX11_behindLesson_24 rfl (by decide) rfl ?_
  refine jx_iload_n 0 dX11_behindLesson_25 rfl rfl ?_
  refine jx_iconst (v := 1) dX11_behindLesson_26 (by decide) ?_
  refine jx_aload_n 1 dX11_behindLesson_27 rfl rfl ?_
  refine jx_iload_n 2 dX11_behindLesson_28 rfl rfl ?_
  refine jx_iconst (v := 2) dX11_behindLesson_29 (by decide) ?_
  obtain ⟨hk11, h⟩ := h
  refine jx_callVi (M' := mX11_of) (As := [.int x1, .int 2]) jo_X11_of jc_11 rfl jwM_X11_97 jwN_X11_of jwX_X11_of dX11_behindLesson_30 (jRok_m _ _ _) rfl (jle rfl) ⟨jle rfl, jle rfl⟩ hk11 h (fun r13 S12 h => ?_)
  refine jx_ishl dX11_behindLesson_33 ?_
  refine jx_ior dX11_behindLesson_34 ?_
  exact jx_iret dX11_behindLesson_35 rfl rfl (jle rfl) (jle rfl) ⟨_, rfl, h⟩
set_option maxRecDepth 100000 in
set_option maxHeartbeats 4000000 in
theorem T_X11_worth {E : jEnv} {d : Nat} {Q : Int32 → jM → Prop} {a0 : Nat} {x1 : Int32} {S : jM} (h : jk S a0 = 11 ∧ jFi E mX11_of d 0 0 [.ref a0, .int x1, .int 4] S (fun r3 S2 => jk S2 a0 = 11 ∧ jFi E mX11_of d 0 0 [.ref a0, .int x1, .int 0] S2 (fun r6 S5 => (r6 = 1 → Q (r3 + 11) S5) ∧ (r6 = 2 → Q (99 - r3) S5) ∧ (r6 = 3 → Q (2 * (r3 + 11)) S5) ∧ (r6 = 4 → Q (95 - r3) S5) ∧ (r6 = 5 → Q 8 S5) ∧ (¬ r6 = 1 → ¬ r6 = 2 → ¬ r6 = 3 → ¬ r6 = 4 → ¬ r6 = 5 → Q r3 S5)))) : jFi E mX11_worth (d + 1) 0 0 [.ref a0, .int x1] S Q := by
  refine jF_of (by decide) (jle rfl) ?_
  refine jx_lv (lv1 := [(0, .ref a0), (1, .int x1)]) [0, 1] rfl ?_
  refine jx_aload_n 0 dX11_worth_0 rfl rfl ?_
  refine jx_iload_n 1 dX11_worth_1 rfl rfl ?_
  refine jx_iconst (v := 4) dX11_worth_2 (by decide) ?_
  obtain ⟨hk1, h⟩ := h
  refine jx_callVi (M' := mX11_of) (As := [.int x1, .int 4]) jo_X11_of jc_11 rfl jwM_X11_97 jwN_X11_of jwX_X11_of dX11_worth_3 (jRok_m _ _ _) rfl (jle rfl) ⟨jle rfl, jle rfl⟩ hk1 h (fun r3 S2 h => ?_)
  refine jx_istore_n (lv1 := [(2, .int r3), (0, .ref a0), (1, .int x1)]) dX11_worth_6 rfl (by decide) rfl ?_
  refine jx_aload_n 1 dX11_worth_7 rfl rfl ?_
  refine jx_iload_n 2 dX11_worth_8 rfl rfl ?_
  refine jx_iconst (v := 0) dX11_worth_9 (by decide) ?_
  obtain ⟨hk4, h⟩ := h
  refine jx_callVi (M' := mX11_of) (As := [.int x1, .int 0]) jo_X11_of jc_11 rfl jwM_X11_97 jwN_X11_of jwX_X11_of dX11_worth_10 (jRok_m _ _ _) rfl (jle rfl) ⟨jle rfl, jle rfl⟩ hk4 h (fun r6 S5 h => ?_)
  by_cases c7 : r6 = 1
  · replace h := h.1 c7
    refine jx_tableIn (v := 1) (tgt := 48) (off := 35) dX11_worth_13 c7 (by decide) (by decide) (by decide) (by decide) ?_
    refine jx_iload_n 0 dX11_worth_48 rfl rfl ?_
    refine jx_bipush (v := 11) dX11_worth_49 (by decide) ?_
    refine jx_iadd dX11_worth_51 ?_
    exact jx_iret dX11_worth_52 rfl rfl (jle rfl) (jle rfl) ⟨_, rfl, h⟩
  replace h := h.2
  by_cases c8 : r6 = 2
  · replace h := h.1 c8
    refine jx_tableIn (v := 2) (tgt := 53) (off := 40) dX11_worth_13 c8 (by decide) (by decide) (by decide) (by decide) ?_
    refine jx_bipush (v := 99) dX11_worth_53 (by decide) ?_
    refine jx_iload_n 0 dX11_worth_55 rfl rfl ?_
    refine jx_isub dX11_worth_56 ?_
    exact jx_iret dX11_worth_57 rfl rfl (jle rfl) (jle rfl) ⟨_, rfl, h⟩
  replace h := h.2
  by_cases c9 : r6 = 3
  · replace h := h.1 c9
    refine jx_tableIn (v := 3) (tgt := 58) (off := 45) dX11_worth_13 c9 (by decide) (by decide) (by decide) (by decide) ?_
    refine jx_iconst (v := 2) dX11_worth_58 (by decide) ?_
    refine jx_iload_n 0 dX11_worth_59 rfl rfl ?_
    refine jx_bipush (v := 11) dX11_worth_60 (by decide) ?_
    refine jx_iadd dX11_worth_62 ?_
    refine jx_imul dX11_worth_63 ?_
    exact jx_iret dX11_worth_64 rfl rfl (jle rfl) (jle rfl) ⟨_, rfl, h⟩
  replace h := h.2
  by_cases c10 : r6 = 4
  · replace h := h.1 c10
    refine jx_tableIn (v := 4) (tgt := 65) (off := 52) dX11_worth_13 c10 (by decide) (by decide) (by decide) (by decide) ?_
    refine jx_bipush (v := 95) dX11_worth_65 (by decide) ?_
    refine jx_iload_n 0 dX11_worth_67 rfl rfl ?_
    refine jx_isub dX11_worth_68 ?_
    exact jx_iret dX11_worth_69 rfl rfl (jle rfl) (jle rfl) ⟨_, rfl, h⟩
  replace h := h.2
  by_cases c11 : r6 = 5
  · replace h := h.1 c11
    refine jx_tableIn (v := 5) (tgt := 70) (off := 57) dX11_worth_13 c11 (by decide) (by decide) (by decide) (by decide) ?_
    refine jx_bipush (v := 8) dX11_worth_70 (by decide) ?_
    exact jx_iret dX11_worth_72 rfl rfl (jle rfl) (jle rfl) ⟨_, rfl, h⟩
  replace h := h.2
  replace h := h c7 c8 c9 c10 c11
  refine jx_tableD (tgt := 73) ([1, 2, 3, 4, 5] : List Int) dX11_worth_13 (by simp only [List.mem_cons, List.not_mem_nil, or_false, forall_eq_or_imp, forall_eq]; exact ⟨lv_neT c7 (by decide), lv_neT c8 (by decide), lv_neT c9 (by decide), lv_neT c10 (by decide), lv_neT c11 (by decide)⟩) (by decide) (by decide) (by decide) ?_
  refine jx_iload_n 0 dX11_worth_73 rfl rfl ?_
  exact jx_iret dX11_worth_74 rfl rfl (jle rfl) (jle rfl) ⟨_, rfl, h⟩
set_option maxRecDepth 100000 in
set_option maxHeartbeats 4000000 in
theorem T_X11_told {E : jEnv} {d : Nat} {Q : Int32 → jM → Prop} {a0 : Nat} {x1 : Int32} {x2 : Int32} {S : jM} (h : jk S a0 = 11 ∧ jFi E mX11_isMaster d 0 0 [.ref a0, .int x1] S (fun r3 S2 => (r3 = 0 → Q (-1000000001) S2) ∧ (¬ r3 = 0 → ((jisin (Int32.toInt64 x2) 0 9) = 0 → Q (-1000000001) S2) ∧ (¬ (jisin (Int32.toInt64 x2) 0 9) = 0 → (7 ≤ x2 → (x2 = 7 → jk S2 a0 = 11 ∧ ∃ b23, jr S2 a0 0 = some b23 ∧ (jk S2 b23 = 12 ∧ vp_in 4 (jl S2 b23) ∧ (jFi E mX11_takes d 0 0 [.ref a0, .int x1, .int (jmany (ji S2 b23 (Int32.toNatClampNeg 4)))] S2 (fun r30 S29 => Q r30 S29)))) ∧ (¬ x2 = 7 → (x2 = 9 → jk S2 a0 = 11 ∧ jFi E mX11_worth d 0 0 [.ref a0, .int x1] S2 (fun r21 S20 => Q r21 S20)) ∧ (¬ x2 = 9 → jk S2 a0 = 11 ∧ ∃ b13, jr S2 a0 0 = some b13 ∧ (jk S2 b13 = 12 ∧ vp_in 4 (jl S2 b13) ∧ (jFi E mX11_teaches d 0 0 [.ref a0, .int x1, .int (ji S2 b13 (Int32.toNatClampNeg 4))] S2 (fun r17 S16 => (r17 = 0 → Q 0 S16) ∧ (¬ r17 = 0 → Q 1 S16))))))) ∧ (¬ 7 ≤ x2 → jk S2 a0 = 11 ∧ jFi E mX11_of d 0 0 [.ref a0, .int x1, .int x2] S2 (fun r33 S32 => Q r33 S32)))))) : jFi E mX11_told (d + 1) 0 0 [.ref a0, .int x1, .int x2] S Q := by
  refine jF_of (by decide) (jle rfl) ?_
  refine jx_lv (lv1 := [(0, .ref a0), (1, .int x1), (2, .int x2)]) [0, 1, 2] rfl ?_
  refine jx_aload_n 0 dX11_told_0 rfl rfl ?_
  refine jx_iload_n 1 dX11_told_1 rfl rfl ?_
  obtain ⟨hk1, h⟩ := h
  refine jx_callVi (M' := mX11_isMaster) (As := [.int x1]) jo_X11_isMaster jc_11 rfl jwM_X11_111 jwN_X11_isMaster jwX_X11_isMaster dX11_told_2 (jRok_m _ _ _) rfl (jle rfl) ⟨jle rfl, jle rfl⟩ hk1 h (fun r3 S2 h => ?_)
  refine jx_if_eq (tgt := 20) dX11_told_5 (by decide) (fun c4 => ?_) (fun c4 => ?_)
  · replace h := h.1 c4
    refine jx_ldc jwC_X11_87 dX11_told_20 ?_
    exact jx_iret dX11_told_22 rfl rfl (jle rfl) (jle rfl) ⟨_, rfl, h⟩
  replace h := h.2 c4
  refine jx_iload_n 2 dX11_told_8 rfl rfl ?_
  refine jx_i2l dX11_told_9 ?_
  refine jx_lconst (v := 0) dX11_told_10 (by decide) ?_
  refine jx_ldc2 jwL_X11_114 dX11_told_11 ?_
  refine jx_callSi (M' := mX11_isIn) (As := [.long (Int32.toInt64 x2), .long 0, .long 9]) jo_X11_isIn jwM_X11_71 jwS_X11_isIn dX11_told_14 (jRok_m _ _ _) rfl (jle rfl) ⟨jle rfl, jle rfl⟩ (c_X11_isIn (Q := fun v S' => v = (jisin (Int32.toInt64 x2) 0 9) ∧ S2 = S') ⟨rfl, rfl⟩) (fun r5 S6 hq7 => ?_)
  obtain ⟨rfl, rfl⟩ := hq7
  refine jx_if_ne (tgt := 23) dX11_told_17 (by decide) (fun c8 => ?_) (fun c8 => ?_)
  · replace h := h.2 c8
    refine jx_iload_n 2 dX11_told_23 rfl rfl ?_
    refine jx_bipush (v := 7) dX11_told_24 (by decide) ?_
    refine jx_icmp_ge (tgt := 36) dX11_told_26 (by decide) (fun c9 => ?_) (fun c9 => ?_)
    · replace h := h.1 c9
      refine jx_iload_n 2 dX11_told_36 rfl rfl ?_
      refine jx_bipush (v := 7) dX11_told_37 (by decide) ?_
      refine jx_icmp_ne (tgt := 59) dX11_told_39 (by decide) (fun c10 => ?_) (fun c10 => ?_)
      · replace h := h.2 c10
        refine jx_iload_n 2 dX11_told_59 rfl rfl ?_
        refine jx_bipush (v := 9) dX11_told_60 (by decide) ?_
        refine jx_icmp_ne (tgt := 73) dX11_told_62 (by decide) (fun c11 => ?_) (fun c11 => ?_)
        · replace h := h.2 c11
          refine jx_aload_n 0 dX11_told_73 rfl rfl ?_
          refine jx_iload_n 1 dX11_told_74 rfl rfl ?_
          refine jx_aload_n 0 dX11_told_75 rfl rfl ?_
          obtain ⟨hk12, h⟩ := h
          obtain ⟨b13, hb13, h⟩ := h
          refine jx_getr jc_11 (j := 0) (by decide) rfl jwF_X11_7 dX11_told_76 hk12 hb13 ?_
          refine jx_iconst (v := 4) dX11_told_79 (by decide) ?_
          obtain ⟨hk14, h⟩ := h
          obtain ⟨hi15, h⟩ := h
          refine jx_iald dX11_told_80 hk14 hi15 ?_
          refine jx_callVi (M' := mX11_teaches) (As := [.int x1, .int (ji S2 b13 (Int32.toNatClampNeg 4))]) jo_X11_teaches jc_11 rfl jwM_X11_122 jwN_X11_teaches jwX_X11_teaches dX11_told_81 (jRok_m _ _ _) rfl (jle rfl) ⟨jle rfl, jle rfl⟩ hk12 h (fun r17 S16 h => ?_)
          refine jx_if_eq (tgt := 91) dX11_told_84 (by decide) (fun c18 => ?_) (fun c18 => ?_)
          · replace h := h.1 c18
            refine jx_iconst (v := 0) dX11_told_91 (by decide) ?_
            exact jx_iret dX11_told_92 rfl rfl (jle rfl) (jle rfl) ⟨_, rfl, h⟩
          replace h := h.2 c18
          refine jx_iconst (v := 1) dX11_told_87 (by decide) ?_
          refine jx_goto (tgt := 92) dX11_told_88 (by decide) ?_
          exact jx_iret dX11_told_92 rfl rfl (jle rfl) (jle rfl) ⟨_, rfl, h⟩
        replace h := h.1 c11
        refine jx_aload_n 0 dX11_told_65 rfl rfl ?_
        refine jx_iload_n 1 dX11_told_66 rfl rfl ?_
        obtain ⟨hk19, h⟩ := h
        refine jx_callVi (M' := mX11_worth) (As := [.int x1]) jo_X11_worth jc_11 rfl jwM_X11_119 jwN_X11_worth jwX_X11_worth dX11_told_67 (jRok_m _ _ _) rfl (jle rfl) ⟨jle rfl, jle rfl⟩ hk19 h (fun r21 S20 h => ?_)
        refine jx_goto (tgt := 92) dX11_told_70 (by decide) ?_
        exact jx_iret dX11_told_92 rfl rfl (jle rfl) (jle rfl) ⟨_, rfl, h⟩
      replace h := h.1 c10
      refine jx_aload_n 0 dX11_told_42 rfl rfl ?_
      refine jx_iload_n 1 dX11_told_43 rfl rfl ?_
      refine jx_aload_n 0 dX11_told_44 rfl rfl ?_
      obtain ⟨hk22, h⟩ := h
      obtain ⟨b23, hb23, h⟩ := h
      refine jx_getr jc_11 (j := 0) (by decide) rfl jwF_X11_7 dX11_told_45 hk22 hb23 ?_
      refine jx_iconst (v := 4) dX11_told_48 (by decide) ?_
      obtain ⟨hk24, h⟩ := h
      obtain ⟨hi25, h⟩ := h
      refine jx_iald dX11_told_49 hk24 hi25 ?_
      refine jx_callSi (M' := mX11_manyIn) (As := [.int (ji S2 b23 (Int32.toNatClampNeg 4))]) jo_X11_manyIn jwM_X11_108 jwS_X11_manyIn dX11_told_50 (jRok_m _ _ _) rfl (jle rfl) ⟨jle rfl, jle rfl⟩ (c_X11_manyIn (Q := fun v S' => v = (jmany (ji S2 b23 (Int32.toNatClampNeg 4))) ∧ S2 = S') ⟨rfl, rfl⟩) (fun r26 S27 hq28 => ?_)
      obtain ⟨rfl, rfl⟩ := hq28
      refine jx_callVi (M' := mX11_takes) (As := [.int x1, .int (jmany (ji S2 b23 (Int32.toNatClampNeg 4)))]) jo_X11_takes jc_11 rfl jwM_X11_116 jwN_X11_takes jwX_X11_takes dX11_told_53 (jRok_m _ _ _) rfl (jle rfl) ⟨jle rfl, jle rfl⟩ hk22 h (fun r30 S29 h => ?_)
      refine jx_goto (tgt := 92) dX11_told_56 (by decide) ?_
      exact jx_iret dX11_told_92 rfl rfl (jle rfl) (jle rfl) ⟨_, rfl, h⟩
    replace h := h.2 c9
    refine jx_aload_n 0 dX11_told_29 rfl rfl ?_
    refine jx_iload_n 1 dX11_told_30 rfl rfl ?_
    refine jx_iload_n 2 dX11_told_31 rfl rfl ?_
    obtain ⟨hk31, h⟩ := h
    refine jx_callVi (M' := mX11_of) (As := [.int x1, .int x2]) jo_X11_of jc_11 rfl jwM_X11_97 jwN_X11_of jwX_X11_of dX11_told_32 (jRok_m _ _ _) rfl (jle rfl) ⟨jle rfl, jle rfl⟩ hk31 h (fun r33 S32 h => ?_)
    exact jx_iret dX11_told_35 rfl rfl (jle rfl) (jle rfl) ⟨_, rfl, h⟩
  replace h := h.1 c8
  refine jx_ldc jwC_X11_87 dX11_told_20 ?_
  exact jx_iret dX11_told_22 rfl rfl (jle rfl) (jle rfl) ⟨_, rfl, h⟩
set_option maxRecDepth 100000 in
set_option maxHeartbeats 4000000 in
theorem T_X11_as {E : jEnv} {d : Nat} {Q : Int32 → jM → Prop} {a0 : Nat} {x1 : Int32} {x2 : Int32} {S : jM} (h : jk S a0 = 11 ∧ jFi E mX11_isMaster d 0 0 [.ref a0, .int x1] S (fun r3 S2 => (r3 = 0 → Q (-1000000001) S2) ∧ (¬ r3 = 0 → ((jisin (Int32.toInt64 x2) 0 5) = 0 → Q (-1000000001) S2) ∧ (¬ (jisin (Int32.toInt64 x2) 0 5) = 0 → jk S2 a0 = 11 ∧ jFi E mX11_of d 0 0 [.ref a0, .int x1, .int 0] S2 (fun r11 S10 => ((jisof r11 x2) = 0 → Q (-1000000012) S10) ∧ (¬ (jisof r11 x2) = 0 → jk S10 a0 = 11 ∧ jFi E mX11_of d 0 0 [.ref a0, .int x1, .int 4] S10 (fun r18 S17 => Q r18 S17))))))) : jFi E mX11_as (d + 1) 0 0 [.ref a0, .int x1, .int x2] S Q := by
  refine jF_of (by decide) (jle rfl) ?_
  refine jx_lv (lv1 := [(0, .ref a0), (1, .int x1), (2, .int x2)]) [0, 1, 2] rfl ?_
  refine jx_aload_n 0 dX11_as_0 rfl rfl ?_
  refine jx_iload_n 1 dX11_as_1 rfl rfl ?_
  obtain ⟨hk1, h⟩ := h
  refine jx_callVi (M' := mX11_isMaster) (As := [.int x1]) jo_X11_isMaster jc_11 rfl jwM_X11_111 jwN_X11_isMaster jwX_X11_isMaster dX11_as_2 (jRok_m _ _ _) rfl (jle rfl) ⟨jle rfl, jle rfl⟩ hk1 h (fun r3 S2 h => ?_)
  refine jx_if_eq (tgt := 20) dX11_as_5 (by decide) (fun c4 => ?_) (fun c4 => ?_)
  · replace h := h.1 c4
    refine jx_ldc jwC_X11_87 dX11_as_20 ?_
    exact jx_iret dX11_as_22 rfl rfl (jle rfl) (jle rfl) ⟨_, rfl, h⟩
  replace h := h.2 c4
  refine jx_iload_n 2 dX11_as_8 rfl rfl ?_
  refine jx_i2l dX11_as_9 ?_
  refine jx_lconst (v := 0) dX11_as_10 (by decide) ?_
  refine jx_ldc2 jwL_X11_76 dX11_as_11 ?_
  refine jx_callSi (M' := mX11_isIn) (As := [.long (Int32.toInt64 x2), .long 0, .long 5]) jo_X11_isIn jwM_X11_71 jwS_X11_isIn dX11_as_14 (jRok_m _ _ _) rfl (jle rfl) ⟨jle rfl, jle rfl⟩ (c_X11_isIn (Q := fun v S' => v = (jisin (Int32.toInt64 x2) 0 5) ∧ S2 = S') ⟨rfl, rfl⟩) (fun r5 S6 hq7 => ?_)
  obtain ⟨rfl, rfl⟩ := hq7
  refine jx_if_ne (tgt := 23) dX11_as_17 (by decide) (fun c8 => ?_) (fun c8 => ?_)
  · replace h := h.2 c8
    refine jx_aload_n 0 dX11_as_23 rfl rfl ?_
    refine jx_iload_n 1 dX11_as_24 rfl rfl ?_
    refine jx_iconst (v := 0) dX11_as_25 (by decide) ?_
    obtain ⟨hk9, h⟩ := h
    refine jx_callVi (M' := mX11_of) (As := [.int x1, .int 0]) jo_X11_of jc_11 rfl jwM_X11_97 jwN_X11_of jwX_X11_of dX11_as_26 (jRok_m _ _ _) rfl (jle rfl) ⟨jle rfl, jle rfl⟩ hk9 h (fun r11 S10 h => ?_)
    refine jx_iload_n 2 dX11_as_29 rfl rfl ?_
    refine jx_callSi (M' := mX11_isOf) (As := [.int r11, .int x2]) jo_X11_isOf jwM_X11_126 jwS_X11_isOf dX11_as_30 (jRok_m _ _ _) rfl (jle rfl) ⟨jle rfl, jle rfl⟩ (c_X11_isOf (Q := fun v S' => v = (jisof r11 x2) ∧ S10 = S') ⟨rfl, rfl⟩) (fun r12 S13 hq14 => ?_)
    obtain ⟨rfl, rfl⟩ := hq14
    refine jx_if_eq (tgt := 45) dX11_as_33 (by decide) (fun c15 => ?_) (fun c15 => ?_)
    · replace h := h.1 c15
      refine jx_ldc jwC_X11_129 dX11_as_45 ?_
      exact jx_iret dX11_as_47 rfl rfl (jle rfl) (jle rfl) ⟨_, rfl, h⟩
    replace h := h.2 c15
    refine jx_aload_n 0 dX11_as_36 rfl rfl ?_
    refine jx_iload_n 1 dX11_as_37 rfl rfl ?_
    refine jx_iconst (v := 4) dX11_as_38 (by decide) ?_
    obtain ⟨hk16, h⟩ := h
    refine jx_callVi (M' := mX11_of) (As := [.int x1, .int 4]) jo_X11_of jc_11 rfl jwM_X11_97 jwN_X11_of jwX_X11_of dX11_as_39 (jRok_m _ _ _) rfl (jle rfl) ⟨jle rfl, jle rfl⟩ hk16 h (fun r18 S17 h => ?_)
    refine jx_goto (tgt := 47) dX11_as_42 (by decide) ?_
    exact jx_iret dX11_as_47 rfl rfl (jle rfl) (jle rfl) ⟨_, rfl, h⟩
  replace h := h.1 c8
  refine jx_ldc jwC_X11_87 dX11_as_20 ?_
  exact jx_iret dX11_as_22 rfl rfl (jle rfl) (jle rfl) ⟨_, rfl, h⟩
set_option maxRecDepth 100000 in
set_option maxHeartbeats 4000000 in
theorem T_X11_turns {E : jEnv} {d : Nat} {Q : Int32 → jM → Prop} {a0 : Nat} {x1 : Int32} {x2 : Int32} {S : jM} (h : jk S a0 = 11 ∧ jFi E mX11_isMaster d 0 0 [.ref a0, .int x1] S (fun r3 S2 => (r3 = 0 → Q (-1000000001) S2) ∧ (¬ r3 = 0 → ((jisin (Int32.toInt64 x2) 0 5) = 0 → Q (-1000000001) S2) ∧ (¬ (jisin (Int32.toInt64 x2) 0 5) = 0 → jk S2 a0 = 11 ∧ jFi E mX11_becomes d 0 0 [.ref a0, .int (72 + (7 * x1)), .int x2] S2 (fun r11 S10 => Q r11 S10))))) : jFi E mX11_turns (d + 1) 0 0 [.ref a0, .int x1, .int x2] S Q := by
  refine jF_of (by decide) (jle rfl) ?_
  refine jx_lv (lv1 := [(0, .ref a0), (1, .int x1), (2, .int x2)]) [0, 1, 2] rfl ?_
  refine jx_aload_n 0 dX11_turns_0 rfl rfl ?_
  refine jx_iload_n 1 dX11_turns_1 rfl rfl ?_
  obtain ⟨hk1, h⟩ := h
  refine jx_callVi (M' := mX11_isMaster) (As := [.int x1]) jo_X11_isMaster jc_11 rfl jwM_X11_111 jwN_X11_isMaster jwX_X11_isMaster dX11_turns_2 (jRok_m _ _ _) rfl (jle rfl) ⟨jle rfl, jle rfl⟩ hk1 h (fun r3 S2 h => ?_)
  refine jx_if_eq (tgt := 35) dX11_turns_5 (by decide) (fun c4 => ?_) (fun c4 => ?_)
  · replace h := h.1 c4
    refine jx_ldc jwC_X11_87 dX11_turns_35 ?_
    exact jx_iret dX11_turns_37 rfl rfl (jle rfl) (jle rfl) ⟨_, rfl, h⟩
  replace h := h.2 c4
  refine jx_iload_n 2 dX11_turns_8 rfl rfl ?_
  refine jx_i2l dX11_turns_9 ?_
  refine jx_lconst (v := 0) dX11_turns_10 (by decide) ?_
  refine jx_ldc2 jwL_X11_76 dX11_turns_11 ?_
  refine jx_callSi (M' := mX11_isIn) (As := [.long (Int32.toInt64 x2), .long 0, .long 5]) jo_X11_isIn jwM_X11_71 jwS_X11_isIn dX11_turns_14 (jRok_m _ _ _) rfl (jle rfl) ⟨jle rfl, jle rfl⟩ (c_X11_isIn (Q := fun v S' => v = (jisin (Int32.toInt64 x2) 0 5) ∧ S2 = S') ⟨rfl, rfl⟩) (fun r5 S6 hq7 => ?_)
  obtain ⟨rfl, rfl⟩ := hq7
  refine jx_if_eq (tgt := 35) dX11_turns_17 (by decide) (fun c8 => ?_) (fun c8 => ?_)
  · replace h := h.1 c8
    refine jx_ldc jwC_X11_87 dX11_turns_35 ?_
    exact jx_iret dX11_turns_37 rfl rfl (jle rfl) (jle rfl) ⟨_, rfl, h⟩
  replace h := h.2 c8
  refine jx_aload_n 0 dX11_turns_20 rfl rfl ?_
  refine jx_bipush (v := 72) dX11_turns_21 (by decide) ?_
  refine jx_bipush (v := 7) dX11_turns_23 (by decide) ?_
  refine jx_iload_n 1 dX11_turns_25 rfl rfl ?_
  refine jx_imul dX11_turns_26 ?_
  refine jx_iadd dX11_turns_27 ?_
  refine jx_iload_n 2 dX11_turns_28 rfl rfl ?_
  obtain ⟨hk9, h⟩ := h
  refine jx_callVi (M' := mX11_becomes) (As := [.int (72 + (7 * x1)), .int x2]) jo_X11_becomes jc_11 rfl jwM_X11_130 jwN_X11_becomes jwX_X11_becomes dX11_turns_29 (jRok_m _ _ _) rfl (jle rfl) ⟨jle rfl, jle rfl⟩ hk9 h (fun r11 S10 h => ?_)
  refine jx_goto (tgt := 37) dX11_turns_32 (by decide) ?_
  exact jx_iret dX11_turns_37 rfl rfl (jle rfl) (jle rfl) ⟨_, rfl, h⟩
set_option maxRecDepth 100000 in
set_option maxHeartbeats 4000000 in
theorem T_X11_set {E : jEnv} {d : Nat} {Q : Int32 → jM → Prop} {a0 : Nat} {x1 : Int32} {x2 : Int32} {x3 : Int32} {S : jM} (h : jk S a0 = 11 ∧ jFi E mX11_isMaster d 0 0 [.ref a0, .int x1] S (fun r3 S2 => (r3 = 0 → Q (-1000000001) S2) ∧ (¬ r3 = 0 → ((jisin (Int32.toInt64 x2) 4 6) = 0 → Q (-1000000001) S2) ∧ (¬ (jisin (Int32.toInt64 x2) 4 6) = 0 → (x2 = 6 → ((jisin (Int32.toInt64 x3) 0 1) = 0 → Q (-1000000001) S2) ∧ (¬ (jisin (Int32.toInt64 x3) 0 1) = 0 → jk S2 a0 = 11 ∧ jFi E mX11_becomes d 0 0 [.ref a0, .int ((72 + (7 * x1)) + x2), .int x3] S2 (fun r23 S22 => Q r23 S22))) ∧ (¬ x2 = 6 → ((jisin (Int32.toInt64 x3) 0 99) = 0 → Q (-1000000001) S2) ∧ (¬ (jisin (Int32.toInt64 x3) 0 99) = 0 → jk S2 a0 = 11 ∧ jFi E mX11_becomes d 0 0 [.ref a0, .int ((72 + (7 * x1)) + x2), .int x3] S2 (fun r16 S15 => Q r16 S15))))))) : jFi E mX11_set (d + 1) 0 0 [.ref a0, .int x1, .int x2, .int x3] S Q := by
  refine jF_of (by decide) (jle rfl) ?_
  refine jx_lv (lv1 := [(0, .ref a0), (1, .int x1), (2, .int x2), (3, .int x3)]) [0, 1, 2, 3] rfl ?_
  refine jx_aload_n 0 dX11_set_0 rfl rfl ?_
  refine jx_iload_n 1 dX11_set_1 rfl rfl ?_
  obtain ⟨hk1, h⟩ := h
  refine jx_callVi (M' := mX11_isMaster) (As := [.int x1]) jo_X11_isMaster jc_11 rfl jwM_X11_111 jwN_X11_isMaster jwX_X11_isMaster dX11_set_2 (jRok_m _ _ _) rfl (jle rfl) ⟨jle rfl, jle rfl⟩ hk1 h (fun r3 S2 h => ?_)
  refine jx_if_eq (tgt := 44) dX11_set_5 (by decide) (fun c4 => ?_) (fun c4 => ?_)
  · replace h := h.1 c4
    refine jx_ldc jwC_X11_87 dX11_set_44 ?_
    exact jx_iret dX11_set_46 rfl rfl (jle rfl) (jle rfl) ⟨_, rfl, h⟩
  replace h := h.2 c4
  refine jx_iload_n 2 dX11_set_8 rfl rfl ?_
  refine jx_i2l dX11_set_9 ?_
  refine jx_ldc2 jwL_X11_133 dX11_set_10 ?_
  refine jx_ldc2 jwL_X11_135 dX11_set_13 ?_
  refine jx_callSi (M' := mX11_isIn) (As := [.long (Int32.toInt64 x2), .long 4, .long 6]) jo_X11_isIn jwM_X11_71 jwS_X11_isIn dX11_set_16 (jRok_m _ _ _) rfl (jle rfl) ⟨jle rfl, jle rfl⟩ (c_X11_isIn (Q := fun v S' => v = (jisin (Int32.toInt64 x2) 4 6) ∧ S2 = S') ⟨rfl, rfl⟩) (fun r5 S6 hq7 => ?_)
  obtain ⟨rfl, rfl⟩ := hq7
  refine jx_if_eq (tgt := 44) dX11_set_19 (by decide) (fun c8 => ?_) (fun c8 => ?_)
  · replace h := h.1 c8
    refine jx_ldc jwC_X11_87 dX11_set_44 ?_
    exact jx_iret dX11_set_46 rfl rfl (jle rfl) (jle rfl) ⟨_, rfl, h⟩
  replace h := h.2 c8
  refine jx_iload_n 3 dX11_set_22 rfl rfl ?_
  refine jx_i2l dX11_set_23 ?_
  refine jx_lconst (v := 0) dX11_set_24 (by decide) ?_
  refine jx_iload_n 2 dX11_set_25 rfl rfl ?_
  refine jx_bipush (v := 6) dX11_set_26 (by decide) ?_
  refine jx_icmp_ne (tgt := 35) dX11_set_28 (by decide) (fun c9 => ?_) (fun c9 => ?_)
  · replace h := h.2 c9
    refine jx_ldc2 jwL_X11_85 dX11_set_35 ?_
    refine jx_callSi (M' := mX11_isIn) (As := [.long (Int32.toInt64 x3), .long 0, .long 99]) jo_X11_isIn jwM_X11_71 jwS_X11_isIn dX11_set_38 (jRok_m _ _ _) rfl (jle rfl) ⟨jle rfl, jle rfl⟩ (c_X11_isIn (Q := fun v S' => v = (jisin (Int32.toInt64 x3) 0 99) ∧ S2 = S') ⟨rfl, rfl⟩) (fun r10 S11 hq12 => ?_)
    obtain ⟨rfl, rfl⟩ := hq12
    refine jx_if_ne (tgt := 47) dX11_set_41 (by decide) (fun c13 => ?_) (fun c13 => ?_)
    · replace h := h.2 c13
      refine jx_aload_n 0 dX11_set_47 rfl rfl ?_
      refine jx_bipush (v := 72) dX11_set_48 (by decide) ?_
      refine jx_bipush (v := 7) dX11_set_50 (by decide) ?_
      refine jx_iload_n 1 dX11_set_52 rfl rfl ?_
      refine jx_imul dX11_set_53 ?_
      refine jx_iadd dX11_set_54 ?_
      refine jx_iload_n 2 dX11_set_55 rfl rfl ?_
      refine jx_iadd dX11_set_56 ?_
      refine jx_iload_n 3 dX11_set_57 rfl rfl ?_
      obtain ⟨hk14, h⟩ := h
      refine jx_callVi (M' := mX11_becomes) (As := [.int ((72 + (7 * x1)) + x2), .int x3]) jo_X11_becomes jc_11 rfl jwM_X11_130 jwN_X11_becomes jwX_X11_becomes dX11_set_58 (jRok_m _ _ _) rfl (jle rfl) ⟨jle rfl, jle rfl⟩ hk14 h (fun r16 S15 h => ?_)
      exact jx_iret dX11_set_61 rfl rfl (jle rfl) (jle rfl) ⟨_, rfl, h⟩
    replace h := h.1 c13
    refine jx_ldc jwC_X11_87 dX11_set_44 ?_
    exact jx_iret dX11_set_46 rfl rfl (jle rfl) (jle rfl) ⟨_, rfl, h⟩
  replace h := h.1 c9
  refine jx_lconst (v := 1) dX11_set_31 (by decide) ?_
  refine jx_goto (tgt := 38) dX11_set_32 (by decide) ?_
  refine jx_callSi (M' := mX11_isIn) (As := [.long (Int32.toInt64 x3), .long 0, .long 1]) jo_X11_isIn jwM_X11_71 jwS_X11_isIn dX11_set_38 (jRok_m _ _ _) rfl (jle rfl) ⟨jle rfl, jle rfl⟩ (c_X11_isIn (Q := fun v S' => v = (jisin (Int32.toInt64 x3) 0 1) ∧ S2 = S') ⟨rfl, rfl⟩) (fun r17 S18 hq19 => ?_)
  obtain ⟨rfl, rfl⟩ := hq19
  refine jx_if_ne (tgt := 47) dX11_set_41 (by decide) (fun c20 => ?_) (fun c20 => ?_)
  · replace h := h.2 c20
    refine jx_aload_n 0 dX11_set_47 rfl rfl ?_
    refine jx_bipush (v := 72) dX11_set_48 (by decide) ?_
    refine jx_bipush (v := 7) dX11_set_50 (by decide) ?_
    refine jx_iload_n 1 dX11_set_52 rfl rfl ?_
    refine jx_imul dX11_set_53 ?_
    refine jx_iadd dX11_set_54 ?_
    refine jx_iload_n 2 dX11_set_55 rfl rfl ?_
    refine jx_iadd dX11_set_56 ?_
    refine jx_iload_n 3 dX11_set_57 rfl rfl ?_
    obtain ⟨hk21, h⟩ := h
    refine jx_callVi (M' := mX11_becomes) (As := [.int ((72 + (7 * x1)) + x2), .int x3]) jo_X11_becomes jc_11 rfl jwM_X11_130 jwN_X11_becomes jwX_X11_becomes dX11_set_58 (jRok_m _ _ _) rfl (jle rfl) ⟨jle rfl, jle rfl⟩ hk21 h (fun r23 S22 h => ?_)
    exact jx_iret dX11_set_61 rfl rfl (jle rfl) (jle rfl) ⟨_, rfl, h⟩
  replace h := h.1 c20
  refine jx_ldc jwC_X11_87 dX11_set_44 ?_
  exact jx_iret dX11_set_46 rfl rfl (jle rfl) (jle rfl) ⟨_, rfl, h⟩
set_option maxRecDepth 100000 in
set_option maxHeartbeats 4000000 in
theorem T_X11_bars {E : jEnv} {d : Nat} {Q : Int32 → jM → Prop} {a0 : Nat} {x1 : Int32} {x2 : Int32} {x3 : Int32} {S : jM} (h : jk S a0 = 11 ∧ jFi E mX11_isMaster d 0 0 [.ref a0, .int x1] S (fun r3 S2 => (r3 = 0 → Q (-1000000001) S2) ∧ (¬ r3 = 0 → ((jisg x2) = 0 → Q (-1000000001) S2) ∧ (¬ (jisg x2) = 0 → ((jisg x3) = 0 → Q (-1000000001) S2) ∧ (¬ (jisg x3) = 0 → jk S2 a0 = 11 ∧ jFi E mX11_of d 0 0 [.ref a0, .int x1, .int 2] S2 (fun r15 S14 => (x2 = r15 → Q (-1000000001) S14) ∧ (¬ x2 = r15 → jk S14 a0 = 11 ∧ jFi E mX11_of d 0 0 [.ref a0, .int x1, .int 2] S14 (fun r19 S18 => (x3 = r19 → Q (-1000000001) S18) ∧ (¬ x3 = r19 → jk S18 a0 = 11 ∧ jFi E mX11_becomes d 0 0 [.ref a0, .int ((72 + (7 * x1)) + 3), .int ((jshl 1 x2) ||| (jshl 1 x3))] S18 (fun r23 S22 => Q r23 S22)))))))))) : jFi E mX11_bars (d + 1) 0 0 [.ref a0, .int x1, .int x2, .int x3] S Q := by
  refine jF_of (by decide) (jle rfl) ?_
  refine jx_lv (lv1 := [(0, .ref a0), (1, .int x1), (2, .int x2), (3, .int x3)]) [0, 1, 2, 3] rfl ?_
  refine jx_aload_n 0 dX11_bars_0 rfl rfl ?_
  refine jx_iload_n 1 dX11_bars_1 rfl rfl ?_
  obtain ⟨hk1, h⟩ := h
  refine jx_callVi (M' := mX11_isMaster) (As := [.int x1]) jo_X11_isMaster jc_11 rfl jwM_X11_111 jwN_X11_isMaster jwX_X11_isMaster dX11_bars_2 (jRok_m _ _ _) rfl (jle rfl) ⟨jle rfl, jle rfl⟩ hk1 h (fun r3 S2 h => ?_)
  refine jx_if_eq (tgt := 42) dX11_bars_5 (by decide) (fun c4 => ?_) (fun c4 => ?_)
  · replace h := h.1 c4
    refine jx_ldc jwC_X11_87 dX11_bars_42 ?_
    exact jx_iret dX11_bars_44 rfl rfl (jle rfl) (jle rfl) ⟨_, rfl, h⟩
  replace h := h.2 c4
  refine jx_iload_n 2 dX11_bars_8 rfl rfl ?_
  refine jx_callSi (M' := mX11_isGesture) (As := [.int x2]) jo_X11_isGesture jwM_X11_82 jwS_X11_isGesture dX11_bars_9 (jRok_m _ _ _) rfl (jle rfl) ⟨jle rfl, jle rfl⟩ (c_X11_isGesture (Q := fun v S' => v = (jisg x2) ∧ S2 = S') ⟨rfl, rfl⟩) (fun r5 S6 hq7 => ?_)
  obtain ⟨rfl, rfl⟩ := hq7
  refine jx_if_eq (tgt := 42) dX11_bars_12 (by decide) (fun c8 => ?_) (fun c8 => ?_)
  · replace h := h.1 c8
    refine jx_ldc jwC_X11_87 dX11_bars_42 ?_
    exact jx_iret dX11_bars_44 rfl rfl (jle rfl) (jle rfl) ⟨_, rfl, h⟩
  replace h := h.2 c8
  refine jx_iload_n 3 dX11_bars_15 rfl rfl ?_
  refine jx_callSi (M' := mX11_isGesture) (As := [.int x3]) jo_X11_isGesture jwM_X11_82 jwS_X11_isGesture dX11_bars_16 (jRok_m _ _ _) rfl (jle rfl) ⟨jle rfl, jle rfl⟩ (c_X11_isGesture (Q := fun v S' => v = (jisg x3) ∧ S2 = S') ⟨rfl, rfl⟩) (fun r9 S10 hq11 => ?_)
  obtain ⟨rfl, rfl⟩ := hq11
  refine jx_if_eq (tgt := 42) dX11_bars_19 (by decide) (fun c12 => ?_) (fun c12 => ?_)
  · replace h := h.1 c12
    refine jx_ldc jwC_X11_87 dX11_bars_42 ?_
    exact jx_iret dX11_bars_44 rfl rfl (jle rfl) (jle rfl) ⟨_, rfl, h⟩
  replace h := h.2 c12
  refine jx_iload_n 2 dX11_bars_22 rfl rfl ?_
  refine jx_aload_n 0 dX11_bars_23 rfl rfl ?_
  refine jx_iload_n 1 dX11_bars_24 rfl rfl ?_
  refine jx_iconst (v := 2) dX11_bars_25 (by decide) ?_
  obtain ⟨hk13, h⟩ := h
  refine jx_callVi (M' := mX11_of) (As := [.int x1, .int 2]) jo_X11_of jc_11 rfl jwM_X11_97 jwN_X11_of jwX_X11_of dX11_bars_26 (jRok_m _ _ _) rfl (jle rfl) ⟨jle rfl, jle rfl⟩ hk13 h (fun r15 S14 h => ?_)
  refine jx_icmp_eq (tgt := 42) dX11_bars_29 (by decide) (fun c16 => ?_) (fun c16 => ?_)
  · replace h := h.1 c16
    refine jx_ldc jwC_X11_87 dX11_bars_42 ?_
    exact jx_iret dX11_bars_44 rfl rfl (jle rfl) (jle rfl) ⟨_, rfl, h⟩
  replace h := h.2 c16
  refine jx_iload_n 3 dX11_bars_32 rfl rfl ?_
  refine jx_aload_n 0 dX11_bars_33 rfl rfl ?_
  refine jx_iload_n 1 dX11_bars_34 rfl rfl ?_
  refine jx_iconst (v := 2) dX11_bars_35 (by decide) ?_
  obtain ⟨hk17, h⟩ := h
  refine jx_callVi (M' := mX11_of) (As := [.int x1, .int 2]) jo_X11_of jc_11 rfl jwM_X11_97 jwN_X11_of jwX_X11_of dX11_bars_36 (jRok_m _ _ _) rfl (jle rfl) ⟨jle rfl, jle rfl⟩ hk17 h (fun r19 S18 h => ?_)
  refine jx_icmp_ne (tgt := 45) dX11_bars_39 (by decide) (fun c20 => ?_) (fun c20 => ?_)
  · replace h := h.2 c20
    refine jx_aload_n 0 dX11_bars_45 rfl rfl ?_
    refine jx_bipush (v := 72) dX11_bars_46 (by decide) ?_
    refine jx_bipush (v := 7) dX11_bars_48 (by decide) ?_
    refine jx_iload_n 1 dX11_bars_50 rfl rfl ?_
    refine jx_imul dX11_bars_51 ?_
    refine jx_iadd dX11_bars_52 ?_
    refine jx_iconst (v := 3) dX11_bars_53 (by decide) ?_
    refine jx_iadd dX11_bars_54 ?_
    refine jx_iconst (v := 1) dX11_bars_55 (by decide) ?_
    refine jx_iload_n 2 dX11_bars_56 rfl rfl ?_
    refine jx_ishl dX11_bars_57 ?_
    refine jx_iconst (v := 1) dX11_bars_58 (by decide) ?_
    refine jx_iload_n 3 dX11_bars_59 rfl rfl ?_
    refine jx_ishl dX11_bars_60 ?_
    refine jx_ior dX11_bars_61 ?_
    obtain ⟨hk21, h⟩ := h
    refine jx_callVi (M' := mX11_becomes) (As := [.int ((72 + (7 * x1)) + 3), .int ((jshl 1 x2) ||| (jshl 1 x3))]) jo_X11_becomes jc_11 rfl jwM_X11_130 jwN_X11_becomes jwX_X11_becomes dX11_bars_62 (jRok_m _ _ _) rfl (jle rfl) ⟨jle rfl, jle rfl⟩ hk21 h (fun r23 S22 h => ?_)
    exact jx_iret dX11_bars_65 rfl rfl (jle rfl) (jle rfl) ⟨_, rfl, h⟩
  replace h := h.1 c20
  refine jx_ldc jwC_X11_87 dX11_bars_42 ?_
  exact jx_iret dX11_bars_44 rfl rfl (jle rfl) (jle rfl) ⟨_, rfl, h⟩
set_option maxRecDepth 100000 in
set_option maxHeartbeats 4000000 in
theorem T_X11_road {E : jEnv} {d : Nat} {Q : Int32 → jM → Prop} {a0 : Nat} {x1 : Int32} {x2 : Int32} {x3 : Int32} {S : jM} (h : ((jist x1) = 0 → Q (-1000000001) S) ∧ (¬ (jist x1) = 0 → ((jist x2) = 0 → Q (-1000000001) S) ∧ (¬ (jist x2) = 0 → (x1 = x2 → Q (-1000000001) S) ∧ (¬ x1 = x2 → ((jisin (Int32.toInt64 x3) 0 9) = 0 → Q (-1000000001) S) ∧ (¬ (jisin (Int32.toInt64 x3) 0 9) = 0 → jk S a0 = 11 ∧ ∃ b15, jr S a0 0 = some b15 ∧ (jk S b15 = 12 ∧ vp_in ((36 + (6 * x2)) + x1) (jl S b15) ∧ (jFi E mX11_becomes d 0 0 [.ref a0, .int ((36 + (6 * x1)) + x2), .int x3] (jput S b15 (Int32.toNatClampNeg ((36 + (6 * x2)) + x1)) x3) (fun r19 S18 => Q r19 S18)))))))) : jFi E mX11_road (d + 1) 0 0 [.ref a0, .int x1, .int x2, .int x3] S Q := by
  refine jF_of (by decide) (jle rfl) ?_
  refine jx_lv (lv1 := [(0, .ref a0), (1, .int x1), (2, .int x2), (3, .int x3)]) [0, 1, 2, 3] rfl ?_
  refine jx_iload_n 1 dX11_road_0 rfl rfl ?_
  refine jx_callSi (M' := mX11_isTown) (As := [.int x1]) jo_X11_isTown jwM_X11_78 jwS_X11_isTown dX11_road_1 (jRok_m _ _ _) rfl (jle rfl) ⟨jle rfl, jle rfl⟩ (c_X11_isTown (Q := fun v S' => v = (jist x1) ∧ S = S') ⟨rfl, rfl⟩) (fun r1 S2 hq3 => ?_)
  obtain ⟨rfl, rfl⟩ := hq3
  refine jx_if_eq (tgt := 31) dX11_road_4 (by decide) (fun c4 => ?_) (fun c4 => ?_)
  · replace h := h.1 c4
    refine jx_ldc jwC_X11_87 dX11_road_31 ?_
    exact jx_iret dX11_road_33 rfl rfl (jle rfl) (jle rfl) ⟨_, rfl, h⟩
  replace h := h.2 c4
  refine jx_iload_n 2 dX11_road_7 rfl rfl ?_
  refine jx_callSi (M' := mX11_isTown) (As := [.int x2]) jo_X11_isTown jwM_X11_78 jwS_X11_isTown dX11_road_8 (jRok_m _ _ _) rfl (jle rfl) ⟨jle rfl, jle rfl⟩ (c_X11_isTown (Q := fun v S' => v = (jist x2) ∧ S = S') ⟨rfl, rfl⟩) (fun r5 S6 hq7 => ?_)
  obtain ⟨rfl, rfl⟩ := hq7
  refine jx_if_eq (tgt := 31) dX11_road_11 (by decide) (fun c8 => ?_) (fun c8 => ?_)
  · replace h := h.1 c8
    refine jx_ldc jwC_X11_87 dX11_road_31 ?_
    exact jx_iret dX11_road_33 rfl rfl (jle rfl) (jle rfl) ⟨_, rfl, h⟩
  replace h := h.2 c8
  refine jx_iload_n 1 dX11_road_14 rfl rfl ?_
  refine jx_iload_n 2 dX11_road_15 rfl rfl ?_
  refine jx_icmp_eq (tgt := 31) dX11_road_16 (by decide) (fun c9 => ?_) (fun c9 => ?_)
  · replace h := h.1 c9
    refine jx_ldc jwC_X11_87 dX11_road_31 ?_
    exact jx_iret dX11_road_33 rfl rfl (jle rfl) (jle rfl) ⟨_, rfl, h⟩
  replace h := h.2 c9
  refine jx_iload_n 3 dX11_road_19 rfl rfl ?_
  refine jx_i2l dX11_road_20 ?_
  refine jx_lconst (v := 0) dX11_road_21 (by decide) ?_
  refine jx_ldc2 jwL_X11_114 dX11_road_22 ?_
  refine jx_callSi (M' := mX11_isIn) (As := [.long (Int32.toInt64 x3), .long 0, .long 9]) jo_X11_isIn jwM_X11_71 jwS_X11_isIn dX11_road_25 (jRok_m _ _ _) rfl (jle rfl) ⟨jle rfl, jle rfl⟩ (c_X11_isIn (Q := fun v S' => v = (jisin (Int32.toInt64 x3) 0 9) ∧ S = S') ⟨rfl, rfl⟩) (fun r10 S11 hq12 => ?_)
  obtain ⟨rfl, rfl⟩ := hq12
  refine jx_if_ne (tgt := 34) dX11_road_28 (by decide) (fun c13 => ?_) (fun c13 => ?_)
  · replace h := h.2 c13
    refine jx_aload_n 0 dX11_road_34 rfl rfl ?_
    obtain ⟨hk14, h⟩ := h
    obtain ⟨b15, hb15, h⟩ := h
    refine jx_getr jc_11 (j := 0) (by decide) rfl jwF_X11_7 dX11_road_35 hk14 hb15 ?_
    refine jx_bipush (v := 36) dX11_road_38 (by decide) ?_
    refine jx_bipush (v := 6) dX11_road_40 (by decide) ?_
    refine jx_iload_n 2 dX11_road_42 rfl rfl ?_
    refine jx_imul dX11_road_43 ?_
    refine jx_iadd dX11_road_44 ?_
    refine jx_iload_n 1 dX11_road_45 rfl rfl ?_
    refine jx_iadd dX11_road_46 ?_
    refine jx_iload_n 3 dX11_road_47 rfl rfl ?_
    obtain ⟨hk16, h⟩ := h
    obtain ⟨hi17, h⟩ := h
    refine jx_iast dX11_road_48 hk16 hi17 ?_
    refine jx_aload_n 0 dX11_road_49 rfl rfl ?_
    refine jx_bipush (v := 36) dX11_road_50 (by decide) ?_
    refine jx_bipush (v := 6) dX11_road_52 (by decide) ?_
    refine jx_iload_n 1 dX11_road_54 rfl rfl ?_
    refine jx_imul dX11_road_55 ?_
    refine jx_iadd dX11_road_56 ?_
    refine jx_iload_n 2 dX11_road_57 rfl rfl ?_
    refine jx_iadd dX11_road_58 ?_
    refine jx_iload_n 3 dX11_road_59 rfl rfl ?_
    refine jx_callVi (M' := mX11_becomes) (As := [.int ((36 + (6 * x1)) + x2), .int x3]) jo_X11_becomes jc_11 rfl jwM_X11_130 jwN_X11_becomes jwX_X11_becomes dX11_road_60 (jRok_m _ _ _) rfl (jle rfl) ⟨jle rfl, jle rfl⟩ hk14 h (fun r19 S18 h => ?_)
    exact jx_iret dX11_road_63 rfl rfl (jle rfl) (jle rfl) ⟨_, rfl, h⟩
  replace h := h.1 c13
  refine jx_ldc jwC_X11_87 dX11_road_31 ?_
  exact jx_iret dX11_road_33 rfl rfl (jle rfl) (jle rfl) ⟨_, rfl, h⟩
