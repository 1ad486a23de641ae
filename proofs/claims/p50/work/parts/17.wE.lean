section
/-- X11_init at its loop's head 180 -/
abbrev L_X11_init_180 (E : jEnv) (d : Nat) (Q : jM → Prop) (a0 : Nat) (x1 : Int32) (S : jM) (c9 k9 : Nat) : Prop := jX E mX11_init (jRm (d + 1) 20 10292) (jZm E (fun r S' => r = none ∧ Q S') 20 10292) 180 [(0, .ref a0), (1, .int x1)] [] S c9 k9
set_option maxRecDepth 100000 in
set_option maxHeartbeats 4000000 in
theorem T_X11_init {E : jEnv} {d : Nat} {Q : jM → Prop} {a0 : Nat} {S : jM} (h : ∀ q1, q1 = jn S → jk (jnew S 12 3135) a0 = 11 ∧ ∀ q4, q4 = jn (jputr (jnew S 12 3135) a0 0 (some q1)) → jk (jnew (jputr (jnew S 12 3135) a0 0 (some q1)) 12 3135) a0 = 11 ∧ ∀ q7, q7 = jn (jputr (jnew (jputr (jnew S 12 3135) a0 0 (some q1)) 12 3135) a0 1 (some q4)) → jk (jnew (jputr (jnew (jputr (jnew S 12 3135) a0 0 (some q1)) 12 3135) a0 1 (some q4)) 12 3135) a0 = 11 ∧ ∀ q10, q10 = jn (jputr (jnew (jputr (jnew (jputr (jnew S 12 3135) a0 0 (some q1)) 12 3135) a0 1 (some q4)) 12 3135) a0 2 (some q7)) → jk (jnew (jputr (jnew (jputr (jnew (jputr (jnew S 12 3135) a0 0 (some q1)) 12 3135) a0 1 (some q4)) 12 3135) a0 2 (some q7)) 12 4) a0 = 11 ∧ ∀ q13, q13 = jn (jputr (jnew (jputr (jnew (jputr (jnew (jputr (jnew S 12 3135) a0 0 (some q1)) 12 3135) a0 1 (some q4)) 12 3135) a0 2 (some q7)) 12 4) a0 4 (some q10)) → jk (jnew (jputr (jnew (jputr (jnew (jputr (jnew (jputr (jnew S 12 3135) a0 0 (some q1)) 12 3135) a0 1 (some q4)) 12 3135) a0 2 (some q7)) 12 4) a0 4 (some q10)) 12 4) a0 = 11 ∧ ∀ q16, q16 = jn (jputr (jnew (jputr (jnew (jputr (jnew (jputr (jnew (jputr (jnew S 12 3135) a0 0 (some q1)) 12 3135) a0 1 (some q4)) 12 3135) a0 2 (some q7)) 12 4) a0 4 (some q10)) 12 4) a0 5 (some q13)) → jk (jnew (jputr (jnew (jputr (jnew (jputr (jnew (jputr (jnew (jputr (jnew S 12 3135) a0 0 (some q1)) 12 3135) a0 1 (some q4)) 12 3135) a0 2 (some q7)) 12 4) a0 4 (some q10)) 12 4) a0 5 (some q13)) 12 96) a0 = 11 ∧ ∀ q19, q19 = jn (jputr (jnew (jputr (jnew (jputr (jnew (jputr (jnew (jputr (jnew (jputr (jnew S 12 3135) a0 0 (some q1)) 12 3135) a0 1 (some q4)) 12 3135) a0 2 (some q7)) 12 4) a0 4 (some q10)) 12 4) a0 5 (some q13)) 12 96) a0 6 (some q16)) → jk (jnew (jputr (jnew (jputr (jnew (jputr (jnew (jputr (jnew (jputr (jnew (jputr (jnew S 12 3135) a0 0 (some q1)) 12 3135) a0 1 (some q4)) 12 3135) a0 2 (some q7)) 12 4) a0 4 (some q10)) 12 4) a0 5 (some q13)) 12 96) a0 6 (some q16)) 12 5) a0 = 11 ∧ ∀ q22, q22 = jn (jputr (jnew (jputr (jnew (jputr (jnew (jputr (jnew (jputr (jnew (jputr (jnew (jputr (jnew S 12 3135) a0 0 (some q1)) 12 3135) a0 1 (some q4)) 12 3135) a0 2 (some q7)) 12 4) a0 4 (some q10)) 12 4) a0 5 (some q13)) 12 96) a0 6 (some q16)) 12 5) a0 7 (some q19)) → jk (jnew (jputr (jnew (jputr (jnew (jputr (jnew (jputr (jnew (jputr (jnew (jputr (jnew (jputr (jnew S 12 3135) a0 0 (some q1)) 12 3135) a0 1 (some q4)) 12 3135) a0 2 (some q7)) 12 4) a0 4 (some q10)) 12 4) a0 5 (some q13)) 12 96) a0 6 (some q16)) 12 5) a0 7 (some q19)) 12 5) a0 = 11 ∧ ∀ q25, q25 = jn (jputr (jnew (jputr (jnew (jputr (jnew (jputr (jnew (jputr (jnew (jputr (jnew (jputr (jnew (jputr (jnew S 12 3135) a0 0 (some q1)) 12 3135) a0 1 (some q4)) 12 3135) a0 2 (some q7)) 12 4) a0 4 (some q10)) 12 4) a0 5 (some q13)) 12 96) a0 6 (some q16)) 12 5) a0 7 (some q19)) 12 5) a0 8 (some q22)) → jk (jnew (jputr (jnew (jputr (jnew (jputr (jnew (jputr (jnew (jputr (jnew (jputr (jnew (jputr (jnew (jputr (jnew S 12 3135) a0 0 (some q1)) 12 3135) a0 1 (some q4)) 12 3135) a0 2 (some q7)) 12 4) a0 4 (some q10)) 12 4) a0 5 (some q13)) 12 96) a0 6 (some q16)) 12 5) a0 7 (some q19)) 12 5) a0 8 (some q22)) 12 5) a0 = 11 ∧ ∀ q28, q28 = jn (jputr (jnew (jputr (jnew (jputr (jnew (jputr (jnew (jputr (jnew (jputr (jnew (jputr (jnew (jputr (jnew (jputr (jnew S 12 3135) a0 0 (some q1)) 12 3135) a0 1 (some q4)) 12 3135) a0 2 (some q7)) 12 4) a0 4 (some q10)) 12 4) a0 5 (some q13)) 12 96) a0 6 (some q16)) 12 5) a0 7 (some q19)) 12 5) a0 8 (some q22)) 12 5) a0 9 (some q25)) → jk (jnew (jputr (jnew (jputr (jnew (jputr (jnew (jputr (jnew (jputr (jnew (jputr (jnew (jputr (jnew (jputr (jnew (jputr (jnew S 12 3135) a0 0 (some q1)) 12 3135) a0 1 (some q4)) 12 3135) a0 2 (some q7)) 12 4) a0 4 (some q10)) 12 4) a0 5 (some q13)) 12 96) a0 6 (some q16)) 12 5) a0 7 (some q19)) 12 5) a0 8 (some q22)) 12 5) a0 9 (some q25)) 12 5) a0 = 11 ∧ ∀ q31, q31 = jn (jputr (jnew (jputr (jnew (jputr (jnew (jputr (jnew (jputr (jnew (jputr (jnew (jputr (jnew (jputr (jnew (jputr (jnew (jputr (jnew S 12 3135) a0 0 (some q1)) 12 3135) a0 1 (some q4)) 12 3135) a0 2 (some q7)) 12 4) a0 4 (some q10)) 12 4) a0 5 (some q13)) 12 96) a0 6 (some q16)) 12 5) a0 7 (some q19)) 12 5) a0 8 (some q22)) 12 5) a0 9 (some q25)) 12 5) a0 10 (some q28)) → jk (jnew (jputr (jnew (jputr (jnew (jputr (jnew (jputr (jnew (jputr (jnew (jputr (jnew (jputr (jnew (jputr (jnew (jputr (jnew (jputr (jnew S 12 3135) a0 0 (some q1)) 12 3135) a0 1 (some q4)) 12 3135) a0 2 (some q7)) 12 4) a0 4 (some q10)) 12 4) a0 5 (some q13)) 12 96) a0 6 (some q16)) 12 5) a0 7 (some q19)) 12 5) a0 8 (some q22)) 12 5) a0 9 (some q25)) 12 5) a0 10 (some q28)) 12 120) a0 = 11 ∧ ∀ q34, q34 = jn (jputr (jnew (jputr (jnew (jputr (jnew (jputr (jnew (jputr (jnew (jputr (jnew (jputr (jnew (jputr (jnew (jputr (jnew (jputr (jnew (jputr (jnew S 12 3135) a0 0 (some q1)) 12 3135) a0 1 (some q4)) 12 3135) a0 2 (some q7)) 12 4) a0 4 (some q10)) 12 4) a0 5 (some q13)) 12 96) a0 6 (some q16)) 12 5) a0 7 (some q19)) 12 5) a0 8 (some q22)) 12 5) a0 9 (some q25)) 12 5) a0 10 (some q28)) 12 120) a0 11 (some q31)) → jk (jnew (jputr (jnew (jputr (jnew (jputr (jnew (jputr (jnew (jputr (jnew (jputr (jnew (jputr (jnew (jputr (jnew (jputr (jnew (jputr (jnew (jputr (jnew S 12 3135) a0 0 (some q1)) 12 3135) a0 1 (some q4)) 12 3135) a0 2 (some q7)) 12 4) a0 4 (some q10)) 12 4) a0 5 (some q13)) 12 96) a0 6 (some q16)) 12 5) a0 7 (some q19)) 12 5) a0 8 (some q22)) 12 5) a0 9 (some q25)) 12 5) a0 10 (some q28)) 12 120) a0 11 (some q31)) 12 36) a0 = 11 ∧ ∀ q37, q37 = jn (jputr (jnew (jputr (jnew (jputr (jnew (jputr (jnew (jputr (jnew (jputr (jnew (jputr (jnew (jputr (jnew (jputr (jnew (jputr (jnew (jputr (jnew (jputr (jnew S 12 3135) a0 0 (some q1)) 12 3135) a0 1 (some q4)) 12 3135) a0 2 (some q7)) 12 4) a0 4 (some q10)) 12 4) a0 5 (some q13)) 12 96) a0 6 (some q16)) 12 5) a0 7 (some q19)) 12 5) a0 8 (some q22)) 12 5) a0 9 (some q25)) 12 5) a0 10 (some q28)) 12 120) a0 11 (some q31)) 12 36) a0 12 (some q34)) → jk (jnew (jputr (jnew (jputr (jnew (jputr (jnew (jputr (jnew (jputr (jnew (jputr (jnew (jputr (jnew (jputr (jnew (jputr (jnew (jputr (jnew (jputr (jnew (jputr (jnew S 12 3135) a0 0 (some q1)) 12 3135) a0 1 (some q4)) 12 3135) a0 2 (some q7)) 12 4) a0 4 (some q10)) 12 4) a0 5 (some q13)) 12 96) a0 6 (some q16)) 12 5) a0 7 (some q19)) 12 5) a0 8 (some q22)) 12 5) a0 9 (some q25)) 12 5) a0 10 (some q28)) 12 120) a0 11 (some q31)) 12 36) a0 12 (some q34)) 12 135) a0 = 11 ∧ ∀ q40, q40 = jn (jputr (jnew (jputr (jnew (jputr (jnew (jputr (jnew (jputr (jnew (jputr (jnew (jputr (jnew (jputr (jnew (jputr (jnew (jputr (jnew (jputr (jnew (jputr (jnew (jputr (jnew S 12 3135) a0 0 (some q1)) 12 3135) a0 1 (some q4)) 12 3135) a0 2 (some q7)) 12 4) a0 4 (some q10)) 12 4) a0 5 (some q13)) 12 96) a0 6 (some q16)) 12 5) a0 7 (some q19)) 12 5) a0 8 (some q22)) 12 5) a0 9 (some q25)) 12 5) a0 10 (some q28)) 12 120) a0 11 (some q31)) 12 36) a0 12 (some q34)) 12 135) a0 13 (some q37)) → jk (jnew (jputr (jnew (jputr (jnew (jputr (jnew (jputr (jnew (jputr (jnew (jputr (jnew (jputr (jnew (jputr (jnew (jputr (jnew (jputr (jnew (jputr (jnew (jputr (jnew (jputr (jnew S 12 3135) a0 0 (some q1)) 12 3135) a0 1 (some q4)) 12 3135) a0 2 (some q7)) 12 4) a0 4 (some q10)) 12 4) a0 5 (some q13)) 12 96) a0 6 (some q16)) 12 5) a0 7 (some q19)) 12 5) a0 8 (some q22)) 12 5) a0 9 (some q25)) 12 5) a0 10 (some q28)) 12 120) a0 11 (some q31)) 12 36) a0 12 (some q34)) 12 135) a0 13 (some q37)) 12 4) a0 = 11 ∧ ∀ q43, q43 = jn (jputr (jnew (jputr (jnew (jputr (jnew (jputr (jnew (jputr (jnew (jputr (jnew (jputr (jnew (jputr (jnew (jputr (jnew (jputr (jnew (jputr (jnew (jputr (jnew (jputr (jnew (jputr (jnew S 12 3135) a0 0 (some q1)) 12 3135) a0 1 (some q4)) 12 3135) a0 2 (some q7)) 12 4) a0 4 (some q10)) 12 4) a0 5 (some q13)) 12 96) a0 6 (some q16)) 12 5) a0 7 (some q19)) 12 5) a0 8 (some q22)) 12 5) a0 9 (some q25)) 12 5) a0 10 (some q28)) 12 120) a0 11 (some q31)) 12 36) a0 12 (some q34)) 12 135) a0 13 (some q37)) 12 4) a0 14 (some q40)) → jk (jnew (jputr (jnew (jputr (jnew (jputr (jnew (jputr (jnew (jputr (jnew (jputr (jnew (jputr (jnew (jputr (jnew (jputr (jnew (jputr (jnew (jputr (jnew (jputr (jnew (jputr (jnew (jputr (jnew S 12 3135) a0 0 (some q1)) 12 3135) a0 1 (some q4)) 12 3135) a0 2 (some q7)) 12 4) a0 4 (some q10)) 12 4) a0 5 (some q13)) 12 96) a0 6 (some q16)) 12 5) a0 7 (some q19)) 12 5) a0 8 (some q22)) 12 5) a0 9 (some q25)) 12 5) a0 10 (some q28)) 12 120) a0 11 (some q31)) 12 36) a0 12 (some q34)) 12 135) a0 13 (some q37)) 12 4) a0 14 (some q40)) 12 96) a0 = 11 ∧ ∀ q46, q46 = jn (jputr (jnew (jputr (jnew (jputr (jnew (jputr (jnew (jputr (jnew (jputr (jnew (jputr (jnew (jputr (jnew (jputr (jnew (jputr (jnew (jputr (jnew (jputr (jnew (jputr (jnew (jputr (jnew (jputr (jnew S 12 3135) a0 0 (some q1)) 12 3135) a0 1 (some q4)) 12 3135) a0 2 (some q7)) 12 4) a0 4 (some q10)) 12 4) a0 5 (some q13)) 12 96) a0 6 (some q16)) 12 5) a0 7 (some q19)) 12 5) a0 8 (some q22)) 12 5) a0 9 (some q25)) 12 5) a0 10 (some q28)) 12 120) a0 11 (some q31)) 12 36) a0 12 (some q34)) 12 135) a0 13 (some q37)) 12 4) a0 14 (some q40)) 12 96) a0 18 (some q43)) → jk (jnew (jputr (jnew (jputr (jnew (jputr (jnew (jputr (jnew (jputr (jnew (jputr (jnew (jputr (jnew (jputr (jnew (jputr (jnew (jputr (jnew (jputr (jnew (jputr (jnew (jputr (jnew (jputr (jnew (jputr (jnew S 12 3135) a0 0 (some q1)) 12 3135) a0 1 (some q4)) 12 3135) a0 2 (some q7)) 12 4) a0 4 (some q10)) 12 4) a0 5 (some q13)) 12 96) a0 6 (some q16)) 12 5) a0 7 (some q19)) 12 5) a0 8 (some q22)) 12 5) a0 9 (some q25)) 12 5) a0 10 (some q28)) 12 120) a0 11 (some q31)) 12 36) a0 12 (some q34)) 12 135) a0 13 (some q37)) 12 4) a0 14 (some q40)) 12 96) a0 18 (some q43)) 12 128) a0 = 11 ∧ ∀ q49, q49 = jn (jputr (jnew (jputr (jnew (jputr (jnew (jputr (jnew (jputr (jnew (jputr (jnew (jputr (jnew (jputr (jnew (jputr (jnew (jputr (jnew (jputr (jnew (jputr (jnew (jputr (jnew (jputr (jnew (jputr (jnew (jputr (jnew S 12 3135) a0 0 (some q1)) 12 3135) a0 1 (some q4)) 12 3135) a0 2 (some q7)) 12 4) a0 4 (some q10)) 12 4) a0 5 (some q13)) 12 96) a0 6 (some q16)) 12 5) a0 7 (some q19)) 12 5) a0 8 (some q22)) 12 5) a0 9 (some q25)) 12 5) a0 10 (some q28)) 12 120) a0 11 (some q31)) 12 36) a0 12 (some q34)) 12 135) a0 13 (some q37)) 12 4) a0 14 (some q40)) 12 96) a0 18 (some q43)) 12 128) a0 30 (some q46)) → jk (jnew (jputr (jnew (jputr (jnew (jputr (jnew (jputr (jnew (jputr (jnew (jputr (jnew (jputr (jnew (jputr (jnew (jputr (jnew (jputr (jnew (jputr (jnew (jputr (jnew (jputr (jnew (jputr (jnew (jputr (jnew (jputr (jnew S 12 3135) a0 0 (some q1)) 12 3135) a0 1 (some q4)) 12 3135) a0 2 (some q7)) 12 4) a0 4 (some q10)) 12 4) a0 5 (some q13)) 12 96) a0 6 (some q16)) 12 5) a0 7 (some q19)) 12 5) a0 8 (some q22)) 12 5) a0 9 (some q25)) 12 5) a0 10 (some q28)) 12 120) a0 11 (some q31)) 12 36) a0 12 (some q34)) 12 135) a0 13 (some q37)) 12 4) a0 14 (some q40)) 12 96) a0 18 (some q43)) 12 128) a0 30 (some q46)) 12 100) a0 = 11 ∧ ∀ q52, q52 = jn (jputr (jnew (jputr (jnew (jputr (jnew (jputr (jnew (jputr (jnew (jputr (jnew (jputr (jnew (jputr (jnew (jputr (jnew (jputr (jnew (jputr (jnew (jputr (jnew (jputr (jnew (jputr (jnew (jputr (jnew (jputr (jnew (jputr (jnew S 12 3135) a0 0 (some q1)) 12 3135) a0 1 (some q4)) 12 3135) a0 2 (some q7)) 12 4) a0 4 (some q10)) 12 4) a0 5 (some q13)) 12 96) a0 6 (some q16)) 12 5) a0 7 (some q19)) 12 5) a0 8 (some q22)) 12 5) a0 9 (some q25)) 12 5) a0 10 (some q28)) 12 120) a0 11 (some q31)) 12 36) a0 12 (some q34)) 12 135) a0 13 (some q37)) 12 4) a0 14 (some q40)) 12 96) a0 18 (some q43)) 12 128) a0 30 (some q46)) 12 100) a0 31 (some q49)) → jk (jnew (jputr (jnew (jputr (jnew (jputr (jnew (jputr (jnew (jputr (jnew (jputr (jnew (jputr (jnew (jputr (jnew (jputr (jnew (jputr (jnew (jputr (jnew (jputr (jnew (jputr (jnew (jputr (jnew (jputr (jnew (jputr (jnew (jputr (jnew S 12 3135) a0 0 (some q1)) 12 3135) a0 1 (some q4)) 12 3135) a0 2 (some q7)) 12 4) a0 4 (some q10)) 12 4) a0 5 (some q13)) 12 96) a0 6 (some q16)) 12 5) a0 7 (some q19)) 12 5) a0 8 (some q22)) 12 5) a0 9 (some q25)) 12 5) a0 10 (some q28)) 12 120) a0 11 (some q31)) 12 36) a0 12 (some q34)) 12 135) a0 13 (some q37)) 12 4) a0 14 (some q40)) 12 96) a0 18 (some q43)) 12 128) a0 30 (some q46)) 12 100) a0 31 (some q49)) 12 24) a0 = 11 ∧ ∀ q55, q55 = jn (jputr (jnew (jputr (jnew (jputr (jnew (jputr (jnew (jputr (jnew (jputr (jnew (jputr (jnew (jputr (jnew (jputr (jnew (jputr (jnew (jputr (jnew (jputr (jnew (jputr (jnew (jputr (jnew (jputr (jnew (jputr (jnew (jputr (jnew (jputr (jnew S 12 3135) a0 0 (some q1)) 12 3135) a0 1 (some q4)) 12 3135) a0 2 (some q7)) 12 4) a0 4 (some q10)) 12 4) a0 5 (some q13)) 12 96) a0 6 (some q16)) 12 5) a0 7 (some q19)) 12 5) a0 8 (some q22)) 12 5) a0 9 (some q25)) 12 5) a0 10 (some q28)) 12 120) a0 11 (some q31)) 12 36) a0 12 (some q34)) 12 135) a0 13 (some q37)) 12 4) a0 14 (some q40)) 12 96) a0 18 (some q43)) 12 128) a0 30 (some q46)) 12 100) a0 31 (some q49)) 12 24) a0 32 (some q52)) → jk (jnew (jputr (jnew (jputr (jnew (jputr (jnew (jputr (jnew (jputr (jnew (jputr (jnew (jputr (jnew (jputr (jnew (jputr (jnew (jputr (jnew (jputr (jnew (jputr (jnew (jputr (jnew (jputr (jnew (jputr (jnew (jputr (jnew (jputr (jnew (jputr (jnew S 12 3135) a0 0 (some q1)) 12 3135) a0 1 (some q4)) 12 3135) a0 2 (some q7)) 12 4) a0 4 (some q10)) 12 4) a0 5 (some q13)) 12 96) a0 6 (some q16)) 12 5) a0 7 (some q19)) 12 5) a0 8 (some q22)) 12 5) a0 9 (some q25)) 12 5) a0 10 (some q28)) 12 120) a0 11 (some q31)) 12 36) a0 12 (some q34)) 12 135) a0 13 (some q37)) 12 4) a0 14 (some q40)) 12 96) a0 18 (some q43)) 12 128) a0 30 (some q46)) 12 100) a0 31 (some q49)) 12 24) a0 32 (some q52)) 12 60) a0 = 11 ∧ ∀ q58, q58 = jn (jputr (jnew (jputr (jnew (jputr (jnew (jputr (jnew (jputr (jnew (jputr (jnew (jputr (jnew (jputr (jnew (jputr (jnew (jputr (jnew (jputr (jnew (jputr (jnew (jputr (jnew (jputr (jnew (jputr (jnew (jputr (jnew (jputr (jnew (jputr (jnew (jputr (jnew S 12 3135) a0 0 (some q1)) 12 3135) a0 1 (some q4)) 12 3135) a0 2 (some q7)) 12 4) a0 4 (some q10)) 12 4) a0 5 (some q13)) 12 96) a0 6 (some q16)) 12 5) a0 7 (some q19)) 12 5) a0 8 (some q22)) 12 5) a0 9 (some q25)) 12 5) a0 10 (some q28)) 12 120) a0 11 (some q31)) 12 36) a0 12 (some q34)) 12 135) a0 13 (some q37)) 12 4) a0 14 (some q40)) 12 96) a0 18 (some q43)) 12 128) a0 30 (some q46)) 12 100) a0 31 (some q49)) 12 24) a0 32 (some q52)) 12 60) a0 33 (some q55)) → jk (jnew (jputr (jnew (jputr (jnew (jputr (jnew (jputr (jnew (jputr (jnew (jputr (jnew (jputr (jnew (jputr (jnew (jputr (jnew (jputr (jnew (jputr (jnew (jputr (jnew (jputr (jnew (jputr (jnew (jputr (jnew (jputr (jnew (jputr (jnew (jputr (jnew (jputr (jnew S 12 3135) a0 0 (some q1)) 12 3135) a0 1 (some q4)) 12 3135) a0 2 (some q7)) 12 4) a0 4 (some q10)) 12 4) a0 5 (some q13)) 12 96) a0 6 (some q16)) 12 5) a0 7 (some q19)) 12 5) a0 8 (some q22)) 12 5) a0 9 (some q25)) 12 5) a0 10 (some q28)) 12 120) a0 11 (some q31)) 12 36) a0 12 (some q34)) 12 135) a0 13 (some q37)) 12 4) a0 14 (some q40)) 12 96) a0 18 (some q43)) 12 128) a0 30 (some q46)) 12 100) a0 31 (some q49)) 12 24) a0 32 (some q52)) 12 60) a0 33 (some q55)) 12 60) a0 = 11 ∧ ∃ b61, jr (jputr (jnew (jputr (jnew (jputr (jnew (jputr (jnew (jputr (jnew (jputr (jnew (jputr (jnew (jputr (jnew (jputr (jnew (jputr (jnew (jputr (jnew (jputr (jnew (jputr (jnew (jputr (jnew (jputr (jnew (jputr (jnew (jputr (jnew (jputr (jnew (jputr (jnew (jputr (jnew S 12 3135) a0 0 (some q1)) 12 3135) a0 1 (some q4)) 12 3135) a0 2 (some q7)) 12 4) a0 4 (some q10)) 12 4) a0 5 (some q13)) 12 96) a0 6 (some q16)) 12 5) a0 7 (some q19)) 12 5) a0 8 (some q22)) 12 5) a0 9 (some q25)) 12 5) a0 10 (some q28)) 12 120) a0 11 (some q31)) 12 36) a0 12 (some q34)) 12 135) a0 13 (some q37)) 12 4) a0 14 (some q40)) 12 96) a0 18 (some q43)) 12 128) a0 30 (some q46)) 12 100) a0 31 (some q49)) 12 24) a0 32 (some q52)) 12 60) a0 33 (some q55)) 12 60) a0 35 (some q58)) a0 0 = some b61 ∧ (jk (jnew (jputr (jnew (jputr (jnew (jputr (jnew (jputr (jnew (jputr (jnew (jputr (jnew (jputr (jnew (jputr (jnew (jputr (jnew (jputr (jnew (jputr (jnew (jputr (jnew (jputr (jnew (jputr (jnew (jputr (jnew (jputr (jnew (jputr (jnew (jputr (jnew (jputr (jnew S 12 3135) a0 0 (some q1)) 12 3135) a0 1 (some q4)) 12 3135) a0 2 (some q7)) 12 4) a0 4 (some q10)) 12 4) a0 5 (some q13)) 12 96) a0 6 (some q16)) 12 5) a0 7 (some q19)) 12 5) a0 8 (some q22)) 12 5) a0 9 (some q25)) 12 5) a0 10 (some q28)) 12 120) a0 11 (some q31)) 12 36) a0 12 (some q34)) 12 135) a0 13 (some q37)) 12 4) a0 14 (some q40)) 12 96) a0 18 (some q43)) 12 128) a0 30 (some q46)) 12 100) a0 31 (some q49)) 12 24) a0 32 (some q52)) 12 60) a0 33 (some q55)) 12 60) b61 = 12 ∧ vp_in 8 (jl (jnew (jputr (jnew (jputr (jnew (jputr (jnew (jputr (jnew (jputr (jnew (jputr (jnew (jputr (jnew (jputr (jnew (jputr (jnew (jputr (jnew (jputr (jnew (jputr (jnew (jputr (jnew (jputr (jnew (jputr (jnew (jputr (jnew (jputr (jnew (jputr (jnew (jputr (jnew S 12 3135) a0 0 (some q1)) 12 3135) a0 1 (some q4)) 12 3135) a0 2 (some q7)) 12 4) a0 4 (some q10)) 12 4) a0 5 (some q13)) 12 96) a0 6 (some q16)) 12 5) a0 7 (some q19)) 12 5) a0 8 (some q22)) 12 5) a0 9 (some q25)) 12 5) a0 10 (some q28)) 12 120) a0 11 (some q31)) 12 36) a0 12 (some q34)) 12 135) a0 13 (some q37)) 12 4) a0 14 (some q40)) 12 96) a0 18 (some q43)) 12 128) a0 30 (some q46)) 12 100) a0 31 (some q49)) 12 24) a0 32 (some q52)) 12 60) a0 33 (some q55)) 12 60) b61) ∧ (vp_in 5 (jl (jnew (jputr (jnew (jputr (jnew (jputr (jnew (jputr (jnew (jputr (jnew (jputr (jnew (jputr (jnew (jputr (jnew (jputr (jnew (jputr (jnew (jputr (jnew (jputr (jnew (jputr (jnew (jputr (jnew (jputr (jnew (jputr (jnew (jputr (jnew (jputr (jnew (jputr (jnew S 12 3135) a0 0 (some q1)) 12 3135) a0 1 (some q4)) 12 3135) a0 2 (some q7)) 12 4) a0 4 (some q10)) 12 4) a0 5 (some q13)) 12 96) a0 6 (some q16)) 12 5) a0 7 (some q19)) 12 5) a0 8 (some q22)) 12 5) a0 9 (some q25)) 12 5) a0 10 (some q28)) 12 120) a0 11 (some q31)) 12 36) a0 12 (some q34)) 12 135) a0 13 (some q37)) 12 4) a0 14 (some q40)) 12 96) a0 18 (some q43)) 12 128) a0 30 (some q46)) 12 100) a0 31 (some q49)) 12 24) a0 32 (some q52)) 12 60) a0 33 (some q55)) 12 60) b61) ∧ (L_X11_init_180 E d Q a0 0 (jput (jput (jputr (jnew (jputr (jnew (jputr (jnew (jputr (jnew (jputr (jnew (jputr (jnew (jputr (jnew (jputr (jnew (jputr (jnew (jputr (jnew (jputr (jnew (jputr (jnew (jputr (jnew (jputr (jnew (jputr (jnew (jputr (jnew (jputr (jnew (jputr (jnew (jputr (jnew (jputr (jnew S 12 3135) a0 0 (some q1)) 12 3135) a0 1 (some q4)) 12 3135) a0 2 (some q7)) 12 4) a0 4 (some q10)) 12 4) a0 5 (some q13)) 12 96) a0 6 (some q16)) 12 5) a0 7 (some q19)) 12 5) a0 8 (some q22)) 12 5) a0 9 (some q25)) 12 5) a0 10 (some q28)) 12 120) a0 11 (some q31)) 12 36) a0 12 (some q34)) 12 135) a0 13 (some q37)) 12 4) a0 14 (some q40)) 12 96) a0 18 (some q43)) 12 128) a0 30 (some q46)) 12 100) a0 31 (some q49)) 12 24) a0 32 (some q52)) 12 60) a0 33 (some q55)) 12 60) a0 35 (some q58)) b61 (Int32.toNatClampNeg 8) 1) b61 (Int32.toNatClampNeg 5) 100) 20 10292)))) : jFv E mX11_init (d + 1) 20 10292 [.ref a0] S Q := by
  refine jF_of (by decide) (jle rfl) ?_
  refine jx_lv (lv1 := [(0, .ref a0)]) [0] rfl ?_
  refine jx_aload_n 0 kd553.1 rfl rfl ?_
  refine jx_objInit jwM_X11_1 jwN_obj jwO_obj kd553.2.1 (jRok_m _ _ _) (jle rfl) ?_
  refine jx_aload_n 0 kd553.2.2.1 rfl rfl ?_
  refine jx_sipush (v := 3135) kd553.2.2.2.1 (by decide) ?_
  refine jx_newa (N := 3135) jwA kd553.2.2.2.2.1 (by decide) (by decide) (by decide) ⟨jle rfl, jle rfl⟩ ?_
  obtain ⟨q1, hq1⟩ : ∃ q, q = jn S := ⟨_, rfl⟩
  rw [← hq1]
  replace h := h q1 hq1
  obtain ⟨hk2, h⟩ := h
  refine jx_putrF jc_11 (j := 0) (by decide) rfl jwF_X11_7 rfl rfl rfl rfl rfl kd553.2.2.2.2.2.1 hk2 ?_
  refine jx_aload_n 0 kd553.2.2.2.2.2.2.1 rfl rfl ?_
  refine jx_sipush (v := 3135) kd553.2.2.2.2.2.2.2.1 (by decide) ?_
  refine jx_newa (N := 3135) jwA kd553.2.2.2.2.2.2.2.2.1 (by decide) (by decide) (by decide) ⟨jle rfl, jle rfl⟩ ?_
  obtain ⟨q4, hq4⟩ : ∃ q, q = jn (jputr (jnew S 12 3135) a0 0 (some q1)) := ⟨_, rfl⟩
  rw [← hq4]
  replace h := h q4 hq4
  obtain ⟨hk5, h⟩ := h
  refine jx_putrF jc_11 (j := 1) (by decide) rfl jwF_X11_13 rfl rfl rfl rfl rfl kd554.1 hk5 ?_
  refine jx_aload_n 0 kd554.2.1 rfl rfl ?_
  refine jx_sipush (v := 3135) kd554.2.2.1 (by decide) ?_
  refine jx_newa (N := 3135) jwA kd554.2.2.2.1 (by decide) (by decide) (by decide) ⟨jle rfl, jle rfl⟩ ?_
  obtain ⟨q7, hq7⟩ : ∃ q, q = jn (jputr (jnew (jputr (jnew S 12 3135) a0 0 (some q1)) 12 3135) a0 1 (some q4)) := ⟨_, rfl⟩
  rw [← hq7]
  replace h := h q7 hq7
  obtain ⟨hk8, h⟩ := h
  refine jx_putrF jc_11 (j := 2) (by decide) rfl jwF_X11_16 rfl rfl rfl rfl rfl kd554.2.2.2.2.1 hk8 ?_
  refine jx_aload_n 0 kd554.2.2.2.2.2.1 rfl rfl ?_
  refine jx_iconst (v := 4) kd554.2.2.2.2.2.2.1 (by decide) ?_
  refine jx_newa (N := 4) jwA kd554.2.2.2.2.2.2.2.1 (by decide) (by decide) (by decide) ⟨jle rfl, jle rfl⟩ ?_
  obtain ⟨q10, hq10⟩ : ∃ q, q = jn (jputr (jnew (jputr (jnew (jputr (jnew S 12 3135) a0 0 (some q1)) 12 3135) a0 1 (some q4)) 12 3135) a0 2 (some q7)) := ⟨_, rfl⟩
  rw [← hq10]
  replace h := h q10 hq10
  obtain ⟨hk11, h⟩ := h
  refine jx_putrF jc_11 (j := 4) (by decide) rfl jwF_X11_19 rfl rfl rfl rfl rfl kd554.2.2.2.2.2.2.2.2.1 hk11 ?_
  refine jx_aload_n 0 kd555.1 rfl rfl ?_
  refine jx_iconst (v := 4) kd555.2.1 (by decide) ?_
  refine jx_newa (N := 4) jwA kd555.2.2.1 (by decide) (by decide) (by decide) ⟨jle rfl, jle rfl⟩ ?_
  obtain ⟨q13, hq13⟩ : ∃ q, q = jn (jputr (jnew (jputr (jnew (jputr (jnew (jputr (jnew S 12 3135) a0 0 (some q1)) 12 3135) a0 1 (some q4)) 12 3135) a0 2 (some q7)) 12 4) a0 4 (some q10)) := ⟨_, rfl⟩
  rw [← hq13]
  replace h := h q13 hq13
  obtain ⟨hk14, h⟩ := h
  refine jx_putrF jc_11 (j := 5) (by decide) rfl jwF_X11_22 rfl rfl rfl rfl rfl kd555.2.2.2.1 hk14 ?_
  refine jx_aload_n 0 kd555.2.2.2.2.1 rfl rfl ?_
  refine jx_bipush (v := 96) kd555.2.2.2.2.2.1 (by decide) ?_
  refine jx_newa (N := 96) jwA kd555.2.2.2.2.2.2.1 (by decide) (by decide) (by decide) ⟨jle rfl, jle rfl⟩ ?_
  obtain ⟨q16, hq16⟩ : ∃ q, q = jn (jputr (jnew (jputr (jnew (jputr (jnew (jputr (jnew (jputr (jnew S 12 3135) a0 0 (some q1)) 12 3135) a0 1 (some q4)) 12 3135) a0 2 (some q7)) 12 4) a0 4 (some q10)) 12 4) a0 5 (some q13)) := ⟨_, rfl⟩
  rw [← hq16]
  replace h := h q16 hq16
  obtain ⟨hk17, h⟩ := h
  refine jx_putrF jc_11 (j := 6) (by decide) rfl jwF_X11_25 rfl rfl rfl rfl rfl kd555.2.2.2.2.2.2.2.1 hk17 ?_
  refine jx_aload_n 0 kd555.2.2.2.2.2.2.2.2.1 rfl rfl ?_
  refine jx_iconst (v := 5) kd556.1 (by decide) ?_
  refine jx_newa (N := 5) jwA kd556.2.1 (by decide) (by decide) (by decide) ⟨jle rfl, jle rfl⟩ ?_
  obtain ⟨q19, hq19⟩ : ∃ q, q = jn (jputr (jnew (jputr (jnew (jputr (jnew (jputr (jnew (jputr (jnew (jputr (jnew S 12 3135) a0 0 (some q1)) 12 3135) a0 1 (some q4)) 12 3135) a0 2 (some q7)) 12 4) a0 4 (some q10)) 12 4) a0 5 (some q13)) 12 96) a0 6 (some q16)) := ⟨_, rfl⟩
  rw [← hq19]
  replace h := h q19 hq19
  obtain ⟨hk20, h⟩ := h
  refine jx_putrF jc_11 (j := 7) (by decide) rfl jwF_X11_28 rfl rfl rfl rfl rfl kd556.2.2.1 hk20 ?_
  refine jx_aload_n 0 kd556.2.2.2.1 rfl rfl ?_
  refine jx_iconst (v := 5) kd556.2.2.2.2.1 (by decide) ?_
  refine jx_newa (N := 5) jwA kd556.2.2.2.2.2.1 (by decide) (by decide) (by decide) ⟨jle rfl, jle rfl⟩ ?_
  obtain ⟨q22, hq22⟩ : ∃ q, q = jn (jputr (jnew (jputr (jnew (jputr (jnew (jputr (jnew (jputr (jnew (jputr (jnew (jputr (jnew S 12 3135) a0 0 (some q1)) 12 3135) a0 1 (some q4)) 12 3135) a0 2 (some q7)) 12 4) a0 4 (some q10)) 12 4) a0 5 (some q13)) 12 96) a0 6 (some q16)) 12 5) a0 7 (some q19)) := ⟨_, rfl⟩
  rw [← hq22]
  replace h := h q22 hq22
  obtain ⟨hk23, h⟩ := h
  refine jx_putrF jc_11 (j := 8) (by decide) rfl jwF_X11_31 rfl rfl rfl rfl rfl kd556.2.2.2.2.2.2.1 hk23 ?_
  refine jx_aload_n 0 kd556.2.2.2.2.2.2.2.1 rfl rfl ?_
  refine jx_iconst (v := 5) kd556.2.2.2.2.2.2.2.2.1 (by decide) ?_
  refine jx_newa (N := 5) jwA kd557.1 (by decide) (by decide) (by decide) ⟨jle rfl, jle rfl⟩ ?_
  obtain ⟨q25, hq25⟩ : ∃ q, q = jn (jputr (jnew (jputr (jnew (jputr (jnew (jputr (jnew (jputr (jnew (jputr (jnew (jputr (jnew (jputr (jnew S 12 3135) a0 0 (some q1)) 12 3135) a0 1 (some q4)) 12 3135) a0 2 (some q7)) 12 4) a0 4 (some q10)) 12 4) a0 5 (some q13)) 12 96) a0 6 (some q16)) 12 5) a0 7 (some q19)) 12 5) a0 8 (some q22)) := ⟨_, rfl⟩
  rw [← hq25]
  replace h := h q25 hq25
  obtain ⟨hk26, h⟩ := h
  refine jx_putrF jc_11 (j := 9) (by decide) rfl jwF_X11_34 rfl rfl rfl rfl rfl kd557.2.1 hk26 ?_
  refine jx_aload_n 0 kd557.2.2.1 rfl rfl ?_
  refine jx_iconst (v := 5) kd557.2.2.2.1 (by decide) ?_
  refine jx_newa (N := 5) jwA kd557.2.2.2.2.1 (by decide) (by decide) (by decide) ⟨jle rfl, jle rfl⟩ ?_
  obtain ⟨q28, hq28⟩ : ∃ q, q = jn (jputr (jnew (jputr (jnew (jputr (jnew (jputr (jnew (jputr (jnew (jputr (jnew (jputr (jnew (jputr (jnew (jputr (jnew S 12 3135) a0 0 (some q1)) 12 3135) a0 1 (some q4)) 12 3135) a0 2 (some q7)) 12 4) a0 4 (some q10)) 12 4) a0 5 (some q13)) 12 96) a0 6 (some q16)) 12 5) a0 7 (some q19)) 12 5) a0 8 (some q22)) 12 5) a0 9 (some q25)) := ⟨_, rfl⟩
  rw [← hq28]
  replace h := h q28 hq28
  obtain ⟨hk29, h⟩ := h
  refine jx_putrF jc_11 (j := 10) (by decide) rfl jwF_X11_37 rfl rfl rfl rfl rfl kd557.2.2.2.2.2.1 hk29 ?_
  refine jx_aload_n 0 kd557.2.2.2.2.2.2.1 rfl rfl ?_
  refine jx_bipush (v := 120) kd557.2.2.2.2.2.2.2.1 (by decide) ?_
  refine jx_newa (N := 120) jwA kd557.2.2.2.2.2.2.2.2.1 (by decide) (by decide) (by decide) ⟨jle rfl, jle rfl⟩ ?_
  obtain ⟨q31, hq31⟩ : ∃ q, q = jn (jputr (jnew (jputr (jnew (jputr (jnew (jputr (jnew (jputr (jnew (jputr (jnew (jputr (jnew (jputr (jnew (jputr (jnew (jputr (jnew S 12 3135) a0 0 (some q1)) 12 3135) a0 1 (some q4)) 12 3135) a0 2 (some q7)) 12 4) a0 4 (some q10)) 12 4) a0 5 (some q13)) 12 96) a0 6 (some q16)) 12 5) a0 7 (some q19)) 12 5) a0 8 (some q22)) 12 5) a0 9 (some q25)) 12 5) a0 10 (some q28)) := ⟨_, rfl⟩
  rw [← hq31]
  replace h := h q31 hq31
  obtain ⟨hk32, h⟩ := h
  refine jx_putrF jc_11 (j := 11) (by decide) rfl jwF_X11_40 rfl rfl rfl rfl rfl kd558.1 hk32 ?_
  refine jx_aload_n 0 kd558.2.1 rfl rfl ?_
  refine jx_bipush (v := 36) kd558.2.2.1 (by decide) ?_
  refine jx_newa (N := 36) jwA kd558.2.2.2.1 (by decide) (by decide) (by decide) ⟨jle rfl, jle rfl⟩ ?_
  obtain ⟨q34, hq34⟩ : ∃ q, q = jn (jputr (jnew (jputr (jnew (jputr (jnew (jputr (jnew (jputr (jnew (jputr (jnew (jputr (jnew (jputr (jnew (jputr (jnew (jputr (jnew (jputr (jnew S 12 3135) a0 0 (some q1)) 12 3135) a0 1 (some q4)) 12 3135) a0 2 (some q7)) 12 4) a0 4 (some q10)) 12 4) a0 5 (some q13)) 12 96) a0 6 (some q16)) 12 5) a0 7 (some q19)) 12 5) a0 8 (some q22)) 12 5) a0 9 (some q25)) 12 5) a0 10 (some q28)) 12 120) a0 11 (some q31)) := ⟨_, rfl⟩
  rw [← hq34]
  replace h := h q34 hq34
  obtain ⟨hk35, h⟩ := h
  refine jx_putrF jc_11 (j := 12) (by decide) rfl jwF_X11_43 rfl rfl rfl rfl rfl kd558.2.2.2.2.1 hk35 ?_
  refine jx_aload_n 0 kd558.2.2.2.2.2.1 rfl rfl ?_
  refine jx_sipush (v := 135) kd558.2.2.2.2.2.2.1 (by decide) ?_
  refine jx_newa (N := 135) jwA kd558.2.2.2.2.2.2.2.1 (by decide) (by decide) (by decide) ⟨jle rfl, jle rfl⟩ ?_
  obtain ⟨q37, hq37⟩ : ∃ q, q = jn (jputr (jnew (jputr (jnew (jputr (jnew (jputr (jnew (jputr (jnew (jputr (jnew (jputr (jnew (jputr (jnew (jputr (jnew (jputr (jnew (jputr (jnew (jputr (jnew S 12 3135) a0 0 (some q1)) 12 3135) a0 1 (some q4)) 12 3135) a0 2 (some q7)) 12 4) a0 4 (some q10)) 12 4) a0 5 (some q13)) 12 96) a0 6 (some q16)) 12 5) a0 7 (some q19)) 12 5) a0 8 (some q22)) 12 5) a0 9 (some q25)) 12 5) a0 10 (some q28)) 12 120) a0 11 (some q31)) 12 36) a0 12 (some q34)) := ⟨_, rfl⟩
  rw [← hq37]
  replace h := h q37 hq37
  obtain ⟨hk38, h⟩ := h
  refine jx_putrF jc_11 (j := 13) (by decide) rfl jwF_X11_46 rfl rfl rfl rfl rfl kd558.2.2.2.2.2.2.2.2.1 hk38 ?_
  refine jx_aload_n 0 kd559.1 rfl rfl ?_
  refine jx_iconst (v := 4) kd559.2.1 (by decide) ?_
  refine jx_newa (N := 4) jwA kd559.2.2.1 (by decide) (by decide) (by decide) ⟨jle rfl, jle rfl⟩ ?_
  obtain ⟨q40, hq40⟩ : ∃ q, q = jn (jputr (jnew (jputr (jnew (jputr (jnew (jputr (jnew (jputr (jnew (jputr (jnew (jputr (jnew (jputr (jnew (jputr (jnew (jputr (jnew (jputr (jnew (jputr (jnew (jputr (jnew S 12 3135) a0 0 (some q1)) 12 3135) a0 1 (some q4)) 12 3135) a0 2 (some q7)) 12 4) a0 4 (some q10)) 12 4) a0 5 (some q13)) 12 96) a0 6 (some q16)) 12 5) a0 7 (some q19)) 12 5) a0 8 (some q22)) 12 5) a0 9 (some q25)) 12 5) a0 10 (some q28)) 12 120) a0 11 (some q31)) 12 36) a0 12 (some q34)) 12 135) a0 13 (some q37)) := ⟨_, rfl⟩
  rw [← hq40]
  replace h := h q40 hq40
  obtain ⟨hk41, h⟩ := h
  refine jx_putrF jc_11 (j := 14) (by decide) rfl jwF_X11_49 rfl rfl rfl rfl rfl kd559.2.2.2.1 hk41 ?_
  refine jx_aload_n 0 kd559.2.2.2.2.1 rfl rfl ?_
  refine jx_bipush (v := 96) kd559.2.2.2.2.2.1 (by decide) ?_
  refine jx_newa (N := 96) jwA kd559.2.2.2.2.2.2.1 (by decide) (by decide) (by decide) ⟨jle rfl, jle rfl⟩ ?_
  obtain ⟨q43, hq43⟩ : ∃ q, q = jn (jputr (jnew (jputr (jnew (jputr (jnew (jputr (jnew (jputr (jnew (jputr (jnew (jputr (jnew (jputr (jnew (jputr (jnew (jputr (jnew (jputr (jnew (jputr (jnew (jputr (jnew (jputr (jnew S 12 3135) a0 0 (some q1)) 12 3135) a0 1 (some q4)) 12 3135) a0 2 (some q7)) 12 4) a0 4 (some q10)) 12 4) a0 5 (some q13)) 12 96) a0 6 (some q16)) 12 5) a0 7 (some q19)) 12 5) a0 8 (some q22)) 12 5) a0 9 (some q25)) 12 5) a0 10 (some q28)) 12 120) a0 11 (some q31)) 12 36) a0 12 (some q34)) 12 135) a0 13 (some q37)) 12 4) a0 14 (some q40)) := ⟨_, rfl⟩
  rw [← hq43]
  replace h := h q43 hq43
  obtain ⟨hk44, h⟩ := h
  refine jx_putrF jc_11 (j := 18) (by decide) rfl jwF_X11_52 rfl rfl rfl rfl rfl kd559.2.2.2.2.2.2.2.1 hk44 ?_
  refine jx_aload_n 0 kd559.2.2.2.2.2.2.2.2.1 rfl rfl ?_
  refine jx_sipush (v := 128) kd560.1 (by decide) ?_
  refine jx_newa (N := 128) jwA kd560.2.1 (by decide) (by decide) (by decide) ⟨jle rfl, jle rfl⟩ ?_
  obtain ⟨q46, hq46⟩ : ∃ q, q = jn (jputr (jnew (jputr (jnew (jputr (jnew (jputr (jnew (jputr (jnew (jputr (jnew (jputr (jnew (jputr (jnew (jputr (jnew (jputr (jnew (jputr (jnew (jputr (jnew (jputr (jnew (jputr (jnew (jputr (jnew S 12 3135) a0 0 (some q1)) 12 3135) a0 1 (some q4)) 12 3135) a0 2 (some q7)) 12 4) a0 4 (some q10)) 12 4) a0 5 (some q13)) 12 96) a0 6 (some q16)) 12 5) a0 7 (some q19)) 12 5) a0 8 (some q22)) 12 5) a0 9 (some q25)) 12 5) a0 10 (some q28)) 12 120) a0 11 (some q31)) 12 36) a0 12 (some q34)) 12 135) a0 13 (some q37)) 12 4) a0 14 (some q40)) 12 96) a0 18 (some q43)) := ⟨_, rfl⟩
  rw [← hq46]
  replace h := h q46 hq46
  obtain ⟨hk47, h⟩ := h
  refine jx_putrF jc_11 (j := 30) (by decide) rfl jwF_X11_55 rfl rfl rfl rfl rfl kd560.2.2.1 hk47 ?_
  refine jx_aload_n 0 kd560.2.2.2.1 rfl rfl ?_
  refine jx_bipush (v := 100) kd560.2.2.2.2.1 (by decide) ?_
  refine jx_newa (N := 100) jwA kd560.2.2.2.2.2.1 (by decide) (by decide) (by decide) ⟨jle rfl, jle rfl⟩ ?_
  obtain ⟨q49, hq49⟩ : ∃ q, q = jn (jputr (jnew (jputr (jnew (jputr (jnew (jputr (jnew (jputr (jnew (jputr (jnew (jputr (jnew (jputr (jnew (jputr (jnew (jputr (jnew (jputr (jnew (jputr (jnew (jputr (jnew (jputr (jnew (jputr (jnew (jputr (jnew S 12 3135) a0 0 (some q1)) 12 3135) a0 1 (some q4)) 12 3135) a0 2 (some q7)) 12 4) a0 4 (some q10)) 12 4) a0 5 (some q13)) 12 96) a0 6 (some q16)) 12 5) a0 7 (some q19)) 12 5) a0 8 (some q22)) 12 5) a0 9 (some q25)) 12 5) a0 10 (some q28)) 12 120) a0 11 (some q31)) 12 36) a0 12 (some q34)) 12 135) a0 13 (some q37)) 12 4) a0 14 (some q40)) 12 96) a0 18 (some q43)) 12 128) a0 30 (some q46)) := ⟨_, rfl⟩
  rw [← hq49]
  replace h := h q49 hq49
  obtain ⟨hk50, h⟩ := h
  refine jx_putrF jc_11 (j := 31) (by decide) rfl jwF_X11_58 rfl rfl rfl rfl rfl kd560.2.2.2.2.2.2.1 hk50 ?_
  refine jx_aload_n 0 kd560.2.2.2.2.2.2.2.1 rfl rfl ?_
  refine jx_bipush (v := 24) kd560.2.2.2.2.2.2.2.2.1 (by decide) ?_
  refine jx_newa (N := 24) jwA kd561.1 (by decide) (by decide) (by decide) ⟨jle rfl, jle rfl⟩ ?_
  obtain ⟨q52, hq52⟩ : ∃ q, q = jn (jputr (jnew (jputr (jnew (jputr (jnew (jputr (jnew (jputr (jnew (jputr (jnew (jputr (jnew (jputr (jnew (jputr (jnew (jputr (jnew (jputr (jnew (jputr (jnew (jputr (jnew (jputr (jnew (jputr (jnew (jputr (jnew (jputr (jnew S 12 3135) a0 0 (some q1)) 12 3135) a0 1 (some q4)) 12 3135) a0 2 (some q7)) 12 4) a0 4 (some q10)) 12 4) a0 5 (some q13)) 12 96) a0 6 (some q16)) 12 5) a0 7 (some q19)) 12 5) a0 8 (some q22)) 12 5) a0 9 (some q25)) 12 5) a0 10 (some q28)) 12 120) a0 11 (some q31)) 12 36) a0 12 (some q34)) 12 135) a0 13 (some q37)) 12 4) a0 14 (some q40)) 12 96) a0 18 (some q43)) 12 128) a0 30 (some q46)) 12 100) a0 31 (some q49)) := ⟨_, rfl⟩
  rw [← hq52]
  replace h := h q52 hq52
  obtain ⟨hk53, h⟩ := h
  refine jx_putrF jc_11 (j := 32) (by decide) rfl jwF_X11_61 rfl rfl rfl rfl rfl kd561.2.1 hk53 ?_
  refine jx_aload_n 0 kd561.2.2.1 rfl rfl ?_
  refine jx_bipush (v := 60) kd561.2.2.2.1 (by decide) ?_
  refine jx_newa (N := 60) jwA kd561.2.2.2.2.1 (by decide) (by decide) (by decide) ⟨jle rfl, jle rfl⟩ ?_
  obtain ⟨q55, hq55⟩ : ∃ q, q = jn (jputr (jnew (jputr (jnew (jputr (jnew (jputr (jnew (jputr (jnew (jputr (jnew (jputr (jnew (jputr (jnew (jputr (jnew (jputr (jnew (jputr (jnew (jputr (jnew (jputr (jnew (jputr (jnew (jputr (jnew (jputr (jnew (jputr (jnew (jputr (jnew S 12 3135) a0 0 (some q1)) 12 3135) a0 1 (some q4)) 12 3135) a0 2 (some q7)) 12 4) a0 4 (some q10)) 12 4) a0 5 (some q13)) 12 96) a0 6 (some q16)) 12 5) a0 7 (some q19)) 12 5) a0 8 (some q22)) 12 5) a0 9 (some q25)) 12 5) a0 10 (some q28)) 12 120) a0 11 (some q31)) 12 36) a0 12 (some q34)) 12 135) a0 13 (some q37)) 12 4) a0 14 (some q40)) 12 96) a0 18 (some q43)) 12 128) a0 30 (some q46)) 12 100) a0 31 (some q49)) 12 24) a0 32 (some q52)) := ⟨_, rfl⟩
  rw [← hq55]
  replace h := h q55 hq55
  obtain ⟨hk56, h⟩ := h
  refine jx_putrF jc_11 (j := 33) (by decide) rfl jwF_X11_64 rfl rfl rfl rfl rfl kd561.2.2.2.2.2.1 hk56 ?_
  refine jx_aload_n 0 kd561.2.2.2.2.2.2.1 rfl rfl ?_
  refine jx_bipush (v := 60) kd561.2.2.2.2.2.2.2.1 (by decide) ?_
  refine jx_newa (N := 60) jwA kd561.2.2.2.2.2.2.2.2.1 (by decide) (by decide) (by decide) ⟨jle rfl, jle rfl⟩ ?_
  obtain ⟨q58, hq58⟩ : ∃ q, q = jn (jputr (jnew (jputr (jnew (jputr (jnew (jputr (jnew (jputr (jnew (jputr (jnew (jputr (jnew (jputr (jnew (jputr (jnew (jputr (jnew (jputr (jnew (jputr (jnew (jputr (jnew (jputr (jnew (jputr (jnew (jputr (jnew (jputr (jnew (jputr (jnew (jputr (jnew S 12 3135) a0 0 (some q1)) 12 3135) a0 1 (some q4)) 12 3135) a0 2 (some q7)) 12 4) a0 4 (some q10)) 12 4) a0 5 (some q13)) 12 96) a0 6 (some q16)) 12 5) a0 7 (some q19)) 12 5) a0 8 (some q22)) 12 5) a0 9 (some q25)) 12 5) a0 10 (some q28)) 12 120) a0 11 (some q31)) 12 36) a0 12 (some q34)) 12 135) a0 13 (some q37)) 12 4) a0 14 (some q40)) 12 96) a0 18 (some q43)) 12 128) a0 30 (some q46)) 12 100) a0 31 (some q49)) 12 24) a0 32 (some q52)) 12 60) a0 33 (some q55)) := ⟨_, rfl⟩
  rw [← hq58]
  replace h := h q58 hq58
  obtain ⟨hk59, h⟩ := h
  refine jx_putrF jc_11 (j := 35) (by decide) rfl jwF_X11_67 rfl rfl rfl rfl rfl kd562.1 hk59 ?_
  refine jx_aload_n 0 kd562.2.1 rfl rfl ?_
  obtain ⟨b61, hb61, h⟩ := h
  refine jx_getr jc_11 (j := 0) (by decide) rfl jwF_X11_7 kd562.2.2.1 hk59 hb61 ?_
  refine jx_bipush (v := 8) kd562.2.2.2.1 (by decide) ?_
  refine jx_iconst (v := 1) kd562.2.2.2.2.1 (by decide) ?_
  obtain ⟨hk62, h⟩ := h
  obtain ⟨hi63, h⟩ := h
  refine jx_iast kd562.2.2.2.2.2.1 hk62 hi63 ?_
  refine jx_aload_n 0 kd562.2.2.2.2.2.2.1 rfl rfl ?_
  refine jx_getr jc_11 (j := 0) (by decide) rfl jwF_X11_7 kd562.2.2.2.2.2.2.2.1 hk59 hb61 ?_
  refine jx_iconst (v := 5) kd562.2.2.2.2.2.2.2.2.1 (by decide) ?_
  refine jx_bipush (v := 100) kd563.1 (by decide) ?_
  obtain ⟨hi64, h⟩ := h
  refine jx_iast kd563.2.1 hk62 hi64 ?_
  refine jx_iconst (v := 0) kd563.2.2.1 (by decide) ?_
  refine jx_istore_n (lv1 := [(1, .int 0), (0, .ref a0)]) kd563.2.2.2.1 rfl (by decide) rfl ?_
  exact jx_lv [1, 0] rfl h
set_option maxRecDepth 100000 in
set_option maxHeartbeats 4000000 in
theorem T_X11_init_180 {E : jEnv} {d : Nat} {Q : jM → Prop} {a0 : Nat} {x1 : Int32} {S : jM} {c9 k9 : Nat} (h : (4 ≤ x1 → (c9 ≤ 20 ∧ k9 ≤ 10292) ∧ Q S) ∧ (¬ 4 ≤ x1 → jk S a0 = 11 ∧ ∃ b68, jr S a0 4 = some b68 ∧ (jk S b68 = 12 ∧ vp_in x1 (jl S b68) ∧ (L_X11_init_180 E d Q a0 (x1 + 1) (jput S b68 (Int32.toNatClampNeg x1) (-1)) c9 k9)))) : L_X11_init_180 E d Q a0 x1 S c9 k9 := by
  show jX E mX11_init (jRm (d + 1) 20 10292) (jZm E (fun r S' => r = none ∧ Q S') 20 10292) 180 [(0, .ref a0), (1, .int x1)] [] S c9 k9
  refine jx_iload_n 1 kd563.2.2.2.2.1 rfl rfl ?_
  refine jx_iconst (v := 4) kd563.2.2.2.2.2.1 (by decide) ?_
  refine jx_icmp_ge (tgt := 198) kd563.2.2.2.2.2.2.1 (by decide) (fun c65 => ?_) (fun c65 => ?_)
  · replace h := h.1 c65
    obtain ⟨hm66, h⟩ := h
    exact jx_vret kd564.2.2.2.2.2.1 rfl hm66.1 hm66.2 ⟨rfl, h⟩
  replace h := h.2 c65
  refine jx_aload_n 0 kd563.2.2.2.2.2.2.2.1 rfl rfl ?_
  obtain ⟨hk67, h⟩ := h
  obtain ⟨b68, hb68, h⟩ := h
  refine jx_getr jc_11 (j := 4) (by decide) rfl jwF_X11_19 kd563.2.2.2.2.2.2.2.2.1 hk67 hb68 ?_
  refine jx_iload_n 1 kd564.1 rfl rfl ?_
  refine jx_iconst (v := (-1)) kd564.2.1 (by decide) ?_
  obtain ⟨hk69, h⟩ := h
  obtain ⟨hi70, h⟩ := h
  refine jx_iast kd564.2.2.1 hk69 hi70 ?_
  refine jx_iinc 1 (v := (x1 + 1)) (lv1 := [(1, .int (x1 + 1)), (0, .ref a0)]) kd564.2.2.2.1 rfl rfl (by decide) rfl ?_
  refine jx_goto (tgt := 180) kd564.2.2.2.2.1 (by decide) ?_
  exact jx_lv [1, 0] rfl h
set_option maxRecDepth 100000 in
set_option maxHeartbeats 4000000 in
theorem T_X11_becomes {E : jEnv} {d : Nat} {Q : Int32 → jM → Prop} {a0 : Nat} {x1 : Int32} {x2 : Int32} {S : jM} (h : jk S a0 = 11 ∧ ∃ b2, jr S a0 0 = some b2 ∧ (jk S b2 = 12 ∧ vp_in x1 (jl S b2) ∧ ((Q (ji S b2 (Int32.toNatClampNeg x1)) (jput S b2 (Int32.toNatClampNeg x1) x2))))) : jFi E mX11_becomes d 0 0 [.ref a0, .int x1, .int x2] S Q := by
  refine jF_of (by decide) (jle rfl) ?_
  refine jx_lv (lv1 := [(0, .ref a0), (1, .int x1), (2, .int x2)]) [0, 1, 2] rfl ?_
  refine jx_aload_n 0 kd574.1 rfl rfl ?_
  obtain ⟨hk1, h⟩ := h
  obtain ⟨b2, hb2, h⟩ := h
  refine jx_getr jc_11 (j := 0) (by decide) rfl jwF_X11_7 kd574.2.1 hk1 hb2 ?_
  refine jx_iload_n 1 kd574.2.2.1 rfl rfl ?_
  obtain ⟨hk3, h⟩ := h
  obtain ⟨hi4, h⟩ := h
  refine jx_iald kd574.2.2.2.1 hk3 hi4 ?_
  refine jx_istore_n (lv1 := [(3, .int (ji S b2 (Int32.toNatClampNeg x1))), (0, .ref a0), (1, .int x1), (2, .int x2)]) kd574.2.2.2.2.1 rfl (by decide) rfl ?_
  refine jx_aload_n 1 kd574.2.2.2.2.2.1 rfl rfl ?_
  refine jx_getr jc_11 (j := 0) (by decide) rfl jwF_X11_7 kd574.2.2.2.2.2.2.1 hk1 hb2 ?_
  refine jx_iload_n 2 kd574.2.2.2.2.2.2.2.1 rfl rfl ?_
  refine jx_iload_n 3 kd574.2.2.2.2.2.2.2.2.1 rfl rfl ?_
  refine jx_iast kd575.1 hk3 hi4 ?_
  refine jx_iload_n 0 kd575.2.1 rfl rfl ?_
  exact jx_iret kd575.2.2.1 rfl rfl (jle rfl) (jle rfl) ⟨_, rfl, h⟩
set_option maxRecDepth 100000 in
set_option maxHeartbeats 4000000 in
theorem T_X11_of {E : jEnv} {d : Nat} {Q : Int32 → jM → Prop} {a0 : Nat} {x1 : Int32} {x2 : Int32} {S : jM} (h : jk S a0 = 11 ∧ ∃ b2, jr S a0 0 = some b2 ∧ (jk S b2 = 12 ∧ vp_in ((72 + (7 * x1)) + x2) (jl S b2) ∧ (Q (ji S b2 (Int32.toNatClampNeg ((72 + (7 * x1)) + x2))) S))) : jFi E mX11_of d 0 0 [.ref a0, .int x1, .int x2] S Q := by
  refine jF_of (by decide) (jle rfl) ?_
  refine jx_lv (lv1 := [(0, .ref a0), (1, .int x1), (2, .int x2)]) [0, 1, 2] rfl ?_
  refine jx_aload_n 0 kd577.1 rfl rfl ?_
  obtain ⟨hk1, h⟩ := h
  obtain ⟨b2, hb2, h⟩ := h
  refine jx_getr jc_11 (j := 0) (by decide) rfl jwF_X11_7 kd577.2.1 hk1 hb2 ?_
  refine jx_bipush (v := 72) kd577.2.2.1 (by decide) ?_
  refine jx_bipush (v := 7) kd577.2.2.2.1 (by decide) ?_
  refine jx_iload_n 1 kd577.2.2.2.2.1 rfl rfl ?_
  refine jx_imul kd577.2.2.2.2.2.1 ?_
  refine jx_iadd kd577.2.2.2.2.2.2.1 ?_
  refine jx_iload_n 2 kd577.2.2.2.2.2.2.2.1 rfl rfl ?_
  refine jx_iadd kd577.2.2.2.2.2.2.2.2.1 ?_
  obtain ⟨hk3, h⟩ := h
  obtain ⟨hi4, h⟩ := h
  refine jx_iald kd578.1 hk3 hi4 ?_
  exact jx_iret kd578.2.1 rfl rfl (jle rfl) (jle rfl) ⟨_, rfl, h⟩
set_option maxRecDepth 100000 in
set_option maxHeartbeats 4000000 in
theorem T_X11_isMaster {E : jEnv} {d : Nat} {Q : Int32 → jM → Prop} {a0 : Nat} {x1 : Int32} {S : jM} (h : jk S a0 = 11 ∧ ∃ b2, jr S a0 0 = some b2 ∧ (jk S b2 = 12 ∧ vp_in 0 (jl S b2) ∧ (((jisin (Int32.toInt64 x1) 0 (Int32.toInt64 ((ji S b2 (Int32.toNatClampNeg 0)) - 1))) = 0 ∨ (jisin (Int32.toInt64 x1) 0 (Int32.toInt64 ((ji S b2 (Int32.toNatClampNeg 0)) - 1))) = 1) ∧ Q (jisin (Int32.toInt64 x1) 0 (Int32.toInt64 ((ji S b2 (Int32.toNatClampNeg 0)) - 1))) S))) : jFi E mX11_isMaster (d + 1) 0 0 [.ref a0, .int x1] S Q := by
  refine jF_of (by decide) (jle rfl) ?_
  refine jx_lv (lv1 := [(0, .ref a0), (1, .int x1)]) [0, 1] rfl ?_
  refine jx_iload_n 1 kd579.1 rfl rfl ?_
  refine jx_i2l kd579.2.1 ?_
  refine jx_lconst (v := 0) kd579.2.2.1 (by decide) ?_
  refine jx_aload_n 0 kd579.2.2.2.1 rfl rfl ?_
  obtain ⟨hk1, h⟩ := h
  obtain ⟨b2, hb2, h⟩ := h
  refine jx_getr jc_11 (j := 0) (by decide) rfl jwF_X11_7 kd579.2.2.2.2.1 hk1 hb2 ?_
  refine jx_iconst (v := 0) kd579.2.2.2.2.2.1 (by decide) ?_
  obtain ⟨hk3, h⟩ := h
  obtain ⟨hi4, h⟩ := h
  refine jx_iald kd579.2.2.2.2.2.2.1 hk3 hi4 ?_
  refine jx_iconst (v := 1) kd579.2.2.2.2.2.2.2.1 (by decide) ?_
  refine jx_isub kd579.2.2.2.2.2.2.2.2.1 ?_
  refine jx_i2l kd580.1 ?_
  refine jx_callSi (M' := mX11_isIn) (As := [.long (Int32.toInt64 x1), .long 0, .long (Int32.toInt64 ((ji S b2 (Int32.toNatClampNeg 0)) - 1))]) jo_X11_isIn jwM_X11_71 jwS_X11_isIn kd580.2.1 (jRok_m _ _ _) rfl (jle rfl) ⟨jle rfl, jle rfl⟩ (c_X11_isIn (Q := fun v S' => v = (jisin (Int32.toInt64 x1) 0 (Int32.toInt64 ((ji S b2 (Int32.toNatClampNeg 0)) - 1))) ∧ S = S') ⟨rfl, rfl⟩) (fun r5 S6 hq7 => ?_)
  obtain ⟨rfl, rfl⟩ := hq7
  obtain ⟨hb8, h⟩ := h
  exact jx_iret kd580.2.2.1 rfl (jb_nar hb8) (jle rfl) (jle rfl) ⟨_, rfl, h⟩
set_option maxRecDepth 100000 in
set_option maxHeartbeats 4000000 in
theorem T_X11_isText {E : jEnv} {d : Nat} {Q : Int32 → jM → Prop} {a0 : Nat} {x1 : Int32} {S : jM} (h : jk S a0 = 11 ∧ ∃ b2, jr S a0 0 = some b2 ∧ (jk S b2 = 12 ∧ vp_in 1 (jl S b2) ∧ (((jisin (Int32.toInt64 x1) 0 (Int32.toInt64 ((ji S b2 (Int32.toNatClampNeg 1)) - 1))) = 0 ∨ (jisin (Int32.toInt64 x1) 0 (Int32.toInt64 ((ji S b2 (Int32.toNatClampNeg 1)) - 1))) = 1) ∧ Q (jisin (Int32.toInt64 x1) 0 (Int32.toInt64 ((ji S b2 (Int32.toNatClampNeg 1)) - 1))) S))) : jFi E mX11_isText (d + 1) 0 0 [.ref a0, .int x1] S Q := by
  refine jF_of (by decide) (jle rfl) ?_
  refine jx_lv (lv1 := [(0, .ref a0), (1, .int x1)]) [0, 1] rfl ?_
  refine jx_iload_n 1 kd583.1 rfl rfl ?_
  refine jx_i2l kd583.2.1 ?_
  refine jx_lconst (v := 0) kd583.2.2.1 (by decide) ?_
  refine jx_aload_n 0 kd583.2.2.2.1 rfl rfl ?_
  obtain ⟨hk1, h⟩ := h
  obtain ⟨b2, hb2, h⟩ := h
  refine jx_getr jc_11 (j := 0) (by decide) rfl jwF_X11_7 kd583.2.2.2.2.1 hk1 hb2 ?_
  refine jx_iconst (v := 1) kd583.2.2.2.2.2.1 (by decide) ?_
  obtain ⟨hk3, h⟩ := h
  obtain ⟨hi4, h⟩ := h
  refine jx_iald kd583.2.2.2.2.2.2.1 hk3 hi4 ?_
  refine jx_iconst (v := 1) kd583.2.2.2.2.2.2.2.1 (by decide) ?_
  refine jx_isub kd583.2.2.2.2.2.2.2.2.1 ?_
  refine jx_i2l kd584.1 ?_
  refine jx_callSi (M' := mX11_isIn) (As := [.long (Int32.toInt64 x1), .long 0, .long (Int32.toInt64 ((ji S b2 (Int32.toNatClampNeg 1)) - 1))]) jo_X11_isIn jwM_X11_71 jwS_X11_isIn kd584.2.1 (jRok_m _ _ _) rfl (jle rfl) ⟨jle rfl, jle rfl⟩ (c_X11_isIn (Q := fun v S' => v = (jisin (Int32.toInt64 x1) 0 (Int32.toInt64 ((ji S b2 (Int32.toNatClampNeg 1)) - 1))) ∧ S = S') ⟨rfl, rfl⟩) (fun r5 S6 hq7 => ?_)
  obtain ⟨rfl, rfl⟩ := hq7
  obtain ⟨hb8, h⟩ := h
  exact jx_iret kd584.2.2.1 rfl (jb_nar hb8) (jle rfl) (jle rfl) ⟨_, rfl, h⟩
set_option maxRecDepth 100000 in
set_option maxHeartbeats 4000000 in
theorem T_X11_drawn {E : jEnv} {d : Nat} {Q : Int32 → jM → Prop} {a0 : Nat} {S : jM} (h : jk S a0 = 11 ∧ ∃ b2, jr S a0 0 = some b2 ∧ (jk S b2 = 12 ∧ vp_in 8 (jl S b2) ∧ (((Q (jushr (((ji S b2 (Int32.toNatClampNeg 8)) * 1103515245) + 12345) 8) (jput S b2 (Int32.toNatClampNeg 8) (((ji S b2 (Int32.toNatClampNeg 8)) * 1103515245) + 12345))))))) : jFi E mX11_drawn d 0 0 [.ref a0] S Q := by
  refine jF_of (by decide) (jle rfl) ?_
  refine jx_lv (lv1 := [(0, .ref a0)]) [0] rfl ?_
  refine jx_aload_n 0 kd585.1 rfl rfl ?_
  obtain ⟨hk1, h⟩ := h
  obtain ⟨b2, hb2, h⟩ := h
  refine jx_getr jc_11 (j := 0) (by decide) rfl jwF_X11_7 kd585.2.1 hk1 hb2 ?_
  refine jx_bipush (v := 8) kd585.2.2.1 (by decide) ?_
  refine jx_aload_n 0 kd585.2.2.2.1 rfl rfl ?_
  refine jx_getr jc_11 (j := 0) (by decide) rfl jwF_X11_7 kd585.2.2.2.2.1 hk1 hb2 ?_
  refine jx_bipush (v := 8) kd585.2.2.2.2.2.1 (by decide) ?_
  obtain ⟨hk3, h⟩ := h
  obtain ⟨hi4, h⟩ := h
  refine jx_iald kd585.2.2.2.2.2.2.1 hk3 hi4 ?_
  refine jx_ldc jwC_X11_75 kd585.2.2.2.2.2.2.2.1 ?_
  refine jx_imul kd585.2.2.2.2.2.2.2.2.1 ?_
  refine jx_sipush (v := 12345) kd586.1 (by decide) ?_
  refine jx_iadd kd586.2.1 ?_
  refine jx_iast kd586.2.2.1 hk3 hi4 ?_
  refine jx_aload_n 0 kd586.2.2.2.1 rfl rfl ?_
  refine jx_getr jc_11 (j := 0) (by decide) rfl jwF_X11_7 kd586.2.2.2.2.1 hk1 hb2 ?_
  refine jx_bipush (v := 8) kd586.2.2.2.2.2.1 (by decide) ?_
  refine jx_iald kd586.2.2.2.2.2.2.1 hk3 hi4 ?_
  refine jx_topi (y := (((ji S b2 (Int32.toNatClampNeg 8)) * 1103515245) + 12345)) (by simp [ji_put, ji_row, ji_putr]) ?_
  refine jx_bipush (v := 8) kd586.2.2.2.2.2.2.2.1 (by decide) ?_
  refine jx_iushr kd586.2.2.2.2.2.2.2.2.1 ?_
  exact jx_iret kd587.1 rfl rfl (jle rfl) (jle rfl) ⟨_, rfl, h⟩
set_option maxRecDepth 100000 in
set_option maxHeartbeats 4000000 in
theorem T_X11_comes {E : jEnv} {d : Nat} {Q : jM → Prop} {a0 : Nat} {x1 : Int32} {x2 : Int32} {x3 : Int32} {x4 : Int32} {S : jM} (h : jk S a0 = 11 ∧ ∃ b2, jr S a0 0 = some b2 ∧ (jk S b2 = 12 ∧ vp_in 0 (jl S b2) ∧ (vp_in (72 + (7 * (ji S b2 (Int32.toNatClampNeg 0)))) (jl S b2) ∧ (vp_in ((72 + (7 * (ji S b2 (Int32.toNatClampNeg 0)))) + 1) (jl S b2) ∧ (vp_in ((72 + (7 * (ji S b2 (Int32.toNatClampNeg 0)))) + 2) (jl S b2) ∧ (vp_in ((72 + (7 * (ji S b2 (Int32.toNatClampNeg 0)))) + 3) (jl S b2) ∧ (vp_in ((72 + (7 * (ji S b2 (Int32.toNatClampNeg 0)))) + 4) (jl S b2) ∧ (vp_in ((72 + (7 * (ji S b2 (Int32.toNatClampNeg 0)))) + 5) (jl S b2) ∧ (vp_in ((72 + (7 * (ji S b2 (Int32.toNatClampNeg 0)))) + 6) (jl S b2) ∧ (((Q (jput (jput (jput (jput (jput (jput (jput (jput S b2 (Int32.toNatClampNeg (72 + (7 * (ji S b2 (Int32.toNatClampNeg 0))))) x1) b2 (Int32.toNatClampNeg ((72 + (7 * (ji S b2 (Int32.toNatClampNeg 0)))) + 1)) x2) b2 (Int32.toNatClampNeg ((72 + (7 * (ji S b2 (Int32.toNatClampNeg 0)))) + 2)) x3) b2 (Int32.toNatClampNeg ((72 + (7 * (ji S b2 (Int32.toNatClampNeg 0)))) + 3)) 0) b2 (Int32.toNatClampNeg ((72 + (7 * (ji S b2 (Int32.toNatClampNeg 0)))) + 4)) x4) b2 (Int32.toNatClampNeg ((72 + (7 * (ji S b2 (Int32.toNatClampNeg 0)))) + 5)) 40) b2 (Int32.toNatClampNeg ((72 + (7 * (ji S b2 (Int32.toNatClampNeg 0)))) + 6)) 0) b2 (Int32.toNatClampNeg 0) ((ji (jput (jput (jput (jput (jput (jput (jput S b2 (Int32.toNatClampNeg (72 + (7 * (ji S b2 (Int32.toNatClampNeg 0))))) x1) b2 (Int32.toNatClampNeg ((72 + (7 * (ji S b2 (Int32.toNatClampNeg 0)))) + 1)) x2) b2 (Int32.toNatClampNeg ((72 + (7 * (ji S b2 (Int32.toNatClampNeg 0)))) + 2)) x3) b2 (Int32.toNatClampNeg ((72 + (7 * (ji S b2 (Int32.toNatClampNeg 0)))) + 3)) 0) b2 (Int32.toNatClampNeg ((72 + (7 * (ji S b2 (Int32.toNatClampNeg 0)))) + 4)) x4) b2 (Int32.toNatClampNeg ((72 + (7 * (ji S b2 (Int32.toNatClampNeg 0)))) + 5)) 40) b2 (Int32.toNatClampNeg ((72 + (7 * (ji S b2 (Int32.toNatClampNeg 0)))) + 6)) 0) b2 (Int32.toNatClampNeg 0)) + 1)))))))))))))) : jFv E mX11_comes d 0 0 [.ref a0, .int x1, .int x2, .int x3, .int x4] S Q := by
  refine jF_of (by decide) (jle rfl) ?_
  refine jx_lv (lv1 := [(0, .ref a0), (1, .int x1), (2, .int x2), (3, .int x3), (4, .int x4)]) [0, 1, 2, 3, 4] rfl ?_
  refine jx_bipush (v := 72) kd588.1 (by decide) ?_
  refine jx_bipush (v := 7) kd588.2.1 (by decide) ?_
  refine jx_aload_n 0 kd588.2.2.1 rfl rfl ?_
  obtain ⟨hk1, h⟩ := h
  obtain ⟨b2, hb2, h⟩ := h
  refine jx_getr jc_11 (j := 0) (by decide) rfl jwF_X11_7 kd588.2.2.2.1 hk1 hb2 ?_
  refine jx_iconst (v := 0) kd588.2.2.2.2.1 (by decide) ?_
  obtain ⟨hk3, h⟩ := h
  obtain ⟨hi4, h⟩ := h
  refine jx_iald kd588.2.2.2.2.2.1 hk3 hi4 ?_
  refine jx_imul kd588.2.2.2.2.2.2.1 ?_
  refine jx_iadd kd588.2.2.2.2.2.2.2.1 ?_
  refine jx_istore (lv1 := [(5, .int (72 + (7 * (ji S b2 (Int32.toNatClampNeg 0))))), (0, .ref a0), (1, .int x1), (2, .int x2), (3, .int x3), (4, .int x4)]) kd588.2.2.2.2.2.2.2.2.1 (by decide) rfl ?_
  refine jx_aload_n 1 kd589.1 rfl rfl ?_
  refine jx_getr jc_11 (j := 0) (by decide) rfl jwF_X11_7 kd589.2.1 hk1 hb2 ?_
  refine jx_iload 0 kd589.2.2.1 rfl ?_
  refine jx_iload_n 2 kd589.2.2.2.1 rfl rfl ?_
  obtain ⟨hi5, h⟩ := h
  refine jx_iast kd589.2.2.2.2.1 hk3 hi5 ?_
  refine jx_aload_n 1 kd589.2.2.2.2.2.1 rfl rfl ?_
  refine jx_getr jc_11 (j := 0) (by decide) rfl jwF_X11_7 kd589.2.2.2.2.2.2.1 hk1 hb2 ?_
  refine jx_iload 0 kd589.2.2.2.2.2.2.2.1 rfl ?_
  refine jx_iconst (v := 1) kd589.2.2.2.2.2.2.2.2.1 (by decide) ?_
  refine jx_iadd kd590.1 ?_
  refine jx_iload_n 3 kd590.2.1 rfl rfl ?_
  obtain ⟨hi6, h⟩ := h
  refine jx_iast kd590.2.2.1 hk3 hi6 ?_
  refine jx_aload_n 1 kd590.2.2.2.1 rfl rfl ?_
  refine jx_getr jc_11 (j := 0) (by decide) rfl jwF_X11_7 kd590.2.2.2.2.1 hk1 hb2 ?_
  refine jx_iload 0 kd590.2.2.2.2.2.1 rfl ?_
  refine jx_iconst (v := 2) kd590.2.2.2.2.2.2.1 (by decide) ?_
  refine jx_iadd kd590.2.2.2.2.2.2.2.1 ?_
  refine jx_iload_n 4 kd590.2.2.2.2.2.2.2.2.1 rfl rfl ?_
  obtain ⟨hi7, h⟩ := h
  refine jx_iast kd591.1 hk3 hi7 ?_
  refine jx_aload_n 1 kd591.2.1 rfl rfl ?_
  refine jx_getr jc_11 (j := 0) (by decide) rfl jwF_X11_7 kd591.2.2.1 hk1 hb2 ?_
  refine jx_iload 0 kd591.2.2.2.1 rfl ?_
  refine jx_iconst (v := 3) kd591.2.2.2.2.1 (by decide) ?_
  refine jx_iadd kd591.2.2.2.2.2.1 ?_
  refine jx_iconst (v := 0) kd591.2.2.2.2.2.2.1 (by decide) ?_
  obtain ⟨hi8, h⟩ := h
  refine jx_iast kd591.2.2.2.2.2.2.2.1 hk3 hi8 ?_
  refine jx_aload_n 1 kd591.2.2.2.2.2.2.2.2.1 rfl rfl ?_
  refine jx_getr jc_11 (j := 0) (by decide) rfl jwF_X11_7 kd592.1 hk1 hb2 ?_
  refine jx_iload 0 kd592.2.1 rfl ?_
  refine jx_iconst (v := 4) kd592.2.2.1 (by decide) ?_
  refine jx_iadd kd592.2.2.2.1 ?_
  refine jx_iload 5 kd592.2.2.2.2.1 rfl ?_
  obtain ⟨hi9, h⟩ := h
  refine jx_iast kd592.2.2.2.2.2.1 hk3 hi9 ?_
  refine jx_aload_n 1 kd592.2.2.2.2.2.2.1 rfl rfl ?_
  refine jx_getr jc_11 (j := 0) (by decide) rfl jwF_X11_7 kd592.2.2.2.2.2.2.2.1 hk1 hb2 ?_
  refine jx_iload 0 kd592.2.2.2.2.2.2.2.2.1 rfl ?_
  refine jx_iconst (v := 5) kd593.1 (by decide) ?_
  refine jx_iadd kd593.2.1 ?_
  refine jx_bipush (v := 40) kd593.2.2.1 (by decide) ?_
  obtain ⟨hi10, h⟩ := h
  refine jx_iast kd593.2.2.2.1 hk3 hi10 ?_
  refine jx_aload_n 1 kd593.2.2.2.2.1 rfl rfl ?_
  refine jx_getr jc_11 (j := 0) (by decide) rfl jwF_X11_7 kd593.2.2.2.2.2.1 hk1 hb2 ?_
  refine jx_iload 0 kd593.2.2.2.2.2.2.1 rfl ?_
  refine jx_bipush (v := 6) kd593.2.2.2.2.2.2.2.1 (by decide) ?_
  refine jx_iadd kd593.2.2.2.2.2.2.2.2.1 ?_
  refine jx_iconst (v := 0) kd594.1 (by decide) ?_
  obtain ⟨hi11, h⟩ := h
  refine jx_iast kd594.2.1 hk3 hi11 ?_
  refine jx_aload_n 1 kd594.2.2.1 rfl rfl ?_
  refine jx_getr jc_11 (j := 0) (by decide) rfl jwF_X11_7 kd594.2.2.2.1 hk1 hb2 ?_
  refine jx_iconst (v := 0) kd594.2.2.2.2.1 (by decide) ?_
  refine jx_dup2 kd594.2.2.2.2.2.1 rfl rfl ?_
  refine jx_iald kd594.2.2.2.2.2.2.1 hk3 hi4 ?_
  refine jx_iconst (v := 1) kd594.2.2.2.2.2.2.2.1 (by decide) ?_
  refine jx_iadd kd594.2.2.2.2.2.2.2.2.1 ?_
  refine jx_iast kd595.1 hk3 hi4 ?_
  exact jx_vret kd595.2.1 rfl (jle rfl) (jle rfl) ⟨rfl, h⟩
set_option maxRecDepth 100000 in
set_option maxHeartbeats 4000000 in
theorem T_X11_master {E : jEnv} {d : Nat} {Q : Int32 → jM → Prop} {a0 : Nat} {x1 : Int32} {x2 : Int32} {x3 : Int32} {x4 : Int32} {S : jM} (h : ((jisin (Int32.toInt64 x1) 0 5) = 0 → Q (-1000000001) S) ∧ (¬ (jisin (Int32.toInt64 x1) 0 5) = 0 → ((jist x2) = 0 → Q (-1000000001) S) ∧ (¬ (jist x2) = 0 → ((jisg x3) = 0 → Q (-1000000001) S) ∧ (¬ (jisg x3) = 0 → ((jisin (Int32.toInt64 x4) 0 99) = 0 → Q (-1000000001) S) ∧ (¬ (jisin (Int32.toInt64 x4) 0 99) = 0 → jk S a0 = 11 ∧ ∃ b18, jr S a0 0 = some b18 ∧ (jk S b18 = 12 ∧ vp_in 0 (jl S b18) ∧ (((ji S b18 (Int32.toNatClampNeg 0)) = 9 → Q (-1000000003) S) ∧ (¬ (ji S b18 (Int32.toNatClampNeg 0)) = 9 → jFv E mX11_comes d 0 0 [.ref a0, .int x1, .int x2, .int x3, .int x4] S (fun S22 => jk S22 a0 = 11 ∧ ∃ b24, jr S22 a0 0 = some b24 ∧ (jk S22 b24 = 12 ∧ vp_in 0 (jl S22 b24) ∧ (Q ((ji S22 b24 (Int32.toNatClampNeg 0)) - 1) S22))))))))))) : jFi E mX11_master (d + 1) 0 0 [.ref a0, .int x1, .int x2, .int x3, .int x4] S Q := by
  refine jF_of (by decide) (jle rfl) ?_
  refine jx_lv (lv1 := [(0, .ref a0), (1, .int x1), (2, .int x2), (3, .int x3), (4, .int x4)]) [0, 1, 2, 3, 4] rfl ?_
  refine jx_iload_n 1 kd596.1 rfl rfl ?_
  refine jx_i2l kd596.2.1 ?_
  refine jx_lconst (v := 0) kd596.2.2.1 (by decide) ?_
  refine jx_ldc2 jwL_X11_76 kd596.2.2.2.1 ?_
  refine jx_callSi (M' := mX11_isIn) (As := [.long (Int32.toInt64 x1), .long 0, .long 5]) jo_X11_isIn jwM_X11_71 jwS_X11_isIn kd596.2.2.2.2.1 (jRok_m _ _ _) rfl (jle rfl) ⟨jle rfl, jle rfl⟩ (c_X11_isIn (Q := fun v S' => v = (jisin (Int32.toInt64 x1) 0 5) ∧ S = S') ⟨rfl, rfl⟩) (fun r1 S2 hq3 => ?_)
  obtain ⟨rfl, rfl⟩ := hq3
  refine jx_if_eq (tgt := 39) kd596.2.2.2.2.2.1 (by decide) (fun c4 => ?_) (fun c4 => ?_)
  · replace h := h.1 c4
    refine jx_ldc jwC_X11_87 kd598.1 ?_
    exact jx_iret kd598.2.1 rfl rfl (jle rfl) (jle rfl) ⟨_, rfl, h⟩
  replace h := h.2 c4
  refine jx_iload_n 2 kd596.2.2.2.2.2.2.1 rfl rfl ?_
  refine jx_callSi (M' := mX11_isTown) (As := [.int x2]) jo_X11_isTown jwM_X11_78 jwS_X11_isTown kd596.2.2.2.2.2.2.2.1 (jRok_m _ _ _) rfl (jle rfl) ⟨jle rfl, jle rfl⟩ (c_X11_isTown (Q := fun v S' => v = (jist x2) ∧ S = S') ⟨rfl, rfl⟩) (fun r5 S6 hq7 => ?_)
  obtain ⟨rfl, rfl⟩ := hq7
  refine jx_if_eq (tgt := 39) kd596.2.2.2.2.2.2.2.2.1 (by decide) (fun c8 => ?_) (fun c8 => ?_)
  · replace h := h.1 c8
    refine jx_ldc jwC_X11_87 kd598.1 ?_
    exact jx_iret kd598.2.1 rfl rfl (jle rfl) (jle rfl) ⟨_, rfl, h⟩
  replace h := h.2 c8
  refine jx_iload_n 3 kd597.1 rfl rfl ?_
  refine jx_callSi (M' := mX11_isGesture) (As := [.int x3]) jo_X11_isGesture jwM_X11_82 jwS_X11_isGesture kd597.2.1 (jRok_m _ _ _) rfl (jle rfl) ⟨jle rfl, jle rfl⟩ (c_X11_isGesture (Q := fun v S' => v = (jisg x3) ∧ S = S') ⟨rfl, rfl⟩) (fun r9 S10 hq11 => ?_)
  obtain ⟨rfl, rfl⟩ := hq11
  refine jx_if_eq (tgt := 39) kd597.2.2.1 (by decide) (fun c12 => ?_) (fun c12 => ?_)
  · replace h := h.1 c12
    refine jx_ldc jwC_X11_87 kd598.1 ?_
    exact jx_iret kd598.2.1 rfl rfl (jle rfl) (jle rfl) ⟨_, rfl, h⟩
  replace h := h.2 c12
  refine jx_iload 4 kd597.2.2.2.1 rfl ?_
  refine jx_i2l kd597.2.2.2.2.1 ?_
  refine jx_lconst (v := 0) kd597.2.2.2.2.2.1 (by decide) ?_
  refine jx_ldc2 jwL_X11_85 kd597.2.2.2.2.2.2.1 ?_
  refine jx_callSi (M' := mX11_isIn) (As := [.long (Int32.toInt64 x4), .long 0, .long 99]) jo_X11_isIn jwM_X11_71 jwS_X11_isIn kd597.2.2.2.2.2.2.2.1 (jRok_m _ _ _) rfl (jle rfl) ⟨jle rfl, jle rfl⟩ (c_X11_isIn (Q := fun v S' => v = (jisin (Int32.toInt64 x4) 0 99) ∧ S = S') ⟨rfl, rfl⟩) (fun r13 S14 hq15 => ?_)
  obtain ⟨rfl, rfl⟩ := hq15
  refine jx_if_ne (tgt := 42) kd597.2.2.2.2.2.2.2.2.1 (by decide) (fun c16 => ?_) (fun c16 => ?_)
  · replace h := h.2 c16
    refine jx_aload_n 0 kd598.2.2.1 rfl rfl ?_
    obtain ⟨hk17, h⟩ := h
    obtain ⟨b18, hb18, h⟩ := h
    refine jx_getr jc_11 (j := 0) (by decide) rfl jwF_X11_7 kd598.2.2.2.1 hk17 hb18 ?_
    refine jx_iconst (v := 0) kd598.2.2.2.2.1 (by decide) ?_
    obtain ⟨hk19, h⟩ := h
    obtain ⟨hi20, h⟩ := h
    refine jx_iald kd598.2.2.2.2.2.1 hk19 hi20 ?_
    refine jx_bipush (v := 9) kd598.2.2.2.2.2.2.1 (by decide) ?_
    refine jx_icmp_ne (tgt := 56) kd598.2.2.2.2.2.2.2.1 (by decide) (fun c21 => ?_) (fun c21 => ?_)
    · replace h := h.2 c21
      refine jx_aload_n 0 kd599.2.1 rfl rfl ?_
      refine jx_iload_n 1 kd599.2.2.1 rfl rfl ?_
      refine jx_iload_n 2 kd599.2.2.2.1 rfl rfl ?_
      refine jx_iload_n 3 kd599.2.2.2.2.1 rfl rfl ?_
      refine jx_iload 4 kd599.2.2.2.2.2.1 rfl ?_
      refine jx_callVv (M' := mX11_comes) (As := [.int x1, .int x2, .int x3, .int x4]) jo_X11_comes jc_11 rfl jwM_X11_89 jwN_X11_comes jwX_X11_comes kd599.2.2.2.2.2.2.1 (jRok_m _ _ _) rfl (jle rfl) ⟨jle rfl, jle rfl⟩ hk17 h (fun S22 h => ?_)
      refine jx_aload_n 0 kd599.2.2.2.2.2.2.2.1 rfl rfl ?_
      obtain ⟨hk23, h⟩ := h
      obtain ⟨b24, hb24, h⟩ := h
      refine jx_getr jc_11 (j := 0) (by decide) rfl jwF_X11_7 kd599.2.2.2.2.2.2.2.2.1 hk23 hb24 ?_
      refine jx_iconst (v := 0) kd600.1 (by decide) ?_
      obtain ⟨hk25, h⟩ := h
      obtain ⟨hi26, h⟩ := h
      refine jx_iald kd600.2.1 hk25 hi26 ?_
      refine jx_iconst (v := 1) kd600.2.2.1 (by decide) ?_
      refine jx_isub kd600.2.2.2.1 ?_
      exact jx_iret kd600.2.2.2.2.1 rfl rfl (jle rfl) (jle rfl) ⟨_, rfl, h⟩
    replace h := h.1 c21
    refine jx_ldc jwC_X11_88 kd598.2.2.2.2.2.2.2.2.1 ?_
    exact jx_iret kd599.1 rfl rfl (jle rfl) (jle rfl) ⟨_, rfl, h⟩
  replace h := h.1 c16
  refine jx_ldc jwC_X11_87 kd598.1 ?_
  exact jx_iret kd598.2.1 rfl rfl (jle rfl) (jle rfl) ⟨_, rfl, h⟩
set_option maxRecDepth 100000 in
set_option maxHeartbeats 4000000 in
theorem T_X11_takes {E : jEnv} {d : Nat} {Q : Int32 → jM → Prop} {a0 : Nat} {x1 : Int32} {x2 : Int32} {S : jM} (h : jk S a0 = 11 ∧ jFi E mX11_counts d 0 0 [.ref a0, .int 0] S (fun r3 S2 => (r3 < 0 → ((3 + x2) ≤ 1 → jk S2 a0 = 11 ∧ jFi E mX11_of d 0 0 [.ref a0, .int x1, .int 0] S2 (fun r8 S7 => (r8 = 1 → Q (2 * (3 + x2)) S7) ∧ (r8 = 2 → Q 1 S7) ∧ (r8 = 3 → jk S7 a0 = 11 ∧ jFi E mX11_of d 0 0 [.ref a0, .int x1, .int 5] S7 (fun r14 S13 => Q ((2 * (3 + x2)) + (r14 / 10)) S13)) ∧ (r8 = 4 → Q 1 S7) ∧ (r8 = 5 → Q 1 S7) ∧ (¬ r8 = 1 → ¬ r8 = 2 → ¬ r8 = 3 → ¬ r8 = 4 → ¬ r8 = 5 → Q (3 + x2) S7))) ∧ (¬ (3 + x2) ≤ 1 → jk S2 a0 = 11 ∧ jFi E mX11_of d 0 0 [.ref a0, .int x1, .int 0] S2 (fun r19 S18 => (r19 = 1 → Q (2 * (3 + x2)) S18) ∧ (r19 = 2 → Q ((3 + x2) - 1) S18) ∧ (r19 = 3 → jk S18 a0 = 11 ∧ jFi E mX11_of d 0 0 [.ref a0, .int x1, .int 5] S18 (fun r25 S24 => Q ((2 * (3 + x2)) + (r25 / 10)) S24)) ∧ (r19 = 4 → (((3 + x2) - 1) ≤ 1 → Q 1 S18) ∧ (¬ ((3 + x2) - 1) ≤ 1 → Q (((3 + x2) - 1) / 2) S18)) ∧ (r19 = 5 → Q 1 S18) ∧ (¬ r19 = 1 → ¬ r19 = 2 → ¬ r19 = 3 → ¬ r19 = 4 → ¬ r19 = 5 → Q (3 + x2) S18)))) ∧ (¬ r3 < 0 → jk S2 a0 = 11 ∧ ∃ b30, jr S2 a0 30 = some b30 ∧ (jk S2 b30 = 12 ∧ vp_in 107 (jl S2 b30) ∧ (jFi E mX11_of d 0 0 [.ref a0, .int x1, .int 2] (jput S2 b30 (Int32.toNatClampNeg 107) x2) (fun r34 S33 => jk S33 b30 = 12 ∧ vp_in 103 (jl S33 b30) ∧ (jk S33 a0 = 11 ∧ ∃ b38, jr S33 a0 30 = some b38 ∧ (jFi E mX11_of d 0 0 [.ref a0, .int x1, .int 5] (jput S33 b30 (Int32.toNatClampNeg 103) r34) (fun r40 S39 => jk S39 b38 = 12 ∧ vp_in 97 (jl S39 b38) ∧ (jk S39 a0 = 11 ∧ jFi E mX11_worked d 0 0 [.ref a0, .int r3] (jput S39 b38 (Int32.toNatClampNeg 97) r40) (fun r45 S44 => ((jclamp r45 1 99) ≤ 1 → jk S44 a0 = 11 ∧ jFi E mX11_of d 0 0 [.ref a0, .int x1, .int 0] S44 (fun r52 S51 => (r52 = 1 → Q (2 * (jclamp r45 1 99)) S51) ∧ (r52 = 2 → Q 1 S51) ∧ (r52 = 3 → jk S51 a0 = 11 ∧ jFi E mX11_of d 0 0 [.ref a0, .int x1, .int 5] S51 (fun r58 S57 => Q ((2 * (jclamp r45 1 99)) + (r58 / 10)) S57)) ∧ (r52 = 4 → Q 1 S51) ∧ (r52 = 5 → Q 1 S51) ∧ (¬ r52 = 1 → ¬ r52 = 2 → ¬ r52 = 3 → ¬ r52 = 4 → ¬ r52 = 5 → Q (jclamp r45 1 99) S51))) ∧ (¬ (jclamp r45 1 99) ≤ 1 → jk S44 a0 = 11 ∧ jFi E mX11_of d 0 0 [.ref a0, .int x1, .int 0] S44 (fun r63 S62 => (r63 = 1 → Q (2 * (jclamp r45 1 99)) S62) ∧ (r63 = 2 → Q ((jclamp r45 1 99) - 1) S62) ∧ (r63 = 3 → jk S62 a0 = 11 ∧ jFi E mX11_of d 0 0 [.ref a0, .int x1, .int 5] S62 (fun r69 S68 => Q ((2 * (jclamp r45 1 99)) + (r69 / 10)) S68)) ∧ (r63 = 4 → (((jclamp r45 1 99) - 1) ≤ 1 → Q 1 S62) ∧ (¬ ((jclamp r45 1 99) - 1) ≤ 1 → Q (((jclamp r45 1 99) - 1) / 2) S62)) ∧ (r63 = 5 → Q 1 S62) ∧ (¬ r63 = 1 → ¬ r63 = 2 → ¬ r63 = 3 → ¬ r63 = 4 → ¬ r63 = 5 → Q (jclamp r45 1 99) S62)))))))))))))) : jFi E mX11_takes (d + 1) 0 0 [.ref a0, .int x1, .int x2] S Q := by
  refine jF_of (by decide) (jle rfl) ?_
  refine jx_lv (lv1 := [(0, .ref a0), (1, .int x1), (2, .int x2)]) [0, 1, 2] rfl ?_
  refine jx_iconst (v := 3) kd601.1 (by decide) ?_
  refine jx_iload_n 2 kd601.2.1 rfl rfl ?_
  refine jx_iadd kd601.2.2.1 ?_
  refine jx_istore_n (lv1 := [(3, .int (3 + x2)), (0, .ref a0), (1, .int x1), (2, .int x2)]) kd601.2.2.2.1 rfl (by decide) rfl ?_
  refine jx_aload_n 1 kd601.2.2.2.2.1 rfl rfl ?_
  refine jx_iconst (v := 0) kd601.2.2.2.2.2.1 (by decide) ?_
  obtain ⟨hk1, h⟩ := h
  refine jx_callVi (M' := mX11_counts) (As := [.int 0]) jo_X11_counts jc_11 rfl jwM_X11_93 jwN_X11_counts jwX_X11_counts kd601.2.2.2.2.2.2.1 (jRok_m _ _ _) rfl (jle rfl) ⟨jle rfl, jle rfl⟩ hk1 h (fun r3 S2 h => ?_)
  refine jx_istore (lv1 := [(4, .int r3), (3, .int (3 + x2)), (0, .ref a0), (1, .int x1), (2, .int x2)]) kd601.2.2.2.2.2.2.2.1 (by decide) rfl ?_
  refine jx_iload 0 kd601.2.2.2.2.2.2.2.2.1 rfl ?_
  refine jx_if_lt (tgt := 63) kd602.1 (by decide) (fun c4 => ?_) (fun c4 => ?_)
  · replace h := h.1 c4
    refine jx_iload_n 1 kd605.2.2.1 rfl rfl ?_
    refine jx_iconst (v := 1) kd605.2.2.2.1 (by decide) ?_
    refine jx_icmp_le (tgt := 74) kd605.2.2.2.2.1 (by decide) (fun c5 => ?_) (fun c5 => ?_)
    · replace h := h.1 c5
      refine jx_iconst (v := 1) kd606.1 (by decide) ?_
      refine jx_istore (lv1 := [(5, .int 1), (4, .int r3), (3, .int (3 + x2)), (0, .ref a0), (1, .int x1), (2, .int x2)]) kd606.2.1 (by decide) rfl ?_
      refine jx_aload_n 3 kd606.2.2.1 rfl rfl ?_
      refine jx_iload_n 4 kd606.2.2.2.1 rfl rfl ?_
      refine jx_iconst (v := 0) kd606.2.2.2.2.1 (by decide) ?_
      obtain ⟨hk6, h⟩ := h
      refine jx_callVi (M' := mX11_of) (As := [.int x1, .int 0]) jo_X11_of jc_11 rfl jwM_X11_97 jwN_X11_of jwX_X11_of kd606.2.2.2.2.2.1 (jRok_m _ _ _) rfl (jle rfl) ⟨jle rfl, jle rfl⟩ hk6 h (fun r8 S7 h => ?_)
      by_cases c9 : r8 = 1
      · replace h := h.1 c9
        refine jx_tableIn (v := 1) (tgt := 116) (off := 33) kd606.2.2.2.2.2.2.1 c9 (by decide) (by decide) (by decide) (by decide) ?_
        refine jx_iconst (v := 2) kd606.2.2.2.2.2.2.2.1 (by decide) ?_
        refine jx_iload_n 2 kd606.2.2.2.2.2.2.2.2.1 rfl rfl ?_
        refine jx_imul kd607.1 ?_
        exact jx_iret kd607.2.1 rfl rfl (jle rfl) (jle rfl) ⟨_, rfl, h⟩
      replace h := h.2
      by_cases c10 : r8 = 2
      · replace h := h.1 c10
        refine jx_tableIn (v := 2) (tgt := 120) (off := 37) kd606.2.2.2.2.2.2.1 c10 (by decide) (by decide) (by decide) (by decide) ?_
        refine jx_iload 0 kd607.2.2.1 rfl ?_
        exact jx_iret kd607.2.2.2.1 rfl rfl (jle rfl) (jle rfl) ⟨_, rfl, h⟩
      replace h := h.2
      by_cases c11 : r8 = 3
      · replace h := h.1 c11
        refine jx_tableIn (v := 3) (tgt := 123) (off := 40) kd606.2.2.2.2.2.2.1 c11 (by decide) (by decide) (by decide) (by decide) ?_
        refine jx_iconst (v := 2) kd607.2.2.2.2.1 (by decide) ?_
        refine jx_iload_n 2 kd607.2.2.2.2.2.1 rfl rfl ?_
        refine jx_imul kd607.2.2.2.2.2.2.1 ?_
        refine jx_aload_n 3 kd607.2.2.2.2.2.2.2.1 rfl rfl ?_
        refine jx_iload_n 4 kd607.2.2.2.2.2.2.2.2.1 rfl rfl ?_
        refine jx_iconst (v := 5) kd608.1 (by decide) ?_
        obtain ⟨hk12, h⟩ := h
        refine jx_callVi (M' := mX11_of) (As := [.int x1, .int 5]) jo_X11_of jc_11 rfl jwM_X11_97 jwN_X11_of jwX_X11_of kd608.2.1 (jRok_m _ _ _) rfl (jle rfl) ⟨jle rfl, jle rfl⟩ hk12 h (fun r14 S13 h => ?_)
        refine jx_bipush (v := 10) kd608.2.2.1 (by decide) ?_
        refine jx_idiv kd608.2.2.2.1 (by decide) ?_
        refine jx_iadd kd608.2.2.2.2.1 ?_
        exact jx_iret kd608.2.2.2.2.2.1 rfl rfl (jle rfl) (jle rfl) ⟨_, rfl, h⟩
      replace h := h.2
      by_cases c15 : r8 = 4
      · replace h := h.1 c15
        refine jx_tableIn (v := 4) (tgt := 137) (off := 54) kd606.2.2.2.2.2.2.1 c15 (by decide) (by decide) (by decide) (by decide) ?_
        refine jx_iload 0 kd608.2.2.2.2.2.2.1 rfl ?_
        refine jx_iconst (v := 1) kd608.2.2.2.2.2.2.2.1 (by decide) ?_
        refine jx_icmp_le (tgt := 150) kd608.2.2.2.2.2.2.2.2.1 (by decide) (fun _ => ?_) (fun z9 => absurd z9 (by decide))
        refine jx_iconst (v := 1) kd609.2.2.2.2.1 (by decide) ?_
        exact jx_iret kd609.2.2.2.2.2.1 rfl rfl (jle rfl) (jle rfl) ⟨_, rfl, h⟩
      replace h := h.2
      by_cases c16 : r8 = 5
      · replace h := h.1 c16
        refine jx_tableIn (v := 5) (tgt := 152) (off := 69) kd606.2.2.2.2.2.2.1 c16 (by decide) (by decide) (by decide) (by decide) ?_
        refine jx_iconst (v := 1) kd609.2.2.2.2.2.2.1 (by decide) ?_
        exact jx_iret kd609.2.2.2.2.2.2.2.1 rfl rfl (jle rfl) (jle rfl) ⟨_, rfl, h⟩
      replace h := h.2
      replace h := h c9 c10 c11 c15 c16
      refine jx_tableD (tgt := 154) ([1, 2, 3, 4, 5] : List Int) kd606.2.2.2.2.2.2.1 (by simp only [List.mem_cons, List.not_mem_nil, or_false, forall_eq_or_imp, forall_eq]; exact ⟨lv_neT c9 (by decide), lv_neT c10 (by decide), lv_neT c11 (by decide), lv_neT c15 (by decide), lv_neT c16 (by decide)⟩) (by decide) (by decide) (by decide) ?_
      refine jx_iload_n 2 kd609.2.2.2.2.2.2.2.2.1 rfl rfl ?_
      exact jx_iret kd610.1 rfl rfl (jle rfl) (jle rfl) ⟨_, rfl, h⟩
    replace h := h.2 c5
    refine jx_iload_n 1 kd605.2.2.2.2.2.1 rfl rfl ?_
    refine jx_iconst (v := 1) kd605.2.2.2.2.2.2.1 (by decide) ?_
    refine jx_isub kd605.2.2.2.2.2.2.2.1 ?_
    refine jx_goto (tgt := 75) kd605.2.2.2.2.2.2.2.2.1 (by decide) ?_
    refine jx_istore (lv1 := [(5, .int ((3 + x2) - 1)), (4, .int r3), (3, .int (3 + x2)), (0, .ref a0), (1, .int x1), (2, .int x2)]) kd606.2.1 (by decide) rfl ?_
    refine jx_aload_n 3 kd606.2.2.1 rfl rfl ?_
    refine jx_iload_n 4 kd606.2.2.2.1 rfl rfl ?_
    refine jx_iconst (v := 0) kd606.2.2.2.2.1 (by decide) ?_
    obtain ⟨hk17, h⟩ := h
    refine jx_callVi (M' := mX11_of) (As := [.int x1, .int 0]) jo_X11_of jc_11 rfl jwM_X11_97 jwN_X11_of jwX_X11_of kd606.2.2.2.2.2.1 (jRok_m _ _ _) rfl (jle rfl) ⟨jle rfl, jle rfl⟩ hk17 h (fun r19 S18 h => ?_)
    by_cases c20 : r19 = 1
    · replace h := h.1 c20
      refine jx_tableIn (v := 1) (tgt := 116) (off := 33) kd606.2.2.2.2.2.2.1 c20 (by decide) (by decide) (by decide) (by decide) ?_
      refine jx_iconst (v := 2) kd606.2.2.2.2.2.2.2.1 (by decide) ?_
      refine jx_iload_n 2 kd606.2.2.2.2.2.2.2.2.1 rfl rfl ?_
      refine jx_imul kd607.1 ?_
      exact jx_iret kd607.2.1 rfl rfl (jle rfl) (jle rfl) ⟨_, rfl, h⟩
    replace h := h.2
    by_cases c21 : r19 = 2
    · replace h := h.1 c21
      refine jx_tableIn (v := 2) (tgt := 120) (off := 37) kd606.2.2.2.2.2.2.1 c21 (by decide) (by decide) (by decide) (by decide) ?_
      refine jx_iload 0 kd607.2.2.1 rfl ?_
      exact jx_iret kd607.2.2.2.1 rfl rfl (jle rfl) (jle rfl) ⟨_, rfl, h⟩
    replace h := h.2
    by_cases c22 : r19 = 3
    · replace h := h.1 c22
      refine jx_tableIn (v := 3) (tgt := 123) (off := 40) kd606.2.2.2.2.2.2.1 c22 (by decide) (by decide) (by decide) (by decide) ?_
      refine jx_iconst (v := 2) kd607.2.2.2.2.1 (by decide) ?_
      refine jx_iload_n 2 kd607.2.2.2.2.2.1 rfl rfl ?_
      refine jx_imul kd607.2.2.2.2.2.2.1 ?_
      refine jx_aload_n 3 kd607.2.2.2.2.2.2.2.1 rfl rfl ?_
      refine jx_iload_n 4 kd607.2.2.2.2.2.2.2.2.1 rfl rfl ?_
      refine jx_iconst (v := 5) kd608.1 (by decide) ?_
      obtain ⟨hk23, h⟩ := h
      refine jx_callVi (M' := mX11_of) (As := [.int x1, .int 5]) jo_X11_of jc_11 rfl jwM_X11_97 jwN_X11_of jwX_X11_of kd608.2.1 (jRok_m _ _ _) rfl (jle rfl) ⟨jle rfl, jle rfl⟩ hk23 h (fun r25 S24 h => ?_)
      refine jx_bipush (v := 10) kd608.2.2.1 (by decide) ?_
      refine jx_idiv kd608.2.2.2.1 (by decide) ?_
      refine jx_iadd kd608.2.2.2.2.1 ?_
      exact jx_iret kd608.2.2.2.2.2.1 rfl rfl (jle rfl) (jle rfl) ⟨_, rfl, h⟩
    replace h := h.2
    by_cases c26 : r19 = 4
    · replace h := h.1 c26
      refine jx_tableIn (v := 4) (tgt := 137) (off := 54) kd606.2.2.2.2.2.2.1 c26 (by decide) (by decide) (by decide) (by decide) ?_
      refine jx_iload 0 kd608.2.2.2.2.2.2.1 rfl ?_
      refine jx_iconst (v := 1) kd608.2.2.2.2.2.2.2.1 (by decide) ?_
      refine jx_icmp_le (tgt := 150) kd608.2.2.2.2.2.2.2.2.1 (by decide) (fun c27 => ?_) (fun c27 => ?_)
      · replace h := h.1 c27
        refine jx_iconst (v := 1) kd609.2.2.2.2.1 (by decide) ?_
        exact jx_iret kd609.2.2.2.2.2.1 rfl rfl (jle rfl) (jle rfl) ⟨_, rfl, h⟩
      replace h := h.2 c27
      refine jx_iload 0 kd609.1 rfl ?_
      refine jx_iconst (v := 2) kd609.2.1 (by decide) ?_
      refine jx_idiv kd609.2.2.1 (by decide) ?_
      refine jx_goto (tgt := 151) kd609.2.2.2.1 (by decide) ?_
      exact jx_iret kd609.2.2.2.2.2.1 rfl rfl (jle rfl) (jle rfl) ⟨_, rfl, h⟩
    replace h := h.2
    by_cases c28 : r19 = 5
    · replace h := h.1 c28
      refine jx_tableIn (v := 5) (tgt := 152) (off := 69) kd606.2.2.2.2.2.2.1 c28 (by decide) (by decide) (by decide) (by decide) ?_
      refine jx_iconst (v := 1) kd609.2.2.2.2.2.2.1 (by decide) ?_
      exact jx_iret kd609.2.2.2.2.2.2.2.1 rfl rfl (jle rfl) (jle rfl) ⟨_, rfl, h⟩
    replace h := h.2
    replace h := h c20 c21 c22 c26 c28
    refine jx_tableD (tgt := 154) ([1, 2, 3, 4, 5] : List Int) kd606.2.2.2.2.2.2.1 (by simp only [List.mem_cons, List.not_mem_nil, or_false, forall_eq_or_imp, forall_eq]; exact ⟨lv_neT c20 (by decide), lv_neT c21 (by decide), lv_neT c22 (by decide), lv_neT c26 (by decide), lv_neT c28 (by decide)⟩) (by decide) (by decide) (by decide) ?_
    refine jx_iload_n 2 kd609.2.2.2.2.2.2.2.2.1 rfl rfl ?_
    exact jx_iret kd610.1 rfl rfl (jle rfl) (jle rfl) ⟨_, rfl, h⟩
  replace h := h.2 c4
  refine jx_aload_n 2 kd602.2.1 rfl rfl ?_
  obtain ⟨hk29, h⟩ := h
  obtain ⟨b30, hb30, h⟩ := h
  refine jx_getr jc_11 (j := 30) (by decide) rfl jwF_X11_55 kd602.2.2.1 hk29 hb30 ?_
  refine jx_bipush (v := 107) kd602.2.2.2.1 (by decide) ?_
  refine jx_iload_n 4 kd602.2.2.2.2.1 rfl rfl ?_
  obtain ⟨hk31, h⟩ := h
  obtain ⟨hi32, h⟩ := h
  refine jx_iast kd602.2.2.2.2.2.1 hk31 hi32 ?_
  refine jx_aload_n 2 kd602.2.2.2.2.2.2.1 rfl rfl ?_
  refine jx_getr jc_11 (j := 30) (by decide) rfl jwF_X11_55 kd602.2.2.2.2.2.2.2.1 hk29 hb30 ?_
  refine jx_bipush (v := 103) kd602.2.2.2.2.2.2.2.2.1 (by decide) ?_
  refine jx_aload_n 2 kd603.1 rfl rfl ?_
  refine jx_iload_n 3 kd603.2.1 rfl rfl ?_
  refine jx_iconst (v := 2) kd603.2.2.1 (by decide) ?_
  refine jx_callVi (M' := mX11_of) (As := [.int x1, .int 2]) jo_X11_of jc_11 rfl jwM_X11_97 jwN_X11_of jwX_X11_of kd603.2.2.2.1 (jRok_m _ _ _) rfl (jle rfl) ⟨jle rfl, jle rfl⟩ hk29 h (fun r34 S33 h => ?_)
  obtain ⟨hk35, h⟩ := h
  obtain ⟨hi36, h⟩ := h
  refine jx_iast kd603.2.2.2.2.1 hk35 hi36 ?_
  refine jx_aload_n 2 kd603.2.2.2.2.2.1 rfl rfl ?_
  obtain ⟨hk37, h⟩ := h
  obtain ⟨b38, hb38, h⟩ := h
  refine jx_getr jc_11 (j := 30) (by decide) rfl jwF_X11_55 kd603.2.2.2.2.2.2.1 hk37 hb38 ?_
  refine jx_bipush (v := 97) kd603.2.2.2.2.2.2.2.1 (by decide) ?_
  refine jx_aload_n 2 kd603.2.2.2.2.2.2.2.2.1 rfl rfl ?_
  refine jx_iload_n 3 kd604.1 rfl rfl ?_
  refine jx_iconst (v := 5) kd604.2.1 (by decide) ?_
  refine jx_callVi (M' := mX11_of) (As := [.int x1, .int 5]) jo_X11_of jc_11 rfl jwM_X11_97 jwN_X11_of jwX_X11_of kd604.2.2.1 (jRok_m _ _ _) rfl (jle rfl) ⟨jle rfl, jle rfl⟩ hk37 h (fun r40 S39 h => ?_)
  obtain ⟨hk41, h⟩ := h
  obtain ⟨hi42, h⟩ := h
  refine jx_iast kd604.2.2.2.1 hk41 hi42 ?_
  refine jx_aload_n 2 kd604.2.2.2.2.1 rfl rfl ?_
  refine jx_iload 0 kd604.2.2.2.2.2.1 rfl ?_
  obtain ⟨hk43, h⟩ := h
  refine jx_callVi (M' := mX11_worked) (As := [.int r3]) jo_X11_worked jc_11 rfl jwM_X11_101 jwN_X11_worked jwX_X11_worked kd604.2.2.2.2.2.2.1 (jRok_m _ _ _) rfl (jle rfl) ⟨jle rfl, jle rfl⟩ hk43 h (fun r45 S44 h => ?_)
  refine jx_iconst (v := 1) kd604.2.2.2.2.2.2.2.1 (by decide) ?_
  refine jx_bipush (v := 99) kd604.2.2.2.2.2.2.2.2.1 (by decide) ?_
  refine jx_callSi (M' := mX11_within) (As := [.int r45, .int 1, .int 99]) jo_X11_within jwM_X11_104 jwS_X11_within kd605.1 (jRok_m _ _ _) rfl (jle rfl) ⟨jle rfl, jle rfl⟩ (c_X11_within (Q := fun v S' => v = (jclamp r45 1 99) ∧ S44 = S') ⟨rfl, rfl⟩) (fun r46 S47 hq48 => ?_)
  obtain ⟨rfl, rfl⟩ := hq48
  refine jx_istore_n (lv1 := [(3, .int (jclamp r45 1 99)), (4, .int r3), (0, .ref a0), (1, .int x1), (2, .int x2)]) kd605.2.1 rfl (by decide) rfl ?_
  refine jx_iload_n 0 kd605.2.2.1 rfl rfl ?_
  refine jx_iconst (v := 1) kd605.2.2.2.1 (by decide) ?_
  refine jx_icmp_le (tgt := 74) kd605.2.2.2.2.1 (by decide) (fun c49 => ?_) (fun c49 => ?_)
  · replace h := h.1 c49
    refine jx_iconst (v := 1) kd606.1 (by decide) ?_
    refine jx_istore (lv1 := [(5, .int 1), (3, .int (jclamp r45 1 99)), (4, .int r3), (0, .ref a0), (1, .int x1), (2, .int x2)]) kd606.2.1 (by decide) rfl ?_
    refine jx_aload_n 3 kd606.2.2.1 rfl rfl ?_
    refine jx_iload_n 4 kd606.2.2.2.1 rfl rfl ?_
    refine jx_iconst (v := 0) kd606.2.2.2.2.1 (by decide) ?_
    obtain ⟨hk50, h⟩ := h
    refine jx_callVi (M' := mX11_of) (As := [.int x1, .int 0]) jo_X11_of jc_11 rfl jwM_X11_97 jwN_X11_of jwX_X11_of kd606.2.2.2.2.2.1 (jRok_m _ _ _) rfl (jle rfl) ⟨jle rfl, jle rfl⟩ hk50 h (fun r52 S51 h => ?_)
    by_cases c53 : r52 = 1
    · replace h := h.1 c53
      refine jx_tableIn (v := 1) (tgt := 116) (off := 33) kd606.2.2.2.2.2.2.1 c53 (by decide) (by decide) (by decide) (by decide) ?_
      refine jx_iconst (v := 2) kd606.2.2.2.2.2.2.2.1 (by decide) ?_
      refine jx_iload_n 1 kd606.2.2.2.2.2.2.2.2.1 rfl rfl ?_
      refine jx_imul kd607.1 ?_
      exact jx_iret kd607.2.1 rfl rfl (jle rfl) (jle rfl) ⟨_, rfl, h⟩
    replace h := h.2
    by_cases c54 : r52 = 2
    · replace h := h.1 c54
      refine jx_tableIn (v := 2) (tgt := 120) (off := 37) kd606.2.2.2.2.2.2.1 c54 (by decide) (by decide) (by decide) (by decide) ?_
      refine jx_iload 0 kd607.2.2.1 rfl ?_
      exact jx_iret kd607.2.2.2.1 rfl rfl (jle rfl) (jle rfl) ⟨_, rfl, h⟩
    replace h := h.2
    by_cases c55 : r52 = 3
    · replace h := h.1 c55
      refine jx_tableIn (v := 3) (tgt := 123) (off := 40) kd606.2.2.2.2.2.2.1 c55 (by decide) (by decide) (by decide) (by decide) ?_
      refine jx_iconst (v := 2) kd607.2.2.2.2.1 (by decide) ?_
      refine jx_iload_n 1 kd607.2.2.2.2.2.1 rfl rfl ?_
      refine jx_imul kd607.2.2.2.2.2.2.1 ?_
      refine jx_aload_n 3 kd607.2.2.2.2.2.2.2.1 rfl rfl ?_
      refine jx_iload_n 4 kd607.2.2.2.2.2.2.2.2.1 rfl rfl ?_
      refine jx_iconst (v := 5) kd608.1 (by decide) ?_
      obtain ⟨hk56, h⟩ := h
      refine jx_callVi (M' := mX11_of) (As := [.int x1, .int 5]) jo_X11_of jc_11 rfl jwM_X11_97 jwN_X11_of jwX_X11_of kd608.2.1 (jRok_m _ _ _) rfl (jle rfl) ⟨jle rfl, jle rfl⟩ hk56 h (fun r58 S57 h => ?_)
      refine jx_bipush (v := 10) kd608.2.2.1 (by decide) ?_
      refine jx_idiv kd608.2.2.2.1 (by decide) ?_
      refine jx_iadd kd608.2.2.2.2.1 ?_
      exact jx_iret kd608.2.2.2.2.2.1 rfl rfl (jle rfl) (jle rfl) ⟨_, rfl, h⟩
    replace h := h.2
    by_cases c59 : r52 = 4
    · replace h := h.1 c59
      refine jx_tableIn (v := 4) (tgt := 137) (off := 54) kd606.2.2.2.2.2.2.1 c59 (by decide) (by decide) (by decide) (by decide) ?_
      refine jx_iload 0 kd608.2.2.2.2.2.2.1 rfl ?_
      refine jx_iconst (v := 1) kd608.2.2.2.2.2.2.2.1 (by decide) ?_
      refine jx_icmp_le (tgt := 150) kd608.2.2.2.2.2.2.2.2.1 (by decide) (fun _ => ?_) (fun z9 => absurd z9 (by decide))
      refine jx_iconst (v := 1) kd609.2.2.2.2.1 (by decide) ?_
      exact jx_iret kd609.2.2.2.2.2.1 rfl rfl (jle rfl) (jle rfl) ⟨_, rfl, h⟩
    replace h := h.2
    by_cases c60 : r52 = 5
    · replace h := h.1 c60
      refine jx_tableIn (v := 5) (tgt := 152) (off := 69) kd606.2.2.2.2.2.2.1 c60 (by decide) (by decide) (by decide) (by decide) ?_
      refine jx_iconst (v := 1) kd609.2.2.2.2.2.2.1 (by decide) ?_
      exact jx_iret kd609.2.2.2.2.2.2.2.1 rfl rfl (jle rfl) (jle rfl) ⟨_, rfl, h⟩
    replace h := h.2
    replace h := h c53 c54 c55 c59 c60
    refine jx_tableD (tgt := 154) ([1, 2, 3, 4, 5] : List Int) kd606.2.2.2.2.2.2.1 (by simp only [List.mem_cons, List.not_mem_nil, or_false, forall_eq_or_imp, forall_eq]; exact ⟨lv_neT c53 (by decide), lv_neT c54 (by decide), lv_neT c55 (by decide), lv_neT c59 (by decide), lv_neT c60 (by decide)⟩) (by decide) (by decide) (by decide) ?_
    refine jx_iload_n 1 kd609.2.2.2.2.2.2.2.2.1 rfl rfl ?_
    exact jx_iret kd610.1 rfl rfl (jle rfl) (jle rfl) ⟨_, rfl, h⟩
  replace h := h.2 c49
  refine jx_iload_n 0 kd605.2.2.2.2.2.1 rfl rfl ?_
  refine jx_iconst (v := 1) kd605.2.2.2.2.2.2.1 (by decide) ?_
  refine jx_isub kd605.2.2.2.2.2.2.2.1 ?_
  refine jx_goto (tgt := 75) kd605.2.2.2.2.2.2.2.2.1 (by decide) ?_
  refine jx_istore (lv1 := [(5, .int ((jclamp r45 1 99) - 1)), (3, .int (jclamp r45 1 99)), (4, .int r3), (0, .ref a0), (1, .int x1), (2, .int x2)]) kd606.2.1 (by decide) rfl ?_
  refine jx_aload_n 3 kd606.2.2.1 rfl rfl ?_
  refine jx_iload_n 4 kd606.2.2.2.1 rfl rfl ?_
  refine jx_iconst (v := 0) kd606.2.2.2.2.1 (by decide) ?_
  obtain ⟨hk61, h⟩ := h
  refine jx_callVi (M' := mX11_of) (As := [.int x1, .int 0]) jo_X11_of jc_11 rfl jwM_X11_97 jwN_X11_of jwX_X11_of kd606.2.2.2.2.2.1 (jRok_m _ _ _) rfl (jle rfl) ⟨jle rfl, jle rfl⟩ hk61 h (fun r63 S62 h => ?_)
  by_cases c64 : r63 = 1
  · replace h := h.1 c64
    refine jx_tableIn (v := 1) (tgt := 116) (off := 33) kd606.2.2.2.2.2.2.1 c64 (by decide) (by decide) (by decide) (by decide) ?_
    refine jx_iconst (v := 2) kd606.2.2.2.2.2.2.2.1 (by decide) ?_
    refine jx_iload_n 1 kd606.2.2.2.2.2.2.2.2.1 rfl rfl ?_
    refine jx_imul kd607.1 ?_
    exact jx_iret kd607.2.1 rfl rfl (jle rfl) (jle rfl) ⟨_, rfl, h⟩
  replace h := h.2
  by_cases c65 : r63 = 2
  · replace h := h.1 c65
    refine jx_tableIn (v := 2) (tgt := 120) (off := 37) kd606.2.2.2.2.2.2.1 c65 (by decide) (by decide) (by decide) (by decide) ?_
    refine jx_iload 0 kd607.2.2.1 rfl ?_
    exact jx_iret kd607.2.2.2.1 rfl rfl (jle rfl) (jle rfl) ⟨_, rfl, h⟩
  replace h := h.2
  by_cases c66 : r63 = 3
  · replace h := h.1 c66
    refine jx_tableIn (v := 3) (tgt := 123) (off := 40) kd606.2.2.2.2.2.2.1 c66 (by decide) (by decide) (by decide) (by decide) ?_
    refine jx_iconst (v := 2) kd607.2.2.2.2.1 (by decide) ?_
    refine jx_iload_n 1 kd607.2.2.2.2.2.1 rfl rfl ?_
    refine jx_imul kd607.2.2.2.2.2.2.1 ?_
    refine jx_aload_n 3 kd607.2.2.2.2.2.2.2.1 rfl rfl ?_
    refine jx_iload_n 4 kd607.2.2.2.2.2.2.2.2.1 rfl rfl ?_
    refine jx_iconst (v := 5) kd608.1 (by decide) ?_
    obtain ⟨hk67, h⟩ := h
    refine jx_callVi (M' := mX11_of) (As := [.int x1, .int 5]) jo_X11_of jc_11 rfl jwM_X11_97 jwN_X11_of jwX_X11_of kd608.2.1 (jRok_m _ _ _) rfl (jle rfl) ⟨jle rfl, jle rfl⟩ hk67 h (fun r69 S68 h => ?_)
    refine jx_bipush (v := 10) kd608.2.2.1 (by decide) ?_
    refine jx_idiv kd608.2.2.2.1 (by decide) ?_
    refine jx_iadd kd608.2.2.2.2.1 ?_
    exact jx_iret kd608.2.2.2.2.2.1 rfl rfl (jle rfl) (jle rfl) ⟨_, rfl, h⟩
  replace h := h.2
  by_cases c70 : r63 = 4
  · replace h := h.1 c70
    refine jx_tableIn (v := 4) (tgt := 137) (off := 54) kd606.2.2.2.2.2.2.1 c70 (by decide) (by decide) (by decide) (by decide) ?_
    refine jx_iload 0 kd608.2.2.2.2.2.2.1 rfl ?_
    refine jx_iconst (v := 1) kd608.2.2.2.2.2.2.2.1 (by decide) ?_
    refine jx_icmp_le (tgt := 150) kd608.2.2.2.2.2.2.2.2.1 (by decide) (fun c71 => ?_) (fun c71 => ?_)
    · replace h := h.1 c71
      refine jx_iconst (v := 1) kd609.2.2.2.2.1 (by decide) ?_
      exact jx_iret kd609.2.2.2.2.2.1 rfl rfl (jle rfl) (jle rfl) ⟨_, rfl, h⟩
    replace h := h.2 c71
    refine jx_iload 0 kd609.1 rfl ?_
    refine jx_iconst (v := 2) kd609.2.1 (by decide) ?_
    refine jx_idiv kd609.2.2.1 (by decide) ?_
    refine jx_goto (tgt := 151) kd609.2.2.2.1 (by decide) ?_
    exact jx_iret kd609.2.2.2.2.2.1 rfl rfl (jle rfl) (jle rfl) ⟨_, rfl, h⟩
  replace h := h.2
  by_cases c72 : r63 = 5
  · replace h := h.1 c72
    refine jx_tableIn (v := 5) (tgt := 152) (off := 69) kd606.2.2.2.2.2.2.1 c72 (by decide) (by decide) (by decide) (by decide) ?_
    refine jx_iconst (v := 1) kd609.2.2.2.2.2.2.1 (by decide) ?_
    exact jx_iret kd609.2.2.2.2.2.2.2.1 rfl rfl (jle rfl) (jle rfl) ⟨_, rfl, h⟩
  replace h := h.2
  replace h := h c64 c65 c66 c70 c72
  refine jx_tableD (tgt := 154) ([1, 2, 3, 4, 5] : List Int) kd606.2.2.2.2.2.2.1 (by simp only [List.mem_cons, List.not_mem_nil, or_false, forall_eq_or_imp, forall_eq]; exact ⟨lv_neT c64 (by decide), lv_neT c65 (by decide), lv_neT c66 (by decide), lv_neT c70 (by decide), lv_neT c72 (by decide)⟩) (by decide) (by decide) (by decide) ?_
  refine jx_iload_n 1 kd609.2.2.2.2.2.2.2.2.1 rfl rfl ?_
  exact jx_iret kd610.1 rfl rfl (jle rfl) (jle rfl) ⟨_, rfl, h⟩
set_option maxRecDepth 100000 in
set_option maxHeartbeats 4000000 in
theorem T_X11_teaches {E : jEnv} {d : Nat} {Q : Int32 → jM → Prop} {a0 : Nat} {x1 : Int32} {x2 : Int32} {S : jM} (h : jk S a0 = 11 ∧ jFi E mX11_of d 0 0 [.ref a0, .int x1, .int 3] S (fun r3 S2 => jk S2 a0 = 11 ∧ jFi E mX11_of d 0 0 [.ref a0, .int x1, .int 0] S2 (fun r9 S8 => (r9 = 2 → Q 1 S8) ∧ (r9 = 3 → ((jmany (x2 &&& r3)) = 0 → ((jmany x2) < 3 → Q 0 S8) ∧ (¬ (jmany x2) < 3 → Q 1 S8)) ∧ (¬ (jmany (x2 &&& r3)) = 0 → Q 0 S8)) ∧ (r9 = 4 → Q 1 S8) ∧ (r9 = 5 → (2 ≤ (jmany (x2 &&& r3)) → Q 0 S8) ∧ (¬ 2 ≤ (jmany (x2 &&& r3)) → Q 1 S8)) ∧ (¬ r9 = 2 → ¬ r9 = 3 → ¬ r9 = 4 → ¬ r9 = 5 → ((jmany (x2 &&& r3)) = 0 → Q 1 S8) ∧ (¬ (jmany (x2 &&& r3)) = 0 → Q 0 S8))))) : jFi E mX11_teaches (d + 1) 0 0 [.ref a0, .int x1, .int x2] S Q := by
  refine jF_of (by decide) (jle rfl) ?_
  refine jx_lv (lv1 := [(0, .ref a0), (1, .int x1), (2, .int x2)]) [0, 1, 2] rfl ?_
  refine jx_iload_n 2 kd611.1 rfl rfl ?_
  refine jx_aload_n 0 kd611.2.1 rfl rfl ?_
  refine jx_iload_n 1 kd611.2.2.1 rfl rfl ?_
  refine jx_iconst (v := 3) kd611.2.2.2.1 (by decide) ?_
  obtain ⟨hk1, h⟩ := h
  refine jx_callVi (M' := mX11_of) (As := [.int x1, .int 3]) jo_X11_of jc_11 rfl jwM_X11_97 jwN_X11_of jwX_X11_of kd611.2.2.2.2.1 (jRok_m _ _ _) rfl (jle rfl) ⟨jle rfl, jle rfl⟩ hk1 h (fun r3 S2 h => ?_)
  refine jx_iand kd611.2.2.2.2.2.1 ?_
  refine jx_callSi (M' := mX11_manyIn) (As := [.int (x2 &&& r3)]) jo_X11_manyIn jwM_X11_108 jwS_X11_manyIn kd611.2.2.2.2.2.2.1 (jRok_m _ _ _) rfl (jle rfl) ⟨jle rfl, jle rfl⟩ (c_X11_manyIn (Q := fun v S' => v = (jmany (x2 &&& r3)) ∧ S2 = S') ⟨rfl, rfl⟩) (fun r4 S5 hq6 => ?_)
  obtain ⟨rfl, rfl⟩ := hq6
  refine jx_istore_n (lv1 := [(3, .int (jmany (x2 &&& r3))), (0, .ref a0), (1, .int x1), (2, .int x2)]) kd611.2.2.2.2.2.2.2.1 rfl (by decide) rfl ?_
  refine jx_aload_n 1 kd611.2.2.2.2.2.2.2.2.1 rfl rfl ?_
  refine jx_iload_n 2 kd612.1 rfl rfl ?_
  refine jx_iconst (v := 0) kd612.2.1 (by decide) ?_
  obtain ⟨hk7, h⟩ := h
  refine jx_callVi (M' := mX11_of) (As := [.int x1, .int 0]) jo_X11_of jc_11 rfl jwM_X11_97 jwN_X11_of jwX_X11_of kd612.2.2.1 (jRok_m _ _ _) rfl (jle rfl) ⟨jle rfl, jle rfl⟩ hk7 h (fun r9 S8 h => ?_)
  by_cases c10 : r9 = 2
  · replace h := h.1 c10
    refine jx_tableIn (v := 2) (tgt := 48) (off := 30) kd612.2.2.2.1 c10 (by decide) (by decide) (by decide) (by decide) ?_
    refine jx_iconst (v := 1) kd612.2.2.2.2.1 (by decide) ?_
    exact jx_iret kd612.2.2.2.2.2.1 rfl (by decide) (jle rfl) (jle rfl) ⟨_, rfl, h⟩
  replace h := h.2
  by_cases c11 : r9 = 3
  · replace h := h.1 c11
    refine jx_tableIn (v := 3) (tgt := 50) (off := 32) kd612.2.2.2.1 c11 (by decide) (by decide) (by decide) (by decide) ?_
    refine jx_iload_n 0 kd612.2.2.2.2.2.2.1 rfl rfl ?_
    refine jx_if_ne (tgt := 66) kd612.2.2.2.2.2.2.2.1 (by decide) (fun c12 => ?_) (fun c12 => ?_)
    · replace h := h.2 c12
      refine jx_iconst (v := 0) kd613.2.2.2.2.2.1 (by decide) ?_
      exact jx_iret kd613.2.2.2.2.2.2.1 rfl (by decide) (jle rfl) (jle rfl) ⟨_, rfl, h⟩
    replace h := h.1 c12
    refine jx_iload_n 3 kd612.2.2.2.2.2.2.2.2.1 rfl rfl ?_
    refine jx_callSi (M' := mX11_manyIn) (As := [.int x2]) jo_X11_manyIn jwM_X11_108 jwS_X11_manyIn kd613.1 (jRok_m _ _ _) rfl (jle rfl) ⟨jle rfl, jle rfl⟩ (c_X11_manyIn (Q := fun v S' => v = (jmany x2) ∧ S8 = S') ⟨rfl, rfl⟩) (fun r13 S14 hq15 => ?_)
    obtain ⟨rfl, rfl⟩ := hq15
    refine jx_iconst (v := 3) kd613.2.1 (by decide) ?_
    refine jx_icmp_lt (tgt := 66) kd613.2.2.1 (by decide) (fun c16 => ?_) (fun c16 => ?_)
    · replace h := h.1 c16
      refine jx_iconst (v := 0) kd613.2.2.2.2.2.1 (by decide) ?_
      exact jx_iret kd613.2.2.2.2.2.2.1 rfl (by decide) (jle rfl) (jle rfl) ⟨_, rfl, h⟩
    replace h := h.2 c16
    refine jx_iconst (v := 1) kd613.2.2.2.1 (by decide) ?_
    refine jx_goto (tgt := 67) kd613.2.2.2.2.1 (by decide) ?_
    exact jx_iret kd613.2.2.2.2.2.2.1 rfl (by decide) (jle rfl) (jle rfl) ⟨_, rfl, h⟩
  replace h := h.2
  by_cases c17 : r9 = 4
  · replace h := h.1 c17
    refine jx_tableIn (v := 4) (tgt := 48) (off := 30) kd612.2.2.2.1 c17 (by decide) (by decide) (by decide) (by decide) ?_
    refine jx_iconst (v := 1) kd612.2.2.2.2.1 (by decide) ?_
    exact jx_iret kd612.2.2.2.2.2.1 rfl (by decide) (jle rfl) (jle rfl) ⟨_, rfl, h⟩
  replace h := h.2
  by_cases c18 : r9 = 5
  · replace h := h.1 c18
    refine jx_tableIn (v := 5) (tgt := 68) (off := 50) kd612.2.2.2.1 c18 (by decide) (by decide) (by decide) (by decide) ?_
    refine jx_iload_n 0 kd613.2.2.2.2.2.2.2.1 rfl rfl ?_
    refine jx_iconst (v := 2) kd613.2.2.2.2.2.2.2.2.1 (by decide) ?_
    refine jx_icmp_ge (tgt := 77) kd614.1 (by decide) (fun c19 => ?_) (fun c19 => ?_)
    · replace h := h.1 c19
      refine jx_iconst (v := 0) kd614.2.2.2.1 (by decide) ?_
      exact jx_iret kd614.2.2.2.2.1 rfl (by decide) (jle rfl) (jle rfl) ⟨_, rfl, h⟩
    replace h := h.2 c19
    refine jx_iconst (v := 1) kd614.2.1 (by decide) ?_
    refine jx_goto (tgt := 78) kd614.2.2.1 (by decide) ?_
    exact jx_iret kd614.2.2.2.2.1 rfl (by decide) (jle rfl) (jle rfl) ⟨_, rfl, h⟩
  replace h := h.2
  replace h := h c10 c11 c17 c18
  refine jx_tableD (tgt := 79) ([2, 3, 4, 5] : List Int) kd612.2.2.2.1 (by simp only [List.mem_cons, List.not_mem_nil, or_false, forall_eq_or_imp, forall_eq]; exact ⟨lv_neT c10 (by decide), lv_neT c11 (by decide), lv_neT c17 (by decide), lv_neT c18 (by decide)⟩) (by decide) (by decide) (by decide) ?_
  refine jx_iload_n 0 kd614.2.2.2.2.2.1 rfl rfl ?_
  refine jx_if_ne (tgt := 87) kd614.2.2.2.2.2.2.1 (by decide) (fun c20 => ?_) (fun c20 => ?_)
  · replace h := h.2 c20
    refine jx_iconst (v := 0) kd615.1 (by decide) ?_
    exact jx_iret kd615.2.1 rfl (by decide) (jle rfl) (jle rfl) ⟨_, rfl, h⟩
  replace h := h.1 c20
  refine jx_iconst (v := 1) kd614.2.2.2.2.2.2.2.1 (by decide) ?_
  refine jx_goto (tgt := 88) kd614.2.2.2.2.2.2.2.2.1 (by decide) ?_
  exact jx_iret kd615.2.1 rfl (by decide) (jle rfl) (jle rfl) ⟨_, rfl, h⟩
set_option maxRecDepth 100000 in
set_option maxHeartbeats 4000000 in
theorem T_X11_behindLesson {E : jEnv} {d : Nat} {Q : Int32 → jM → Prop} {a0 : Nat} {x1 : Int32} {x2 : Int32} {S : jM} (h : jk S a0 = 11 ∧ jFi E mX11_of d 0 0 [.ref a0, .int x1, .int 0] S (fun r3 S2 => (r3 = 2 → jk S2 a0 = 11 ∧ jFi E mX11_of d 0 0 [.ref a0, .int x1, .int 3] S2 (fun r10 S9 => jk S9 a0 = 11 ∧ jFi E mX11_of d 0 0 [.ref a0, .int x1, .int 2] S9 (fun r13 S12 => Q ((x2 &&& (r10 ^^^ (-1))) ||| (jshl 1 r13)) S12))) ∧ (¬ r3 = 2 → jk S2 a0 = 11 ∧ jFi E mX11_of d 0 0 [.ref a0, .int x1, .int 2] S2 (fun r7 S6 => Q (x2 ||| (jshl 1 r7)) S6)))) : jFi E mX11_behindLesson (d + 1) 0 0 [.ref a0, .int x1, .int x2] S Q := by
  refine jF_of (by decide) (jle rfl) ?_
  refine jx_lv (lv1 := [(0, .ref a0), (1, .int x1), (2, .int x2)]) [0, 1, 2] rfl ?_
  refine jx_aload_n 0 kd616.1 rfl rfl ?_
  refine jx_iload_n 1 kd616.2.1 rfl rfl ?_
  refine jx_iconst (v := 0) kd616.2.2.1 (by decide) ?_
  obtain ⟨hk1, h⟩ := h
  refine jx_callVi (M' := mX11_of) (As := [.int x1, .int 0]) jo_X11_of jc_11 rfl jwM_X11_97 jwN_X11_of jwX_X11_of kd616.2.2.2.1 (jRok_m _ _ _) rfl (jle rfl) ⟨jle rfl, jle rfl⟩ hk1 h (fun r3 S2 h => ?_)
  refine jx_iconst (v := 2) kd616.2.2.2.2.1 (by decide) ?_
  refine jx_icmp_ne (tgt := 23) kd616.2.2.2.2.2.1 (by decide) (fun c4 => ?_) (fun c4 => ?_)
  · replace h := h.2 c4
    refine jx_iload_n 2 kd617.2.2.2.2.2.2.1 rfl rfl ?_
    refine jx_istore_n (lv1 := [(3, .int x2), (0, .ref a0), (1, .int x1), (2, .int x2)]) kd617.2.2.2.2.2.2.2.1 rfl (by decide) rfl ?_
    refine jx_iload_n 0 kd617.2.2.2.2.2.2.2.2.1 rfl rfl ?_
    refine jx_iconst (v := 1) kd618.1 (by decide) ?_
    refine jx_aload_n 1 kd618.2.1 rfl rfl ?_
    refine jx_iload_n 2 kd618.2.2.1 rfl rfl ?_
    refine jx_iconst (v := 2) kd618.2.2.2.1 (by decide) ?_
    obtain ⟨hk5, h⟩ := h
    refine jx_callVi (M' := mX11_of) (As := [.int x1, .int 2]) jo_X11_of jc_11 rfl jwM_X11_97 jwN_X11_of jwX_X11_of kd618.2.2.2.2.1 (jRok_m _ _ _) rfl (jle rfl) ⟨jle rfl, jle rfl⟩ hk5 h (fun r7 S6 h => ?_)
    refine jx_ishl kd618.2.2.2.2.2.1 ?_
    refine jx_ior kd618.2.2.2.2.2.2.1 ?_
    exact jx_iret kd618.2.2.2.2.2.2.2.1 rfl rfl (jle rfl) (jle rfl) ⟨_, rfl, h⟩
  replace h := h.1 c4
  refine jx_iload_n 2 kd616.2.2.2.2.2.2.1 rfl rfl ?_
  refine jx_aload_n 0 kd616.2.2.2.2.2.2.2.1 rfl rfl ?_
  refine jx_iload_n 1 kd616.2.2.2.2.2.2.2.2.1 rfl rfl ?_
  refine jx_iconst (v := 3) kd617.1 (by decide) ?_
  obtain ⟨hk8, h⟩ := h
  refine jx_callVi (M' := mX11_of) (As := [.int x1, .int 3]) jo_X11_of jc_11 rfl jwM_X11_97 jwN_X11_of jwX_X11_of kd617.2.1 (jRok_m _ _ _) rfl (jle rfl) ⟨jle rfl, jle rfl⟩ hk8 h (fun r10 S9 h => ?_)
  refine jx_iconst (v := (-1)) kd617.2.2.1 (by decide) ?_
  refine jx_ixor kd617.2.2.2.1 ?_
  refine jx_iand kd617.2.2.2.2.1 ?_
  refine jx_goto (tgt := 24) kd617.2.2.2.2.2.1 (by decide) ?_
  refine jx_istore_n (lv1 := [(3, .int (x2 &&& (r10 ^^^ (-1)))), (0, .ref a0), (1, .int x1), (2, .int x2)]) kd617.2.2.2.2.2.2.2.1 rfl (by decide) rfl ?_
  refine jx_iload_n 0 kd617.2.2.2.2.2.2.2.2.1 rfl rfl ?_
  refine jx_iconst (v := 1) kd618.1 (by decide) ?_
  refine jx_aload_n 1 kd618.2.1 rfl rfl ?_
  refine jx_iload_n 2 kd618.2.2.1 rfl rfl ?_
  refine jx_iconst (v := 2) kd618.2.2.2.1 (by decide) ?_
  obtain ⟨hk11, h⟩ := h
  refine jx_callVi (M' := mX11_of) (As := [.int x1, .int 2]) jo_X11_of jc_11 rfl jwM_X11_97 jwN_X11_of jwX_X11_of kd618.2.2.2.2.1 (jRok_m _ _ _) rfl (jle rfl) ⟨jle rfl, jle rfl⟩ hk11 h (fun r13 S12 h => ?_)
  refine jx_ishl kd618.2.2.2.2.2.1 ?_
  refine jx_ior kd618.2.2.2.2.2.2.1 ?_
  exact jx_iret kd618.2.2.2.2.2.2.2.1 rfl rfl (jle rfl) (jle rfl) ⟨_, rfl, h⟩
set_option maxRecDepth 100000 in
set_option maxHeartbeats 4000000 in
theorem T_X11_worth {E : jEnv} {d : Nat} {Q : Int32 → jM → Prop} {a0 : Nat} {x1 : Int32} {S : jM} (h : jk S a0 = 11 ∧ jFi E mX11_of d 0 0 [.ref a0, .int x1, .int 4] S (fun r3 S2 => jk S2 a0 = 11 ∧ jFi E mX11_of d 0 0 [.ref a0, .int x1, .int 0] S2 (fun r6 S5 => (r6 = 1 → Q (r3 + 11) S5) ∧ (r6 = 2 → Q (99 - r3) S5) ∧ (r6 = 3 → Q (2 * (r3 + 11)) S5) ∧ (r6 = 4 → Q (95 - r3) S5) ∧ (r6 = 5 → Q 8 S5) ∧ (¬ r6 = 1 → ¬ r6 = 2 → ¬ r6 = 3 → ¬ r6 = 4 → ¬ r6 = 5 → Q r3 S5)))) : jFi E mX11_worth (d + 1) 0 0 [.ref a0, .int x1] S Q := by
  refine jF_of (by decide) (jle rfl) ?_
  refine jx_lv (lv1 := [(0, .ref a0), (1, .int x1)]) [0, 1] rfl ?_
  refine jx_aload_n 0 kd619.1 rfl rfl ?_
  refine jx_iload_n 1 kd619.2.1 rfl rfl ?_
  refine jx_iconst (v := 4) kd619.2.2.1 (by decide) ?_
  obtain ⟨hk1, h⟩ := h
  refine jx_callVi (M' := mX11_of) (As := [.int x1, .int 4]) jo_X11_of jc_11 rfl jwM_X11_97 jwN_X11_of jwX_X11_of kd619.2.2.2.1 (jRok_m _ _ _) rfl (jle rfl) ⟨jle rfl, jle rfl⟩ hk1 h (fun r3 S2 h => ?_)
  refine jx_istore_n (lv1 := [(2, .int r3), (0, .ref a0), (1, .int x1)]) kd619.2.2.2.2.1 rfl (by decide) rfl ?_
  refine jx_aload_n 1 kd619.2.2.2.2.2.1 rfl rfl ?_
  refine jx_iload_n 2 kd619.2.2.2.2.2.2.1 rfl rfl ?_
  refine jx_iconst (v := 0) kd619.2.2.2.2.2.2.2.1 (by decide) ?_
  obtain ⟨hk4, h⟩ := h
  refine jx_callVi (M' := mX11_of) (As := [.int x1, .int 0]) jo_X11_of jc_11 rfl jwM_X11_97 jwN_X11_of jwX_X11_of kd619.2.2.2.2.2.2.2.2.1 (jRok_m _ _ _) rfl (jle rfl) ⟨jle rfl, jle rfl⟩ hk4 h (fun r6 S5 h => ?_)
  by_cases c7 : r6 = 1
  · replace h := h.1 c7
    refine jx_tableIn (v := 1) (tgt := 48) (off := 35) kd620.1 c7 (by decide) (by decide) (by decide) (by decide) ?_
    refine jx_iload_n 0 kd620.2.1 rfl rfl ?_
    refine jx_bipush (v := 11) kd620.2.2.1 (by decide) ?_
    refine jx_iadd kd620.2.2.2.1 ?_
    exact jx_iret kd620.2.2.2.2.1 rfl rfl (jle rfl) (jle rfl) ⟨_, rfl, h⟩
  replace h := h.2
  by_cases c8 : r6 = 2
  · replace h := h.1 c8
    refine jx_tableIn (v := 2) (tgt := 53) (off := 40) kd620.1 c8 (by decide) (by decide) (by decide) (by decide) ?_
    refine jx_bipush (v := 99) kd620.2.2.2.2.2.1 (by decide) ?_
    refine jx_iload_n 0 kd620.2.2.2.2.2.2.1 rfl rfl ?_
    refine jx_isub kd620.2.2.2.2.2.2.2.1 ?_
    exact jx_iret kd620.2.2.2.2.2.2.2.2.1 rfl rfl (jle rfl) (jle rfl) ⟨_, rfl, h⟩
  replace h := h.2
  by_cases c9 : r6 = 3
  · replace h := h.1 c9
    refine jx_tableIn (v := 3) (tgt := 58) (off := 45) kd620.1 c9 (by decide) (by decide) (by decide) (by decide) ?_
    refine jx_iconst (v := 2) kd621.1 (by decide) ?_
    refine jx_iload_n 0 kd621.2.1 rfl rfl ?_
    refine jx_bipush (v := 11) kd621.2.2.1 (by decide) ?_
    refine jx_iadd kd621.2.2.2.1 ?_
    refine jx_imul kd621.2.2.2.2.1 ?_
    exact jx_iret kd621.2.2.2.2.2.1 rfl rfl (jle rfl) (jle rfl) ⟨_, rfl, h⟩
  replace h := h.2
  by_cases c10 : r6 = 4
  · replace h := h.1 c10
    refine jx_tableIn (v := 4) (tgt := 65) (off := 52) kd620.1 c10 (by decide) (by decide) (by decide) (by decide) ?_
    refine jx_bipush (v := 95) kd621.2.2.2.2.2.2.1 (by decide) ?_
    refine jx_iload_n 0 kd621.2.2.2.2.2.2.2.1 rfl rfl ?_
    refine jx_isub kd621.2.2.2.2.2.2.2.2.1 ?_
    exact jx_iret kd622.1 rfl rfl (jle rfl) (jle rfl) ⟨_, rfl, h⟩
  replace h := h.2
  by_cases c11 : r6 = 5
  · replace h := h.1 c11
    refine jx_tableIn (v := 5) (tgt := 70) (off := 57) kd620.1 c11 (by decide) (by decide) (by decide) (by decide) ?_
    refine jx_bipush (v := 8) kd622.2.1 (by decide) ?_
    exact jx_iret kd622.2.2.1 rfl rfl (jle rfl) (jle rfl) ⟨_, rfl, h⟩
  replace h := h.2
  replace h := h c7 c8 c9 c10 c11
  refine jx_tableD (tgt := 73) ([1, 2, 3, 4, 5] : List Int) kd620.1 (by simp only [List.mem_cons, List.not_mem_nil, or_false, forall_eq_or_imp, forall_eq]; exact ⟨lv_neT c7 (by decide), lv_neT c8 (by decide), lv_neT c9 (by decide), lv_neT c10 (by decide), lv_neT c11 (by decide)⟩) (by decide) (by decide) (by decide) ?_
  refine jx_iload_n 0 kd622.2.2.2.1 rfl rfl ?_
  exact jx_iret kd622.2.2.2.2.1 rfl rfl (jle rfl) (jle rfl) ⟨_, rfl, h⟩
set_option maxRecDepth 100000 in
set_option maxHeartbeats 4000000 in
theorem T_X11_told {E : jEnv} {d : Nat} {Q : Int32 → jM → Prop} {a0 : Nat} {x1 : Int32} {x2 : Int32} {S : jM} (h : jk S a0 = 11 ∧ jFi E mX11_isMaster d 0 0 [.ref a0, .int x1] S (fun r3 S2 => (r3 = 0 → Q (-1000000001) S2) ∧ (¬ r3 = 0 → ((jisin (Int32.toInt64 x2) 0 9) = 0 → Q (-1000000001) S2) ∧ (¬ (jisin (Int32.toInt64 x2) 0 9) = 0 → (7 ≤ x2 → (x2 = 7 → jk S2 a0 = 11 ∧ ∃ b23, jr S2 a0 0 = some b23 ∧ (jk S2 b23 = 12 ∧ vp_in 4 (jl S2 b23) ∧ (jFi E mX11_takes d 0 0 [.ref a0, .int x1, .int (jmany (ji S2 b23 (Int32.toNatClampNeg 4)))] S2 (fun r30 S29 => Q r30 S29)))) ∧ (¬ x2 = 7 → (x2 = 9 → jk S2 a0 = 11 ∧ jFi E mX11_worth d 0 0 [.ref a0, .int x1] S2 (fun r21 S20 => Q r21 S20)) ∧ (¬ x2 = 9 → jk S2 a0 = 11 ∧ ∃ b13, jr S2 a0 0 = some b13 ∧ (jk S2 b13 = 12 ∧ vp_in 4 (jl S2 b13) ∧ (jFi E mX11_teaches d 0 0 [.ref a0, .int x1, .int (ji S2 b13 (Int32.toNatClampNeg 4))] S2 (fun r17 S16 => (r17 = 0 → Q 0 S16) ∧ (¬ r17 = 0 → Q 1 S16))))))) ∧ (¬ 7 ≤ x2 → jk S2 a0 = 11 ∧ jFi E mX11_of d 0 0 [.ref a0, .int x1, .int x2] S2 (fun r33 S32 => Q r33 S32)))))) : jFi E mX11_told (d + 1) 0 0 [.ref a0, .int x1, .int x2] S Q := by
  refine jF_of (by decide) (jle rfl) ?_
  refine jx_lv (lv1 := [(0, .ref a0), (1, .int x1), (2, .int x2)]) [0, 1, 2] rfl ?_
  refine jx_aload_n 0 kd623.1 rfl rfl ?_
  refine jx_iload_n 1 kd623.2.1 rfl rfl ?_
  obtain ⟨hk1, h⟩ := h
  refine jx_callVi (M' := mX11_isMaster) (As := [.int x1]) jo_X11_isMaster jc_11 rfl jwM_X11_111 jwN_X11_isMaster jwX_X11_isMaster kd623.2.2.1 (jRok_m _ _ _) rfl (jle rfl) ⟨jle rfl, jle rfl⟩ hk1 h (fun r3 S2 h => ?_)
  refine jx_if_eq (tgt := 20) kd623.2.2.2.1 (by decide) (fun c4 => ?_) (fun c4 => ?_)
  · replace h := h.1 c4
    refine jx_ldc jwC_X11_87 kd624.2.1 ?_
    exact jx_iret kd624.2.2.1 rfl rfl (jle rfl) (jle rfl) ⟨_, rfl, h⟩
  replace h := h.2 c4
  refine jx_iload_n 2 kd623.2.2.2.2.1 rfl rfl ?_
  refine jx_i2l kd623.2.2.2.2.2.1 ?_
  refine jx_lconst (v := 0) kd623.2.2.2.2.2.2.1 (by decide) ?_
  refine jx_ldc2 jwL_X11_114 kd623.2.2.2.2.2.2.2.1 ?_
  refine jx_callSi (M' := mX11_isIn) (As := [.long (Int32.toInt64 x2), .long 0, .long 9]) jo_X11_isIn jwM_X11_71 jwS_X11_isIn kd623.2.2.2.2.2.2.2.2.1 (jRok_m _ _ _) rfl (jle rfl) ⟨jle rfl, jle rfl⟩ (c_X11_isIn (Q := fun v S' => v = (jisin (Int32.toInt64 x2) 0 9) ∧ S2 = S') ⟨rfl, rfl⟩) (fun r5 S6 hq7 => ?_)
  obtain ⟨rfl, rfl⟩ := hq7
  refine jx_if_ne (tgt := 23) kd624.1 (by decide) (fun c8 => ?_) (fun c8 => ?_)
  · replace h := h.2 c8
    refine jx_iload_n 2 kd624.2.2.2.1 rfl rfl ?_
    refine jx_bipush (v := 7) kd624.2.2.2.2.1 (by decide) ?_
    refine jx_icmp_ge (tgt := 36) kd624.2.2.2.2.2.1 (by decide) (fun c9 => ?_) (fun c9 => ?_)
    · replace h := h.1 c9
      refine jx_iload_n 2 kd625.2.2.1 rfl rfl ?_
      refine jx_bipush (v := 7) kd625.2.2.2.1 (by decide) ?_
      refine jx_icmp_ne (tgt := 59) kd625.2.2.2.2.1 (by decide) (fun c10 => ?_) (fun c10 => ?_)
      · replace h := h.2 c10
        refine jx_iload_n 2 kd626.2.2.2.2.2.1 rfl rfl ?_
        refine jx_bipush (v := 9) kd626.2.2.2.2.2.2.1 (by decide) ?_
        refine jx_icmp_ne (tgt := 73) kd626.2.2.2.2.2.2.2.1 (by decide) (fun c11 => ?_) (fun c11 => ?_)
        · replace h := h.2 c11
          refine jx_aload_n 0 kd627.2.2.2.1 rfl rfl ?_
          refine jx_iload_n 1 kd627.2.2.2.2.1 rfl rfl ?_
          refine jx_aload_n 0 kd627.2.2.2.2.2.1 rfl rfl ?_
          obtain ⟨hk12, h⟩ := h
          obtain ⟨b13, hb13, h⟩ := h
          refine jx_getr jc_11 (j := 0) (by decide) rfl jwF_X11_7 kd627.2.2.2.2.2.2.1 hk12 hb13 ?_
          refine jx_iconst (v := 4) kd627.2.2.2.2.2.2.2.1 (by decide) ?_
          obtain ⟨hk14, h⟩ := h
          obtain ⟨hi15, h⟩ := h
          refine jx_iald kd627.2.2.2.2.2.2.2.2.1 hk14 hi15 ?_
          refine jx_callVi (M' := mX11_teaches) (As := [.int x1, .int (ji S2 b13 (Int32.toNatClampNeg 4))]) jo_X11_teaches jc_11 rfl jwM_X11_122 jwN_X11_teaches jwX_X11_teaches kd628.1 (jRok_m _ _ _) rfl (jle rfl) ⟨jle rfl, jle rfl⟩ hk12 h (fun r17 S16 h => ?_)
          refine jx_if_eq (tgt := 91) kd628.2.1 (by decide) (fun c18 => ?_) (fun c18 => ?_)
          · replace h := h.1 c18
            refine jx_iconst (v := 0) kd628.2.2.2.2.1 (by decide) ?_
            exact jx_iret kd628.2.2.2.2.2.1 rfl rfl (jle rfl) (jle rfl) ⟨_, rfl, h⟩
          replace h := h.2 c18
          refine jx_iconst (v := 1) kd628.2.2.1 (by decide) ?_
          refine jx_goto (tgt := 92) kd628.2.2.2.1 (by decide) ?_
          exact jx_iret kd628.2.2.2.2.2.1 rfl rfl (jle rfl) (jle rfl) ⟨_, rfl, h⟩
        replace h := h.1 c11
        refine jx_aload_n 0 kd626.2.2.2.2.2.2.2.2.1 rfl rfl ?_
        refine jx_iload_n 1 kd627.1 rfl rfl ?_
        obtain ⟨hk19, h⟩ := h
        refine jx_callVi (M' := mX11_worth) (As := [.int x1]) jo_X11_worth jc_11 rfl jwM_X11_119 jwN_X11_worth jwX_X11_worth kd627.2.1 (jRok_m _ _ _) rfl (jle rfl) ⟨jle rfl, jle rfl⟩ hk19 h (fun r21 S20 h => ?_)
        refine jx_goto (tgt := 92) kd627.2.2.1 (by decide) ?_
        exact jx_iret kd628.2.2.2.2.2.1 rfl rfl (jle rfl) (jle rfl) ⟨_, rfl, h⟩
      replace h := h.1 c10
      refine jx_aload_n 0 kd625.2.2.2.2.2.1 rfl rfl ?_
      refine jx_iload_n 1 kd625.2.2.2.2.2.2.1 rfl rfl ?_
      refine jx_aload_n 0 kd625.2.2.2.2.2.2.2.1 rfl rfl ?_
      obtain ⟨hk22, h⟩ := h
      obtain ⟨b23, hb23, h⟩ := h
      refine jx_getr jc_11 (j := 0) (by decide) rfl jwF_X11_7 kd625.2.2.2.2.2.2.2.2.1 hk22 hb23 ?_
      refine jx_iconst (v := 4) kd626.1 (by decide) ?_
      obtain ⟨hk24, h⟩ := h
      obtain ⟨hi25, h⟩ := h
      refine jx_iald kd626.2.1 hk24 hi25 ?_
      refine jx_callSi (M' := mX11_manyIn) (As := [.int (ji S2 b23 (Int32.toNatClampNeg 4))]) jo_X11_manyIn jwM_X11_108 jwS_X11_manyIn kd626.2.2.1 (jRok_m _ _ _) rfl (jle rfl) ⟨jle rfl, jle rfl⟩ (c_X11_manyIn (Q := fun v S' => v = (jmany (ji S2 b23 (Int32.toNatClampNeg 4))) ∧ S2 = S') ⟨rfl, rfl⟩) (fun r26 S27 hq28 => ?_)
      obtain ⟨rfl, rfl⟩ := hq28
      refine jx_callVi (M' := mX11_takes) (As := [.int x1, .int (jmany (ji S2 b23 (Int32.toNatClampNeg 4)))]) jo_X11_takes jc_11 rfl jwM_X11_116 jwN_X11_takes jwX_X11_takes kd626.2.2.2.1 (jRok_m _ _ _) rfl (jle rfl) ⟨jle rfl, jle rfl⟩ hk22 h (fun r30 S29 h => ?_)
      refine jx_goto (tgt := 92) kd626.2.2.2.2.1 (by decide) ?_
      exact jx_iret kd628.2.2.2.2.2.1 rfl rfl (jle rfl) (jle rfl) ⟨_, rfl, h⟩
    replace h := h.2 c9
    refine jx_aload_n 0 kd624.2.2.2.2.2.2.1 rfl rfl ?_
    refine jx_iload_n 1 kd624.2.2.2.2.2.2.2.1 rfl rfl ?_
    refine jx_iload_n 2 kd624.2.2.2.2.2.2.2.2.1 rfl rfl ?_
    obtain ⟨hk31, h⟩ := h
    refine jx_callVi (M' := mX11_of) (As := [.int x1, .int x2]) jo_X11_of jc_11 rfl jwM_X11_97 jwN_X11_of jwX_X11_of kd625.1 (jRok_m _ _ _) rfl (jle rfl) ⟨jle rfl, jle rfl⟩ hk31 h (fun r33 S32 h => ?_)
    exact jx_iret kd625.2.1 rfl rfl (jle rfl) (jle rfl) ⟨_, rfl, h⟩
  replace h := h.1 c8
  refine jx_ldc jwC_X11_87 kd624.2.1 ?_
  exact jx_iret kd624.2.2.1 rfl rfl (jle rfl) (jle rfl) ⟨_, rfl, h⟩
set_option maxRecDepth 100000 in
set_option maxHeartbeats 4000000 in
theorem T_X11_as {E : jEnv} {d : Nat} {Q : Int32 → jM → Prop} {a0 : Nat} {x1 : Int32} {x2 : Int32} {S : jM} (h : jk S a0 = 11 ∧ jFi E mX11_isMaster d 0 0 [.ref a0, .int x1] S (fun r3 S2 => (r3 = 0 → Q (-1000000001) S2) ∧ (¬ r3 = 0 → ((jisin (Int32.toInt64 x2) 0 5) = 0 → Q (-1000000001) S2) ∧ (¬ (jisin (Int32.toInt64 x2) 0 5) = 0 → jk S2 a0 = 11 ∧ jFi E mX11_of d 0 0 [.ref a0, .int x1, .int 0] S2 (fun r11 S10 => ((jisof r11 x2) = 0 → Q (-1000000012) S10) ∧ (¬ (jisof r11 x2) = 0 → jk S10 a0 = 11 ∧ jFi E mX11_of d 0 0 [.ref a0, .int x1, .int 4] S10 (fun r18 S17 => Q r18 S17))))))) : jFi E mX11_as (d + 1) 0 0 [.ref a0, .int x1, .int x2] S Q := by
  refine jF_of (by decide) (jle rfl) ?_
  refine jx_lv (lv1 := [(0, .ref a0), (1, .int x1), (2, .int x2)]) [0, 1, 2] rfl ?_
  refine jx_aload_n 0 kd632.1 rfl rfl ?_
  refine jx_iload_n 1 kd632.2.1 rfl rfl ?_
  obtain ⟨hk1, h⟩ := h
  refine jx_callVi (M' := mX11_isMaster) (As := [.int x1]) jo_X11_isMaster jc_11 rfl jwM_X11_111 jwN_X11_isMaster jwX_X11_isMaster kd632.2.2.1 (jRok_m _ _ _) rfl (jle rfl) ⟨jle rfl, jle rfl⟩ hk1 h (fun r3 S2 h => ?_)
  refine jx_if_eq (tgt := 20) kd632.2.2.2.1 (by decide) (fun c4 => ?_) (fun c4 => ?_)
  · replace h := h.1 c4
    refine jx_ldc jwC_X11_87 kd633.2.1 ?_
    exact jx_iret kd633.2.2.1 rfl rfl (jle rfl) (jle rfl) ⟨_, rfl, h⟩
  replace h := h.2 c4
  refine jx_iload_n 2 kd632.2.2.2.2.1 rfl rfl ?_
  refine jx_i2l kd632.2.2.2.2.2.1 ?_
  refine jx_lconst (v := 0) kd632.2.2.2.2.2.2.1 (by decide) ?_
  refine jx_ldc2 jwL_X11_76 kd632.2.2.2.2.2.2.2.1 ?_
  refine jx_callSi (M' := mX11_isIn) (As := [.long (Int32.toInt64 x2), .long 0, .long 5]) jo_X11_isIn jwM_X11_71 jwS_X11_isIn kd632.2.2.2.2.2.2.2.2.1 (jRok_m _ _ _) rfl (jle rfl) ⟨jle rfl, jle rfl⟩ (c_X11_isIn (Q := fun v S' => v = (jisin (Int32.toInt64 x2) 0 5) ∧ S2 = S') ⟨rfl, rfl⟩) (fun r5 S6 hq7 => ?_)
  obtain ⟨rfl, rfl⟩ := hq7
  refine jx_if_ne (tgt := 23) kd633.1 (by decide) (fun c8 => ?_) (fun c8 => ?_)
  · replace h := h.2 c8
    refine jx_aload_n 0 kd633.2.2.2.1 rfl rfl ?_
    refine jx_iload_n 1 kd633.2.2.2.2.1 rfl rfl ?_
    refine jx_iconst (v := 0) kd633.2.2.2.2.2.1 (by decide) ?_
    obtain ⟨hk9, h⟩ := h
    refine jx_callVi (M' := mX11_of) (As := [.int x1, .int 0]) jo_X11_of jc_11 rfl jwM_X11_97 jwN_X11_of jwX_X11_of kd633.2.2.2.2.2.2.1 (jRok_m _ _ _) rfl (jle rfl) ⟨jle rfl, jle rfl⟩ hk9 h (fun r11 S10 h => ?_)
    refine jx_iload_n 2 kd633.2.2.2.2.2.2.2.1 rfl rfl ?_
    refine jx_callSi (M' := mX11_isOf) (As := [.int r11, .int x2]) jo_X11_isOf jwM_X11_126 jwS_X11_isOf kd633.2.2.2.2.2.2.2.2.1 (jRok_m _ _ _) rfl (jle rfl) ⟨jle rfl, jle rfl⟩ (c_X11_isOf (Q := fun v S' => v = (jisof r11 x2) ∧ S10 = S') ⟨rfl, rfl⟩) (fun r12 S13 hq14 => ?_)
    obtain ⟨rfl, rfl⟩ := hq14
    refine jx_if_eq (tgt := 45) kd634.1 (by decide) (fun c15 => ?_) (fun c15 => ?_)
    · replace h := h.1 c15
      refine jx_ldc jwC_X11_129 kd634.2.2.2.2.2.2.1 ?_
      exact jx_iret kd634.2.2.2.2.2.2.2.1 rfl rfl (jle rfl) (jle rfl) ⟨_, rfl, h⟩
    replace h := h.2 c15
    refine jx_aload_n 0 kd634.2.1 rfl rfl ?_
    refine jx_iload_n 1 kd634.2.2.1 rfl rfl ?_
    refine jx_iconst (v := 4) kd634.2.2.2.1 (by decide) ?_
    obtain ⟨hk16, h⟩ := h
    refine jx_callVi (M' := mX11_of) (As := [.int x1, .int 4]) jo_X11_of jc_11 rfl jwM_X11_97 jwN_X11_of jwX_X11_of kd634.2.2.2.2.1 (jRok_m _ _ _) rfl (jle rfl) ⟨jle rfl, jle rfl⟩ hk16 h (fun r18 S17 h => ?_)
    refine jx_goto (tgt := 47) kd634.2.2.2.2.2.1 (by decide) ?_
    exact jx_iret kd634.2.2.2.2.2.2.2.1 rfl rfl (jle rfl) (jle rfl) ⟨_, rfl, h⟩
  replace h := h.1 c8
  refine jx_ldc jwC_X11_87 kd633.2.1 ?_
  exact jx_iret kd633.2.2.1 rfl rfl (jle rfl) (jle rfl) ⟨_, rfl, h⟩
set_option maxRecDepth 100000 in
set_option maxHeartbeats 4000000 in
theorem T_X11_turns {E : jEnv} {d : Nat} {Q : Int32 → jM → Prop} {a0 : Nat} {x1 : Int32} {x2 : Int32} {S : jM} (h : jk S a0 = 11 ∧ jFi E mX11_isMaster d 0 0 [.ref a0, .int x1] S (fun r3 S2 => (r3 = 0 → Q (-1000000001) S2) ∧ (¬ r3 = 0 → ((jisin (Int32.toInt64 x2) 0 5) = 0 → Q (-1000000001) S2) ∧ (¬ (jisin (Int32.toInt64 x2) 0 5) = 0 → jk S2 a0 = 11 ∧ jFi E mX11_becomes d 0 0 [.ref a0, .int (72 + (7 * x1)), .int x2] S2 (fun r11 S10 => Q r11 S10))))) : jFi E mX11_turns (d + 1) 0 0 [.ref a0, .int x1, .int x2] S Q := by
  refine jF_of (by decide) (jle rfl) ?_
  refine jx_lv (lv1 := [(0, .ref a0), (1, .int x1), (2, .int x2)]) [0, 1, 2] rfl ?_
  refine jx_aload_n 0 kd635.1 rfl rfl ?_
  refine jx_iload_n 1 kd635.2.1 rfl rfl ?_
  obtain ⟨hk1, h⟩ := h
  refine jx_callVi (M' := mX11_isMaster) (As := [.int x1]) jo_X11_isMaster jc_11 rfl jwM_X11_111 jwN_X11_isMaster jwX_X11_isMaster kd635.2.2.1 (jRok_m _ _ _) rfl (jle rfl) ⟨jle rfl, jle rfl⟩ hk1 h (fun r3 S2 h => ?_)
  refine jx_if_eq (tgt := 35) kd635.2.2.2.1 (by decide) (fun c4 => ?_) (fun c4 => ?_)
  · replace h := h.1 c4
    refine jx_ldc jwC_X11_87 kd637.2.1 ?_
    exact jx_iret kd637.2.2.1 rfl rfl (jle rfl) (jle rfl) ⟨_, rfl, h⟩
  replace h := h.2 c4
  refine jx_iload_n 2 kd635.2.2.2.2.1 rfl rfl ?_
  refine jx_i2l kd635.2.2.2.2.2.1 ?_
  refine jx_lconst (v := 0) kd635.2.2.2.2.2.2.1 (by decide) ?_
  refine jx_ldc2 jwL_X11_76 kd635.2.2.2.2.2.2.2.1 ?_
  refine jx_callSi (M' := mX11_isIn) (As := [.long (Int32.toInt64 x2), .long 0, .long 5]) jo_X11_isIn jwM_X11_71 jwS_X11_isIn kd635.2.2.2.2.2.2.2.2.1 (jRok_m _ _ _) rfl (jle rfl) ⟨jle rfl, jle rfl⟩ (c_X11_isIn (Q := fun v S' => v = (jisin (Int32.toInt64 x2) 0 5) ∧ S2 = S') ⟨rfl, rfl⟩) (fun r5 S6 hq7 => ?_)
  obtain ⟨rfl, rfl⟩ := hq7
  refine jx_if_eq (tgt := 35) kd636.1 (by decide) (fun c8 => ?_) (fun c8 => ?_)
  · replace h := h.1 c8
    refine jx_ldc jwC_X11_87 kd637.2.1 ?_
    exact jx_iret kd637.2.2.1 rfl rfl (jle rfl) (jle rfl) ⟨_, rfl, h⟩
  replace h := h.2 c8
  refine jx_aload_n 0 kd636.2.1 rfl rfl ?_
  refine jx_bipush (v := 72) kd636.2.2.1 (by decide) ?_
  refine jx_bipush (v := 7) kd636.2.2.2.1 (by decide) ?_
  refine jx_iload_n 1 kd636.2.2.2.2.1 rfl rfl ?_
  refine jx_imul kd636.2.2.2.2.2.1 ?_
  refine jx_iadd kd636.2.2.2.2.2.2.1 ?_
  refine jx_iload_n 2 kd636.2.2.2.2.2.2.2.1 rfl rfl ?_
  obtain ⟨hk9, h⟩ := h
  refine jx_callVi (M' := mX11_becomes) (As := [.int (72 + (7 * x1)), .int x2]) jo_X11_becomes jc_11 rfl jwM_X11_130 jwN_X11_becomes jwX_X11_becomes kd636.2.2.2.2.2.2.2.2.1 (jRok_m _ _ _) rfl (jle rfl) ⟨jle rfl, jle rfl⟩ hk9 h (fun r11 S10 h => ?_)
  refine jx_goto (tgt := 37) kd637.1 (by decide) ?_
  exact jx_iret kd637.2.2.1 rfl rfl (jle rfl) (jle rfl) ⟨_, rfl, h⟩
set_option maxRecDepth 100000 in
set_option maxHeartbeats 4000000 in
theorem T_X11_set {E : jEnv} {d : Nat} {Q : Int32 → jM → Prop} {a0 : Nat} {x1 : Int32} {x2 : Int32} {x3 : Int32} {S : jM} (h : jk S a0 = 11 ∧ jFi E mX11_isMaster d 0 0 [.ref a0, .int x1] S (fun r3 S2 => (r3 = 0 → Q (-1000000001) S2) ∧ (¬ r3 = 0 → ((jisin (Int32.toInt64 x2) 4 6) = 0 → Q (-1000000001) S2) ∧ (¬ (jisin (Int32.toInt64 x2) 4 6) = 0 → (x2 = 6 → ((jisin (Int32.toInt64 x3) 0 1) = 0 → Q (-1000000001) S2) ∧ (¬ (jisin (Int32.toInt64 x3) 0 1) = 0 → jk S2 a0 = 11 ∧ jFi E mX11_becomes d 0 0 [.ref a0, .int ((72 + (7 * x1)) + x2), .int x3] S2 (fun r23 S22 => Q r23 S22))) ∧ (¬ x2 = 6 → ((jisin (Int32.toInt64 x3) 0 99) = 0 → Q (-1000000001) S2) ∧ (¬ (jisin (Int32.toInt64 x3) 0 99) = 0 → jk S2 a0 = 11 ∧ jFi E mX11_becomes d 0 0 [.ref a0, .int ((72 + (7 * x1)) + x2), .int x3] S2 (fun r16 S15 => Q r16 S15))))))) : jFi E mX11_set (d + 1) 0 0 [.ref a0, .int x1, .int x2, .int x3] S Q := by
  refine jF_of (by decide) (jle rfl) ?_
  refine jx_lv (lv1 := [(0, .ref a0), (1, .int x1), (2, .int x2), (3, .int x3)]) [0, 1, 2, 3] rfl ?_
  refine jx_aload_n 0 kd638.1 rfl rfl ?_
  refine jx_iload_n 1 kd638.2.1 rfl rfl ?_
  obtain ⟨hk1, h⟩ := h
  refine jx_callVi (M' := mX11_isMaster) (As := [.int x1]) jo_X11_isMaster jc_11 rfl jwM_X11_111 jwN_X11_isMaster jwX_X11_isMaster kd638.2.2.1 (jRok_m _ _ _) rfl (jle rfl) ⟨jle rfl, jle rfl⟩ hk1 h (fun r3 S2 h => ?_)
  refine jx_if_eq (tgt := 44) kd638.2.2.2.1 (by decide) (fun c4 => ?_) (fun c4 => ?_)
  · replace h := h.1 c4
    refine jx_ldc jwC_X11_87 kd640.2.2.2.1 ?_
    exact jx_iret kd640.2.2.2.2.1 rfl rfl (jle rfl) (jle rfl) ⟨_, rfl, h⟩
  replace h := h.2 c4
  refine jx_iload_n 2 kd638.2.2.2.2.1 rfl rfl ?_
  refine jx_i2l kd638.2.2.2.2.2.1 ?_
  refine jx_ldc2 jwL_X11_133 kd638.2.2.2.2.2.2.1 ?_
  refine jx_ldc2 jwL_X11_135 kd638.2.2.2.2.2.2.2.1 ?_
  refine jx_callSi (M' := mX11_isIn) (As := [.long (Int32.toInt64 x2), .long 4, .long 6]) jo_X11_isIn jwM_X11_71 jwS_X11_isIn kd638.2.2.2.2.2.2.2.2.1 (jRok_m _ _ _) rfl (jle rfl) ⟨jle rfl, jle rfl⟩ (c_X11_isIn (Q := fun v S' => v = (jisin (Int32.toInt64 x2) 4 6) ∧ S2 = S') ⟨rfl, rfl⟩) (fun r5 S6 hq7 => ?_)
  obtain ⟨rfl, rfl⟩ := hq7
  refine jx_if_eq (tgt := 44) kd639.1 (by decide) (fun c8 => ?_) (fun c8 => ?_)
  · replace h := h.1 c8
    refine jx_ldc jwC_X11_87 kd640.2.2.2.1 ?_
    exact jx_iret kd640.2.2.2.2.1 rfl rfl (jle rfl) (jle rfl) ⟨_, rfl, h⟩
  replace h := h.2 c8
  refine jx_iload_n 3 kd639.2.1 rfl rfl ?_
  refine jx_i2l kd639.2.2.1 ?_
  refine jx_lconst (v := 0) kd639.2.2.2.1 (by decide) ?_
  refine jx_iload_n 2 kd639.2.2.2.2.1 rfl rfl ?_
  refine jx_bipush (v := 6) kd639.2.2.2.2.2.1 (by decide) ?_
  refine jx_icmp_ne (tgt := 35) kd639.2.2.2.2.2.2.1 (by decide) (fun c9 => ?_) (fun c9 => ?_)
  · replace h := h.2 c9
    refine jx_ldc2 jwL_X11_85 kd640.1 ?_
    refine jx_callSi (M' := mX11_isIn) (As := [.long (Int32.toInt64 x3), .long 0, .long 99]) jo_X11_isIn jwM_X11_71 jwS_X11_isIn kd640.2.1 (jRok_m _ _ _) rfl (jle rfl) ⟨jle rfl, jle rfl⟩ (c_X11_isIn (Q := fun v S' => v = (jisin (Int32.toInt64 x3) 0 99) ∧ S2 = S') ⟨rfl, rfl⟩) (fun r10 S11 hq12 => ?_)
    obtain ⟨rfl, rfl⟩ := hq12
    refine jx_if_ne (tgt := 47) kd640.2.2.1 (by decide) (fun c13 => ?_) (fun c13 => ?_)
    · replace h := h.2 c13
      refine jx_aload_n 0 kd640.2.2.2.2.2.1 rfl rfl ?_
      refine jx_bipush (v := 72) kd640.2.2.2.2.2.2.1 (by decide) ?_
      refine jx_bipush (v := 7) kd640.2.2.2.2.2.2.2.1 (by decide) ?_
      refine jx_iload_n 1 kd640.2.2.2.2.2.2.2.2.1 rfl rfl ?_
      refine jx_imul kd641.1 ?_
      refine jx_iadd kd641.2.1 ?_
      refine jx_iload_n 2 kd641.2.2.1 rfl rfl ?_
      refine jx_iadd kd641.2.2.2.1 ?_
      refine jx_iload_n 3 kd641.2.2.2.2.1 rfl rfl ?_
      obtain ⟨hk14, h⟩ := h
      refine jx_callVi (M' := mX11_becomes) (As := [.int ((72 + (7 * x1)) + x2), .int x3]) jo_X11_becomes jc_11 rfl jwM_X11_130 jwN_X11_becomes jwX_X11_becomes kd641.2.2.2.2.2.1 (jRok_m _ _ _) rfl (jle rfl) ⟨jle rfl, jle rfl⟩ hk14 h (fun r16 S15 h => ?_)
      exact jx_iret kd641.2.2.2.2.2.2.1 rfl rfl (jle rfl) (jle rfl) ⟨_, rfl, h⟩
    replace h := h.1 c13
    refine jx_ldc jwC_X11_87 kd640.2.2.2.1 ?_
    exact jx_iret kd640.2.2.2.2.1 rfl rfl (jle rfl) (jle rfl) ⟨_, rfl, h⟩
  replace h := h.1 c9
  refine jx_lconst (v := 1) kd639.2.2.2.2.2.2.2.1 (by decide) ?_
  refine jx_goto (tgt := 38) kd639.2.2.2.2.2.2.2.2.1 (by decide) ?_
  refine jx_callSi (M' := mX11_isIn) (As := [.long (Int32.toInt64 x3), .long 0, .long 1]) jo_X11_isIn jwM_X11_71 jwS_X11_isIn kd640.2.1 (jRok_m _ _ _) rfl (jle rfl) ⟨jle rfl, jle rfl⟩ (c_X11_isIn (Q := fun v S' => v = (jisin (Int32.toInt64 x3) 0 1) ∧ S2 = S') ⟨rfl, rfl⟩) (fun r17 S18 hq19 => ?_)
  obtain ⟨rfl, rfl⟩ := hq19
  refine jx_if_ne (tgt := 47) kd640.2.2.1 (by decide) (fun c20 => ?_) (fun c20 => ?_)
  · replace h := h.2 c20
    refine jx_aload_n 0 kd640.2.2.2.2.2.1 rfl rfl ?_
    refine jx_bipush (v := 72) kd640.2.2.2.2.2.2.1 (by decide) ?_
    refine jx_bipush (v := 7) kd640.2.2.2.2.2.2.2.1 (by decide) ?_
    refine jx_iload_n 1 kd640.2.2.2.2.2.2.2.2.1 rfl rfl ?_
    refine jx_imul kd641.1 ?_
    refine jx_iadd kd641.2.1 ?_
    refine jx_iload_n 2 kd641.2.2.1 rfl rfl ?_
    refine jx_iadd kd641.2.2.2.1 ?_
    refine jx_iload_n 3 kd641.2.2.2.2.1 rfl rfl ?_
    obtain ⟨hk21, h⟩ := h
    refine jx_callVi (M' := mX11_becomes) (As := [.int ((72 + (7 * x1)) + x2), .int x3]) jo_X11_becomes jc_11 rfl jwM_X11_130 jwN_X11_becomes jwX_X11_becomes kd641.2.2.2.2.2.1 (jRok_m _ _ _) rfl (jle rfl) ⟨jle rfl, jle rfl⟩ hk21 h (fun r23 S22 h => ?_)
    exact jx_iret kd641.2.2.2.2.2.2.1 rfl rfl (jle rfl) (jle rfl) ⟨_, rfl, h⟩
  replace h := h.1 c20
  refine jx_ldc jwC_X11_87 kd640.2.2.2.1 ?_
  exact jx_iret kd640.2.2.2.2.1 rfl rfl (jle rfl) (jle rfl) ⟨_, rfl, h⟩
set_option maxRecDepth 100000 in
set_option maxHeartbeats 4000000 in
theorem T_X11_bars {E : jEnv} {d : Nat} {Q : Int32 → jM → Prop} {a0 : Nat} {x1 : Int32} {x2 : Int32} {x3 : Int32} {S : jM} (h : jk S a0 = 11 ∧ jFi E mX11_isMaster d 0 0 [.ref a0, .int x1] S (fun r3 S2 => (r3 = 0 → Q (-1000000001) S2) ∧ (¬ r3 = 0 → ((jisg x2) = 0 → Q (-1000000001) S2) ∧ (¬ (jisg x2) = 0 → ((jisg x3) = 0 → Q (-1000000001) S2) ∧ (¬ (jisg x3) = 0 → jk S2 a0 = 11 ∧ jFi E mX11_of d 0 0 [.ref a0, .int x1, .int 2] S2 (fun r15 S14 => (x2 = r15 → Q (-1000000001) S14) ∧ (¬ x2 = r15 → jk S14 a0 = 11 ∧ jFi E mX11_of d 0 0 [.ref a0, .int x1, .int 2] S14 (fun r19 S18 => (x3 = r19 → Q (-1000000001) S18) ∧ (¬ x3 = r19 → jk S18 a0 = 11 ∧ jFi E mX11_becomes d 0 0 [.ref a0, .int ((72 + (7 * x1)) + 3), .int ((jshl 1 x2) ||| (jshl 1 x3))] S18 (fun r23 S22 => Q r23 S22)))))))))) : jFi E mX11_bars (d + 1) 0 0 [.ref a0, .int x1, .int x2, .int x3] S Q := by
  refine jF_of (by decide) (jle rfl) ?_
  refine jx_lv (lv1 := [(0, .ref a0), (1, .int x1), (2, .int x2), (3, .int x3)]) [0, 1, 2, 3] rfl ?_
  refine jx_aload_n 0 kd642.1 rfl rfl ?_
  refine jx_iload_n 1 kd642.2.1 rfl rfl ?_
  obtain ⟨hk1, h⟩ := h
  refine jx_callVi (M' := mX11_isMaster) (As := [.int x1]) jo_X11_isMaster jc_11 rfl jwM_X11_111 jwN_X11_isMaster jwX_X11_isMaster kd642.2.2.1 (jRok_m _ _ _) rfl (jle rfl) ⟨jle rfl, jle rfl⟩ hk1 h (fun r3 S2 h => ?_)
  refine jx_if_eq (tgt := 42) kd642.2.2.2.1 (by decide) (fun c4 => ?_) (fun c4 => ?_)
  · replace h := h.1 c4
    refine jx_ldc jwC_X11_87 kd644.2.2.2.2.1 ?_
    exact jx_iret kd644.2.2.2.2.2.1 rfl rfl (jle rfl) (jle rfl) ⟨_, rfl, h⟩
  replace h := h.2 c4
  refine jx_iload_n 2 kd642.2.2.2.2.1 rfl rfl ?_
  refine jx_callSi (M' := mX11_isGesture) (As := [.int x2]) jo_X11_isGesture jwM_X11_82 jwS_X11_isGesture kd642.2.2.2.2.2.1 (jRok_m _ _ _) rfl (jle rfl) ⟨jle rfl, jle rfl⟩ (c_X11_isGesture (Q := fun v S' => v = (jisg x2) ∧ S2 = S') ⟨rfl, rfl⟩) (fun r5 S6 hq7 => ?_)
  obtain ⟨rfl, rfl⟩ := hq7
  refine jx_if_eq (tgt := 42) kd642.2.2.2.2.2.2.1 (by decide) (fun c8 => ?_) (fun c8 => ?_)
  · replace h := h.1 c8
    refine jx_ldc jwC_X11_87 kd644.2.2.2.2.1 ?_
    exact jx_iret kd644.2.2.2.2.2.1 rfl rfl (jle rfl) (jle rfl) ⟨_, rfl, h⟩
  replace h := h.2 c8
  refine jx_iload_n 3 kd642.2.2.2.2.2.2.2.1 rfl rfl ?_
  refine jx_callSi (M' := mX11_isGesture) (As := [.int x3]) jo_X11_isGesture jwM_X11_82 jwS_X11_isGesture kd642.2.2.2.2.2.2.2.2.1 (jRok_m _ _ _) rfl (jle rfl) ⟨jle rfl, jle rfl⟩ (c_X11_isGesture (Q := fun v S' => v = (jisg x3) ∧ S2 = S') ⟨rfl, rfl⟩) (fun r9 S10 hq11 => ?_)
  obtain ⟨rfl, rfl⟩ := hq11
  refine jx_if_eq (tgt := 42) kd643.1 (by decide) (fun c12 => ?_) (fun c12 => ?_)
  · replace h := h.1 c12
    refine jx_ldc jwC_X11_87 kd644.2.2.2.2.1 ?_
    exact jx_iret kd644.2.2.2.2.2.1 rfl rfl (jle rfl) (jle rfl) ⟨_, rfl, h⟩
  replace h := h.2 c12
  refine jx_iload_n 2 kd643.2.1 rfl rfl ?_
  refine jx_aload_n 0 kd643.2.2.1 rfl rfl ?_
  refine jx_iload_n 1 kd643.2.2.2.1 rfl rfl ?_
  refine jx_iconst (v := 2) kd643.2.2.2.2.1 (by decide) ?_
  obtain ⟨hk13, h⟩ := h
  refine jx_callVi (M' := mX11_of) (As := [.int x1, .int 2]) jo_X11_of jc_11 rfl jwM_X11_97 jwN_X11_of jwX_X11_of kd643.2.2.2.2.2.1 (jRok_m _ _ _) rfl (jle rfl) ⟨jle rfl, jle rfl⟩ hk13 h (fun r15 S14 h => ?_)
  refine jx_icmp_eq (tgt := 42) kd643.2.2.2.2.2.2.1 (by decide) (fun c16 => ?_) (fun c16 => ?_)
  · replace h := h.1 c16
    refine jx_ldc jwC_X11_87 kd644.2.2.2.2.1 ?_
    exact jx_iret kd644.2.2.2.2.2.1 rfl rfl (jle rfl) (jle rfl) ⟨_, rfl, h⟩
  replace h := h.2 c16
  refine jx_iload_n 3 kd643.2.2.2.2.2.2.2.1 rfl rfl ?_
  refine jx_aload_n 0 kd643.2.2.2.2.2.2.2.2.1 rfl rfl ?_
  refine jx_iload_n 1 kd644.1 rfl rfl ?_
  refine jx_iconst (v := 2) kd644.2.1 (by decide) ?_
  obtain ⟨hk17, h⟩ := h
  refine jx_callVi (M' := mX11_of) (As := [.int x1, .int 2]) jo_X11_of jc_11 rfl jwM_X11_97 jwN_X11_of jwX_X11_of kd644.2.2.1 (jRok_m _ _ _) rfl (jle rfl) ⟨jle rfl, jle rfl⟩ hk17 h (fun r19 S18 h => ?_)
  refine jx_icmp_ne (tgt := 45) kd644.2.2.2.1 (by decide) (fun c20 => ?_) (fun c20 => ?_)
  · replace h := h.2 c20
    refine jx_aload_n 0 kd644.2.2.2.2.2.2.1 rfl rfl ?_
    refine jx_bipush (v := 72) kd644.2.2.2.2.2.2.2.1 (by decide) ?_
    refine jx_bipush (v := 7) kd644.2.2.2.2.2.2.2.2.1 (by decide) ?_
    refine jx_iload_n 1 kd645.1 rfl rfl ?_
    refine jx_imul kd645.2.1 ?_
    refine jx_iadd kd645.2.2.1 ?_
    refine jx_iconst (v := 3) kd645.2.2.2.1 (by decide) ?_
    refine jx_iadd kd645.2.2.2.2.1 ?_
    refine jx_iconst (v := 1) kd645.2.2.2.2.2.1 (by decide) ?_
    refine jx_iload_n 2 kd645.2.2.2.2.2.2.1 rfl rfl ?_
    refine jx_ishl kd645.2.2.2.2.2.2.2.1 ?_
    refine jx_iconst (v := 1) kd645.2.2.2.2.2.2.2.2.1 (by decide) ?_
    refine jx_iload_n 3 kd646.1 rfl rfl ?_
    refine jx_ishl kd646.2.1 ?_
    refine jx_ior kd646.2.2.1 ?_
    obtain ⟨hk21, h⟩ := h
    refine jx_callVi (M' := mX11_becomes) (As := [.int ((72 + (7 * x1)) + 3), .int ((jshl 1 x2) ||| (jshl 1 x3))]) jo_X11_becomes jc_11 rfl jwM_X11_130 jwN_X11_becomes jwX_X11_becomes kd646.2.2.2.1 (jRok_m _ _ _) rfl (jle rfl) ⟨jle rfl, jle rfl⟩ hk21 h (fun r23 S22 h => ?_)
    exact jx_iret kd646.2.2.2.2.1 rfl rfl (jle rfl) (jle rfl) ⟨_, rfl, h⟩
  replace h := h.1 c20
  refine jx_ldc jwC_X11_87 kd644.2.2.2.2.1 ?_
  exact jx_iret kd644.2.2.2.2.2.1 rfl rfl (jle rfl) (jle rfl) ⟨_, rfl, h⟩
set_option maxRecDepth 100000 in
set_option maxHeartbeats 4000000 in
theorem T_X11_road {E : jEnv} {d : Nat} {Q : Int32 → jM → Prop} {a0 : Nat} {x1 : Int32} {x2 : Int32} {x3 : Int32} {S : jM} (h : ((jist x1) = 0 → Q (-1000000001) S) ∧ (¬ (jist x1) = 0 → ((jist x2) = 0 → Q (-1000000001) S) ∧ (¬ (jist x2) = 0 → (x1 = x2 → Q (-1000000001) S) ∧ (¬ x1 = x2 → ((jisin (Int32.toInt64 x3) 0 9) = 0 → Q (-1000000001) S) ∧ (¬ (jisin (Int32.toInt64 x3) 0 9) = 0 → jk S a0 = 11 ∧ ∃ b15, jr S a0 0 = some b15 ∧ (jk S b15 = 12 ∧ vp_in ((36 + (6 * x2)) + x1) (jl S b15) ∧ (jFi E mX11_becomes d 0 0 [.ref a0, .int ((36 + (6 * x1)) + x2), .int x3] (jput S b15 (Int32.toNatClampNeg ((36 + (6 * x2)) + x1)) x3) (fun r19 S18 => Q r19 S18)))))))) : jFi E mX11_road (d + 1) 0 0 [.ref a0, .int x1, .int x2, .int x3] S Q := by
  refine jF_of (by decide) (jle rfl) ?_
  refine jx_lv (lv1 := [(0, .ref a0), (1, .int x1), (2, .int x2), (3, .int x3)]) [0, 1, 2, 3] rfl ?_
  refine jx_iload_n 1 kd647.1 rfl rfl ?_
  refine jx_callSi (M' := mX11_isTown) (As := [.int x1]) jo_X11_isTown jwM_X11_78 jwS_X11_isTown kd647.2.1 (jRok_m _ _ _) rfl (jle rfl) ⟨jle rfl, jle rfl⟩ (c_X11_isTown (Q := fun v S' => v = (jist x1) ∧ S = S') ⟨rfl, rfl⟩) (fun r1 S2 hq3 => ?_)
  obtain ⟨rfl, rfl⟩ := hq3
  refine jx_if_eq (tgt := 31) kd647.2.2.1 (by decide) (fun c4 => ?_) (fun c4 => ?_)
  · replace h := h.1 c4
    refine jx_ldc jwC_X11_87 kd648.2.2.2.2.2.2.1 ?_
    exact jx_iret kd648.2.2.2.2.2.2.2.1 rfl rfl (jle rfl) (jle rfl) ⟨_, rfl, h⟩
  replace h := h.2 c4
  refine jx_iload_n 2 kd647.2.2.2.1 rfl rfl ?_
  refine jx_callSi (M' := mX11_isTown) (As := [.int x2]) jo_X11_isTown jwM_X11_78 jwS_X11_isTown kd647.2.2.2.2.1 (jRok_m _ _ _) rfl (jle rfl) ⟨jle rfl, jle rfl⟩ (c_X11_isTown (Q := fun v S' => v = (jist x2) ∧ S = S') ⟨rfl, rfl⟩) (fun r5 S6 hq7 => ?_)
  obtain ⟨rfl, rfl⟩ := hq7
  refine jx_if_eq (tgt := 31) kd647.2.2.2.2.2.1 (by decide) (fun c8 => ?_) (fun c8 => ?_)
  · replace h := h.1 c8
    refine jx_ldc jwC_X11_87 kd648.2.2.2.2.2.2.1 ?_
    exact jx_iret kd648.2.2.2.2.2.2.2.1 rfl rfl (jle rfl) (jle rfl) ⟨_, rfl, h⟩
  replace h := h.2 c8
  refine jx_iload_n 1 kd647.2.2.2.2.2.2.1 rfl rfl ?_
  refine jx_iload_n 2 kd647.2.2.2.2.2.2.2.1 rfl rfl ?_
  refine jx_icmp_eq (tgt := 31) kd647.2.2.2.2.2.2.2.2.1 (by decide) (fun c9 => ?_) (fun c9 => ?_)
  · replace h := h.1 c9
    refine jx_ldc jwC_X11_87 kd648.2.2.2.2.2.2.1 ?_
    exact jx_iret kd648.2.2.2.2.2.2.2.1 rfl rfl (jle rfl) (jle rfl) ⟨_, rfl, h⟩
  replace h := h.2 c9
  refine jx_iload_n 3 kd648.1 rfl rfl ?_
  refine jx_i2l kd648.2.1 ?_
  refine jx_lconst (v := 0) kd648.2.2.1 (by decide) ?_
  refine jx_ldc2 jwL_X11_114 kd648.2.2.2.1 ?_
  refine jx_callSi (M' := mX11_isIn) (As := [.long (Int32.toInt64 x3), .long 0, .long 9]) jo_X11_isIn jwM_X11_71 jwS_X11_isIn kd648.2.2.2.2.1 (jRok_m _ _ _) rfl (jle rfl) ⟨jle rfl, jle rfl⟩ (c_X11_isIn (Q := fun v S' => v = (jisin (Int32.toInt64 x3) 0 9) ∧ S = S') ⟨rfl, rfl⟩) (fun r10 S11 hq12 => ?_)
  obtain ⟨rfl, rfl⟩ := hq12
  refine jx_if_ne (tgt := 34) kd648.2.2.2.2.2.1 (by decide) (fun c13 => ?_) (fun c13 => ?_)
  · replace h := h.2 c13
    refine jx_aload_n 0 kd648.2.2.2.2.2.2.2.2.1 rfl rfl ?_
    obtain ⟨hk14, h⟩ := h
    obtain ⟨b15, hb15, h⟩ := h
    refine jx_getr jc_11 (j := 0) (by decide) rfl jwF_X11_7 kd649.1 hk14 hb15 ?_
    refine jx_bipush (v := 36) kd649.2.1 (by decide) ?_
    refine jx_bipush (v := 6) kd649.2.2.1 (by decide) ?_
    refine jx_iload_n 2 kd649.2.2.2.1 rfl rfl ?_
    refine jx_imul kd649.2.2.2.2.1 ?_
    refine jx_iadd kd649.2.2.2.2.2.1 ?_
    refine jx_iload_n 1 kd649.2.2.2.2.2.2.1 rfl rfl ?_
    refine jx_iadd kd649.2.2.2.2.2.2.2.1 ?_
    refine jx_iload_n 3 kd649.2.2.2.2.2.2.2.2.1 rfl rfl ?_
    obtain ⟨hk16, h⟩ := h
    obtain ⟨hi17, h⟩ := h
    refine jx_iast kd650.1 hk16 hi17 ?_
    refine jx_aload_n 0 kd650.2.1 rfl rfl ?_
    refine jx_bipush (v := 36) kd650.2.2.1 (by decide) ?_
    refine jx_bipush (v := 6) kd650.2.2.2.1 (by decide) ?_
    refine jx_iload_n 1 kd650.2.2.2.2.1 rfl rfl ?_
    refine jx_imul kd650.2.2.2.2.2.1 ?_
    refine jx_iadd kd650.2.2.2.2.2.2.1 ?_
    refine jx_iload_n 2 kd650.2.2.2.2.2.2.2.1 rfl rfl ?_
    refine jx_iadd kd650.2.2.2.2.2.2.2.2.1 ?_
    refine jx_iload_n 3 kd651.1 rfl rfl ?_
    refine jx_callVi (M' := mX11_becomes) (As := [.int ((36 + (6 * x1)) + x2), .int x3]) jo_X11_becomes jc_11 rfl jwM_X11_130 jwN_X11_becomes jwX_X11_becomes kd651.2.1 (jRok_m _ _ _) rfl (jle rfl) ⟨jle rfl, jle rfl⟩ hk14 h (fun r19 S18 h => ?_)
    exact jx_iret kd651.2.2.1 rfl rfl (jle rfl) (jle rfl) ⟨_, rfl, h⟩
  replace h := h.1 c13
  refine jx_ldc jwC_X11_87 kd648.2.2.2.2.2.2.1 ?_
  exact jx_iret kd648.2.2.2.2.2.2.2.1 rfl rfl (jle rfl) (jle rfl) ⟨_, rfl, h⟩
end
section
/-- X11_findFar at its loop's head 2 -/
abbrev L_X11_findFar_2 (E : jEnv) (d : Nat) (Q : jM → Prop) (a0 : Nat) (x1 : Int32) (S : jM) : Prop := jX E mX11_findFar (jRm d 0 0) (jZm E (fun r S' => r = none ∧ Q S') 0 0) 2 [(0, .ref a0), (1, .int x1)] [] S 0 0
/-- X11_findFar at its loop's head 64 -/
abbrev L_X11_findFar_64 (E : jEnv) (d : Nat) (Q : jM → Prop) (a0 : Nat) (x1 : Int32) (S : jM) : Prop := jX E mX11_findFar (jRm d 0 0) (jZm E (fun r S' => r = none ∧ Q S') 0 0) 64 [(0, .ref a0), (1, .int x1)] [] S 0 0
/-- X11_findFar at its loop's head 72 -/
abbrev L_X11_findFar_72 (E : jEnv) (d : Nat) (Q : jM → Prop) (a0 : Nat) (x1 : Int32) (x2 : Int32) (S : jM) : Prop := jX E mX11_findFar (jRm d 0 0) (jZm E (fun r S' => r = none ∧ Q S') 0 0) 72 [(0, .ref a0), (1, .int x1), (2, .int x2)] [] S 0 0
set_option maxRecDepth 100000 in
set_option maxHeartbeats 4000000 in
theorem T_X11_findFar {E : jEnv} {d : Nat} {Q : jM → Prop} {a0 : Nat} {S : jM} (h : L_X11_findFar_2 E d Q a0 0 S) : jFv E mX11_findFar d 0 0 [.ref a0] S Q := by
  refine jF_of (by decide) (jle rfl) ?_
  refine jx_lv (lv1 := [(0, .ref a0)]) [0] rfl ?_
  refine jx_iconst (v := 0) kd652.1 (by decide) ?_
  refine jx_istore_n (lv1 := [(1, .int 0), (0, .ref a0)]) kd652.2.1 rfl (by decide) rfl ?_
  exact jx_lv [1, 0] rfl h
set_option maxRecDepth 100000 in
set_option maxHeartbeats 4000000 in
theorem T_X11_findFar_2 {E : jEnv} {d : Nat} {Q : jM → Prop} {a0 : Nat} {x1 : Int32} {S : jM} (h : (36 ≤ x1 → L_X11_findFar_64 E d Q a0 0 S) ∧ (¬ 36 ≤ x1 → jk S a0 = 11 ∧ ∃ b3, jr S a0 12 = some b3 ∧ (((x1 / 6) = (jrem x1 6) → jk S b3 = 12 ∧ vp_in x1 (jl S b3) ∧ (L_X11_findFar_2 E d Q a0 (x1 + 1) (jput S b3 (Int32.toNatClampNeg x1) 0))) ∧ (¬ (x1 / 6) = (jrem x1 6) → ∃ b5, jr S a0 0 = some b5 ∧ (jk S b5 = 12 ∧ vp_in (36 + x1) (jl S b5) ∧ (((ji S b5 (Int32.toNatClampNeg (36 + x1))) = 0 → jk S b3 = 12 ∧ vp_in x1 (jl S b3) ∧ (L_X11_findFar_2 E d Q a0 (x1 + 1) (jput S b3 (Int32.toNatClampNeg x1) 9999))) ∧ (¬ (ji S b5 (Int32.toNatClampNeg (36 + x1))) = 0 → (jk S b3 = 12 ∧ vp_in x1 (jl S b3) ∧ (L_X11_findFar_2 E d Q a0 (x1 + 1) (jput S b3 (Int32.toNatClampNeg x1) (ji S b5 (Int32.toNatClampNeg (36 + x1))))))))))))) : L_X11_findFar_2 E d Q a0 x1 S := by
  show jX E mX11_findFar (jRm d 0 0) (jZm E (fun r S' => r = none ∧ Q S') 0 0) 2 [(0, .ref a0), (1, .int x1)] [] S 0 0
  refine jx_iload_n 1 kd652.2.2.1 rfl rfl ?_
  refine jx_bipush (v := 36) kd652.2.2.2.1 (by decide) ?_
  refine jx_icmp_ge (tgt := 62) kd652.2.2.2.2.1 (by decide) (fun c1 => ?_) (fun c1 => ?_)
  · replace h := h.1 c1
    refine jx_iconst (v := 0) kd655.2.2.2.2.2.2.2.2.1 (by decide) ?_
    refine jx_istore_n (lv1 := [(1, .int 0), (0, .ref a0)]) kd656.1 rfl (by decide) rfl ?_
    exact jx_lv [1, 0] rfl h
  replace h := h.2 c1
  refine jx_aload_n 0 kd652.2.2.2.2.2.1 rfl rfl ?_
  obtain ⟨hk2, h⟩ := h
  obtain ⟨b3, hb3, h⟩ := h
  refine jx_getr jc_11 (j := 12) (by decide) rfl jwF_X11_43 kd652.2.2.2.2.2.2.1 hk2 hb3 ?_
  refine jx_iload_n 1 kd652.2.2.2.2.2.2.2.1 rfl rfl ?_
  refine jx_iload_n 1 kd652.2.2.2.2.2.2.2.2.1 rfl rfl ?_
  refine jx_bipush (v := 6) kd653.1 (by decide) ?_
  refine jx_idiv kd653.2.1 (by decide) ?_
  refine jx_iload_n 1 kd653.2.2.1 rfl rfl ?_
  refine jx_bipush (v := 6) kd653.2.2.2.1 (by decide) ?_
  refine jx_irem kd653.2.2.2.2.1 (by decide) ?_
  refine jx_icmp_ne (tgt := 28) kd653.2.2.2.2.2.1 (by decide) (fun c4 => ?_) (fun c4 => ?_)
  · replace h := h.2 c4
    refine jx_aload_n 0 kd653.2.2.2.2.2.2.2.2.1 rfl rfl ?_
    obtain ⟨b5, hb5, h⟩ := h
    refine jx_getr jc_11 (j := 0) (by decide) rfl jwF_X11_7 kd654.1 hk2 hb5 ?_
    refine jx_bipush (v := 36) kd654.2.1 (by decide) ?_
    refine jx_iload_n 1 kd654.2.2.1 rfl rfl ?_
    refine jx_iadd kd654.2.2.2.1 ?_
    obtain ⟨hk6, h⟩ := h
    obtain ⟨hi7, h⟩ := h
    refine jx_iald kd654.2.2.2.2.1 hk6 hi7 ?_
    refine jx_if_ne (tgt := 46) kd654.2.2.2.2.2.1 (by decide) (fun c8 => ?_) (fun c8 => ?_)
    · replace h := h.2 c8
      refine jx_aload_n 0 kd654.2.2.2.2.2.2.2.2.1 rfl rfl ?_
      refine jx_getr jc_11 (j := 0) (by decide) rfl jwF_X11_7 kd655.1 hk2 hb5 ?_
      refine jx_bipush (v := 36) kd655.2.1 (by decide) ?_
      refine jx_iload_n 1 kd655.2.2.1 rfl rfl ?_
      refine jx_iadd kd655.2.2.2.1 ?_
      refine jx_iald kd655.2.2.2.2.1 hk6 hi7 ?_
      obtain ⟨hk9, h⟩ := h
      obtain ⟨hi10, h⟩ := h
      refine jx_iast kd655.2.2.2.2.2.1 hk9 hi10 ?_
      refine jx_iinc 1 (v := (x1 + 1)) (lv1 := [(1, .int (x1 + 1)), (0, .ref a0)]) kd655.2.2.2.2.2.2.1 rfl rfl (by decide) rfl ?_
      refine jx_goto (tgt := 2) kd655.2.2.2.2.2.2.2.1 (by decide) ?_
      exact jx_lv [1, 0] rfl h
    replace h := h.1 c8
    refine jx_sipush (v := 9999) kd654.2.2.2.2.2.2.1 (by decide) ?_
    refine jx_goto (tgt := 55) kd654.2.2.2.2.2.2.2.1 (by decide) ?_
    obtain ⟨hk11, h⟩ := h
    obtain ⟨hi12, h⟩ := h
    refine jx_iast kd655.2.2.2.2.2.1 hk11 hi12 ?_
    refine jx_iinc 1 (v := (x1 + 1)) (lv1 := [(1, .int (x1 + 1)), (0, .ref a0)]) kd655.2.2.2.2.2.2.1 rfl rfl (by decide) rfl ?_
    refine jx_goto (tgt := 2) kd655.2.2.2.2.2.2.2.1 (by decide) ?_
    exact jx_lv [1, 0] rfl h
  replace h := h.1 c4
  refine jx_iconst (v := 0) kd653.2.2.2.2.2.2.1 (by decide) ?_
  refine jx_goto (tgt := 55) kd653.2.2.2.2.2.2.2.1 (by decide) ?_
  obtain ⟨hk13, h⟩ := h
  obtain ⟨hi14, h⟩ := h
  refine jx_iast kd655.2.2.2.2.2.1 hk13 hi14 ?_
  refine jx_iinc 1 (v := (x1 + 1)) (lv1 := [(1, .int (x1 + 1)), (0, .ref a0)]) kd655.2.2.2.2.2.2.1 rfl rfl (by decide) rfl ?_
  refine jx_goto (tgt := 2) kd655.2.2.2.2.2.2.2.1 (by decide) ?_
  exact jx_lv [1, 0] rfl h
set_option maxRecDepth 100000 in
set_option maxHeartbeats 4000000 in
theorem T_X11_findFar_64 {E : jEnv} {d : Nat} {Q : jM → Prop} {a0 : Nat} {x1 : Int32} {S : jM} (h : (6 ≤ x1 → Q S) ∧ (¬ 6 ≤ x1 → L_X11_findFar_72 E d Q a0 x1 0 S)) : L_X11_findFar_64 E d Q a0 x1 S := by
  show jX E mX11_findFar (jRm d 0 0) (jZm E (fun r S' => r = none ∧ Q S') 0 0) 64 [(0, .ref a0), (1, .int x1)] [] S 0 0
  refine jx_iload_n 1 kd656.2.1 rfl rfl ?_
  refine jx_bipush (v := 6) kd656.2.2.1 (by decide) ?_
  refine jx_icmp_ge (tgt := 146) kd656.2.2.2.1 (by decide) (fun c15 => ?_) (fun c15 => ?_)
  · replace h := h.1 c15
    exact jx_vret kd661.2.2.2.2.2.2.1 rfl (jle rfl) (jle rfl) ⟨rfl, h⟩
  replace h := h.2 c15
  refine jx_iconst (v := 0) kd656.2.2.2.2.1 (by decide) ?_
  refine jx_istore_n (lv1 := [(2, .int 0), (0, .ref a0), (1, .int x1)]) kd656.2.2.2.2.2.1 rfl (by decide) rfl ?_
  exact jx_lv [1, 2, 0] rfl h
set_option maxRecDepth 100000 in
set_option maxHeartbeats 4000000 in
theorem T_X11_findFar_72 {E : jEnv} {d : Nat} {Q : jM → Prop} {a0 : Nat} {x1 : Int32} {x2 : Int32} {S : jM} (h : (36 ≤ x2 → L_X11_findFar_64 E d Q a0 (x1 + 1) S) ∧ (¬ 36 ≤ x2 → jk S a0 = 11 ∧ ∃ b18, jr S a0 12 = some b18 ∧ (jk S b18 = 12 ∧ vp_in (((x2 / 6) * 6) + x1) (jl S b18) ∧ (vp_in ((6 * x1) + (jrem x2 6)) (jl S b18) ∧ (∀ y22 : Int32, y22 = ((ji S b18 (Int32.toNatClampNeg (((x2 / 6) * 6) + x1))) + (ji S b18 (Int32.toNatClampNeg ((6 * x1) + (jrem x2 6))))) → vp_in x2 (jl S b18) ∧ (((ji S b18 (Int32.toNatClampNeg x2)) ≤ y22 → ((L_X11_findFar_72 E d Q a0 x1 (x2 + 1) (jput S b18 (Int32.toNatClampNeg x2) (ji S b18 (Int32.toNatClampNeg x2)))))) ∧ (¬ (ji S b18 (Int32.toNatClampNeg x2)) ≤ y22 → (L_X11_findFar_72 E d Q a0 x1 (x2 + 1) (jput S b18 (Int32.toNatClampNeg x2) y22))))))))) : L_X11_findFar_72 E d Q a0 x1 x2 S := by
  show jX E mX11_findFar (jRm d 0 0) (jZm E (fun r S' => r = none ∧ Q S') 0 0) 72 [(0, .ref a0), (1, .int x1), (2, .int x2)] [] S 0 0
  refine jx_iload_n 2 kd656.2.2.2.2.2.2.1 rfl rfl ?_
  refine jx_bipush (v := 36) kd656.2.2.2.2.2.2.2.1 (by decide) ?_
  refine jx_icmp_ge (tgt := 140) kd656.2.2.2.2.2.2.2.2.1 (by decide) (fun c16 => ?_) (fun c16 => ?_)
  · replace h := h.1 c16
    refine jx_iinc 1 (v := (x1 + 1)) (lv1 := [(1, .int (x1 + 1)), (0, .ref a0), (2, .int x2)]) kd661.2.2.2.2.1 rfl rfl (by decide) rfl ?_
    refine jx_goto (tgt := 64) kd661.2.2.2.2.2.1 (by decide) ?_
    exact jx_lv [1, 0] rfl h
  replace h := h.2 c16
  refine jx_aload_n 0 kd657.1 rfl rfl ?_
  obtain ⟨hk17, h⟩ := h
  obtain ⟨b18, hb18, h⟩ := h
  refine jx_getr jc_11 (j := 12) (by decide) rfl jwF_X11_43 kd657.2.1 hk17 hb18 ?_
  refine jx_iload_n 2 kd657.2.2.1 rfl rfl ?_
  refine jx_bipush (v := 6) kd657.2.2.2.1 (by decide) ?_
  refine jx_idiv kd657.2.2.2.2.1 (by decide) ?_
  refine jx_bipush (v := 6) kd657.2.2.2.2.2.1 (by decide) ?_
  refine jx_imul kd657.2.2.2.2.2.2.1 ?_
  refine jx_iload_n 1 kd657.2.2.2.2.2.2.2.1 rfl rfl ?_
  refine jx_iadd kd657.2.2.2.2.2.2.2.2.1 ?_
  obtain ⟨hk19, h⟩ := h
  obtain ⟨hi20, h⟩ := h
  refine jx_iald kd658.1 hk19 hi20 ?_
  refine jx_aload_n 0 kd658.2.1 rfl rfl ?_
  refine jx_getr jc_11 (j := 12) (by decide) rfl jwF_X11_43 kd658.2.2.1 hk17 hb18 ?_
  refine jx_bipush (v := 6) kd658.2.2.2.1 (by decide) ?_
  refine jx_iload_n 1 kd658.2.2.2.2.1 rfl rfl ?_
  refine jx_imul kd658.2.2.2.2.2.1 ?_
  refine jx_iload_n 2 kd658.2.2.2.2.2.2.1 rfl rfl ?_
  refine jx_bipush (v := 6) kd658.2.2.2.2.2.2.2.1 (by decide) ?_
  refine jx_irem kd658.2.2.2.2.2.2.2.2.1 (by decide) ?_
  refine jx_iadd kd659.1 ?_
  obtain ⟨hi21, h⟩ := h
  refine jx_iald kd659.2.1 hk19 hi21 ?_
  refine jx_iadd kd659.2.2.1 ?_
  refine jx_nm (fun y22 ey22 => ?_)
  replace h := h y22 ey22
  refine jx_istore_n (lv1 := [(3, .int y22), (0, .ref a0), (1, .int x1), (2, .int x2)]) kd659.2.2.2.1 rfl (by decide) rfl ?_
  refine jx_aload_n 1 kd659.2.2.2.2.1 rfl rfl ?_
  refine jx_getr jc_11 (j := 12) (by decide) rfl jwF_X11_43 kd659.2.2.2.2.2.1 hk17 hb18 ?_
  refine jx_iload_n 3 kd659.2.2.2.2.2.2.1 rfl rfl ?_
  refine jx_iload_n 0 kd659.2.2.2.2.2.2.2.1 rfl rfl ?_
  refine jx_aload_n 1 kd659.2.2.2.2.2.2.2.2.1 rfl rfl ?_
  refine jx_getr jc_11 (j := 12) (by decide) rfl jwF_X11_43 kd660.1 hk17 hb18 ?_
  refine jx_iload_n 3 kd660.2.1 rfl rfl ?_
  obtain ⟨hi23, h⟩ := h
  refine jx_iald kd660.2.2.1 hk19 hi23 ?_
  refine jx_icmp_ge (tgt := 127) kd660.2.2.2.1 (by decide) (fun c24 => ?_) (fun c24 => ?_)
  · replace h := h.1 c24
    refine jx_aload_n 1 kd660.2.2.2.2.2.2.1 rfl rfl ?_
    refine jx_getr jc_11 (j := 12) (by decide) rfl jwF_X11_43 kd660.2.2.2.2.2.2.2.1 hk17 hb18 ?_
    refine jx_iload_n 3 kd660.2.2.2.2.2.2.2.2.1 rfl rfl ?_
    refine jx_iald kd661.1 hk19 hi23 ?_
    refine jx_iast kd661.2.1 hk19 hi23 ?_
    refine jx_iinc 3 (v := (x2 + 1)) (lv1 := [(2, .int (x2 + 1)), (3, .int y22), (0, .ref a0), (1, .int x1)]) kd661.2.2.1 rfl rfl (by decide) rfl ?_
    refine jx_goto (tgt := 72) kd661.2.2.2.1 (by decide) ?_
    exact jx_lv [2, 3, 0] rfl h
  replace h := h.2 c24
  refine jx_iload_n 0 kd660.2.2.2.2.1 rfl rfl ?_
  refine jx_goto (tgt := 133) kd660.2.2.2.2.2.1 (by decide) ?_
  refine jx_iast kd661.2.1 hk19 hi23 ?_
  refine jx_iinc 3 (v := (x2 + 1)) (lv1 := [(2, .int (x2 + 1)), (3, .int y22), (0, .ref a0), (1, .int x1)]) kd661.2.2.1 rfl rfl (by decide) rfl ?_
  refine jx_goto (tgt := 72) kd661.2.2.2.1 (by decide) ?_
  exact jx_lv [2, 3, 0] rfl h
set_option maxRecDepth 100000 in
set_option maxHeartbeats 4000000 in
theorem T_X11_far {E : jEnv} {d : Nat} {Q : Int32 → jM → Prop} {a0 : Nat} {x1 : Int32} {x2 : Int32} {S : jM} (h : ((jist x1) = 0 → Q (-1000000001) S) ∧ (¬ (jist x1) = 0 → ((jist x2) = 0 → Q (-1000000001) S) ∧ (¬ (jist x2) = 0 → jk S a0 = 11 ∧ jFv E mX11_findFar d 0 0 [.ref a0] S (fun S10 => jk S10 a0 = 11 ∧ ∃ b12, jr S10 a0 12 = some b12 ∧ (jk S10 b12 = 12 ∧ vp_in ((6 * x1) + x2) (jl S10 b12) ∧ (((ji S10 b12 (Int32.toNatClampNeg ((6 * x1) + x2))) = 9999 → Q (-1000000005) S10) ∧ (¬ (ji S10 b12 (Int32.toNatClampNeg ((6 * x1) + x2))) = 9999 → Q (ji S10 b12 (Int32.toNatClampNeg ((6 * x1) + x2))) S10))))))) : jFi E mX11_far (d + 1) 0 0 [.ref a0, .int x1, .int x2] S Q := by
  refine jF_of (by decide) (jle rfl) ?_
  refine jx_lv (lv1 := [(0, .ref a0), (1, .int x1), (2, .int x2)]) [0, 1, 2] rfl ?_
  refine jx_iload_n 1 kd662.1 rfl rfl ?_
  refine jx_callSi (M' := mX11_isTown) (As := [.int x1]) jo_X11_isTown jwM_X11_78 jwS_X11_isTown kd662.2.1 (jRok_m _ _ _) rfl (jle rfl) ⟨jle rfl, jle rfl⟩ (c_X11_isTown (Q := fun v S' => v = (jist x1) ∧ S = S') ⟨rfl, rfl⟩) (fun r1 S2 hq3 => ?_)
  obtain ⟨rfl, rfl⟩ := hq3
  refine jx_if_eq (tgt := 14) kd662.2.2.1 (by decide) (fun c4 => ?_) (fun c4 => ?_)
  · replace h := h.1 c4
    refine jx_ldc jwC_X11_87 kd662.2.2.2.2.2.2.1 ?_
    exact jx_iret kd662.2.2.2.2.2.2.2.1 rfl rfl (jle rfl) (jle rfl) ⟨_, rfl, h⟩
  replace h := h.2 c4
  refine jx_iload_n 2 kd662.2.2.2.1 rfl rfl ?_
  refine jx_callSi (M' := mX11_isTown) (As := [.int x2]) jo_X11_isTown jwM_X11_78 jwS_X11_isTown kd662.2.2.2.2.1 (jRok_m _ _ _) rfl (jle rfl) ⟨jle rfl, jle rfl⟩ (c_X11_isTown (Q := fun v S' => v = (jist x2) ∧ S = S') ⟨rfl, rfl⟩) (fun r5 S6 hq7 => ?_)
  obtain ⟨rfl, rfl⟩ := hq7
  refine jx_if_ne (tgt := 17) kd662.2.2.2.2.2.1 (by decide) (fun c8 => ?_) (fun c8 => ?_)
  · replace h := h.2 c8
    refine jx_aload_n 0 kd662.2.2.2.2.2.2.2.2.1 rfl rfl ?_
    obtain ⟨hk9, h⟩ := h
    refine jx_callVv (M' := mX11_findFar) (As := []) jo_X11_findFar jc_11 rfl jwM_X11_137 jwN_X11_findFar jwX_X11_findFar kd663.1 (jRok_m _ _ _) rfl (jle rfl) ⟨jle rfl, jle rfl⟩ hk9 h (fun S10 h => ?_)
    refine jx_aload_n 0 kd663.2.1 rfl rfl ?_
    obtain ⟨hk11, h⟩ := h
    obtain ⟨b12, hb12, h⟩ := h
    refine jx_getr jc_11 (j := 12) (by decide) rfl jwF_X11_43 kd663.2.2.1 hk11 hb12 ?_
    refine jx_bipush (v := 6) kd663.2.2.2.1 (by decide) ?_
    refine jx_iload_n 1 kd663.2.2.2.2.1 rfl rfl ?_
    refine jx_imul kd663.2.2.2.2.2.1 ?_
    refine jx_iload_n 2 kd663.2.2.2.2.2.2.1 rfl rfl ?_
    refine jx_iadd kd663.2.2.2.2.2.2.2.1 ?_
    obtain ⟨hk13, h⟩ := h
    obtain ⟨hi14, h⟩ := h
    refine jx_iald kd663.2.2.2.2.2.2.2.2.1 hk13 hi14 ?_
    refine jx_istore_n (lv1 := [(3, .int (ji S10 b12 (Int32.toNatClampNeg ((6 * x1) + x2)))), (0, .ref a0), (1, .int x1), (2, .int x2)]) kd664.1 rfl (by decide) rfl ?_
    refine jx_iload_n 0 kd664.2.1 rfl rfl ?_
    refine jx_sipush (v := 9999) kd664.2.2.1 (by decide) ?_
    refine jx_icmp_ne (tgt := 45) kd664.2.2.2.1 (by decide) (fun c15 => ?_) (fun c15 => ?_)
    · replace h := h.2 c15
      refine jx_iload_n 0 kd664.2.2.2.2.2.2.1 rfl rfl ?_
      exact jx_iret kd664.2.2.2.2.2.2.2.1 rfl rfl (jle rfl) (jle rfl) ⟨_, rfl, h⟩
    replace h := h.1 c15
    refine jx_ldc jwC_X11_70 kd664.2.2.2.2.1 ?_
    refine jx_goto (tgt := 46) kd664.2.2.2.2.2.1 (by decide) ?_
    exact jx_iret kd664.2.2.2.2.2.2.2.1 rfl rfl (jle rfl) (jle rfl) ⟨_, rfl, h⟩
  replace h := h.1 c8
  refine jx_ldc jwC_X11_87 kd662.2.2.2.2.2.2.1 ?_
  exact jx_iret kd662.2.2.2.2.2.2.2.1 rfl rfl (jle rfl) (jle rfl) ⟨_, rfl, h⟩
/-- X11_deal at its loop's head 17 -/
abbrev L_X11_deal_17 (E : jEnv) (d : Nat) (Q : Int32 → jM → Prop) (a0 : Nat) (x1 : Int32) (x2 : Int32) (S : jM) : Prop := jX E mX11_deal (jRm (d + 1) 0 0) (jZm E (fun r S' => ∃ v : Int32, r = some (.int v) ∧ Q v S') 0 0) 17 [(0, .ref a0), (1, .int x1), (2, .int x2)] [] S 0 0
set_option maxRecDepth 100000 in
set_option maxHeartbeats 4000000 in
theorem T_X11_deal {E : jEnv} {d : Nat} {Q : Int32 → jM → Prop} {a0 : Nat} {x1 : Int32} {S : jM} (h : ((jisin (Int32.toInt64 x1) 1 9) = 0 → Q (-1000000001) S) ∧ (¬ (jisin (Int32.toInt64 x1) 1 9) = 0 → L_X11_deal_17 E d Q a0 x1 0 S)) : jFi E mX11_deal (d + 1) 0 0 [.ref a0, .int x1] S Q := by
  refine jF_of (by decide) (jle rfl) ?_
  refine jx_lv (lv1 := [(0, .ref a0), (1, .int x1)]) [0, 1] rfl ?_
  refine jx_iload_n 1 kd665.1 rfl rfl ?_
  refine jx_i2l kd665.2.1 ?_
  refine jx_lconst (v := 1) kd665.2.2.1 (by decide) ?_
  refine jx_ldc2 jwL_X11_114 kd665.2.2.2.1 ?_
  refine jx_callSi (M' := mX11_isIn) (As := [.long (Int32.toInt64 x1), .long 1, .long 9]) jo_X11_isIn jwM_X11_71 jwS_X11_isIn kd665.2.2.2.2.1 (jRok_m _ _ _) rfl (jle rfl) ⟨jle rfl, jle rfl⟩ (c_X11_isIn (Q := fun v S' => v = (jisin (Int32.toInt64 x1) 1 9) ∧ S = S') ⟨rfl, rfl⟩) (fun r1 S2 hq3 => ?_)
  obtain ⟨rfl, rfl⟩ := hq3
  refine jx_if_ne (tgt := 15) kd665.2.2.2.2.2.1 (by decide) (fun c4 => ?_) (fun c4 => ?_)
  · replace h := h.2 c4
    refine jx_iconst (v := 0) kd665.2.2.2.2.2.2.2.2.1 (by decide) ?_
    refine jx_istore_n (lv1 := [(2, .int 0), (0, .ref a0), (1, .int x1)]) kd666.1 rfl (by decide) rfl ?_
    exact jx_lv [1, 2, 0] rfl h
  replace h := h.1 c4
  refine jx_ldc jwC_X11_87 kd665.2.2.2.2.2.2.1 ?_
  exact jx_iret kd665.2.2.2.2.2.2.2.1 rfl rfl (jle rfl) (jle rfl) ⟨_, rfl, h⟩
set_option maxRecDepth 100000 in
set_option maxHeartbeats 4000000 in
theorem T_X11_deal_17 {E : jEnv} {d : Nat} {Q : Int32 → jM → Prop} {a0 : Nat} {x1 : Int32} {x2 : Int32} {S : jM} (h : (x1 ≤ x2 → Q x2 S) ∧ (¬ x1 ≤ x2 → jk S a0 = 11 ∧ ∃ b7, jr S a0 0 = some b7 ∧ (jk S b7 = 12 ∧ vp_in 0 (jl S b7) ∧ ((9 ≤ (ji S b7 (Int32.toNatClampNeg 0)) → Q x2 S) ∧ (¬ 9 ≤ (ji S b7 (Int32.toNatClampNeg 0)) → jFi E mX11_drawn d 0 0 [.ref a0] S (fun r12 S11 => jk S11 a0 = 11 ∧ jFi E mX11_drawn d 0 0 [.ref a0] S11 (fun r15 S14 => jk S14 a0 = 11 ∧ jFi E mX11_drawn d 0 0 [.ref a0] S14 (fun r18 S17 => jk S17 a0 = 11 ∧ jFi E mX11_drawn d 0 0 [.ref a0] S17 (fun r21 S20 => jk S20 a0 = 11 ∧ jFv E mX11_comes d 0 0 [.ref a0, .int (jrem r12 6), .int (jrem r15 6), .int (jrem r18 10), .int (jrem r21 40)] S20 (fun S23 => L_X11_deal_17 E d Q a0 x1 (x2 + 1) S23)))))))))) : L_X11_deal_17 E d Q a0 x1 x2 S := by
  show jX E mX11_deal (jRm (d + 1) 0 0) (jZm E (fun r S' => ∃ v : Int32, r = some (.int v) ∧ Q v S') 0 0) 17 [(0, .ref a0), (1, .int x1), (2, .int x2)] [] S 0 0
  refine jx_iload_n 2 kd666.2.1 rfl rfl ?_
  refine jx_iload_n 1 kd666.2.2.1 rfl rfl ?_
  refine jx_icmp_ge (tgt := 81) kd666.2.2.2.1 (by decide) (fun c5 => ?_) (fun c5 => ?_)
  · replace h := h.1 c5
    refine jx_iload_n 2 kd670.1 rfl rfl ?_
    exact jx_iret kd670.2.1 rfl rfl (jle rfl) (jle rfl) ⟨_, rfl, h⟩
  replace h := h.2 c5
  refine jx_aload_n 0 kd666.2.2.2.2.1 rfl rfl ?_
  obtain ⟨hk6, h⟩ := h
  obtain ⟨b7, hb7, h⟩ := h
  refine jx_getr jc_11 (j := 0) (by decide) rfl jwF_X11_7 kd666.2.2.2.2.2.1 hk6 hb7 ?_
  refine jx_iconst (v := 0) kd666.2.2.2.2.2.2.1 (by decide) ?_
  obtain ⟨hk8, h⟩ := h
  obtain ⟨hi9, h⟩ := h
  refine jx_iald kd666.2.2.2.2.2.2.2.1 hk8 hi9 ?_
  refine jx_bipush (v := 9) kd666.2.2.2.2.2.2.2.2.1 (by decide) ?_
  refine jx_icmp_ge (tgt := 81) kd667.1 (by decide) (fun c10 => ?_) (fun c10 => ?_)
  · replace h := h.1 c10
    refine jx_iload_n 2 kd670.1 rfl rfl ?_
    exact jx_iret kd670.2.1 rfl rfl (jle rfl) (jle rfl) ⟨_, rfl, h⟩
  replace h := h.2 c10
  refine jx_aload_n 0 kd667.2.1 rfl rfl ?_
  refine jx_callVi (M' := mX11_drawn) (As := []) jo_X11_drawn jc_11 rfl jwM_X11_140 jwN_X11_drawn jwX_X11_drawn kd667.2.2.1 (jRok_m _ _ _) rfl (jle rfl) ⟨jle rfl, jle rfl⟩ hk6 h (fun r12 S11 h => ?_)
  refine jx_bipush (v := 6) kd667.2.2.2.1 (by decide) ?_
  refine jx_irem kd667.2.2.2.2.1 (by decide) ?_
  refine jx_istore_n (lv1 := [(3, .int (jrem r12 6)), (0, .ref a0), (1, .int x1), (2, .int x2)]) kd667.2.2.2.2.2.1 rfl (by decide) rfl ?_
  refine jx_aload_n 1 kd667.2.2.2.2.2.2.1 rfl rfl ?_
  obtain ⟨hk13, h⟩ := h
  refine jx_callVi (M' := mX11_drawn) (As := []) jo_X11_drawn jc_11 rfl jwM_X11_140 jwN_X11_drawn jwX_X11_drawn kd667.2.2.2.2.2.2.2.1 (jRok_m _ _ _) rfl (jle rfl) ⟨jle rfl, jle rfl⟩ hk13 h (fun r15 S14 h => ?_)
  refine jx_bipush (v := 6) kd667.2.2.2.2.2.2.2.2.1 (by decide) ?_
  refine jx_irem kd668.1 (by decide) ?_
  refine jx_istore (lv1 := [(4, .int (jrem r15 6)), (3, .int (jrem r12 6)), (0, .ref a0), (1, .int x1), (2, .int x2)]) kd668.2.1 (by decide) rfl ?_
  refine jx_aload_n 2 kd668.2.2.1 rfl rfl ?_
  obtain ⟨hk16, h⟩ := h
  refine jx_callVi (M' := mX11_drawn) (As := []) jo_X11_drawn jc_11 rfl jwM_X11_140 jwN_X11_drawn jwX_X11_drawn kd668.2.2.2.1 (jRok_m _ _ _) rfl (jle rfl) ⟨jle rfl, jle rfl⟩ hk16 h (fun r18 S17 h => ?_)
  refine jx_bipush (v := 10) kd668.2.2.2.2.1 (by decide) ?_
  refine jx_irem kd668.2.2.2.2.2.1 (by decide) ?_
  refine jx_istore (lv1 := [(5, .int (jrem r18 10)), (4, .int (jrem r15 6)), (3, .int (jrem r12 6)), (0, .ref a0), (1, .int x1), (2, .int x2)]) kd668.2.2.2.2.2.2.1 (by decide) rfl ?_
  refine jx_aload_n 3 kd668.2.2.2.2.2.2.2.1 rfl rfl ?_
  refine jx_iload_n 2 kd668.2.2.2.2.2.2.2.2.1 rfl rfl ?_
  refine jx_iload 1 kd669.1 rfl ?_
  refine jx_iload 0 kd669.2.1 rfl ?_
  refine jx_aload_n 3 kd669.2.2.1 rfl rfl ?_
  obtain ⟨hk19, h⟩ := h
  refine jx_callVi (M' := mX11_drawn) (As := []) jo_X11_drawn jc_11 rfl jwM_X11_140 jwN_X11_drawn jwX_X11_drawn kd669.2.2.2.1 (jRok_m _ _ _) rfl (jle rfl) ⟨jle rfl, jle rfl⟩ hk19 h (fun r21 S20 h => ?_)
  refine jx_bipush (v := 40) kd669.2.2.2.2.1 (by decide) ?_
  refine jx_irem kd669.2.2.2.2.2.1 (by decide) ?_
  obtain ⟨hk22, h⟩ := h
  refine jx_callVv (M' := mX11_comes) (As := [.int (jrem r12 6), .int (jrem r15 6), .int (jrem r18 10), .int (jrem r21 40)]) jo_X11_comes jc_11 rfl jwM_X11_89 jwN_X11_comes jwX_X11_comes kd669.2.2.2.2.2.2.1 (jRok_m _ _ _) rfl (jle rfl) ⟨jle rfl, jle rfl⟩ hk22 h (fun S23 h => ?_)
  refine jx_iinc 5 (v := (x2 + 1)) (lv1 := [(2, .int (x2 + 1)), (5, .int (jrem r18 10)), (4, .int (jrem r15 6)), (3, .int (jrem r12 6)), (0, .ref a0), (1, .int x1)]) kd669.2.2.2.2.2.2.2.1 rfl rfl (by decide) rfl ?_
  refine jx_goto (tgt := 17) kd669.2.2.2.2.2.2.2.2.1 (by decide) ?_
  exact jx_lv [4, 5, 0] rfl h
set_option maxRecDepth 100000 in
set_option maxHeartbeats 4000000 in
theorem T_X11_seed {E : jEnv} {d : Nat} {Q : Int32 → jM → Prop} {a0 : Nat} {x1 : Int32} {S : jM} (h : jk S a0 = 11 ∧ jFi E mX11_becomes d 0 0 [.ref a0, .int 8, .int x1] S (fun r3 S2 => Q r3 S2)) : jFi E mX11_seed (d + 1) 0 0 [.ref a0, .int x1] S Q := by
  refine jF_of (by decide) (jle rfl) ?_
  refine jx_lv (lv1 := [(0, .ref a0), (1, .int x1)]) [0, 1] rfl ?_
  refine jx_aload_n 0 kd671.1 rfl rfl ?_
  refine jx_bipush (v := 8) kd671.2.1 (by decide) ?_
  refine jx_iload_n 1 kd671.2.2.1 rfl rfl ?_
  obtain ⟨hk1, h⟩ := h
  refine jx_callVi (M' := mX11_becomes) (As := [.int 8, .int x1]) jo_X11_becomes jc_11 rfl jwM_X11_130 jwN_X11_becomes jwX_X11_becomes kd671.2.2.2.1 (jRok_m _ _ _) rfl (jle rfl) ⟨jle rfl, jle rfl⟩ hk1 h (fun r3 S2 h => ?_)
  exact jx_iret kd671.2.2.2.2.1 rfl rfl (jle rfl) (jle rfl) ⟨_, rfl, h⟩
set_option maxRecDepth 100000 in
set_option maxHeartbeats 4000000 in
theorem T_X11_apprentice {E : jEnv} {d : Nat} {Q : Int32 → jM → Prop} {a0 : Nat} {x1 : Int32} {S : jM} (h : ((jisin (Int32.toInt64 x1) 0 3) = 0 → Q (-1000000001) S) ∧ (¬ (jisin (Int32.toInt64 x1) 0 3) = 0 → jk S a0 = 11 ∧ ∃ b6, jr S a0 0 = some b6 ∧ (jk S b6 = 12 ∧ vp_in (3 + x1) (jl S b6) ∧ (Q (ji S b6 (Int32.toNatClampNeg (3 + x1))) S)))) : jFi E mX11_apprentice (d + 1) 0 0 [.ref a0, .int x1] S Q := by
  refine jF_of (by decide) (jle rfl) ?_
  refine jx_lv (lv1 := [(0, .ref a0), (1, .int x1)]) [0, 1] rfl ?_
  refine jx_iload_n 1 kd672.1 rfl rfl ?_
  refine jx_i2l kd672.2.1 ?_
  refine jx_lconst (v := 0) kd672.2.2.1 (by decide) ?_
  refine jx_ldc2 jwL_X11_144 kd672.2.2.2.1 ?_
  refine jx_callSi (M' := mX11_isIn) (As := [.long (Int32.toInt64 x1), .long 0, .long 3]) jo_X11_isIn jwM_X11_71 jwS_X11_isIn kd672.2.2.2.2.1 (jRok_m _ _ _) rfl (jle rfl) ⟨jle rfl, jle rfl⟩ (c_X11_isIn (Q := fun v S' => v = (jisin (Int32.toInt64 x1) 0 3) ∧ S = S') ⟨rfl, rfl⟩) (fun r1 S2 hq3 => ?_)
  obtain ⟨rfl, rfl⟩ := hq3
  refine jx_if_eq (tgt := 23) kd672.2.2.2.2.2.1 (by decide) (fun c4 => ?_) (fun c4 => ?_)
  · replace h := h.1 c4
    refine jx_ldc jwC_X11_87 kd673.2.2.2.2.1 ?_
    exact jx_iret kd673.2.2.2.2.2.1 rfl rfl (jle rfl) (jle rfl) ⟨_, rfl, h⟩
  replace h := h.2 c4
  refine jx_aload_n 0 kd672.2.2.2.2.2.2.1 rfl rfl ?_
  obtain ⟨hk5, h⟩ := h
  obtain ⟨b6, hb6, h⟩ := h
  refine jx_getr jc_11 (j := 0) (by decide) rfl jwF_X11_7 kd672.2.2.2.2.2.2.2.1 hk5 hb6 ?_
  refine jx_iconst (v := 3) kd672.2.2.2.2.2.2.2.2.1 (by decide) ?_
  refine jx_iload_n 1 kd673.1 rfl rfl ?_
  refine jx_iadd kd673.2.1 ?_
  obtain ⟨hk7, h⟩ := h
  obtain ⟨hi8, h⟩ := h
  refine jx_iald kd673.2.2.1 hk7 hi8 ?_
  refine jx_goto (tgt := 25) kd673.2.2.2.1 (by decide) ?_
  exact jx_iret kd673.2.2.2.2.2.1 rfl rfl (jle rfl) (jle rfl) ⟨_, rfl, h⟩
set_option maxRecDepth 100000 in
set_option maxHeartbeats 4000000 in
theorem T_X11_has {E : jEnv} {d : Nat} {Q : Int32 → jM → Prop} {a0 : Nat} {x1 : Int32} {x2 : Int32} {S : jM} (h : ((jisin (Int32.toInt64 x1) 2 3) = 0 → Q (-1000000001) S) ∧ (¬ (jisin (Int32.toInt64 x1) 2 3) = 0 → (x1 = 2 → ((jisin (Int32.toInt64 x2) 0 9999) = 0 → Q (-1000000001) S) ∧ (¬ (jisin (Int32.toInt64 x2) 0 9999) = 0 → jk S a0 = 11 ∧ jFi E mX11_becomes d 0 0 [.ref a0, .int (3 + x1), .int x2] S (fun r19 S18 => Q r19 S18))) ∧ (¬ x1 = 2 → ((jisin (Int32.toInt64 x2) 0 99) = 0 → Q (-1000000001) S) ∧ (¬ (jisin (Int32.toInt64 x2) 0 99) = 0 → jk S a0 = 11 ∧ jFi E mX11_becomes d 0 0 [.ref a0, .int (3 + x1), .int x2] S (fun r12 S11 => Q r12 S11))))) : jFi E mX11_has (d + 1) 0 0 [.ref a0, .int x1, .int x2] S Q := by
  refine jF_of (by decide) (jle rfl) ?_
  refine jx_lv (lv1 := [(0, .ref a0), (1, .int x1), (2, .int x2)]) [0, 1, 2] rfl ?_
  refine jx_iload_n 1 kd674.1 rfl rfl ?_
  refine jx_i2l kd674.2.1 ?_
  refine jx_ldc2 jwL_X11_146 kd674.2.2.1 ?_
  refine jx_ldc2 jwL_X11_144 kd674.2.2.2.1 ?_
  refine jx_callSi (M' := mX11_isIn) (As := [.long (Int32.toInt64 x1), .long 2, .long 3]) jo_X11_isIn jwM_X11_71 jwS_X11_isIn kd674.2.2.2.2.1 (jRok_m _ _ _) rfl (jle rfl) ⟨jle rfl, jle rfl⟩ (c_X11_isIn (Q := fun v S' => v = (jisin (Int32.toInt64 x1) 2 3) ∧ S = S') ⟨rfl, rfl⟩) (fun r1 S2 hq3 => ?_)
  obtain ⟨rfl, rfl⟩ := hq3
  refine jx_if_eq (tgt := 48) kd674.2.2.2.2.2.1 (by decide) (fun c4 => ?_) (fun c4 => ?_)
  · replace h := h.1 c4
    refine jx_ldc jwC_X11_87 kd676.2.2.2.2.2.2.1 ?_
    exact jx_iret kd676.2.2.2.2.2.2.2.1 rfl rfl (jle rfl) (jle rfl) ⟨_, rfl, h⟩
  replace h := h.2 c4
  refine jx_iload_n 2 kd674.2.2.2.2.2.2.1 rfl rfl ?_
  refine jx_i2l kd674.2.2.2.2.2.2.2.1 ?_
  refine jx_lconst (v := 0) kd674.2.2.2.2.2.2.2.2.1 (by decide) ?_
  refine jx_iload_n 1 kd675.1 rfl rfl ?_
  refine jx_iconst (v := 2) kd675.2.1 (by decide) ?_
  refine jx_icmp_ne (tgt := 28) kd675.2.2.1 (by decide) (fun c5 => ?_) (fun c5 => ?_)
  · replace h := h.2 c5
    refine jx_ldc2 jwL_X11_85 kd675.2.2.2.2.2.1 ?_
    refine jx_callSi (M' := mX11_isIn) (As := [.long (Int32.toInt64 x2), .long 0, .long 99]) jo_X11_isIn jwM_X11_71 jwS_X11_isIn kd675.2.2.2.2.2.2.1 (jRok_m _ _ _) rfl (jle rfl) ⟨jle rfl, jle rfl⟩ (c_X11_isIn (Q := fun v S' => v = (jisin (Int32.toInt64 x2) 0 99) ∧ S = S') ⟨rfl, rfl⟩) (fun r6 S7 hq8 => ?_)
    obtain ⟨rfl, rfl⟩ := hq8
    refine jx_if_eq (tgt := 48) kd675.2.2.2.2.2.2.2.1 (by decide) (fun c9 => ?_) (fun c9 => ?_)
    · replace h := h.1 c9
      refine jx_ldc jwC_X11_87 kd676.2.2.2.2.2.2.1 ?_
      exact jx_iret kd676.2.2.2.2.2.2.2.1 rfl rfl (jle rfl) (jle rfl) ⟨_, rfl, h⟩
    replace h := h.2 c9
    refine jx_aload_n 0 kd675.2.2.2.2.2.2.2.2.1 rfl rfl ?_
    refine jx_iconst (v := 3) kd676.1 (by decide) ?_
    refine jx_iload_n 1 kd676.2.1 rfl rfl ?_
    refine jx_iadd kd676.2.2.1 ?_
    refine jx_iload_n 2 kd676.2.2.2.1 rfl rfl ?_
    obtain ⟨hk10, h⟩ := h
    refine jx_callVi (M' := mX11_becomes) (As := [.int (3 + x1), .int x2]) jo_X11_becomes jc_11 rfl jwM_X11_130 jwN_X11_becomes jwX_X11_becomes kd676.2.2.2.2.1 (jRok_m _ _ _) rfl (jle rfl) ⟨jle rfl, jle rfl⟩ hk10 h (fun r12 S11 h => ?_)
    refine jx_goto (tgt := 50) kd676.2.2.2.2.2.1 (by decide) ?_
    exact jx_iret kd676.2.2.2.2.2.2.2.1 rfl rfl (jle rfl) (jle rfl) ⟨_, rfl, h⟩
  replace h := h.1 c5
  refine jx_ldc2 jwL_X11_148 kd675.2.2.2.1 ?_
  refine jx_goto (tgt := 31) kd675.2.2.2.2.1 (by decide) ?_
  refine jx_callSi (M' := mX11_isIn) (As := [.long (Int32.toInt64 x2), .long 0, .long 9999]) jo_X11_isIn jwM_X11_71 jwS_X11_isIn kd675.2.2.2.2.2.2.1 (jRok_m _ _ _) rfl (jle rfl) ⟨jle rfl, jle rfl⟩ (c_X11_isIn (Q := fun v S' => v = (jisin (Int32.toInt64 x2) 0 9999) ∧ S = S') ⟨rfl, rfl⟩) (fun r13 S14 hq15 => ?_)
  obtain ⟨rfl, rfl⟩ := hq15
  refine jx_if_eq (tgt := 48) kd675.2.2.2.2.2.2.2.1 (by decide) (fun c16 => ?_) (fun c16 => ?_)
  · replace h := h.1 c16
    refine jx_ldc jwC_X11_87 kd676.2.2.2.2.2.2.1 ?_
    exact jx_iret kd676.2.2.2.2.2.2.2.1 rfl rfl (jle rfl) (jle rfl) ⟨_, rfl, h⟩
  replace h := h.2 c16
  refine jx_aload_n 0 kd675.2.2.2.2.2.2.2.2.1 rfl rfl ?_
  refine jx_iconst (v := 3) kd676.1 (by decide) ?_
  refine jx_iload_n 1 kd676.2.1 rfl rfl ?_
  refine jx_iadd kd676.2.2.1 ?_
  refine jx_iload_n 2 kd676.2.2.2.1 rfl rfl ?_
  obtain ⟨hk17, h⟩ := h
  refine jx_callVi (M' := mX11_becomes) (As := [.int (3 + x1), .int x2]) jo_X11_becomes jc_11 rfl jwM_X11_130 jwN_X11_becomes jwX_X11_becomes kd676.2.2.2.2.1 (jRok_m _ _ _) rfl (jle rfl) ⟨jle rfl, jle rfl⟩ hk17 h (fun r19 S18 h => ?_)
  refine jx_goto (tgt := 50) kd676.2.2.2.2.2.1 (by decide) ?_
  exact jx_iret kd676.2.2.2.2.2.2.2.1 rfl rfl (jle rfl) (jle rfl) ⟨_, rfl, h⟩
set_option maxRecDepth 100000 in
set_option maxHeartbeats 4000000 in
theorem T_X11_doesKnow {E : jEnv} {d : Nat} {Q : Int32 → jM → Prop} {a0 : Nat} {x1 : Int32} {S : jM} (h : jk S a0 = 11 ∧ ∃ b2, jr S a0 0 = some b2 ∧ (jk S b2 = 12 ∧ vp_in 4 (jl S b2) ∧ ((((jshr (ji S b2 (Int32.toNatClampNeg 4)) x1) &&& 1) = 1 → Q 1 S) ∧ (¬ ((jshr (ji S b2 (Int32.toNatClampNeg 4)) x1) &&& 1) = 1 → Q 0 S)))) : jFi E mX11_doesKnow d 0 0 [.ref a0, .int x1] S Q := by
  refine jF_of (by decide) (jle rfl) ?_
  refine jx_lv (lv1 := [(0, .ref a0), (1, .int x1)]) [0, 1] rfl ?_
  refine jx_aload_n 0 kd677.1 rfl rfl ?_
  obtain ⟨hk1, h⟩ := h
  obtain ⟨b2, hb2, h⟩ := h
  refine jx_getr jc_11 (j := 0) (by decide) rfl jwF_X11_7 kd677.2.1 hk1 hb2 ?_
  refine jx_iconst (v := 4) kd677.2.2.1 (by decide) ?_
  obtain ⟨hk3, h⟩ := h
  obtain ⟨hi4, h⟩ := h
  refine jx_iald kd677.2.2.2.1 hk3 hi4 ?_
  refine jx_iload_n 1 kd677.2.2.2.2.1 rfl rfl ?_
  refine jx_ishr kd677.2.2.2.2.2.1 ?_
  refine jx_iconst (v := 1) kd677.2.2.2.2.2.2.1 (by decide) ?_
  refine jx_iand kd677.2.2.2.2.2.2.2.1 ?_
  refine jx_iconst (v := 1) kd677.2.2.2.2.2.2.2.2.1 (by decide) ?_
  refine jx_icmp_ne (tgt := 18) kd678.1 (by decide) (fun c5 => ?_) (fun c5 => ?_)
  · replace h := h.2 c5
    refine jx_iconst (v := 0) kd678.2.2.2.1 (by decide) ?_
    exact jx_iret kd678.2.2.2.2.1 rfl (by decide) (jle rfl) (jle rfl) ⟨_, rfl, h⟩
  replace h := h.1 c5
  refine jx_iconst (v := 1) kd678.2.1 (by decide) ?_
  refine jx_goto (tgt := 19) kd678.2.2.1 (by decide) ?_
  exact jx_iret kd678.2.2.2.2.1 rfl (by decide) (jle rfl) (jle rfl) ⟨_, rfl, h⟩
set_option maxRecDepth 100000 in
set_option maxHeartbeats 4000000 in
theorem T_X11_knows {E : jEnv} {d : Nat} {Q : Int32 → jM → Prop} {a0 : Nat} {x1 : Int32} {x2 : Int32} {S : jM} (h : ((jisg x1) = 0 → Q (-1000000001) S) ∧ (¬ (jisg x1) = 0 → ((jisin (Int32.toInt64 x2) 0 1) = 0 → Q (-1000000001) S) ∧ (¬ (jisin (Int32.toInt64 x2) 0 1) = 0 → jk S a0 = 11 ∧ jFi E mX11_doesKnow d 0 0 [.ref a0, .int x1] S (fun r11 S10 => (r11 = 0 → Q (-1000000002) S10) ∧ (¬ r11 = 0 → jk S10 a0 = 11 ∧ ∃ b14, jr S10 a0 0 = some b14 ∧ ((x2 = 0 → jk S10 b14 = 12 ∧ vp_in (16 + x1) (jl S10 b14) ∧ (Q (ji S10 b14 (Int32.toNatClampNeg (16 + x1))) S10)) ∧ (¬ x2 = 0 → jk S10 b14 = 12 ∧ vp_in (26 + x1) (jl S10 b14) ∧ (Q (ji S10 b14 (Int32.toNatClampNeg (26 + x1))) S10)))))))) : jFi E mX11_knows (d + 1) 0 0 [.ref a0, .int x1, .int x2] S Q := by
  refine jF_of (by decide) (jle rfl) ?_
  refine jx_lv (lv1 := [(0, .ref a0), (1, .int x1), (2, .int x2)]) [0, 1, 2] rfl ?_
  refine jx_iload_n 1 kd679.1 rfl rfl ?_
  refine jx_callSi (M' := mX11_isGesture) (As := [.int x1]) jo_X11_isGesture jwM_X11_82 jwS_X11_isGesture kd679.2.1 (jRok_m _ _ _) rfl (jle rfl) ⟨jle rfl, jle rfl⟩ (c_X11_isGesture (Q := fun v S' => v = (jisg x1) ∧ S = S') ⟨rfl, rfl⟩) (fun r1 S2 hq3 => ?_)
  obtain ⟨rfl, rfl⟩ := hq3
  refine jx_if_eq (tgt := 17) kd679.2.2.1 (by decide) (fun c4 => ?_) (fun c4 => ?_)
  · replace h := h.1 c4
    refine jx_ldc jwC_X11_87 kd680.1 ?_
    exact jx_iret kd680.2.1 rfl rfl (jle rfl) (jle rfl) ⟨_, rfl, h⟩
  replace h := h.2 c4
  refine jx_iload_n 2 kd679.2.2.2.1 rfl rfl ?_
  refine jx_i2l kd679.2.2.2.2.1 ?_
  refine jx_lconst (v := 0) kd679.2.2.2.2.2.1 (by decide) ?_
  refine jx_lconst (v := 1) kd679.2.2.2.2.2.2.1 (by decide) ?_
  refine jx_callSi (M' := mX11_isIn) (As := [.long (Int32.toInt64 x2), .long 0, .long 1]) jo_X11_isIn jwM_X11_71 jwS_X11_isIn kd679.2.2.2.2.2.2.2.1 (jRok_m _ _ _) rfl (jle rfl) ⟨jle rfl, jle rfl⟩ (c_X11_isIn (Q := fun v S' => v = (jisin (Int32.toInt64 x2) 0 1) ∧ S = S') ⟨rfl, rfl⟩) (fun r5 S6 hq7 => ?_)
  obtain ⟨rfl, rfl⟩ := hq7
  refine jx_if_ne (tgt := 20) kd679.2.2.2.2.2.2.2.2.1 (by decide) (fun c8 => ?_) (fun c8 => ?_)
  · replace h := h.2 c8
    refine jx_aload_n 0 kd680.2.2.1 rfl rfl ?_
    refine jx_iload_n 1 kd680.2.2.2.1 rfl rfl ?_
    obtain ⟨hk9, h⟩ := h
    refine jx_callVi (M' := mX11_doesKnow) (As := [.int x1]) jo_X11_doesKnow jc_11 rfl jwM_X11_150 jwN_X11_doesKnow jwX_X11_doesKnow kd680.2.2.2.2.1 (jRok_m _ _ _) rfl (jle rfl) ⟨jle rfl, jle rfl⟩ hk9 h (fun r11 S10 h => ?_)
    refine jx_if_ne (tgt := 33) kd680.2.2.2.2.2.1 (by decide) (fun c12 => ?_) (fun c12 => ?_)
    · replace h := h.2 c12
      refine jx_aload_n 0 kd680.2.2.2.2.2.2.2.2.1 rfl rfl ?_
      obtain ⟨hk13, h⟩ := h
      obtain ⟨b14, hb14, h⟩ := h
      refine jx_getr jc_11 (j := 0) (by decide) rfl jwF_X11_7 kd681.1 hk13 hb14 ?_
      refine jx_iload_n 2 kd681.2.1 rfl rfl ?_
      refine jx_if_ne (tgt := 46) kd681.2.2.1 (by decide) (fun c15 => ?_) (fun c15 => ?_)
      · replace h := h.2 c15
        refine jx_bipush (v := 26) kd681.2.2.2.2.2.1 (by decide) ?_
        refine jx_iload_n 1 kd681.2.2.2.2.2.2.1 rfl rfl ?_
        refine jx_iadd kd681.2.2.2.2.2.2.2.1 ?_
        obtain ⟨hk16, h⟩ := h
        obtain ⟨hi17, h⟩ := h
        refine jx_iald kd681.2.2.2.2.2.2.2.2.1 hk16 hi17 ?_
        exact jx_iret kd682.1 rfl rfl (jle rfl) (jle rfl) ⟨_, rfl, h⟩
      replace h := h.1 c15
      refine jx_bipush (v := 16) kd681.2.2.2.1 (by decide) ?_
      refine jx_goto (tgt := 48) kd681.2.2.2.2.1 (by decide) ?_
      refine jx_iload_n 1 kd681.2.2.2.2.2.2.1 rfl rfl ?_
      refine jx_iadd kd681.2.2.2.2.2.2.2.1 ?_
      obtain ⟨hk18, h⟩ := h
      obtain ⟨hi19, h⟩ := h
      refine jx_iald kd681.2.2.2.2.2.2.2.2.1 hk18 hi19 ?_
      exact jx_iret kd682.1 rfl rfl (jle rfl) (jle rfl) ⟨_, rfl, h⟩
    replace h := h.1 c12
    refine jx_ldc jwC_X11_153 kd680.2.2.2.2.2.2.1 ?_
    refine jx_goto (tgt := 51) kd680.2.2.2.2.2.2.2.1 (by decide) ?_
    exact jx_iret kd682.1 rfl rfl (jle rfl) (jle rfl) ⟨_, rfl, h⟩
  replace h := h.1 c8
  refine jx_ldc jwC_X11_87 kd680.1 ?_
  exact jx_iret kd680.2.1 rfl rfl (jle rfl) (jle rfl) ⟨_, rfl, h⟩
/-- X11_goesBy at its loop's head 23 -/
abbrev L_X11_goesBy_23 (E : jEnv) (d : Nat) (Q : jM → Prop) (a0 : Nat) (x1 : Int32) (x2 : Int32) (S : jM) : Prop := jX E mX11_goesBy (jRm (d + 1) 0 0) (jZm E (fun r S' => r = none ∧ Q S') 0 0) 23 [(0, .ref a0), (1, .int x1), (2, .int x2)] [] S 0 0
set_option maxRecDepth 100000 in
set_option maxHeartbeats 4000000 in
theorem T_X11_goesBy {E : jEnv} {d : Nat} {Q : jM → Prop} {a0 : Nat} {x1 : Int32} {S : jM} (h : jk S a0 = 11 ∧ ∃ b2, jr S a0 0 = some b2 ∧ (jk S b2 = 12 ∧ vp_in 2 (jl S b2) ∧ ((L_X11_goesBy_23 E d Q a0 x1 0 (jput S b2 (Int32.toNatClampNeg 2) (jclamp ((ji S b2 (Int32.toNatClampNeg 2)) + x1) 0 9999)))))) : jFv E mX11_goesBy (d + 1) 0 0 [.ref a0, .int x1] S Q := by
  refine jF_of (by decide) (jle rfl) ?_
  refine jx_lv (lv1 := [(0, .ref a0), (1, .int x1)]) [0, 1] rfl ?_
  refine jx_aload_n 0 kd683.1 rfl rfl ?_
  obtain ⟨hk1, h⟩ := h
  obtain ⟨b2, hb2, h⟩ := h
  refine jx_getr jc_11 (j := 0) (by decide) rfl jwF_X11_7 kd683.2.1 hk1 hb2 ?_
  refine jx_iconst (v := 2) kd683.2.2.1 (by decide) ?_
  refine jx_aload_n 0 kd683.2.2.2.1 rfl rfl ?_
  refine jx_getr jc_11 (j := 0) (by decide) rfl jwF_X11_7 kd683.2.2.2.2.1 hk1 hb2 ?_
  refine jx_iconst (v := 2) kd683.2.2.2.2.2.1 (by decide) ?_
  obtain ⟨hk3, h⟩ := h
  obtain ⟨hi4, h⟩ := h
  refine jx_iald kd683.2.2.2.2.2.2.1 hk3 hi4 ?_
  refine jx_iload_n 1 kd683.2.2.2.2.2.2.2.1 rfl rfl ?_
  refine jx_iadd kd683.2.2.2.2.2.2.2.2.1 ?_
  refine jx_iconst (v := 0) kd684.1 (by decide) ?_
  refine jx_sipush (v := 9999) kd684.2.1 (by decide) ?_
  refine jx_callSi (M' := mX11_within) (As := [.int ((ji S b2 (Int32.toNatClampNeg 2)) + x1), .int 0, .int 9999]) jo_X11_within jwM_X11_104 jwS_X11_within kd684.2.2.1 (jRok_m _ _ _) rfl (jle rfl) ⟨jle rfl, jle rfl⟩ (c_X11_within (Q := fun v S' => v = (jclamp ((ji S b2 (Int32.toNatClampNeg 2)) + x1) 0 9999) ∧ S = S') ⟨rfl, rfl⟩) (fun r5 S6 hq7 => ?_)
  obtain ⟨rfl, rfl⟩ := hq7
  refine jx_iast kd684.2.2.2.1 hk3 hi4 ?_
  refine jx_iconst (v := 0) kd684.2.2.2.2.1 (by decide) ?_
  refine jx_istore_n (lv1 := [(2, .int 0), (0, .ref a0), (1, .int x1)]) kd684.2.2.2.2.2.1 rfl (by decide) rfl ?_
  exact jx_lv [1, 2, 0] rfl h
set_option maxRecDepth 100000 in
set_option maxHeartbeats 4000000 in
theorem T_X11_goesBy_23 {E : jEnv} {d : Nat} {Q : jM → Prop} {a0 : Nat} {x1 : Int32} {x2 : Int32} {S : jM} (h : (10 ≤ x2 → Q S) ∧ (¬ 10 ≤ x2 → jk S a0 = 11 ∧ jFi E mX11_doesKnow d 0 0 [.ref a0, .int x2] S (fun r11 S10 => (r11 = 0 → L_X11_goesBy_23 E d Q a0 x1 (x2 + 1) S10) ∧ (¬ r11 = 0 → jk S10 a0 = 11 ∧ ∃ b14, jr S10 a0 0 = some b14 ∧ (jk S10 b14 = 12 ∧ vp_in (26 + x2) (jl S10 b14) ∧ ((vp_in 4 (jl S10 b14) ∧ (vp_in 6 (jl S10 b14) ∧ (((ji (jput S10 b14 (Int32.toNatClampNeg (26 + x2)) ((ji S10 b14 (Int32.toNatClampNeg (26 + x2))) + x1)) b14 (Int32.toNatClampNeg 6)) ≤ 0 → (L_X11_goesBy_23 E d Q a0 x1 (x2 + 1) (jput (jput S10 b14 (Int32.toNatClampNeg (26 + x2)) ((ji S10 b14 (Int32.toNatClampNeg (26 + x2))) + x1)) b14 (Int32.toNatClampNeg 4) ((ji (jput S10 b14 (Int32.toNatClampNeg (26 + x2)) ((ji S10 b14 (Int32.toNatClampNeg (26 + x2))) + x1)) b14 (Int32.toNatClampNeg 4)) &&& (-1))))) ∧ (¬ (ji (jput S10 b14 (Int32.toNatClampNeg (26 + x2)) ((ji S10 b14 (Int32.toNatClampNeg (26 + x2))) + x1)) b14 (Int32.toNatClampNeg 6)) ≤ 0 → (((((ji S10 b14 (Int32.toNatClampNeg (26 + x2))) + x1) ≤ (ji (jput S10 b14 (Int32.toNatClampNeg (26 + x2)) ((ji S10 b14 (Int32.toNatClampNeg (26 + x2))) + x1)) b14 (Int32.toNatClampNeg 6)) → (L_X11_goesBy_23 E d Q a0 x1 (x2 + 1) (jput (jput S10 b14 (Int32.toNatClampNeg (26 + x2)) ((ji S10 b14 (Int32.toNatClampNeg (26 + x2))) + x1)) b14 (Int32.toNatClampNeg 4) ((ji (jput S10 b14 (Int32.toNatClampNeg (26 + x2)) ((ji S10 b14 (Int32.toNatClampNeg (26 + x2))) + x1)) b14 (Int32.toNatClampNeg 4)) &&& (-1))))) ∧ (¬ ((ji S10 b14 (Int32.toNatClampNeg (26 + x2))) + x1) ≤ (ji (jput S10 b14 (Int32.toNatClampNeg (26 + x2)) ((ji S10 b14 (Int32.toNatClampNeg (26 + x2))) + x1)) b14 (Int32.toNatClampNeg 6)) → (L_X11_goesBy_23 E d Q a0 x1 (x2 + 1) (jput (jput S10 b14 (Int32.toNatClampNeg (26 + x2)) ((ji S10 b14 (Int32.toNatClampNeg (26 + x2))) + x1)) b14 (Int32.toNatClampNeg 4) ((ji (jput S10 b14 (Int32.toNatClampNeg (26 + x2)) ((ji S10 b14 (Int32.toNatClampNeg (26 + x2))) + x1)) b14 (Int32.toNatClampNeg 4)) &&& ((jshl 1 x2) ^^^ (-1)))))))))))))))))) : L_X11_goesBy_23 E d Q a0 x1 x2 S := by
  show jX E mX11_goesBy (jRm (d + 1) 0 0) (jZm E (fun r S' => r = none ∧ Q S') 0 0) 23 [(0, .ref a0), (1, .int x1), (2, .int x2)] [] S 0 0
  refine jx_iload_n 2 kd684.2.2.2.2.2.2.1 rfl rfl ?_
  refine jx_bipush (v := 10) kd684.2.2.2.2.2.2.2.1 (by decide) ?_
  refine jx_icmp_ge (tgt := 103) kd684.2.2.2.2.2.2.2.2.1 (by decide) (fun c8 => ?_) (fun c8 => ?_)
  · replace h := h.1 c8
    exact jx_vret kd690.2.1 rfl (jle rfl) (jle rfl) ⟨rfl, h⟩
  replace h := h.2 c8
  refine jx_aload_n 0 kd685.1 rfl rfl ?_
  refine jx_iload_n 2 kd685.2.1 rfl rfl ?_
  obtain ⟨hk9, h⟩ := h
  refine jx_callVi (M' := mX11_doesKnow) (As := [.int x2]) jo_X11_doesKnow jc_11 rfl jwM_X11_150 jwN_X11_doesKnow jwX_X11_doesKnow kd685.2.2.1 (jRok_m _ _ _) rfl (jle rfl) ⟨jle rfl, jle rfl⟩ hk9 h (fun r11 S10 h => ?_)
  refine jx_if_eq (tgt := 97) kd685.2.2.2.1 (by decide) (fun c12 => ?_) (fun c12 => ?_)
  · replace h := h.1 c12
    refine jx_iinc 2 (v := (x2 + 1)) (lv1 := [(2, .int (x2 + 1)), (0, .ref a0), (1, .int x1)]) kd689.2.2.2.2.2.2.2.2.1 rfl rfl (by decide) rfl ?_
    refine jx_goto (tgt := 23) kd690.1 (by decide) ?_
    exact jx_lv [1, 2, 0] rfl h
  replace h := h.2 c12
  refine jx_aload_n 0 kd685.2.2.2.2.1 rfl rfl ?_
  obtain ⟨hk13, h⟩ := h
  obtain ⟨b14, hb14, h⟩ := h
  refine jx_getr jc_11 (j := 0) (by decide) rfl jwF_X11_7 kd685.2.2.2.2.2.1 hk13 hb14 ?_
  refine jx_bipush (v := 26) kd685.2.2.2.2.2.2.1 (by decide) ?_
  refine jx_iload_n 2 kd685.2.2.2.2.2.2.2.1 rfl rfl ?_
  refine jx_iadd kd685.2.2.2.2.2.2.2.2.1 ?_
  refine jx_dup2 kd686.1 rfl rfl ?_
  obtain ⟨hk15, h⟩ := h
  obtain ⟨hi16, h⟩ := h
  refine jx_iald kd686.2.1 hk15 hi16 ?_
  refine jx_iload_n 1 kd686.2.2.1 rfl rfl ?_
  refine jx_iadd kd686.2.2.2.1 ?_
  refine jx_iast kd686.2.2.2.2.1 hk15 hi16 ?_
  refine jx_aload_n 0 kd686.2.2.2.2.2.1 rfl rfl ?_
  refine jx_getr jc_11 (j := 0) (by decide) rfl jwF_X11_7 kd686.2.2.2.2.2.2.1 hk13 hb14 ?_
  refine jx_iconst (v := 4) kd686.2.2.2.2.2.2.2.1 (by decide) ?_
  refine jx_dup2 kd686.2.2.2.2.2.2.2.2.1 rfl rfl ?_
  obtain ⟨hi17, h⟩ := h
  refine jx_iald kd687.1 hk15 hi17 ?_
  refine jx_aload_n 0 kd687.2.1 rfl rfl ?_
  refine jx_getr jc_11 (j := 0) (by decide) rfl jwF_X11_7 kd687.2.2.1 hk13 hb14 ?_
  refine jx_bipush (v := 6) kd687.2.2.2.1 (by decide) ?_
  obtain ⟨hi18, h⟩ := h
  refine jx_iald kd687.2.2.2.2.1 hk15 hi18 ?_
  refine jx_if_le (tgt := 94) kd687.2.2.2.2.2.1 (by decide) (fun c19 => ?_) (fun c19 => ?_)
  · replace h := h.1 c19
    refine jx_iconst (v := (-1)) kd689.2.2.2.2.2.1 (by decide) ?_
    refine jx_iand kd689.2.2.2.2.2.2.1 ?_
    refine jx_iast kd689.2.2.2.2.2.2.2.1 hk15 hi17 ?_
    refine jx_iinc 2 (v := (x2 + 1)) (lv1 := [(2, .int (x2 + 1)), (0, .ref a0), (1, .int x1)]) kd689.2.2.2.2.2.2.2.2.1 rfl rfl (by decide) rfl ?_
    refine jx_goto (tgt := 23) kd690.1 (by decide) ?_
    exact jx_lv [1, 2, 0] rfl h
  replace h := h.2 c19
  refine jx_aload_n 0 kd687.2.2.2.2.2.2.1 rfl rfl ?_
  refine jx_getr jc_11 (j := 0) (by decide) rfl jwF_X11_7 kd687.2.2.2.2.2.2.2.1 hk13 hb14 ?_
  refine jx_bipush (v := 26) kd687.2.2.2.2.2.2.2.2.1 (by decide) ?_
  refine jx_iload_n 2 kd688.1 rfl rfl ?_
  refine jx_iadd kd688.2.1 ?_
  refine jx_iald kd688.2.2.1 hk15 hi16 ?_
  refine jx_topi (y := ((ji S10 b14 (Int32.toNatClampNeg (26 + x2))) + x1)) (by simp [ji_put, ji_row, ji_putr]) ?_
  refine jx_aload_n 0 kd688.2.2.2.1 rfl rfl ?_
  refine jx_getr jc_11 (j := 0) (by decide) rfl jwF_X11_7 kd688.2.2.2.2.1 hk13 hb14 ?_
  refine jx_bipush (v := 6) kd688.2.2.2.2.2.1 (by decide) ?_
  refine jx_iald kd688.2.2.2.2.2.2.1 hk15 hi18 ?_
  refine jx_icmp_le (tgt := 94) kd688.2.2.2.2.2.2.2.1 (by decide) (fun c20 => ?_) (fun c20 => ?_)
  · replace h := h.1 c20
    refine jx_iconst (v := (-1)) kd689.2.2.2.2.2.1 (by decide) ?_
    refine jx_iand kd689.2.2.2.2.2.2.1 ?_
    refine jx_iast kd689.2.2.2.2.2.2.2.1 hk15 hi17 ?_
    refine jx_iinc 2 (v := (x2 + 1)) (lv1 := [(2, .int (x2 + 1)), (0, .ref a0), (1, .int x1)]) kd689.2.2.2.2.2.2.2.2.1 rfl rfl (by decide) rfl ?_
    refine jx_goto (tgt := 23) kd690.1 (by decide) ?_
    exact jx_lv [1, 2, 0] rfl h
  replace h := h.2 c20
  refine jx_iconst (v := 1) kd688.2.2.2.2.2.2.2.2.1 (by decide) ?_
  refine jx_iload_n 2 kd689.1 rfl rfl ?_
  refine jx_ishl kd689.2.1 ?_
  refine jx_iconst (v := (-1)) kd689.2.2.1 (by decide) ?_
  refine jx_ixor kd689.2.2.2.1 ?_
  refine jx_goto (tgt := 95) kd689.2.2.2.2.1 (by decide) ?_
  refine jx_iand kd689.2.2.2.2.2.2.1 ?_
  refine jx_iast kd689.2.2.2.2.2.2.2.1 hk15 hi17 ?_
  refine jx_iinc 2 (v := (x2 + 1)) (lv1 := [(2, .int (x2 + 1)), (0, .ref a0), (1, .int x1)]) kd689.2.2.2.2.2.2.2.2.1 rfl rfl (by decide) rfl ?_
  refine jx_goto (tgt := 23) kd690.1 (by decide) ?_
  exact jx_lv [1, 2, 0] rfl h
set_option maxRecDepth 100000 in
set_option maxHeartbeats 4000000 in
theorem T_X11_go {E : jEnv} {d : Nat} {Q : Int32 → jM → Prop} {a0 : Nat} {x1 : Int32} {S : jM} (h : ((jist x1) = 0 → Q (-1000000001) S) ∧ (¬ (jist x1) = 0 → jk S a0 = 11 ∧ ∃ b6, jr S a0 0 = some b6 ∧ (jk S b6 = 12 ∧ vp_in 3 (jl S b6) ∧ ((x1 = (ji S b6 (Int32.toNatClampNeg 3)) → Q (-1000000001) S) ∧ (¬ x1 = (ji S b6 (Int32.toNatClampNeg 3)) → (vp_in ((36 + (6 * (ji S b6 (Int32.toNatClampNeg 3)))) + x1) (jl S b6) ∧ (((ji S b6 (Int32.toNatClampNeg ((36 + (6 * (ji S b6 (Int32.toNatClampNeg 3)))) + x1))) = 0 → Q (-1000000002) S) ∧ (¬ (ji S b6 (Int32.toNatClampNeg ((36 + (6 * (ji S b6 (Int32.toNatClampNeg 3)))) + x1))) = 0 → jFv E mX11_goesBy d 0 0 [.ref a0, .int (ji S b6 (Int32.toNatClampNeg ((36 + (6 * (ji S b6 (Int32.toNatClampNeg 3)))) + x1)))] S (fun S12 => jk S12 a0 = 11 ∧ ∃ b14, jr S12 a0 0 = some b14 ∧ (jk S12 b14 = 12 ∧ vp_in 3 (jl S12 b14) ∧ (vp_in 2 (jl S12 b14) ∧ (Q (ji (jput S12 b14 (Int32.toNatClampNeg 3) x1) b14 (Int32.toNatClampNeg 2)) (jput S12 b14 (Int32.toNatClampNeg 3) x1))))))))))))) : jFi E mX11_go (d + 1) 0 0 [.ref a0, .int x1] S Q := by
  refine jF_of (by decide) (jle rfl) ?_
  refine jx_lv (lv1 := [(0, .ref a0), (1, .int x1)]) [0, 1] rfl ?_
  refine jx_iload_n 1 kd691.1 rfl rfl ?_
  refine jx_callSi (M' := mX11_isTown) (As := [.int x1]) jo_X11_isTown jwM_X11_78 jwS_X11_isTown kd691.2.1 (jRok_m _ _ _) rfl (jle rfl) ⟨jle rfl, jle rfl⟩ (c_X11_isTown (Q := fun v S' => v = (jist x1) ∧ S = S') ⟨rfl, rfl⟩) (fun r1 S2 hq3 => ?_)
  obtain ⟨rfl, rfl⟩ := hq3
  refine jx_if_eq (tgt := 17) kd691.2.2.1 (by decide) (fun c4 => ?_) (fun c4 => ?_)
  · replace h := h.1 c4
    refine jx_ldc jwC_X11_87 kd692.1 ?_
    exact jx_iret kd692.2.1 rfl rfl (jle rfl) (jle rfl) ⟨_, rfl, h⟩
  replace h := h.2 c4
  refine jx_iload_n 1 kd691.2.2.2.1 rfl rfl ?_
  refine jx_aload_n 0 kd691.2.2.2.2.1 rfl rfl ?_
  obtain ⟨hk5, h⟩ := h
  obtain ⟨b6, hb6, h⟩ := h
  refine jx_getr jc_11 (j := 0) (by decide) rfl jwF_X11_7 kd691.2.2.2.2.2.1 hk5 hb6 ?_
  refine jx_iconst (v := 3) kd691.2.2.2.2.2.2.1 (by decide) ?_
  obtain ⟨hk7, h⟩ := h
  obtain ⟨hi8, h⟩ := h
  refine jx_iald kd691.2.2.2.2.2.2.2.1 hk7 hi8 ?_
  refine jx_icmp_ne (tgt := 20) kd691.2.2.2.2.2.2.2.2.1 (by decide) (fun c9 => ?_) (fun c9 => ?_)
  · replace h := h.2 c9
    refine jx_aload_n 0 kd692.2.2.1 rfl rfl ?_
    refine jx_getr jc_11 (j := 0) (by decide) rfl jwF_X11_7 kd692.2.2.2.1 hk5 hb6 ?_
    refine jx_bipush (v := 36) kd692.2.2.2.2.1 (by decide) ?_
    refine jx_bipush (v := 6) kd692.2.2.2.2.2.1 (by decide) ?_
    refine jx_aload_n 0 kd692.2.2.2.2.2.2.1 rfl rfl ?_
    refine jx_getr jc_11 (j := 0) (by decide) rfl jwF_X11_7 kd692.2.2.2.2.2.2.2.1 hk5 hb6 ?_
    refine jx_iconst (v := 3) kd692.2.2.2.2.2.2.2.2.1 (by decide) ?_
    refine jx_iald kd693.1 hk7 hi8 ?_
    refine jx_imul kd693.2.1 ?_
    refine jx_iadd kd693.2.2.1 ?_
    refine jx_iload_n 1 kd693.2.2.2.1 rfl rfl ?_
    refine jx_iadd kd693.2.2.2.2.1 ?_
    obtain ⟨hi10, h⟩ := h
    refine jx_iald kd693.2.2.2.2.2.1 hk7 hi10 ?_
    refine jx_istore_n (lv1 := [(2, .int (ji S b6 (Int32.toNatClampNeg ((36 + (6 * (ji S b6 (Int32.toNatClampNeg 3)))) + x1)))), (0, .ref a0), (1, .int x1)]) kd693.2.2.2.2.2.2.1 rfl (by decide) rfl ?_
    refine jx_iload_n 0 kd693.2.2.2.2.2.2.2.1 rfl rfl ?_
    refine jx_if_ne (tgt := 47) kd693.2.2.2.2.2.2.2.2.1 (by decide) (fun c11 => ?_) (fun c11 => ?_)
    · replace h := h.2 c11
      refine jx_aload_n 1 kd694.2.2.1 rfl rfl ?_
      refine jx_iload_n 0 kd694.2.2.2.1 rfl rfl ?_
      refine jx_callVv (M' := mX11_goesBy) (As := [.int (ji S b6 (Int32.toNatClampNeg ((36 + (6 * (ji S b6 (Int32.toNatClampNeg 3)))) + x1)))]) jo_X11_goesBy jc_11 rfl jwM_X11_154 jwN_X11_goesBy jwX_X11_goesBy kd694.2.2.2.2.1 (jRok_m _ _ _) rfl (jle rfl) ⟨jle rfl, jle rfl⟩ hk5 h (fun S12 h => ?_)
      refine jx_aload_n 1 kd694.2.2.2.2.2.1 rfl rfl ?_
      obtain ⟨hk13, h⟩ := h
      obtain ⟨b14, hb14, h⟩ := h
      refine jx_getr jc_11 (j := 0) (by decide) rfl jwF_X11_7 kd694.2.2.2.2.2.2.1 hk13 hb14 ?_
      refine jx_iconst (v := 3) kd694.2.2.2.2.2.2.2.1 (by decide) ?_
      refine jx_iload_n 2 kd694.2.2.2.2.2.2.2.2.1 rfl rfl ?_
      obtain ⟨hk15, h⟩ := h
      obtain ⟨hi16, h⟩ := h
      refine jx_iast kd695.1 hk15 hi16 ?_
      refine jx_aload_n 1 kd695.2.1 rfl rfl ?_
      refine jx_getr jc_11 (j := 0) (by decide) rfl jwF_X11_7 kd695.2.2.1 hk13 hb14 ?_
      refine jx_iconst (v := 2) kd695.2.2.2.1 (by decide) ?_
      obtain ⟨hi17, h⟩ := h
      refine jx_iald kd695.2.2.2.2.1 hk15 hi17 ?_
      exact jx_iret kd695.2.2.2.2.2.1 rfl rfl (jle rfl) (jle rfl) ⟨_, rfl, h⟩
    replace h := h.1 c11
    refine jx_ldc jwC_X11_153 kd694.1 ?_
    exact jx_iret kd694.2.1 rfl rfl (jle rfl) (jle rfl) ⟨_, rfl, h⟩
  replace h := h.1 c9
  refine jx_ldc jwC_X11_87 kd692.1 ?_
  exact jx_iret kd692.2.1 rfl rfl (jle rfl) (jle rfl) ⟨_, rfl, h⟩
set_option maxRecDepth 100000 in
set_option maxHeartbeats 4000000 in
theorem T_X11_canLearn {E : jEnv} {d : Nat} {Q : Int32 → jM → Prop} {a0 : Nat} {x1 : Int32} {S : jM} (h : jk S a0 = 11 ∧ jFi E mX11_of d 0 0 [.ref a0, .int x1, .int 6] S (fun r3 S2 => (r3 = 0 → jk S2 a0 = 11 ∧ jFi E mX11_of d 0 0 [.ref a0, .int x1, .int 1] S2 (fun r7 S6 => jk S6 a0 = 11 ∧ ∃ b9, jr S6 a0 0 = some b9 ∧ (jk S6 b9 = 12 ∧ vp_in 3 (jl S6 b9) ∧ ((r7 = (ji S6 b9 (Int32.toNatClampNeg 3)) → vp_in 4 (jl S6 b9) ∧ (jFi E mX11_teaches d 0 0 [.ref a0, .int x1, .int (ji S6 b9 (Int32.toNatClampNeg 4))] S6 (fun r15 S14 => (r15 = 0 → Q 0 S14) ∧ (¬ r15 = 0 → jk S14 a0 = 11 ∧ jFi E mX11_of d 0 0 [.ref a0, .int x1, .int 2] S14 (fun r19 S18 => jk S18 a0 = 11 ∧ jFi E mX11_doesKnow d 0 0 [.ref a0, .int r19] S18 (fun r22 S21 => (r22 = 0 → jk S21 a0 = 11 ∧ jFi E mX11_of d 0 0 [.ref a0, .int x1, .int 4] S21 (fun r26 S25 => jk S25 a0 = 11 ∧ ∃ b28, jr S25 a0 0 = some b28 ∧ (jk S25 b28 = 12 ∧ vp_in 5 (jl S25 b28) ∧ (((ji S25 b28 (Int32.toNatClampNeg 5)) < r26 → Q 0 S25) ∧ (¬ (ji S25 b28 (Int32.toNatClampNeg 5)) < r26 → Q 1 S25))))) ∧ (¬ r22 = 0 → Q 0 S21))))))) ∧ (¬ r7 = (ji S6 b9 (Int32.toNatClampNeg 3)) → Q 0 S6))))) ∧ (¬ r3 = 0 → Q 0 S2))) : jFi E mX11_canLearn (d + 1) 0 0 [.ref a0, .int x1] S Q := by
  refine jF_of (by decide) (jle rfl) ?_
  refine jx_lv (lv1 := [(0, .ref a0), (1, .int x1)]) [0, 1] rfl ?_
  refine jx_aload_n 0 kd696.1 rfl rfl ?_
  refine jx_iload_n 1 kd696.2.1 rfl rfl ?_
  refine jx_bipush (v := 6) kd696.2.2.1 (by decide) ?_
  obtain ⟨hk1, h⟩ := h
  refine jx_callVi (M' := mX11_of) (As := [.int x1, .int 6]) jo_X11_of jc_11 rfl jwM_X11_97 jwN_X11_of jwX_X11_of kd696.2.2.2.1 (jRok_m _ _ _) rfl (jle rfl) ⟨jle rfl, jle rfl⟩ hk1 h (fun r3 S2 h => ?_)
  refine jx_if_ne (tgt := 71) kd696.2.2.2.2.1 (by decide) (fun c4 => ?_) (fun c4 => ?_)
  · replace h := h.2 c4
    refine jx_iconst (v := 0) kd700.2.2.2.2.1 (by decide) ?_
    exact jx_iret kd700.2.2.2.2.2.1 rfl (by decide) (jle rfl) (jle rfl) ⟨_, rfl, h⟩
  replace h := h.1 c4
  refine jx_aload_n 0 kd696.2.2.2.2.2.1 rfl rfl ?_
  refine jx_iload_n 1 kd696.2.2.2.2.2.2.1 rfl rfl ?_
  refine jx_iconst (v := 1) kd696.2.2.2.2.2.2.2.1 (by decide) ?_
  obtain ⟨hk5, h⟩ := h
  refine jx_callVi (M' := mX11_of) (As := [.int x1, .int 1]) jo_X11_of jc_11 rfl jwM_X11_97 jwN_X11_of jwX_X11_of kd696.2.2.2.2.2.2.2.2.1 (jRok_m _ _ _) rfl (jle rfl) ⟨jle rfl, jle rfl⟩ hk5 h (fun r7 S6 h => ?_)
  refine jx_aload_n 0 kd697.1 rfl rfl ?_
  obtain ⟨hk8, h⟩ := h
  obtain ⟨b9, hb9, h⟩ := h
  refine jx_getr jc_11 (j := 0) (by decide) rfl jwF_X11_7 kd697.2.1 hk8 hb9 ?_
  refine jx_iconst (v := 3) kd697.2.2.1 (by decide) ?_
  obtain ⟨hk10, h⟩ := h
  obtain ⟨hi11, h⟩ := h
  refine jx_iald kd697.2.2.2.1 hk10 hi11 ?_
  refine jx_icmp_ne (tgt := 71) kd697.2.2.2.2.1 (by decide) (fun c12 => ?_) (fun c12 => ?_)
  · replace h := h.2 c12
    refine jx_iconst (v := 0) kd700.2.2.2.2.1 (by decide) ?_
    exact jx_iret kd700.2.2.2.2.2.1 rfl (by decide) (jle rfl) (jle rfl) ⟨_, rfl, h⟩
  replace h := h.1 c12
  refine jx_aload_n 0 kd697.2.2.2.2.2.1 rfl rfl ?_
  refine jx_iload_n 1 kd697.2.2.2.2.2.2.1 rfl rfl ?_
  refine jx_aload_n 0 kd697.2.2.2.2.2.2.2.1 rfl rfl ?_
  refine jx_getr jc_11 (j := 0) (by decide) rfl jwF_X11_7 kd697.2.2.2.2.2.2.2.2.1 hk8 hb9 ?_
  refine jx_iconst (v := 4) kd698.1 (by decide) ?_
  obtain ⟨hi13, h⟩ := h
  refine jx_iald kd698.2.1 hk10 hi13 ?_
  refine jx_callVi (M' := mX11_teaches) (As := [.int x1, .int (ji S6 b9 (Int32.toNatClampNeg 4))]) jo_X11_teaches jc_11 rfl jwM_X11_122 jwN_X11_teaches jwX_X11_teaches kd698.2.2.1 (jRok_m _ _ _) rfl (jle rfl) ⟨jle rfl, jle rfl⟩ hk8 h (fun r15 S14 h => ?_)
  refine jx_if_eq (tgt := 71) kd698.2.2.2.1 (by decide) (fun c16 => ?_) (fun c16 => ?_)
  · replace h := h.1 c16
    refine jx_iconst (v := 0) kd700.2.2.2.2.1 (by decide) ?_
    exact jx_iret kd700.2.2.2.2.2.1 rfl (by decide) (jle rfl) (jle rfl) ⟨_, rfl, h⟩
  replace h := h.2 c16
  refine jx_aload_n 0 kd698.2.2.2.2.1 rfl rfl ?_
  refine jx_aload_n 0 kd698.2.2.2.2.2.1 rfl rfl ?_
  refine jx_iload_n 1 kd698.2.2.2.2.2.2.1 rfl rfl ?_
  refine jx_iconst (v := 2) kd698.2.2.2.2.2.2.2.1 (by decide) ?_
  obtain ⟨hk17, h⟩ := h
  refine jx_callVi (M' := mX11_of) (As := [.int x1, .int 2]) jo_X11_of jc_11 rfl jwM_X11_97 jwN_X11_of jwX_X11_of kd698.2.2.2.2.2.2.2.2.1 (jRok_m _ _ _) rfl (jle rfl) ⟨jle rfl, jle rfl⟩ hk17 h (fun r19 S18 h => ?_)
  obtain ⟨hk20, h⟩ := h
  refine jx_callVi (M' := mX11_doesKnow) (As := [.int r19]) jo_X11_doesKnow jc_11 rfl jwM_X11_150 jwN_X11_doesKnow jwX_X11_doesKnow kd699.1 (jRok_m _ _ _) rfl (jle rfl) ⟨jle rfl, jle rfl⟩ hk20 h (fun r22 S21 h => ?_)
  refine jx_if_ne (tgt := 71) kd699.2.1 (by decide) (fun c23 => ?_) (fun c23 => ?_)
  · replace h := h.2 c23
    refine jx_iconst (v := 0) kd700.2.2.2.2.1 (by decide) ?_
    exact jx_iret kd700.2.2.2.2.2.1 rfl (by decide) (jle rfl) (jle rfl) ⟨_, rfl, h⟩
  replace h := h.1 c23
  refine jx_aload_n 0 kd699.2.2.1 rfl rfl ?_
  refine jx_iload_n 1 kd699.2.2.2.1 rfl rfl ?_
  refine jx_iconst (v := 4) kd699.2.2.2.2.1 (by decide) ?_
  obtain ⟨hk24, h⟩ := h
  refine jx_callVi (M' := mX11_of) (As := [.int x1, .int 4]) jo_X11_of jc_11 rfl jwM_X11_97 jwN_X11_of jwX_X11_of kd699.2.2.2.2.2.1 (jRok_m _ _ _) rfl (jle rfl) ⟨jle rfl, jle rfl⟩ hk24 h (fun r26 S25 h => ?_)
  refine jx_aload_n 0 kd699.2.2.2.2.2.2.1 rfl rfl ?_
  obtain ⟨hk27, h⟩ := h
  obtain ⟨b28, hb28, h⟩ := h
  refine jx_getr jc_11 (j := 0) (by decide) rfl jwF_X11_7 kd699.2.2.2.2.2.2.2.1 hk27 hb28 ?_
  refine jx_iconst (v := 5) kd699.2.2.2.2.2.2.2.2.1 (by decide) ?_
  obtain ⟨hk29, h⟩ := h
  obtain ⟨hi30, h⟩ := h
  refine jx_iald kd700.1 hk29 hi30 ?_
  refine jx_icmp_gt (tgt := 71) kd700.2.1 (by decide) (fun c31 => ?_) (fun c31 => ?_)
  · replace h := h.1 c31
    refine jx_iconst (v := 0) kd700.2.2.2.2.1 (by decide) ?_
    exact jx_iret kd700.2.2.2.2.2.1 rfl (by decide) (jle rfl) (jle rfl) ⟨_, rfl, h⟩
  replace h := h.2 c31
  refine jx_iconst (v := 1) kd700.2.2.1 (by decide) ?_
  refine jx_goto (tgt := 72) kd700.2.2.2.1 (by decide) ?_
  exact jx_iret kd700.2.2.2.2.2.1 rfl (by decide) (jle rfl) (jle rfl) ⟨_, rfl, h⟩
set_option maxRecDepth 100000 in
set_option maxHeartbeats 4000000 in
theorem T_X11_learns {E : jEnv} {d : Nat} {Q : Int32 → jM → Prop} {a0 : Nat} {x1 : Int32} {S : jM} (h : jk S a0 = 11 ∧ ∃ b2, jr S a0 0 = some b2 ∧ (jk S b2 = 12 ∧ vp_in 5 (jl S b2) ∧ (jFi E mX11_of d 0 0 [.ref a0, .int x1, .int 4] S (fun r6 S5 => jk S5 b2 = 12 ∧ vp_in 5 (jl S5 b2) ∧ (jk S5 a0 = 11 ∧ ∃ b10, jr S5 a0 0 = some b10 ∧ (jk S5 b10 = 12 ∧ vp_in 4 (jl S5 b10) ∧ (jFi E mX11_takes d 0 0 [.ref a0, .int x1, .int (jmany (ji (jput S5 b2 (Int32.toNatClampNeg 5) ((ji S b2 (Int32.toNatClampNeg 5)) - r6)) b10 (Int32.toNatClampNeg 4)))] (jput S5 b2 (Int32.toNatClampNeg 5) ((ji S b2 (Int32.toNatClampNeg 5)) - r6)) (fun r17 S16 => jk S16 a0 = 11 ∧ jFv E mX11_goesBy d 0 0 [.ref a0, .int r17] S16 (fun S19 => jk S19 a0 = 11 ∧ jFi E mX11_of d 0 0 [.ref a0, .int x1, .int 2] S19 (fun r22 S21 => jk S21 a0 = 11 ∧ ∃ b24, jr S21 a0 0 = some b24 ∧ (jk S21 b24 = 12 ∧ vp_in 4 (jl S21 b24) ∧ (jFi E mX11_behindLesson d 0 0 [.ref a0, .int x1, .int (ji S21 b24 (Int32.toNatClampNeg 4))] S21 (fun r28 S27 => jk S27 b24 = 12 ∧ vp_in 4 (jl S27 b24) ∧ (jk S27 a0 = 11 ∧ ∃ b32, jr S27 a0 0 = some b32 ∧ (jk S27 b32 = 12 ∧ vp_in (16 + r22) (jl S27 b32) ∧ (vp_in (26 + r22) (jl S27 b32) ∧ (Q r17 (jput (jput (jput S27 b24 (Int32.toNatClampNeg 4) r28) b32 (Int32.toNatClampNeg (16 + r22)) x1) b32 (Int32.toNatClampNeg (26 + r22)) 0)))))))))))))))))) : jFi E mX11_learns (d + 1) 0 0 [.ref a0, .int x1] S Q := by
  refine jF_of (by decide) (jle rfl) ?_
  refine jx_lv (lv1 := [(0, .ref a0), (1, .int x1)]) [0, 1] rfl ?_
  refine jx_aload_n 0 kd701.1 rfl rfl ?_
  obtain ⟨hk1, h⟩ := h
  obtain ⟨b2, hb2, h⟩ := h
  refine jx_getr jc_11 (j := 0) (by decide) rfl jwF_X11_7 kd701.2.1 hk1 hb2 ?_
  refine jx_iconst (v := 5) kd701.2.2.1 (by decide) ?_
  refine jx_dup2 kd701.2.2.2.1 rfl rfl ?_
  obtain ⟨hk3, h⟩ := h
  obtain ⟨hi4, h⟩ := h
  refine jx_iald kd701.2.2.2.2.1 hk3 hi4 ?_
  refine jx_aload_n 0 kd701.2.2.2.2.2.1 rfl rfl ?_
  refine jx_iload_n 1 kd701.2.2.2.2.2.2.1 rfl rfl ?_
  refine jx_iconst (v := 4) kd701.2.2.2.2.2.2.2.1 (by decide) ?_
  refine jx_callVi (M' := mX11_of) (As := [.int x1, .int 4]) jo_X11_of jc_11 rfl jwM_X11_97 jwN_X11_of jwX_X11_of kd701.2.2.2.2.2.2.2.2.1 (jRok_m _ _ _) rfl (jle rfl) ⟨jle rfl, jle rfl⟩ hk1 h (fun r6 S5 h => ?_)
  refine jx_isub kd702.1 ?_
  obtain ⟨hk7, h⟩ := h
  obtain ⟨hi8, h⟩ := h
  refine jx_iast kd702.2.1 hk7 hi8 ?_
  refine jx_aload_n 0 kd702.2.2.1 rfl rfl ?_
  refine jx_iload_n 1 kd702.2.2.2.1 rfl rfl ?_
  refine jx_aload_n 0 kd702.2.2.2.2.1 rfl rfl ?_
  obtain ⟨hk9, h⟩ := h
  obtain ⟨b10, hb10, h⟩ := h
  refine jx_getr jc_11 (j := 0) (by decide) rfl jwF_X11_7 kd702.2.2.2.2.2.1 hk9 hb10 ?_
  refine jx_iconst (v := 4) kd702.2.2.2.2.2.2.1 (by decide) ?_
  obtain ⟨hk11, h⟩ := h
  obtain ⟨hi12, h⟩ := h
  refine jx_iald kd702.2.2.2.2.2.2.2.1 hk11 hi12 ?_
  refine jx_callSi (M' := mX11_manyIn) (As := [.int (ji (jput S5 b2 (Int32.toNatClampNeg 5) ((ji S b2 (Int32.toNatClampNeg 5)) - r6)) b10 (Int32.toNatClampNeg 4))]) jo_X11_manyIn jwM_X11_108 jwS_X11_manyIn kd702.2.2.2.2.2.2.2.2.1 (jRok_m _ _ _) rfl (jle rfl) ⟨jle rfl, jle rfl⟩ (c_X11_manyIn (Q := fun v S' => v = (jmany (ji (jput S5 b2 (Int32.toNatClampNeg 5) ((ji S b2 (Int32.toNatClampNeg 5)) - r6)) b10 (Int32.toNatClampNeg 4))) ∧ (jput S5 b2 (Int32.toNatClampNeg 5) ((ji S b2 (Int32.toNatClampNeg 5)) - r6)) = S') ⟨rfl, rfl⟩) (fun r13 S14 hq15 => ?_)
  obtain ⟨rfl, rfl⟩ := hq15
  refine jx_callVi (M' := mX11_takes) (As := [.int x1, .int (jmany (ji (jput S5 b2 (Int32.toNatClampNeg 5) ((ji S b2 (Int32.toNatClampNeg 5)) - r6)) b10 (Int32.toNatClampNeg 4)))]) jo_X11_takes jc_11 rfl jwM_X11_116 jwN_X11_takes jwX_X11_takes kd703.1 (jRok_m _ _ _) rfl (jle rfl) ⟨jle rfl, jle rfl⟩ hk9 h (fun r17 S16 h => ?_)
  refine jx_istore_n (lv1 := [(2, .int r17), (0, .ref a0), (1, .int x1)]) kd703.2.1 rfl (by decide) rfl ?_
  refine jx_aload_n 1 kd703.2.2.1 rfl rfl ?_
  refine jx_iload_n 0 kd703.2.2.2.1 rfl rfl ?_
  obtain ⟨hk18, h⟩ := h
  refine jx_callVv (M' := mX11_goesBy) (As := [.int r17]) jo_X11_goesBy jc_11 rfl jwM_X11_154 jwN_X11_goesBy jwX_X11_goesBy kd703.2.2.2.2.1 (jRok_m _ _ _) rfl (jle rfl) ⟨jle rfl, jle rfl⟩ hk18 h (fun S19 h => ?_)
  refine jx_aload_n 1 kd703.2.2.2.2.2.1 rfl rfl ?_
  refine jx_iload_n 2 kd703.2.2.2.2.2.2.1 rfl rfl ?_
  refine jx_iconst (v := 2) kd703.2.2.2.2.2.2.2.1 (by decide) ?_
  obtain ⟨hk20, h⟩ := h
  refine jx_callVi (M' := mX11_of) (As := [.int x1, .int 2]) jo_X11_of jc_11 rfl jwM_X11_97 jwN_X11_of jwX_X11_of kd703.2.2.2.2.2.2.2.2.1 (jRok_m _ _ _) rfl (jle rfl) ⟨jle rfl, jle rfl⟩ hk20 h (fun r22 S21 h => ?_)
  refine jx_istore_n (lv1 := [(3, .int r22), (2, .int r17), (0, .ref a0), (1, .int x1)]) kd704.1 rfl (by decide) rfl ?_
  refine jx_aload_n 2 kd704.2.1 rfl rfl ?_
  obtain ⟨hk23, h⟩ := h
  obtain ⟨b24, hb24, h⟩ := h
  refine jx_getr jc_11 (j := 0) (by decide) rfl jwF_X11_7 kd704.2.2.1 hk23 hb24 ?_
  refine jx_iconst (v := 4) kd704.2.2.2.1 (by decide) ?_
  refine jx_aload_n 2 kd704.2.2.2.2.1 rfl rfl ?_
  refine jx_iload_n 3 kd704.2.2.2.2.2.1 rfl rfl ?_
  refine jx_aload_n 2 kd704.2.2.2.2.2.2.1 rfl rfl ?_
  refine jx_getr jc_11 (j := 0) (by decide) rfl jwF_X11_7 kd704.2.2.2.2.2.2.2.1 hk23 hb24 ?_
  refine jx_iconst (v := 4) kd704.2.2.2.2.2.2.2.2.1 (by decide) ?_
  obtain ⟨hk25, h⟩ := h
  obtain ⟨hi26, h⟩ := h
  refine jx_iald kd705.1 hk25 hi26 ?_
  refine jx_callVi (M' := mX11_behindLesson) (As := [.int x1, .int (ji S21 b24 (Int32.toNatClampNeg 4))]) jo_X11_behindLesson jc_11 rfl jwM_X11_158 jwN_X11_behindLesson jwX_X11_behindLesson kd705.2.1 (jRok_m _ _ _) rfl (jle rfl) ⟨jle rfl, jle rfl⟩ hk23 h (fun r28 S27 h => ?_)
  obtain ⟨hk29, h⟩ := h
  obtain ⟨hi30, h⟩ := h
  refine jx_iast kd705.2.2.1 hk29 hi30 ?_
  refine jx_aload_n 2 kd705.2.2.2.1 rfl rfl ?_
  obtain ⟨hk31, h⟩ := h
  obtain ⟨b32, hb32, h⟩ := h
  refine jx_getr jc_11 (j := 0) (by decide) rfl jwF_X11_7 kd705.2.2.2.2.1 hk31 hb32 ?_
  refine jx_bipush (v := 16) kd705.2.2.2.2.2.1 (by decide) ?_
  refine jx_iload_n 0 kd705.2.2.2.2.2.2.1 rfl rfl ?_
  refine jx_iadd kd705.2.2.2.2.2.2.2.1 ?_
  refine jx_iload_n 3 kd705.2.2.2.2.2.2.2.2.1 rfl rfl ?_
  obtain ⟨hk33, h⟩ := h
  obtain ⟨hi34, h⟩ := h
  refine jx_iast kd706.1 hk33 hi34 ?_
  refine jx_aload_n 2 kd706.2.1 rfl rfl ?_
  refine jx_getr jc_11 (j := 0) (by decide) rfl jwF_X11_7 kd706.2.2.1 hk31 hb32 ?_
  refine jx_bipush (v := 26) kd706.2.2.2.1 (by decide) ?_
  refine jx_iload_n 0 kd706.2.2.2.2.1 rfl rfl ?_
  refine jx_iadd kd706.2.2.2.2.2.1 ?_
  refine jx_iconst (v := 0) kd706.2.2.2.2.2.2.1 (by decide) ?_
  obtain ⟨hi35, h⟩ := h
  refine jx_iast kd706.2.2.2.2.2.2.2.1 hk33 hi35 ?_
  refine jx_iload_n 1 kd706.2.2.2.2.2.2.2.2.1 rfl rfl ?_
  exact jx_iret kd707.1 rfl rfl (jle rfl) (jle rfl) ⟨_, rfl, h⟩
set_option maxRecDepth 100000 in
set_option maxHeartbeats 4000000 in
theorem T_X11_learn {E : jEnv} {d : Nat} {Q : Int32 → jM → Prop} {a0 : Nat} {x1 : Int32} {S : jM} (h : jk S a0 = 11 ∧ jFi E mX11_isMaster d 0 0 [.ref a0, .int x1] S (fun r3 S2 => (r3 = 0 → Q (-1000000001) S2) ∧ (¬ r3 = 0 → jk S2 a0 = 11 ∧ jFi E mX11_canLearn d 0 0 [.ref a0, .int x1] S2 (fun r7 S6 => (r7 = 0 → Q (-1000000002) S6) ∧ (¬ r7 = 0 → jk S6 a0 = 11 ∧ jFi E mX11_learns d 0 0 [.ref a0, .int x1] S6 (fun r11 S10 => jk S10 a0 = 11 ∧ ∃ b13, jr S10 a0 0 = some b13 ∧ (jk S10 b13 = 12 ∧ vp_in 4 (jl S10 b13) ∧ (Q (ji S10 b13 (Int32.toNatClampNeg 4)) S10)))))))) : jFi E mX11_learn (d + 1) 0 0 [.ref a0, .int x1] S Q := by
  refine jF_of (by decide) (jle rfl) ?_
  refine jx_lv (lv1 := [(0, .ref a0), (1, .int x1)]) [0, 1] rfl ?_
  refine jx_aload_n 0 kd708.1 rfl rfl ?_
  refine jx_iload_n 1 kd708.2.1 rfl rfl ?_
  obtain ⟨hk1, h⟩ := h
  refine jx_callVi (M' := mX11_isMaster) (As := [.int x1]) jo_X11_isMaster jc_11 rfl jwM_X11_111 jwN_X11_isMaster jwX_X11_isMaster kd708.2.2.1 (jRok_m _ _ _) rfl (jle rfl) ⟨jle rfl, jle rfl⟩ hk1 h (fun r3 S2 h => ?_)
  refine jx_if_ne (tgt := 11) kd708.2.2.2.1 (by decide) (fun c4 => ?_) (fun c4 => ?_)
  · replace h := h.2 c4
    refine jx_aload_n 0 kd708.2.2.2.2.2.2.1 rfl rfl ?_
    refine jx_iload_n 1 kd708.2.2.2.2.2.2.2.1 rfl rfl ?_
    obtain ⟨hk5, h⟩ := h
    refine jx_callVi (M' := mX11_canLearn) (As := [.int x1]) jo_X11_canLearn jc_11 rfl jwM_X11_161 jwN_X11_canLearn jwX_X11_canLearn kd708.2.2.2.2.2.2.2.2.1 (jRok_m _ _ _) rfl (jle rfl) ⟨jle rfl, jle rfl⟩ hk5 h (fun r7 S6 h => ?_)
    refine jx_if_ne (tgt := 22) kd709.1 (by decide) (fun c8 => ?_) (fun c8 => ?_)
    · replace h := h.2 c8
      refine jx_aload_n 0 kd709.2.2.2.1 rfl rfl ?_
      refine jx_iload_n 1 kd709.2.2.2.2.1 rfl rfl ?_
      obtain ⟨hk9, h⟩ := h
      refine jx_callVi (M' := mX11_learns) (As := [.int x1]) jo_X11_learns jc_11 rfl jwM_X11_164 jwN_X11_learns jwX_X11_learns kd709.2.2.2.2.2.1 (jRok_m _ _ _) rfl (jle rfl) ⟨jle rfl, jle rfl⟩ hk9 h (fun r11 S10 h => ?_)
      refine jx_istore_n (lv1 := [(2, .int r11), (0, .ref a0), (1, .int x1)]) kd709.2.2.2.2.2.2.1 rfl (by decide) rfl ?_
      refine jx_aload_n 1 kd709.2.2.2.2.2.2.2.1 rfl rfl ?_
      obtain ⟨hk12, h⟩ := h
      obtain ⟨b13, hb13, h⟩ := h
      refine jx_getr jc_11 (j := 0) (by decide) rfl jwF_X11_7 kd709.2.2.2.2.2.2.2.2.1 hk12 hb13 ?_
      refine jx_iconst (v := 4) kd710.1 (by decide) ?_
      obtain ⟨hk14, h⟩ := h
      obtain ⟨hi15, h⟩ := h
      refine jx_iald kd710.2.1 hk14 hi15 ?_
      exact jx_iret kd710.2.2.1 rfl rfl (jle rfl) (jle rfl) ⟨_, rfl, h⟩
    replace h := h.1 c8
    refine jx_ldc jwC_X11_153 kd709.2.1 ?_
    exact jx_iret kd709.2.2.1 rfl rfl (jle rfl) (jle rfl) ⟨_, rfl, h⟩
  replace h := h.1 c4
  refine jx_ldc jwC_X11_87 kd708.2.2.2.2.1 ?_
  exact jx_iret kd708.2.2.2.2.2.1 rfl rfl (jle rfl) (jle rfl) ⟨_, rfl, h⟩
set_option maxRecDepth 100000 in
set_option maxHeartbeats 4000000 in
theorem T_X11_uses {E : jEnv} {d : Nat} {Q : jM → Prop} {a0 : Nat} {x1 : Int32} {S : jM} (h : jk S a0 = 11 ∧ ∃ b2, jr S a0 0 = some b2 ∧ (jk S b2 = 12 ∧ vp_in (26 + x1) (jl S b2) ∧ (jFv E mX11_goesBy d 0 0 [.ref a0, .int 1] (jput S b2 (Int32.toNatClampNeg (26 + x1)) 0) (fun S5 => Q S5)))) : jFv E mX11_uses (d + 1) 0 0 [.ref a0, .int x1] S Q := by
  refine jF_of (by decide) (jle rfl) ?_
  refine jx_lv (lv1 := [(0, .ref a0), (1, .int x1)]) [0, 1] rfl ?_
  refine jx_aload_n 0 kd711.1 rfl rfl ?_
  obtain ⟨hk1, h⟩ := h
  obtain ⟨b2, hb2, h⟩ := h
  refine jx_getr jc_11 (j := 0) (by decide) rfl jwF_X11_7 kd711.2.1 hk1 hb2 ?_
  refine jx_bipush (v := 26) kd711.2.2.1 (by decide) ?_
  refine jx_iload_n 1 kd711.2.2.2.1 rfl rfl ?_
  refine jx_iadd kd711.2.2.2.2.1 ?_
  refine jx_iconst (v := 0) kd711.2.2.2.2.2.1 (by decide) ?_
  obtain ⟨hk3, h⟩ := h
  obtain ⟨hi4, h⟩ := h
  refine jx_iast kd711.2.2.2.2.2.2.1 hk3 hi4 ?_
  refine jx_aload_n 0 kd711.2.2.2.2.2.2.2.1 rfl rfl ?_
  refine jx_iconst (v := 1) kd711.2.2.2.2.2.2.2.2.1 (by decide) ?_
  refine jx_callVv (M' := mX11_goesBy) (As := [.int 1]) jo_X11_goesBy jc_11 rfl jwM_X11_154 jwN_X11_goesBy jwX_X11_goesBy kd712.1 (jRok_m _ _ _) rfl (jle rfl) ⟨jle rfl, jle rfl⟩ hk1 h (fun S5 h => ?_)
  exact jx_vret kd712.2.1 rfl (jle rfl) (jle rfl) ⟨rfl, h⟩
set_option maxRecDepth 100000 in
set_option maxHeartbeats 4000000 in
theorem T_X11_use {E : jEnv} {d : Nat} {Q : Int32 → jM → Prop} {a0 : Nat} {x1 : Int32} {S : jM} (h : ((jisg x1) = 0 → Q (-1000000001) S) ∧ (¬ (jisg x1) = 0 → jk S a0 = 11 ∧ jFi E mX11_doesKnow d 0 0 [.ref a0, .int x1] S (fun r7 S6 => (r7 = 0 → Q (-1000000002) S6) ∧ (¬ r7 = 0 → jk S6 a0 = 11 ∧ jFv E mX11_uses d 0 0 [.ref a0, .int x1] S6 (fun S10 => jk S10 a0 = 11 ∧ ∃ b12, jr S10 a0 0 = some b12 ∧ (jk S10 b12 = 12 ∧ vp_in 4 (jl S10 b12) ∧ (Q (ji S10 b12 (Int32.toNatClampNeg 4)) S10))))))) : jFi E mX11_use (d + 1) 0 0 [.ref a0, .int x1] S Q := by
  refine jF_of (by decide) (jle rfl) ?_
  refine jx_lv (lv1 := [(0, .ref a0), (1, .int x1)]) [0, 1] rfl ?_
  refine jx_iload_n 1 kd713.1 rfl rfl ?_
  refine jx_callSi (M' := mX11_isGesture) (As := [.int x1]) jo_X11_isGesture jwM_X11_82 jwS_X11_isGesture kd713.2.1 (jRok_m _ _ _) rfl (jle rfl) ⟨jle rfl, jle rfl⟩ (c_X11_isGesture (Q := fun v S' => v = (jisg x1) ∧ S = S') ⟨rfl, rfl⟩) (fun r1 S2 hq3 => ?_)
  obtain ⟨rfl, rfl⟩ := hq3
  refine jx_if_ne (tgt := 10) kd713.2.2.1 (by decide) (fun c4 => ?_) (fun c4 => ?_)
  · replace h := h.2 c4
    refine jx_aload_n 0 kd713.2.2.2.2.2.1 rfl rfl ?_
    refine jx_iload_n 1 kd713.2.2.2.2.2.2.1 rfl rfl ?_
    obtain ⟨hk5, h⟩ := h
    refine jx_callVi (M' := mX11_doesKnow) (As := [.int x1]) jo_X11_doesKnow jc_11 rfl jwM_X11_150 jwN_X11_doesKnow jwX_X11_doesKnow kd713.2.2.2.2.2.2.2.1 (jRok_m _ _ _) rfl (jle rfl) ⟨jle rfl, jle rfl⟩ hk5 h (fun r7 S6 h => ?_)
    refine jx_if_ne (tgt := 21) kd713.2.2.2.2.2.2.2.2.1 (by decide) (fun c8 => ?_) (fun c8 => ?_)
    · replace h := h.2 c8
      refine jx_aload_n 0 kd714.2.2.1 rfl rfl ?_
      refine jx_iload_n 1 kd714.2.2.2.1 rfl rfl ?_
      obtain ⟨hk9, h⟩ := h
      refine jx_callVv (M' := mX11_uses) (As := [.int x1]) jo_X11_uses jc_11 rfl jwM_X11_167 jwN_X11_uses jwX_X11_uses kd714.2.2.2.2.1 (jRok_m _ _ _) rfl (jle rfl) ⟨jle rfl, jle rfl⟩ hk9 h (fun S10 h => ?_)
      refine jx_aload_n 0 kd714.2.2.2.2.2.1 rfl rfl ?_
      obtain ⟨hk11, h⟩ := h
      obtain ⟨b12, hb12, h⟩ := h
      refine jx_getr jc_11 (j := 0) (by decide) rfl jwF_X11_7 kd714.2.2.2.2.2.2.1 hk11 hb12 ?_
      refine jx_iconst (v := 4) kd714.2.2.2.2.2.2.2.1 (by decide) ?_
      obtain ⟨hk13, h⟩ := h
      obtain ⟨hi14, h⟩ := h
      refine jx_iald kd714.2.2.2.2.2.2.2.2.1 hk13 hi14 ?_
      exact jx_iret kd715.1 rfl rfl (jle rfl) (jle rfl) ⟨_, rfl, h⟩
    replace h := h.1 c8
    refine jx_ldc jwC_X11_153 kd714.1 ?_
    exact jx_iret kd714.2.1 rfl rfl (jle rfl) (jle rfl) ⟨_, rfl, h⟩
  replace h := h.1 c4
  refine jx_ldc jwC_X11_87 kd713.2.2.2.1 ?_
  exact jx_iret kd713.2.2.2.2.1 rfl rfl (jle rfl) (jle rfl) ⟨_, rfl, h⟩
set_option maxRecDepth 100000 in
set_option maxHeartbeats 4000000 in
theorem T_X11_rests {E : jEnv} {d : Nat} {Q : Int32 → jM → Prop} {a0 : Nat} {x1 : Int32} {S : jM} (h : ((jisin (Int32.toInt64 x1) 1 100) = 0 → Q (-1000000001) S) ∧ (¬ (jisin (Int32.toInt64 x1) 1 100) = 0 → jk S a0 = 11 ∧ jFv E mX11_goesBy d 0 0 [.ref a0, .int x1] S (fun S6 => jk S6 a0 = 11 ∧ ∃ b8, jr S6 a0 0 = some b8 ∧ (jk S6 b8 = 12 ∧ vp_in 4 (jl S6 b8) ∧ (Q (ji S6 b8 (Int32.toNatClampNeg 4)) S6))))) : jFi E mX11_rests (d + 1) 0 0 [.ref a0, .int x1] S Q := by
  refine jF_of (by decide) (jle rfl) ?_
  refine jx_lv (lv1 := [(0, .ref a0), (1, .int x1)]) [0, 1] rfl ?_
  refine jx_iload_n 1 kd716.1 rfl rfl ?_
  refine jx_i2l kd716.2.1 ?_
  refine jx_lconst (v := 1) kd716.2.2.1 (by decide) ?_
  refine jx_ldc2 jwL_X11_170 kd716.2.2.2.1 ?_
  refine jx_callSi (M' := mX11_isIn) (As := [.long (Int32.toInt64 x1), .long 1, .long 100]) jo_X11_isIn jwM_X11_71 jwS_X11_isIn kd716.2.2.2.2.1 (jRok_m _ _ _) rfl (jle rfl) ⟨jle rfl, jle rfl⟩ (c_X11_isIn (Q := fun v S' => v = (jisin (Int32.toInt64 x1) 1 100) ∧ S = S') ⟨rfl, rfl⟩) (fun r1 S2 hq3 => ?_)
  obtain ⟨rfl, rfl⟩ := hq3
  refine jx_if_ne (tgt := 15) kd716.2.2.2.2.2.1 (by decide) (fun c4 => ?_) (fun c4 => ?_)
  · replace h := h.2 c4
    refine jx_aload_n 0 kd716.2.2.2.2.2.2.2.2.1 rfl rfl ?_
    refine jx_iload_n 1 kd717.1 rfl rfl ?_
    obtain ⟨hk5, h⟩ := h
    refine jx_callVv (M' := mX11_goesBy) (As := [.int x1]) jo_X11_goesBy jc_11 rfl jwM_X11_154 jwN_X11_goesBy jwX_X11_goesBy kd717.2.1 (jRok_m _ _ _) rfl (jle rfl) ⟨jle rfl, jle rfl⟩ hk5 h (fun S6 h => ?_)
    refine jx_aload_n 0 kd717.2.2.1 rfl rfl ?_
    obtain ⟨hk7, h⟩ := h
    obtain ⟨b8, hb8, h⟩ := h
    refine jx_getr jc_11 (j := 0) (by decide) rfl jwF_X11_7 kd717.2.2.2.1 hk7 hb8 ?_
    refine jx_iconst (v := 4) kd717.2.2.2.2.1 (by decide) ?_
    obtain ⟨hk9, h⟩ := h
    obtain ⟨hi10, h⟩ := h
    refine jx_iald kd717.2.2.2.2.2.1 hk9 hi10 ?_
    exact jx_iret kd717.2.2.2.2.2.2.1 rfl rfl (jle rfl) (jle rfl) ⟨_, rfl, h⟩
  replace h := h.1 c4
  refine jx_ldc jwC_X11_87 kd716.2.2.2.2.2.2.1 ?_
  exact jx_iret kd716.2.2.2.2.2.2.2.1 rfl rfl (jle rfl) (jle rfl) ⟨_, rfl, h⟩
set_option maxRecDepth 100000 in
set_option maxHeartbeats 4000000 in
theorem T_X11_wants {E : jEnv} {d : Nat} {Q : Int32 → jM → Prop} {a0 : Nat} {x1 : Int32} {S : jM} (h : ((jisg x1) = 0 → Q (-1000000001) S) ∧ (¬ (jisg x1) = 0 → jk S a0 = 11 ∧ ∃ b6, jr S a0 0 = some b6 ∧ (jk S b6 = 12 ∧ vp_in 7 (jl S b6) ∧ (((ji S b6 (Int32.toNatClampNeg 7)) = 6 → Q (-1000000003) S) ∧ (¬ (ji S b6 (Int32.toNatClampNeg 7)) = 6 → (vp_in (9 + (ji S b6 (Int32.toNatClampNeg 7))) (jl S b6) ∧ ((((Q ((ji (jput S b6 (Int32.toNatClampNeg (9 + (ji S b6 (Int32.toNatClampNeg 7)))) x1) b6 (Int32.toNatClampNeg 7)) + 1) (jput (jput S b6 (Int32.toNatClampNeg (9 + (ji S b6 (Int32.toNatClampNeg 7)))) x1) b6 (Int32.toNatClampNeg 7) ((ji (jput S b6 (Int32.toNatClampNeg (9 + (ji S b6 (Int32.toNatClampNeg 7)))) x1) b6 (Int32.toNatClampNeg 7)) + 1)))))))))))) : jFi E mX11_wants (d + 1) 0 0 [.ref a0, .int x1] S Q := by
  refine jF_of (by decide) (jle rfl) ?_
  refine jx_lv (lv1 := [(0, .ref a0), (1, .int x1)]) [0, 1] rfl ?_
  refine jx_iload_n 1 kd718.1 rfl rfl ?_
  refine jx_callSi (M' := mX11_isGesture) (As := [.int x1]) jo_X11_isGesture jwM_X11_82 jwS_X11_isGesture kd718.2.1 (jRok_m _ _ _) rfl (jle rfl) ⟨jle rfl, jle rfl⟩ (c_X11_isGesture (Q := fun v S' => v = (jisg x1) ∧ S = S') ⟨rfl, rfl⟩) (fun r1 S2 hq3 => ?_)
  obtain ⟨rfl, rfl⟩ := hq3
  refine jx_if_ne (tgt := 10) kd718.2.2.1 (by decide) (fun c4 => ?_) (fun c4 => ?_)
  · replace h := h.2 c4
    refine jx_aload_n 0 kd718.2.2.2.2.2.1 rfl rfl ?_
    obtain ⟨hk5, h⟩ := h
    obtain ⟨b6, hb6, h⟩ := h
    refine jx_getr jc_11 (j := 0) (by decide) rfl jwF_X11_7 kd718.2.2.2.2.2.2.1 hk5 hb6 ?_
    refine jx_bipush (v := 7) kd718.2.2.2.2.2.2.2.1 (by decide) ?_
    obtain ⟨hk7, h⟩ := h
    obtain ⟨hi8, h⟩ := h
    refine jx_iald kd718.2.2.2.2.2.2.2.2.1 hk7 hi8 ?_
    refine jx_bipush (v := 6) kd719.1 (by decide) ?_
    refine jx_icmp_ne (tgt := 25) kd719.2.1 (by decide) (fun c9 => ?_) (fun c9 => ?_)
    · replace h := h.2 c9
      refine jx_aload_n 0 kd719.2.2.2.2.1 rfl rfl ?_
      refine jx_getr jc_11 (j := 0) (by decide) rfl jwF_X11_7 kd719.2.2.2.2.2.1 hk5 hb6 ?_
      refine jx_bipush (v := 9) kd719.2.2.2.2.2.2.1 (by decide) ?_
      refine jx_aload_n 0 kd719.2.2.2.2.2.2.2.1 rfl rfl ?_
      refine jx_getr jc_11 (j := 0) (by decide) rfl jwF_X11_7 kd719.2.2.2.2.2.2.2.2.1 hk5 hb6 ?_
      refine jx_bipush (v := 7) kd720.1 (by decide) ?_
      refine jx_iald kd720.2.1 hk7 hi8 ?_
      refine jx_iadd kd720.2.2.1 ?_
      refine jx_iload_n 1 kd720.2.2.2.1 rfl rfl ?_
      obtain ⟨hi10, h⟩ := h
      refine jx_iast kd720.2.2.2.2.1 hk7 hi10 ?_
      refine jx_aload_n 0 kd720.2.2.2.2.2.1 rfl rfl ?_
      refine jx_getr jc_11 (j := 0) (by decide) rfl jwF_X11_7 kd720.2.2.2.2.2.2.1 hk5 hb6 ?_
      refine jx_bipush (v := 7) kd720.2.2.2.2.2.2.2.1 (by decide) ?_
      refine jx_dup2 kd720.2.2.2.2.2.2.2.2.1 rfl rfl ?_
      refine jx_iald kd721.1 hk7 hi8 ?_
      refine jx_iconst (v := 1) kd721.2.1 (by decide) ?_
      refine jx_iadd kd721.2.2.1 ?_
      refine jx_iast kd721.2.2.2.1 hk7 hi8 ?_
      refine jx_aload_n 0 kd721.2.2.2.2.1 rfl rfl ?_
      refine jx_getr jc_11 (j := 0) (by decide) rfl jwF_X11_7 kd721.2.2.2.2.2.1 hk5 hb6 ?_
      refine jx_bipush (v := 7) kd721.2.2.2.2.2.2.1 (by decide) ?_
      refine jx_iald kd721.2.2.2.2.2.2.2.1 hk7 hi8 ?_
      refine jx_topi (y := ((ji (jput S b6 (Int32.toNatClampNeg (9 + (ji S b6 (Int32.toNatClampNeg 7)))) x1) b6 (Int32.toNatClampNeg 7)) + 1)) (by simp [ji_put, ji_row, ji_putr]) ?_
      exact jx_iret kd721.2.2.2.2.2.2.2.2.1 rfl rfl (jle rfl) (jle rfl) ⟨_, rfl, h⟩
    replace h := h.1 c9
    refine jx_ldc jwC_X11_88 kd719.2.2.1 ?_
    exact jx_iret kd719.2.2.2.1 rfl rfl (jle rfl) (jle rfl) ⟨_, rfl, h⟩
  replace h := h.1 c4
  refine jx_ldc jwC_X11_87 kd718.2.2.2.1 ?_
  exact jx_iret kd718.2.2.2.2.1 rfl rfl (jle rfl) (jle rfl) ⟨_, rfl, h⟩
set_option maxRecDepth 100000 in
set_option maxHeartbeats 4000000 in
theorem T_X11_clear {E : jEnv} {d : Nat} {Q : Int32 → jM → Prop} {a0 : Nat} {S : jM} (h : jk S a0 = 11 ∧ jFi E mX11_becomes d 0 0 [.ref a0, .int 7, .int 0] S (fun r3 S2 => Q r3 S2)) : jFi E mX11_clear (d + 1) 0 0 [.ref a0] S Q := by
  refine jF_of (by decide) (jle rfl) ?_
  refine jx_lv (lv1 := [(0, .ref a0)]) [0] rfl ?_
  refine jx_aload_n 0 kd722.1 rfl rfl ?_
  refine jx_bipush (v := 7) kd722.2.1 (by decide) ?_
  refine jx_iconst (v := 0) kd722.2.2.1 (by decide) ?_
  obtain ⟨hk1, h⟩ := h
  refine jx_callVi (M' := mX11_becomes) (As := [.int 7, .int 0]) jo_X11_becomes jc_11 rfl jwM_X11_130 jwN_X11_becomes jwX_X11_becomes kd722.2.2.2.1 (jRok_m _ _ _) rfl (jle rfl) ⟨jle rfl, jle rfl⟩ hk1 h (fun r3 S2 h => ?_)
  exact jx_iret kd722.2.2.2.2.1 rfl rfl (jle rfl) (jle rfl) ⟨_, rfl, h⟩
/-- X11_can at its loop's head 2 -/
abbrev L_X11_can_2 (E : jEnv) (d : Nat) (Q : Int32 → jM → Prop) (a0 : Nat) (x1 : Int32) (S : jM) : Prop := jX E mX11_can (jRm (d + 1) 0 0) (jZm E (fun r S' => ∃ v : Int32, r = some (.int v) ∧ Q v S') 0 0) 2 [(0, .ref a0), (1, .int x1)] [] S 0 0
set_option maxRecDepth 100000 in
set_option maxHeartbeats 4000000 in
theorem T_X11_can {E : jEnv} {d : Nat} {Q : Int32 → jM → Prop} {a0 : Nat} {S : jM} (h : L_X11_can_2 E d Q a0 0 S) : jFi E mX11_can (d + 1) 0 0 [.ref a0] S Q := by
  refine jF_of (by decide) (jle rfl) ?_
  refine jx_lv (lv1 := [(0, .ref a0)]) [0] rfl ?_
  refine jx_iconst (v := 0) kd723.1 (by decide) ?_
  refine jx_istore_n (lv1 := [(1, .int 0), (0, .ref a0)]) kd723.2.1 rfl (by decide) rfl ?_
  exact jx_lv [1, 0] rfl h
set_option maxRecDepth 100000 in
set_option maxHeartbeats 4000000 in
theorem T_X11_can_2 {E : jEnv} {d : Nat} {Q : Int32 → jM → Prop} {a0 : Nat} {x1 : Int32} {S : jM} (h : jk S a0 = 11 ∧ ∃ b2, jr S a0 0 = some b2 ∧ (jk S b2 = 12 ∧ vp_in 7 (jl S b2) ∧ (((ji S b2 (Int32.toNatClampNeg 7)) ≤ x1 → Q 1 S) ∧ (¬ (ji S b2 (Int32.toNatClampNeg 7)) ≤ x1 → vp_in (9 + x1) (jl S b2) ∧ (jFi E mX11_doesKnow d 0 0 [.ref a0, .int (ji S b2 (Int32.toNatClampNeg (9 + x1)))] S (fun r8 S7 => (r8 = 0 → Q 0 S7) ∧ (¬ r8 = 0 → L_X11_can_2 E d Q a0 (x1 + 1) S7))))))) : L_X11_can_2 E d Q a0 x1 S := by
  show jX E mX11_can (jRm (d + 1) 0 0) (jZm E (fun r S' => ∃ v : Int32, r = some (.int v) ∧ Q v S') 0 0) 2 [(0, .ref a0), (1, .int x1)] [] S 0 0
  refine jx_iload_n 1 kd723.2.2.1 rfl rfl ?_
  refine jx_aload_n 0 kd723.2.2.2.1 rfl rfl ?_
  obtain ⟨hk1, h⟩ := h
  obtain ⟨b2, hb2, h⟩ := h
  refine jx_getr jc_11 (j := 0) (by decide) rfl jwF_X11_7 kd723.2.2.2.2.1 hk1 hb2 ?_
  refine jx_bipush (v := 7) kd723.2.2.2.2.2.1 (by decide) ?_
  obtain ⟨hk3, h⟩ := h
  obtain ⟨hi4, h⟩ := h
  refine jx_iald kd723.2.2.2.2.2.2.1 hk3 hi4 ?_
  refine jx_icmp_ge (tgt := 37) kd723.2.2.2.2.2.2.2.1 (by decide) (fun c5 => ?_) (fun c5 => ?_)
  · replace h := h.1 c5
    refine jx_iconst (v := 1) kd725.2.2.2.1 (by decide) ?_
    exact jx_iret kd725.2.2.2.2.1 rfl (by decide) (jle rfl) (jle rfl) ⟨_, rfl, h⟩
  replace h := h.2 c5
  refine jx_aload_n 0 kd723.2.2.2.2.2.2.2.2.1 rfl rfl ?_
  refine jx_aload_n 0 kd724.1 rfl rfl ?_
  refine jx_getr jc_11 (j := 0) (by decide) rfl jwF_X11_7 kd724.2.1 hk1 hb2 ?_
  refine jx_bipush (v := 9) kd724.2.2.1 (by decide) ?_
  refine jx_iload_n 1 kd724.2.2.2.1 rfl rfl ?_
  refine jx_iadd kd724.2.2.2.2.1 ?_
  obtain ⟨hi6, h⟩ := h
  refine jx_iald kd724.2.2.2.2.2.1 hk3 hi6 ?_
  refine jx_callVi (M' := mX11_doesKnow) (As := [.int (ji S b2 (Int32.toNatClampNeg (9 + x1)))]) jo_X11_doesKnow jc_11 rfl jwM_X11_150 jwN_X11_doesKnow jwX_X11_doesKnow kd724.2.2.2.2.2.2.1 (jRok_m _ _ _) rfl (jle rfl) ⟨jle rfl, jle rfl⟩ hk1 h (fun r8 S7 h => ?_)
  refine jx_if_ne (tgt := 31) kd724.2.2.2.2.2.2.2.1 (by decide) (fun c9 => ?_) (fun c9 => ?_)
  · replace h := h.2 c9
    refine jx_iinc 1 (v := (x1 + 1)) (lv1 := [(1, .int (x1 + 1)), (0, .ref a0)]) kd725.2.1 rfl rfl (by decide) rfl ?_
    refine jx_goto (tgt := 2) kd725.2.2.1 (by decide) ?_
    exact jx_lv [1, 0] rfl h
  replace h := h.1 c9
  refine jx_iconst (v := 0) kd724.2.2.2.2.2.2.2.2.1 (by decide) ?_
  exact jx_iret kd725.1 rfl (by decide) (jle rfl) (jle rfl) ⟨_, rfl, h⟩
/-- X11_made at its loop's head 12 -/
abbrev L_X11_made_12 (E : jEnv) (d : Nat) (Q : Int32 → jM → Prop) (a0 : Nat) (x1 : Int32) (S : jM) : Prop := jX E mX11_made (jRm (d + 1) 0 0) (jZm E (fun r S' => ∃ v : Int32, r = some (.int v) ∧ Q v S') 0 0) 12 [(0, .ref a0), (1, .int x1)] [] S 0 0
set_option maxRecDepth 100000 in
set_option maxHeartbeats 4000000 in
theorem T_X11_made {E : jEnv} {d : Nat} {Q : Int32 → jM → Prop} {a0 : Nat} {S : jM} (h : jk S a0 = 11 ∧ jFi E mX11_can d 0 0 [.ref a0] S (fun r3 S2 => (r3 = 0 → Q (-1000000002) S2) ∧ (¬ r3 = 0 → L_X11_made_12 E d Q a0 0 S2))) : jFi E mX11_made (d + 1) 0 0 [.ref a0] S Q := by
  refine jF_of (by decide) (jle rfl) ?_
  refine jx_lv (lv1 := [(0, .ref a0)]) [0] rfl ?_
  refine jx_aload_n 0 kd726.1 rfl rfl ?_
  obtain ⟨hk1, h⟩ := h
  refine jx_callVi (M' := mX11_can) (As := []) jo_X11_can jc_11 rfl jwM_X11_172 jwN_X11_can jwX_X11_can kd726.2.1 (jRok_m _ _ _) rfl (jle rfl) ⟨jle rfl, jle rfl⟩ hk1 h (fun r3 S2 h => ?_)
  refine jx_if_ne (tgt := 10) kd726.2.2.1 (by decide) (fun c4 => ?_) (fun c4 => ?_)
  · replace h := h.2 c4
    refine jx_iconst (v := 0) kd726.2.2.2.2.2.1 (by decide) ?_
    refine jx_istore_n (lv1 := [(1, .int 0), (0, .ref a0)]) kd726.2.2.2.2.2.2.1 rfl (by decide) rfl ?_
    exact jx_lv [1, 0] rfl h
  replace h := h.1 c4
  refine jx_ldc jwC_X11_153 kd726.2.2.2.1 ?_
  exact jx_iret kd726.2.2.2.2.1 rfl rfl (jle rfl) (jle rfl) ⟨_, rfl, h⟩
set_option maxRecDepth 100000 in
set_option maxHeartbeats 4000000 in
theorem T_X11_made_12 {E : jEnv} {d : Nat} {Q : Int32 → jM → Prop} {a0 : Nat} {x1 : Int32} {S : jM} (h : jk S a0 = 11 ∧ ∃ b6, jr S a0 0 = some b6 ∧ (jk S b6 = 12 ∧ vp_in 7 (jl S b6) ∧ (((ji S b6 (Int32.toNatClampNeg 7)) ≤ x1 → vp_in 2 (jl S b6) ∧ (Q (ji S b6 (Int32.toNatClampNeg 2)) S)) ∧ (¬ (ji S b6 (Int32.toNatClampNeg 7)) ≤ x1 → vp_in (9 + x1) (jl S b6) ∧ (jFi E mX11_doesKnow d 0 0 [.ref a0, .int (ji S b6 (Int32.toNatClampNeg (9 + x1)))] S (fun r13 S12 => (r13 = 0 → L_X11_made_12 E d Q a0 (x1 + 1) S12) ∧ (¬ r13 = 0 → jk S12 a0 = 11 ∧ ∃ b16, jr S12 a0 0 = some b16 ∧ (jk S12 b16 = 12 ∧ vp_in (9 + x1) (jl S12 b16) ∧ (jFv E mX11_uses d 0 0 [.ref a0, .int (ji S12 b16 (Int32.toNatClampNeg (9 + x1)))] S12 (fun S19 => L_X11_made_12 E d Q a0 (x1 + 1) S19)))))))))) : L_X11_made_12 E d Q a0 x1 S := by
  show jX E mX11_made (jRm (d + 1) 0 0) (jZm E (fun r S' => ∃ v : Int32, r = some (.int v) ∧ Q v S') 0 0) 12 [(0, .ref a0), (1, .int x1)] [] S 0 0
  refine jx_iload_n 1 kd726.2.2.2.2.2.2.2.1 rfl rfl ?_
  refine jx_aload_n 0 kd726.2.2.2.2.2.2.2.2.1 rfl rfl ?_
  obtain ⟨hk5, h⟩ := h
  obtain ⟨b6, hb6, h⟩ := h
  refine jx_getr jc_11 (j := 0) (by decide) rfl jwF_X11_7 kd727.1 hk5 hb6 ?_
  refine jx_bipush (v := 7) kd727.2.1 (by decide) ?_
  obtain ⟨hk7, h⟩ := h
  obtain ⟨hi8, h⟩ := h
  refine jx_iald kd727.2.2.1 hk7 hi8 ?_
  refine jx_icmp_ge (tgt := 58) kd727.2.2.2.1 (by decide) (fun c9 => ?_) (fun c9 => ?_)
  · replace h := h.1 c9
    refine jx_aload_n 0 kd729.2.2.2.2.2.1 rfl rfl ?_
    refine jx_getr jc_11 (j := 0) (by decide) rfl jwF_X11_7 kd729.2.2.2.2.2.2.1 hk5 hb6 ?_
    refine jx_iconst (v := 2) kd729.2.2.2.2.2.2.2.1 (by decide) ?_
    obtain ⟨hi10, h⟩ := h
    refine jx_iald kd729.2.2.2.2.2.2.2.2.1 hk7 hi10 ?_
    exact jx_iret kd730.1 rfl rfl (jle rfl) (jle rfl) ⟨_, rfl, h⟩
  replace h := h.2 c9
  refine jx_aload_n 0 kd727.2.2.2.2.1 rfl rfl ?_
  refine jx_aload_n 0 kd727.2.2.2.2.2.1 rfl rfl ?_
  refine jx_getr jc_11 (j := 0) (by decide) rfl jwF_X11_7 kd727.2.2.2.2.2.2.1 hk5 hb6 ?_
  refine jx_bipush (v := 9) kd727.2.2.2.2.2.2.2.1 (by decide) ?_
  refine jx_iload_n 1 kd727.2.2.2.2.2.2.2.2.1 rfl rfl ?_
  refine jx_iadd kd728.1 ?_
  obtain ⟨hi11, h⟩ := h
  refine jx_iald kd728.2.1 hk7 hi11 ?_
  refine jx_callVi (M' := mX11_doesKnow) (As := [.int (ji S b6 (Int32.toNatClampNeg (9 + x1)))]) jo_X11_doesKnow jc_11 rfl jwM_X11_150 jwN_X11_doesKnow jwX_X11_doesKnow kd728.2.2.1 (jRok_m _ _ _) rfl (jle rfl) ⟨jle rfl, jle rfl⟩ hk5 h (fun r13 S12 h => ?_)
  refine jx_if_eq (tgt := 52) kd728.2.2.2.1 (by decide) (fun c14 => ?_) (fun c14 => ?_)
  · replace h := h.1 c14
    refine jx_iinc 1 (v := (x1 + 1)) (lv1 := [(1, .int (x1 + 1)), (0, .ref a0)]) kd729.2.2.2.1 rfl rfl (by decide) rfl ?_
    refine jx_goto (tgt := 12) kd729.2.2.2.2.1 (by decide) ?_
    exact jx_lv [1, 0] rfl h
  replace h := h.2 c14
  refine jx_aload_n 0 kd728.2.2.2.2.1 rfl rfl ?_
  refine jx_aload_n 0 kd728.2.2.2.2.2.1 rfl rfl ?_
  obtain ⟨hk15, h⟩ := h
  obtain ⟨b16, hb16, h⟩ := h
  refine jx_getr jc_11 (j := 0) (by decide) rfl jwF_X11_7 kd728.2.2.2.2.2.2.1 hk15 hb16 ?_
  refine jx_bipush (v := 9) kd728.2.2.2.2.2.2.2.1 (by decide) ?_
  refine jx_iload_n 1 kd728.2.2.2.2.2.2.2.2.1 rfl rfl ?_
  refine jx_iadd kd729.1 ?_
  obtain ⟨hk17, h⟩ := h
  obtain ⟨hi18, h⟩ := h
  refine jx_iald kd729.2.1 hk17 hi18 ?_
  refine jx_callVv (M' := mX11_uses) (As := [.int (ji S12 b16 (Int32.toNatClampNeg (9 + x1)))]) jo_X11_uses jc_11 rfl jwM_X11_167 jwN_X11_uses jwX_X11_uses kd729.2.2.1 (jRok_m _ _ _) rfl (jle rfl) ⟨jle rfl, jle rfl⟩ hk15 h (fun S19 h => ?_)
  refine jx_iinc 1 (v := (x1 + 1)) (lv1 := [(1, .int (x1 + 1)), (0, .ref a0)]) kd729.2.2.2.1 rfl rfl (by decide) rfl ?_
  refine jx_goto (tgt := 12) kd729.2.2.2.2.1 (by decide) ?_
  exact jx_lv [1, 0] rfl h
/-- X11_laysBy at its loop's head 2 -/
abbrev L_X11_laysBy_2 (E : jEnv) (d : Nat) (Q : jM → Prop) (a0 : Nat) (x1 : Int32) (S : jM) : Prop := jX E mX11_laysBy (jRm d 0 0) (jZm E (fun r S' => r = none ∧ Q S') 0 0) 2 [(0, .ref a0), (1, .int x1)] [] S 0 0
set_option maxRecDepth 100000 in
set_option maxHeartbeats 4000000 in
theorem T_X11_laysBy {E : jEnv} {d : Nat} {Q : jM → Prop} {a0 : Nat} {S : jM} (h : L_X11_laysBy_2 E d Q a0 0 S) : jFv E mX11_laysBy d 0 0 [.ref a0] S Q := by
  refine jF_of (by decide) (jle rfl) ?_
  refine jx_lv (lv1 := [(0, .ref a0)]) [0] rfl ?_
  refine jx_iconst (v := 0) kd731.1 (by decide) ?_
  refine jx_istore_n (lv1 := [(1, .int 0), (0, .ref a0)]) kd731.2.1 rfl (by decide) rfl ?_
  exact jx_lv [1, 0] rfl h
set_option maxRecDepth 100000 in
set_option maxHeartbeats 4000000 in
theorem T_X11_laysBy_2 {E : jEnv} {d : Nat} {Q : jM → Prop} {a0 : Nat} {x1 : Int32} {S : jM} (h : (135 ≤ x1 → Q S) ∧ (¬ 135 ≤ x1 → jk S a0 = 11 ∧ ∃ b3, jr S a0 13 = some b3 ∧ (∃ b4, jr S a0 0 = some b4 ∧ (jk S b4 = 12 ∧ vp_in x1 (jl S b4) ∧ (jk S b3 = 12 ∧ vp_in x1 (jl S b3) ∧ (L_X11_laysBy_2 E d Q a0 (x1 + 1) (jput S b3 (Int32.toNatClampNeg x1) (ji S b4 (Int32.toNatClampNeg x1))))))))) : L_X11_laysBy_2 E d Q a0 x1 S := by
  show jX E mX11_laysBy (jRm d 0 0) (jZm E (fun r S' => r = none ∧ Q S') 0 0) 2 [(0, .ref a0), (1, .int x1)] [] S 0 0
  refine jx_iload_n 1 kd731.2.2.1 rfl rfl ?_
  refine jx_sipush (v := 135) kd731.2.2.2.1 (by decide) ?_
  refine jx_icmp_ge (tgt := 27) kd731.2.2.2.2.1 (by decide) (fun c1 => ?_) (fun c1 => ?_)
  · replace h := h.1 c1
    exact jx_vret kd732.2.2.2.2.2.2.1 rfl (jle rfl) (jle rfl) ⟨rfl, h⟩
  replace h := h.2 c1
  refine jx_aload_n 0 kd731.2.2.2.2.2.1 rfl rfl ?_
  obtain ⟨hk2, h⟩ := h
  obtain ⟨b3, hb3, h⟩ := h
  refine jx_getr jc_11 (j := 13) (by decide) rfl jwF_X11_46 kd731.2.2.2.2.2.2.1 hk2 hb3 ?_
  refine jx_iload_n 1 kd731.2.2.2.2.2.2.2.1 rfl rfl ?_
  refine jx_aload_n 0 kd731.2.2.2.2.2.2.2.2.1 rfl rfl ?_
  obtain ⟨b4, hb4, h⟩ := h
  refine jx_getr jc_11 (j := 0) (by decide) rfl jwF_X11_7 kd732.1 hk2 hb4 ?_
  refine jx_iload_n 1 kd732.2.1 rfl rfl ?_
  obtain ⟨hk5, h⟩ := h
  obtain ⟨hi6, h⟩ := h
  refine jx_iald kd732.2.2.1 hk5 hi6 ?_
  obtain ⟨hk7, h⟩ := h
  obtain ⟨hi8, h⟩ := h
  refine jx_iast kd732.2.2.2.1 hk7 hi8 ?_
  refine jx_iinc 1 (v := (x1 + 1)) (lv1 := [(1, .int (x1 + 1)), (0, .ref a0)]) kd732.2.2.2.2.1 rfl rfl (by decide) rfl ?_
  refine jx_goto (tgt := 2) kd732.2.2.2.2.2.1 (by decide) ?_
  exact jx_lv [1, 0] rfl h
/-- X11_laysBack at its loop's head 2 -/
abbrev L_X11_laysBack_2 (E : jEnv) (d : Nat) (Q : jM → Prop) (a0 : Nat) (x1 : Int32) (S : jM) : Prop := jX E mX11_laysBack (jRm d 0 0) (jZm E (fun r S' => r = none ∧ Q S') 0 0) 2 [(0, .ref a0), (1, .int x1)] [] S 0 0
set_option maxRecDepth 100000 in
set_option maxHeartbeats 4000000 in
theorem T_X11_laysBack {E : jEnv} {d : Nat} {Q : jM → Prop} {a0 : Nat} {S : jM} (h : L_X11_laysBack_2 E d Q a0 0 S) : jFv E mX11_laysBack d 0 0 [.ref a0] S Q := by
  refine jF_of (by decide) (jle rfl) ?_
  refine jx_lv (lv1 := [(0, .ref a0)]) [0] rfl ?_
  refine jx_iconst (v := 0) kd733.1 (by decide) ?_
  refine jx_istore_n (lv1 := [(1, .int 0), (0, .ref a0)]) kd733.2.1 rfl (by decide) rfl ?_
  exact jx_lv [1, 0] rfl h
set_option maxRecDepth 100000 in
set_option maxHeartbeats 4000000 in
theorem T_X11_laysBack_2 {E : jEnv} {d : Nat} {Q : jM → Prop} {a0 : Nat} {x1 : Int32} {S : jM} (h : (135 ≤ x1 → Q S) ∧ (¬ 135 ≤ x1 → jk S a0 = 11 ∧ ∃ b3, jr S a0 0 = some b3 ∧ (∃ b4, jr S a0 13 = some b4 ∧ (jk S b4 = 12 ∧ vp_in x1 (jl S b4) ∧ (jk S b3 = 12 ∧ vp_in x1 (jl S b3) ∧ (L_X11_laysBack_2 E d Q a0 (x1 + 1) (jput S b3 (Int32.toNatClampNeg x1) (ji S b4 (Int32.toNatClampNeg x1))))))))) : L_X11_laysBack_2 E d Q a0 x1 S := by
  show jX E mX11_laysBack (jRm d 0 0) (jZm E (fun r S' => r = none ∧ Q S') 0 0) 2 [(0, .ref a0), (1, .int x1)] [] S 0 0
  refine jx_iload_n 1 kd733.2.2.1 rfl rfl ?_
  refine jx_sipush (v := 135) kd733.2.2.2.1 (by decide) ?_
  refine jx_icmp_ge (tgt := 27) kd733.2.2.2.2.1 (by decide) (fun c1 => ?_) (fun c1 => ?_)
  · replace h := h.1 c1
    exact jx_vret kd734.2.2.2.2.2.2.1 rfl (jle rfl) (jle rfl) ⟨rfl, h⟩
  replace h := h.2 c1
  refine jx_aload_n 0 kd733.2.2.2.2.2.1 rfl rfl ?_
  obtain ⟨hk2, h⟩ := h
  obtain ⟨b3, hb3, h⟩ := h
  refine jx_getr jc_11 (j := 0) (by decide) rfl jwF_X11_7 kd733.2.2.2.2.2.2.1 hk2 hb3 ?_
  refine jx_iload_n 1 kd733.2.2.2.2.2.2.2.1 rfl rfl ?_
  refine jx_aload_n 0 kd733.2.2.2.2.2.2.2.2.1 rfl rfl ?_
  obtain ⟨b4, hb4, h⟩ := h
  refine jx_getr jc_11 (j := 13) (by decide) rfl jwF_X11_46 kd734.1 hk2 hb4 ?_
  refine jx_iload_n 1 kd734.2.1 rfl rfl ?_
  obtain ⟨hk5, h⟩ := h
  obtain ⟨hi6, h⟩ := h
  refine jx_iald kd734.2.2.1 hk5 hi6 ?_
  obtain ⟨hk7, h⟩ := h
  obtain ⟨hi8, h⟩ := h
  refine jx_iast kd734.2.2.2.1 hk7 hi8 ?_
  refine jx_iinc 1 (v := (x1 + 1)) (lv1 := [(1, .int (x1 + 1)), (0, .ref a0)]) kd734.2.2.2.2.1 rfl rfl (by decide) rfl ?_
  refine jx_goto (tgt := 2) kd734.2.2.2.2.2.1 (by decide) ?_
  exact jx_lv [1, 0] rfl h
/-- X11_goesWay at its loop's head 4 -/
abbrev L_X11_goesWay_4 (E : jEnv) (d : Nat) (Q : Int32 → jM → Prop) (a0 : Nat) (x1 : Int32) (x2 : Int32) (S : jM) : Prop := jX E mX11_goesWay (jRm (d + 1) 0 0) (jZm E (fun r S' => ∃ v : Int32, r = some (.int v) ∧ Q v S') 0 0) 4 [(0, .ref a0), (1, .int x1), (2, .int x2)] [] S 0 0
set_option maxRecDepth 100000 in
set_option maxHeartbeats 4000000 in
theorem T_X11_goesWay {E : jEnv} {d : Nat} {Q : Int32 → jM → Prop} {a0 : Nat} {S : jM} (h : L_X11_goesWay_4 E d Q a0 0 0 S) : jFi E mX11_goesWay (d + 1) 0 0 [.ref a0] S Q := by
  refine jF_of (by decide) (jle rfl) ?_
  refine jx_lv (lv1 := [(0, .ref a0)]) [0] rfl ?_
  refine jx_iconst (v := 0) kd735.1 (by decide) ?_
  refine jx_istore_n (lv1 := [(1, .int 0), (0, .ref a0)]) kd735.2.1 rfl (by decide) rfl ?_
  refine jx_iconst (v := 0) kd735.2.2.1 (by decide) ?_
  refine jx_istore_n (lv1 := [(2, .int 0), (1, .int 0), (0, .ref a0)]) kd735.2.2.2.1 rfl (by decide) rfl ?_
  exact jx_lv [2, 1, 0] rfl h
set_option maxRecDepth 100000 in
set_option maxHeartbeats 4000000 in
theorem T_X11_goesWay_4 {E : jEnv} {d : Nat} {Q : Int32 → jM → Prop} {a0 : Nat} {x1 : Int32} {x2 : Int32} {S : jM} (h : (4 ≤ x2 → Q 3 S) ∧ (¬ 4 ≤ x2 → jk S a0 = 11 ∧ ∃ b3, jr S a0 14 = some b3 ∧ (jk S b3 = 12 ∧ vp_in x2 (jl S b3) ∧ (∃ b6, jr S a0 12 = some b6 ∧ (∃ b7, jr S a0 0 = some b7 ∧ (jk S b7 = 12 ∧ vp_in 3 (jl S b7) ∧ (jFi E mX11_of d 0 0 [.ref a0, .int (ji S b3 (Int32.toNatClampNeg x2)), .int 1] S (fun r11 S10 => jk S10 b6 = 12 ∧ vp_in ((6 * (ji S b7 (Int32.toNatClampNeg 3))) + r11) (jl S10 b6) ∧ (((ji S10 b6 (Int32.toNatClampNeg ((6 * (ji S b7 (Int32.toNatClampNeg 3))) + r11))) = 9999 → Q x2 S10) ∧ (¬ (ji S10 b6 (Int32.toNatClampNeg ((6 * (ji S b7 (Int32.toNatClampNeg 3))) + r11))) = 9999 → jk S10 a0 = 11 ∧ jFv E mX11_goesBy d 0 0 [.ref a0, .int (ji S10 b6 (Int32.toNatClampNeg ((6 * (ji S b7 (Int32.toNatClampNeg 3))) + r11)))] S10 (fun S16 => jk S16 a0 = 11 ∧ ∃ b18, jr S16 a0 0 = some b18 ∧ (jFi E mX11_of d 0 0 [.ref a0, .int (ji S b3 (Int32.toNatClampNeg x2)), .int 1] S16 (fun r20 S19 => jk S19 b18 = 12 ∧ vp_in 3 (jl S19 b18) ∧ (jk S19 a0 = 11 ∧ jFi E mX11_canLearn d 0 0 [.ref a0, .int (ji S b3 (Int32.toNatClampNeg x2))] (jput S19 b18 (Int32.toNatClampNeg 3) r20) (fun r25 S24 => (r25 = 0 → Q x2 S24) ∧ (¬ r25 = 0 → jk S24 a0 = 11 ∧ jFi E mX11_learns d 0 0 [.ref a0, .int (ji S b3 (Int32.toNatClampNeg x2))] S24 (fun r29 S28 => ∀ y30 : Int32, y30 = (x1 + ((ji S10 b6 (Int32.toNatClampNeg ((6 * (ji S b7 (Int32.toNatClampNeg 3))) + r11))) + r29)) → jk S28 a0 = 11 ∧ jFi E mX11_can d 0 0 [.ref a0] S28 (fun r33 S32 => (r33 = 0 → L_X11_goesWay_4 E d Q a0 y30 (x2 + 1) S32) ∧ (¬ r33 = 0 → jk S32 a0 = 11 ∧ ∃ b36, jr S32 a0 13 = some b36 ∧ (jk S32 b36 = 12 ∧ vp_in 5 (jl S32 b36) ∧ (∃ b39, jr S32 a0 0 = some b39 ∧ (jk S32 b39 = 12 ∧ vp_in 5 (jl S32 b39) ∧ (((ji S32 a0 15) < 0 → ∃ b43, jr S32 a0 14 = some b43 ∧ (jk S32 b43 = 12 ∧ vp_in 0 (jl S32 b43) ∧ (Q x2 (jput (jput (jput S32 a0 15 y30) a0 16 ((ji S32 b36 (Int32.toNatClampNeg 5)) - (ji S32 b39 (Int32.toNatClampNeg 5)))) a0 17 (ji S32 b43 (Int32.toNatClampNeg 0)))))) ∧ (¬ (ji S32 a0 15) < 0 → (y30 < (ji S32 a0 15) → ∃ b47, jr S32 a0 14 = some b47 ∧ (jk S32 b47 = 12 ∧ vp_in 0 (jl S32 b47) ∧ (Q x2 (jput (jput (jput S32 a0 15 y30) a0 16 ((ji S32 b36 (Int32.toNatClampNeg 5)) - (ji S32 b39 (Int32.toNatClampNeg 5)))) a0 17 (ji S32 b47 (Int32.toNatClampNeg 0)))))) ∧ (¬ y30 < (ji S32 a0 15) → (y30 = (ji S32 a0 15) → (((ji S32 b36 (Int32.toNatClampNeg 5)) - (ji S32 b39 (Int32.toNatClampNeg 5))) < (ji S32 a0 16) → ∃ b52, jr S32 a0 14 = some b52 ∧ (jk S32 b52 = 12 ∧ vp_in 0 (jl S32 b52) ∧ (Q x2 (jput (jput (jput S32 a0 15 y30) a0 16 ((ji S32 b36 (Int32.toNatClampNeg 5)) - (ji S32 b39 (Int32.toNatClampNeg 5)))) a0 17 (ji S32 b52 (Int32.toNatClampNeg 0)))))) ∧ (¬ ((ji S32 b36 (Int32.toNatClampNeg 5)) - (ji S32 b39 (Int32.toNatClampNeg 5))) < (ji S32 a0 16) → (((ji S32 b36 (Int32.toNatClampNeg 5)) - (ji S32 b39 (Int32.toNatClampNeg 5))) = (ji S32 a0 16) → ∃ b56, jr S32 a0 14 = some b56 ∧ (jk S32 b56 = 12 ∧ vp_in 0 (jl S32 b56) ∧ (((ji S32 a0 17) ≤ (ji S32 b56 (Int32.toNatClampNeg 0)) → Q x2 (jput (jput (jput S32 a0 15 (ji S32 a0 15)) a0 16 (ji S32 a0 16)) a0 17 (ji S32 a0 17))) ∧ (¬ (ji S32 a0 17) ≤ (ji S32 b56 (Int32.toNatClampNeg 0)) → (Q x2 (jput (jput (jput S32 a0 15 y30) a0 16 ((ji S32 b36 (Int32.toNatClampNeg 5)) - (ji S32 b39 (Int32.toNatClampNeg 5)))) a0 17 (ji S32 b56 (Int32.toNatClampNeg 0)))))))) ∧ (¬ ((ji S32 b36 (Int32.toNatClampNeg 5)) - (ji S32 b39 (Int32.toNatClampNeg 5))) = (ji S32 a0 16) → Q x2 (jput (jput (jput S32 a0 15 (ji S32 a0 15)) a0 16 (ji S32 a0 16)) a0 17 (ji S32 a0 17))))) ∧ (¬ y30 = (ji S32 a0 15) → Q x2 (jput (jput (jput S32 a0 15 (ji S32 a0 15)) a0 16 (ji S32 a0 16)) a0 17 (ji S32 a0 17)))))))))))))))))))))))))))) : L_X11_goesWay_4 E d Q a0 x1 x2 S := by
  show jX E mX11_goesWay (jRm (d + 1) 0 0) (jZm E (fun r S' => ∃ v : Int32, r = some (.int v) ∧ Q v S') 0 0) 4 [(0, .ref a0), (1, .int x1), (2, .int x2)] [] S 0 0
  refine jx_iload_n 2 kd735.2.2.2.2.1 rfl rfl ?_
  refine jx_iconst (v := 4) kd735.2.2.2.2.2.1 (by decide) ?_
  refine jx_icmp_ge (tgt := 236) kd735.2.2.2.2.2.2.1 (by decide) (fun c1 => ?_) (fun c1 => ?_)
  · replace h := h.1 c1
    refine jx_iconst (v := 3) kd749.2.2.2.2.2.1 (by decide) ?_
    exact jx_iret kd749.2.2.2.2.2.2.1 rfl rfl (jle rfl) (jle rfl) ⟨_, rfl, h⟩
  replace h := h.2 c1
  refine jx_aload_n 0 kd735.2.2.2.2.2.2.2.1 rfl rfl ?_
  obtain ⟨hk2, h⟩ := h
  obtain ⟨b3, hb3, h⟩ := h
  refine jx_getr jc_11 (j := 14) (by decide) rfl jwF_X11_49 kd735.2.2.2.2.2.2.2.2.1 hk2 hb3 ?_
  refine jx_iload_n 2 kd736.1 rfl rfl ?_
  obtain ⟨hk4, h⟩ := h
  obtain ⟨hi5, h⟩ := h
  refine jx_iald kd736.2.1 hk4 hi5 ?_
  refine jx_istore_n (lv1 := [(3, .int (ji S b3 (Int32.toNatClampNeg x2))), (0, .ref a0), (1, .int x1), (2, .int x2)]) kd736.2.2.1 rfl (by decide) rfl ?_
  refine jx_aload_n 1 kd736.2.2.2.1 rfl rfl ?_
  obtain ⟨b6, hb6, h⟩ := h
  refine jx_getr jc_11 (j := 12) (by decide) rfl jwF_X11_43 kd736.2.2.2.2.1 hk2 hb6 ?_
  refine jx_bipush (v := 6) kd736.2.2.2.2.2.1 (by decide) ?_
  refine jx_aload_n 1 kd736.2.2.2.2.2.2.1 rfl rfl ?_
  obtain ⟨b7, hb7, h⟩ := h
  refine jx_getr jc_11 (j := 0) (by decide) rfl jwF_X11_7 kd736.2.2.2.2.2.2.2.1 hk2 hb7 ?_
  refine jx_iconst (v := 3) kd736.2.2.2.2.2.2.2.2.1 (by decide) ?_
  obtain ⟨hk8, h⟩ := h
  obtain ⟨hi9, h⟩ := h
  refine jx_iald kd737.1 hk8 hi9 ?_
  refine jx_imul kd737.2.1 ?_
  refine jx_aload_n 1 kd737.2.2.1 rfl rfl ?_
  refine jx_iload_n 0 kd737.2.2.2.1 rfl rfl ?_
  refine jx_iconst (v := 1) kd737.2.2.2.2.1 (by decide) ?_
  refine jx_callVi (M' := mX11_of) (As := [.int (ji S b3 (Int32.toNatClampNeg x2)), .int 1]) jo_X11_of jc_11 rfl jwM_X11_97 jwN_X11_of jwX_X11_of kd737.2.2.2.2.2.1 (jRok_m _ _ _) rfl (jle rfl) ⟨jle rfl, jle rfl⟩ hk2 h (fun r11 S10 h => ?_)
  refine jx_iadd kd737.2.2.2.2.2.2.1 ?_
  obtain ⟨hk12, h⟩ := h
  obtain ⟨hi13, h⟩ := h
  refine jx_iald kd737.2.2.2.2.2.2.2.1 hk12 hi13 ?_
  refine jx_istore (lv1 := [(4, .int (ji S10 b6 (Int32.toNatClampNeg ((6 * (ji S b7 (Int32.toNatClampNeg 3))) + r11)))), (3, .int (ji S b3 (Int32.toNatClampNeg x2))), (0, .ref a0), (1, .int x1), (2, .int x2)]) kd737.2.2.2.2.2.2.2.2.1 (by decide) rfl ?_
  refine jx_iload 0 kd738.1 rfl ?_
  refine jx_sipush (v := 9999) kd738.2.1 (by decide) ?_
  refine jx_icmp_ne (tgt := 49) kd738.2.2.1 (by decide) (fun c14 => ?_) (fun c14 => ?_)
  · replace h := h.2 c14
    refine jx_aload_n 2 kd738.2.2.2.2.2.1 rfl rfl ?_
    refine jx_iload 0 kd738.2.2.2.2.2.2.1 rfl ?_
    obtain ⟨hk15, h⟩ := h
    refine jx_callVv (M' := mX11_goesBy) (As := [.int (ji S10 b6 (Int32.toNatClampNeg ((6 * (ji S b7 (Int32.toNatClampNeg 3))) + r11)))]) jo_X11_goesBy jc_11 rfl jwM_X11_154 jwN_X11_goesBy jwX_X11_goesBy kd738.2.2.2.2.2.2.2.1 (jRok_m _ _ _) rfl (jle rfl) ⟨jle rfl, jle rfl⟩ hk15 h (fun S16 h => ?_)
    refine jx_aload_n 2 kd738.2.2.2.2.2.2.2.2.1 rfl rfl ?_
    obtain ⟨hk17, h⟩ := h
    obtain ⟨b18, hb18, h⟩ := h
    refine jx_getr jc_11 (j := 0) (by decide) rfl jwF_X11_7 kd739.1 hk17 hb18 ?_
    refine jx_iconst (v := 3) kd739.2.1 (by decide) ?_
    refine jx_aload_n 2 kd739.2.2.1 rfl rfl ?_
    refine jx_iload_n 1 kd739.2.2.2.1 rfl rfl ?_
    refine jx_iconst (v := 1) kd739.2.2.2.2.1 (by decide) ?_
    refine jx_callVi (M' := mX11_of) (As := [.int (ji S b3 (Int32.toNatClampNeg x2)), .int 1]) jo_X11_of jc_11 rfl jwM_X11_97 jwN_X11_of jwX_X11_of kd739.2.2.2.2.2.1 (jRok_m _ _ _) rfl (jle rfl) ⟨jle rfl, jle rfl⟩ hk17 h (fun r20 S19 h => ?_)
    obtain ⟨hk21, h⟩ := h
    obtain ⟨hi22, h⟩ := h
    refine jx_iast kd739.2.2.2.2.2.2.1 hk21 hi22 ?_
    refine jx_aload_n 2 kd739.2.2.2.2.2.2.2.1 rfl rfl ?_
    refine jx_iload_n 1 kd739.2.2.2.2.2.2.2.2.1 rfl rfl ?_
    obtain ⟨hk23, h⟩ := h
    refine jx_callVi (M' := mX11_canLearn) (As := [.int (ji S b3 (Int32.toNatClampNeg x2))]) jo_X11_canLearn jc_11 rfl jwM_X11_161 jwN_X11_canLearn jwX_X11_canLearn kd740.1 (jRok_m _ _ _) rfl (jle rfl) ⟨jle rfl, jle rfl⟩ hk23 h (fun r25 S24 h => ?_)
    refine jx_if_ne (tgt := 77) kd740.2.1 (by decide) (fun c26 => ?_) (fun c26 => ?_)
    · replace h := h.2 c26
      refine jx_iload_n 3 kd740.2.2.2.2.1 rfl rfl ?_
      refine jx_iload 0 kd740.2.2.2.2.2.1 rfl ?_
      refine jx_aload_n 2 kd740.2.2.2.2.2.2.1 rfl rfl ?_
      refine jx_iload_n 1 kd740.2.2.2.2.2.2.2.1 rfl rfl ?_
      obtain ⟨hk27, h⟩ := h
      refine jx_callVi (M' := mX11_learns) (As := [.int (ji S b3 (Int32.toNatClampNeg x2))]) jo_X11_learns jc_11 rfl jwM_X11_164 jwN_X11_learns jwX_X11_learns kd740.2.2.2.2.2.2.2.2.1 (jRok_m _ _ _) rfl (jle rfl) ⟨jle rfl, jle rfl⟩ hk27 h (fun r29 S28 h => ?_)
      refine jx_iadd kd741.1 ?_
      refine jx_iadd kd741.2.1 ?_
      refine jx_nm (fun y30 ey30 => ?_)
      replace h := h y30 ey30
      refine jx_istore_n (lv1 := [(1, .int y30), (4, .int (ji S10 b6 (Int32.toNatClampNeg ((6 * (ji S b7 (Int32.toNatClampNeg 3))) + r11)))), (3, .int (ji S b3 (Int32.toNatClampNeg x2))), (0, .ref a0), (2, .int x2)]) kd741.2.2.1 rfl (by decide) rfl ?_
      refine jx_aload_n 3 kd741.2.2.2.1 rfl rfl ?_
      obtain ⟨hk31, h⟩ := h
      refine jx_callVi (M' := mX11_can) (As := []) jo_X11_can jc_11 rfl jwM_X11_172 jwN_X11_can jwX_X11_can kd741.2.2.2.2.1 (jRok_m _ _ _) rfl (jle rfl) ⟨jle rfl, jle rfl⟩ hk31 h (fun r33 S32 h => ?_)
      refine jx_if_eq (tgt := 230) kd741.2.2.2.2.2.1 (by decide) (fun c34 => ?_) (fun c34 => ?_)
      · replace h := h.1 c34
        refine jx_iinc 4 (v := (x2 + 1)) (lv1 := [(2, .int (x2 + 1)), (1, .int y30), (4, .int (ji S10 b6 (Int32.toNatClampNeg ((6 * (ji S b7 (Int32.toNatClampNeg 3))) + r11)))), (3, .int (ji S b3 (Int32.toNatClampNeg x2))), (0, .ref a0)]) kd749.2.2.2.1 rfl rfl (by decide) rfl ?_
        refine jx_goto (tgt := 4) kd749.2.2.2.2.1 (by decide) ?_
        exact jx_lv [4, 1, 0] rfl h
      replace h := h.2 c34
      refine jx_aload_n 3 kd741.2.2.2.2.2.2.1 rfl rfl ?_
      obtain ⟨hk35, h⟩ := h
      obtain ⟨b36, hb36, h⟩ := h
      refine jx_getr jc_11 (j := 13) (by decide) rfl jwF_X11_46 kd741.2.2.2.2.2.2.2.1 hk35 hb36 ?_
      refine jx_iconst (v := 5) kd741.2.2.2.2.2.2.2.2.1 (by decide) ?_
      obtain ⟨hk37, h⟩ := h
      obtain ⟨hi38, h⟩ := h
      refine jx_iald kd742.1 hk37 hi38 ?_
      refine jx_aload_n 3 kd742.2.1 rfl rfl ?_
      obtain ⟨b39, hb39, h⟩ := h
      refine jx_getr jc_11 (j := 0) (by decide) rfl jwF_X11_7 kd742.2.2.1 hk35 hb39 ?_
      refine jx_iconst (v := 5) kd742.2.2.2.1 (by decide) ?_
      obtain ⟨hk40, h⟩ := h
      obtain ⟨hi41, h⟩ := h
      refine jx_iald kd742.2.2.2.2.1 hk40 hi41 ?_
      refine jx_isub kd742.2.2.2.2.2.1 ?_
      refine jx_istore (lv1 := [(5, .int ((ji S32 b36 (Int32.toNatClampNeg 5)) - (ji S32 b39 (Int32.toNatClampNeg 5)))), (1, .int y30), (4, .int (ji S10 b6 (Int32.toNatClampNeg ((6 * (ji S b7 (Int32.toNatClampNeg 3))) + r11)))), (3, .int (ji S b3 (Int32.toNatClampNeg x2))), (0, .ref a0), (2, .int x2)]) kd742.2.2.2.2.2.2.1 (by decide) rfl ?_
      refine jx_aload_n 4 kd742.2.2.2.2.2.2.2.1 rfl rfl ?_
      refine jx_geti jc_11 (j := 15) (by decide) rfl jwF_X11_176 kd742.2.2.2.2.2.2.2.2.1 hk35 ?_
      refine jx_if_lt (tgt := 164) kd743.1 (by decide) (fun c42 => ?_) (fun c42 => ?_)
      · replace h := h.1 c42
        refine jx_iconst (v := 1) kd745.2.2.2.2.2.2.1 (by decide) ?_
        refine jx_goto (tgt := 169) kd745.2.2.2.2.2.2.2.1 (by decide) ?_
        refine jx_istore (lv1 := [(6, .int 1), (5, .int ((ji S32 b36 (Int32.toNatClampNeg 5)) - (ji S32 b39 (Int32.toNatClampNeg 5)))), (1, .int y30), (4, .int (ji S10 b6 (Int32.toNatClampNeg ((6 * (ji S b7 (Int32.toNatClampNeg 3))) + r11)))), (3, .int (ji S b3 (Int32.toNatClampNeg x2))), (0, .ref a0), (2, .int x2)]) kd746.1 (by decide) rfl ?_
        refine jx_aload_n 5 kd746.2.1 rfl rfl ?_
        refine jx_iload 0 kd746.2.2.1 rfl ?_
        refine jx_if_eq (tgt := 181) kd746.2.2.2.1 (by decide) (fun z9 => absurd z9 (by decide)) (fun _ => ?_)
        refine jx_iload_n 2 kd746.2.2.2.2.1 rfl rfl ?_
        refine jx_goto (tgt := 185) kd746.2.2.2.2.2.1 (by decide) ?_
        refine jx_puti jc_11 (j := 15) (by decide) rfl jwF_X11_176 rfl rfl rfl kd746.2.2.2.2.2.2.2.2.1 hk35 ?_
        refine jx_aload_n 5 kd747.1 rfl rfl ?_
        refine jx_iload 0 kd747.2.1 rfl ?_
        refine jx_if_eq (tgt := 199) kd747.2.2.1 (by decide) (fun z9 => absurd z9 (by decide)) (fun _ => ?_)
        refine jx_iload 1 kd747.2.2.2.1 rfl ?_
        refine jx_goto (tgt := 203) kd747.2.2.2.2.1 (by decide) ?_
        refine jx_puti jc_11 (j := 16) (by decide) rfl jwF_X11_180 rfl rfl rfl kd747.2.2.2.2.2.2.2.1 hk35 ?_
        refine jx_aload_n 5 kd747.2.2.2.2.2.2.2.2.1 rfl rfl ?_
        refine jx_iload 0 kd748.1 rfl ?_
        refine jx_if_eq (tgt := 221) kd748.2.1 (by decide) (fun z9 => absurd z9 (by decide)) (fun _ => ?_)
        refine jx_aload_n 5 kd748.2.2.1 rfl rfl ?_
        obtain ⟨b43, hb43, h⟩ := h
        refine jx_getr jc_11 (j := 14) (by decide) rfl jwF_X11_49 kd748.2.2.2.1 hk35 hb43 ?_
        refine jx_iconst (v := 0) kd748.2.2.2.2.1 (by decide) ?_
        obtain ⟨hk44, h⟩ := h
        obtain ⟨hi45, h⟩ := h
        refine jx_iald kd748.2.2.2.2.2.1 hk44 hi45 ?_
        refine jx_topi (y := (ji S32 b43 (Int32.toNatClampNeg 0))) (by simp [ji_put, ji_row, ji_putr, jne hk44 hk35 (by decide), jne hk44 hk35 (by decide)]) ?_
        refine jx_goto (tgt := 225) kd748.2.2.2.2.2.2.1 (by decide) ?_
        refine jx_puti jc_11 (j := 17) (by decide) rfl jwF_X11_183 rfl rfl rfl kd749.1 hk35 ?_
        refine jx_iload_n 6 kd749.2.1 rfl rfl ?_
        exact jx_iret kd749.2.2.1 rfl rfl (jle rfl) (jle rfl) ⟨_, rfl, h⟩
      replace h := h.2 c42
      refine jx_iload_n 1 kd743.2.1 rfl rfl ?_
      refine jx_aload_n 4 kd743.2.2.1 rfl rfl ?_
      refine jx_geti jc_11 (j := 15) (by decide) rfl jwF_X11_176 kd743.2.2.2.1 hk35 ?_
      refine jx_icmp_lt (tgt := 164) kd743.2.2.2.2.1 (by decide) (fun c46 => ?_) (fun c46 => ?_)
      · replace h := h.1 c46
        refine jx_iconst (v := 1) kd745.2.2.2.2.2.2.1 (by decide) ?_
        refine jx_goto (tgt := 169) kd745.2.2.2.2.2.2.2.1 (by decide) ?_
        refine jx_istore (lv1 := [(6, .int 1), (5, .int ((ji S32 b36 (Int32.toNatClampNeg 5)) - (ji S32 b39 (Int32.toNatClampNeg 5)))), (1, .int y30), (4, .int (ji S10 b6 (Int32.toNatClampNeg ((6 * (ji S b7 (Int32.toNatClampNeg 3))) + r11)))), (3, .int (ji S b3 (Int32.toNatClampNeg x2))), (0, .ref a0), (2, .int x2)]) kd746.1 (by decide) rfl ?_
        refine jx_aload_n 5 kd746.2.1 rfl rfl ?_
        refine jx_iload 0 kd746.2.2.1 rfl ?_
        refine jx_if_eq (tgt := 181) kd746.2.2.2.1 (by decide) (fun z9 => absurd z9 (by decide)) (fun _ => ?_)
        refine jx_iload_n 2 kd746.2.2.2.2.1 rfl rfl ?_
        refine jx_goto (tgt := 185) kd746.2.2.2.2.2.1 (by decide) ?_
        refine jx_puti jc_11 (j := 15) (by decide) rfl jwF_X11_176 rfl rfl rfl kd746.2.2.2.2.2.2.2.2.1 hk35 ?_
        refine jx_aload_n 5 kd747.1 rfl rfl ?_
        refine jx_iload 0 kd747.2.1 rfl ?_
        refine jx_if_eq (tgt := 199) kd747.2.2.1 (by decide) (fun z9 => absurd z9 (by decide)) (fun _ => ?_)
        refine jx_iload 1 kd747.2.2.2.1 rfl ?_
        refine jx_goto (tgt := 203) kd747.2.2.2.2.1 (by decide) ?_
        refine jx_puti jc_11 (j := 16) (by decide) rfl jwF_X11_180 rfl rfl rfl kd747.2.2.2.2.2.2.2.1 hk35 ?_
        refine jx_aload_n 5 kd747.2.2.2.2.2.2.2.2.1 rfl rfl ?_
        refine jx_iload 0 kd748.1 rfl ?_
        refine jx_if_eq (tgt := 221) kd748.2.1 (by decide) (fun z9 => absurd z9 (by decide)) (fun _ => ?_)
        refine jx_aload_n 5 kd748.2.2.1 rfl rfl ?_
        obtain ⟨b47, hb47, h⟩ := h
        refine jx_getr jc_11 (j := 14) (by decide) rfl jwF_X11_49 kd748.2.2.2.1 hk35 hb47 ?_
        refine jx_iconst (v := 0) kd748.2.2.2.2.1 (by decide) ?_
        obtain ⟨hk48, h⟩ := h
        obtain ⟨hi49, h⟩ := h
        refine jx_iald kd748.2.2.2.2.2.1 hk48 hi49 ?_
        refine jx_topi (y := (ji S32 b47 (Int32.toNatClampNeg 0))) (by simp [ji_put, ji_row, ji_putr, jne hk48 hk35 (by decide), jne hk48 hk35 (by decide)]) ?_
        refine jx_goto (tgt := 225) kd748.2.2.2.2.2.2.1 (by decide) ?_
        refine jx_puti jc_11 (j := 17) (by decide) rfl jwF_X11_183 rfl rfl rfl kd749.1 hk35 ?_
        refine jx_iload_n 6 kd749.2.1 rfl rfl ?_
        exact jx_iret kd749.2.2.1 rfl rfl (jle rfl) (jle rfl) ⟨_, rfl, h⟩
      replace h := h.2 c46
      refine jx_iload_n 1 kd743.2.2.2.2.2.1 rfl rfl ?_
      refine jx_aload_n 4 kd743.2.2.2.2.2.2.1 rfl rfl ?_
      refine jx_geti jc_11 (j := 15) (by decide) rfl jwF_X11_176 kd743.2.2.2.2.2.2.2.1 hk35 ?_
      refine jx_icmp_ne (tgt := 168) kd743.2.2.2.2.2.2.2.2.1 (by decide) (fun c50 => ?_) (fun c50 => ?_)
      · replace h := h.2 c50
        refine jx_iconst (v := 0) kd745.2.2.2.2.2.2.2.2.1 (by decide) ?_
        refine jx_istore (lv1 := [(6, .int 0), (5, .int ((ji S32 b36 (Int32.toNatClampNeg 5)) - (ji S32 b39 (Int32.toNatClampNeg 5)))), (1, .int y30), (4, .int (ji S10 b6 (Int32.toNatClampNeg ((6 * (ji S b7 (Int32.toNatClampNeg 3))) + r11)))), (3, .int (ji S b3 (Int32.toNatClampNeg x2))), (0, .ref a0), (2, .int x2)]) kd746.1 (by decide) rfl ?_
        refine jx_aload_n 5 kd746.2.1 rfl rfl ?_
        refine jx_iload 0 kd746.2.2.1 rfl ?_
        refine jx_if_eq (tgt := 181) kd746.2.2.2.1 (by decide) (fun _ => ?_) (fun z9 => absurd z9 (by decide))
        refine jx_aload_n 5 kd746.2.2.2.2.2.2.1 rfl rfl ?_
        refine jx_geti jc_11 (j := 15) (by decide) rfl jwF_X11_176 kd746.2.2.2.2.2.2.2.1 hk35 ?_
        refine jx_puti jc_11 (j := 15) (by decide) rfl jwF_X11_176 rfl rfl rfl kd746.2.2.2.2.2.2.2.2.1 hk35 ?_
        refine jx_aload_n 5 kd747.1 rfl rfl ?_
        refine jx_iload 0 kd747.2.1 rfl ?_
        refine jx_if_eq (tgt := 199) kd747.2.2.1 (by decide) (fun _ => ?_) (fun z9 => absurd z9 (by decide))
        refine jx_aload_n 5 kd747.2.2.2.2.2.1 rfl rfl ?_
        refine jx_geti jc_11 (j := 16) (by decide) rfl jwF_X11_180 kd747.2.2.2.2.2.2.1 hk35 ?_
        refine jx_topi (y := (ji S32 a0 16)) (by simp [ji_put, ji_row, ji_putr]) ?_
        refine jx_puti jc_11 (j := 16) (by decide) rfl jwF_X11_180 rfl rfl rfl kd747.2.2.2.2.2.2.2.1 hk35 ?_
        refine jx_aload_n 5 kd747.2.2.2.2.2.2.2.2.1 rfl rfl ?_
        refine jx_iload 0 kd748.1 rfl ?_
        refine jx_if_eq (tgt := 221) kd748.2.1 (by decide) (fun _ => ?_) (fun z9 => absurd z9 (by decide))
        refine jx_aload_n 5 kd748.2.2.2.2.2.2.2.1 rfl rfl ?_
        refine jx_geti jc_11 (j := 17) (by decide) rfl jwF_X11_183 kd748.2.2.2.2.2.2.2.2.1 hk35 ?_
        refine jx_topi (y := (ji S32 a0 17)) (by simp [ji_put, ji_row, ji_putr]) ?_
        refine jx_puti jc_11 (j := 17) (by decide) rfl jwF_X11_183 rfl rfl rfl kd749.1 hk35 ?_
        refine jx_iload_n 6 kd749.2.1 rfl rfl ?_
        exact jx_iret kd749.2.2.1 rfl rfl (jle rfl) (jle rfl) ⟨_, rfl, h⟩
      replace h := h.1 c50
      refine jx_iload 0 kd744.1 rfl ?_
      refine jx_aload_n 4 kd744.2.1 rfl rfl ?_
      refine jx_geti jc_11 (j := 16) (by decide) rfl jwF_X11_180 kd744.2.2.1 hk35 ?_
      refine jx_icmp_lt (tgt := 164) kd744.2.2.2.1 (by decide) (fun c51 => ?_) (fun c51 => ?_)
      · replace h := h.1 c51
        refine jx_iconst (v := 1) kd745.2.2.2.2.2.2.1 (by decide) ?_
        refine jx_goto (tgt := 169) kd745.2.2.2.2.2.2.2.1 (by decide) ?_
        refine jx_istore (lv1 := [(6, .int 1), (5, .int ((ji S32 b36 (Int32.toNatClampNeg 5)) - (ji S32 b39 (Int32.toNatClampNeg 5)))), (1, .int y30), (4, .int (ji S10 b6 (Int32.toNatClampNeg ((6 * (ji S b7 (Int32.toNatClampNeg 3))) + r11)))), (3, .int (ji S b3 (Int32.toNatClampNeg x2))), (0, .ref a0), (2, .int x2)]) kd746.1 (by decide) rfl ?_
        refine jx_aload_n 5 kd746.2.1 rfl rfl ?_
        refine jx_iload 0 kd746.2.2.1 rfl ?_
        refine jx_if_eq (tgt := 181) kd746.2.2.2.1 (by decide) (fun z9 => absurd z9 (by decide)) (fun _ => ?_)
        refine jx_iload_n 2 kd746.2.2.2.2.1 rfl rfl ?_
        refine jx_goto (tgt := 185) kd746.2.2.2.2.2.1 (by decide) ?_
        refine jx_puti jc_11 (j := 15) (by decide) rfl jwF_X11_176 rfl rfl rfl kd746.2.2.2.2.2.2.2.2.1 hk35 ?_
        refine jx_aload_n 5 kd747.1 rfl rfl ?_
        refine jx_iload 0 kd747.2.1 rfl ?_
        refine jx_if_eq (tgt := 199) kd747.2.2.1 (by decide) (fun z9 => absurd z9 (by decide)) (fun _ => ?_)
        refine jx_iload 1 kd747.2.2.2.1 rfl ?_
        refine jx_goto (tgt := 203) kd747.2.2.2.2.1 (by decide) ?_
        refine jx_puti jc_11 (j := 16) (by decide) rfl jwF_X11_180 rfl rfl rfl kd747.2.2.2.2.2.2.2.1 hk35 ?_
        refine jx_aload_n 5 kd747.2.2.2.2.2.2.2.2.1 rfl rfl ?_
        refine jx_iload 0 kd748.1 rfl ?_
        refine jx_if_eq (tgt := 221) kd748.2.1 (by decide) (fun z9 => absurd z9 (by decide)) (fun _ => ?_)
        refine jx_aload_n 5 kd748.2.2.1 rfl rfl ?_
        obtain ⟨b52, hb52, h⟩ := h
        refine jx_getr jc_11 (j := 14) (by decide) rfl jwF_X11_49 kd748.2.2.2.1 hk35 hb52 ?_
        refine jx_iconst (v := 0) kd748.2.2.2.2.1 (by decide) ?_
        obtain ⟨hk53, h⟩ := h
        obtain ⟨hi54, h⟩ := h
        refine jx_iald kd748.2.2.2.2.2.1 hk53 hi54 ?_
        refine jx_topi (y := (ji S32 b52 (Int32.toNatClampNeg 0))) (by simp [ji_put, ji_row, ji_putr, jne hk53 hk35 (by decide), jne hk53 hk35 (by decide)]) ?_
        refine jx_goto (tgt := 225) kd748.2.2.2.2.2.2.1 (by decide) ?_
        refine jx_puti jc_11 (j := 17) (by decide) rfl jwF_X11_183 rfl rfl rfl kd749.1 hk35 ?_
        refine jx_iload_n 6 kd749.2.1 rfl rfl ?_
        exact jx_iret kd749.2.2.1 rfl rfl (jle rfl) (jle rfl) ⟨_, rfl, h⟩
      replace h := h.2 c51
      refine jx_iload 0 kd744.2.2.2.2.1 rfl ?_
      refine jx_aload_n 4 kd744.2.2.2.2.2.1 rfl rfl ?_
      refine jx_geti jc_11 (j := 16) (by decide) rfl jwF_X11_180 kd744.2.2.2.2.2.2.1 hk35 ?_
      refine jx_icmp_ne (tgt := 168) kd744.2.2.2.2.2.2.2.1 (by decide) (fun c55 => ?_) (fun c55 => ?_)
      · replace h := h.2 c55
        refine jx_iconst (v := 0) kd745.2.2.2.2.2.2.2.2.1 (by decide) ?_
        refine jx_istore (lv1 := [(6, .int 0), (5, .int ((ji S32 b36 (Int32.toNatClampNeg 5)) - (ji S32 b39 (Int32.toNatClampNeg 5)))), (1, .int y30), (4, .int (ji S10 b6 (Int32.toNatClampNeg ((6 * (ji S b7 (Int32.toNatClampNeg 3))) + r11)))), (3, .int (ji S b3 (Int32.toNatClampNeg x2))), (0, .ref a0), (2, .int x2)]) kd746.1 (by decide) rfl ?_
        refine jx_aload_n 5 kd746.2.1 rfl rfl ?_
        refine jx_iload 0 kd746.2.2.1 rfl ?_
        refine jx_if_eq (tgt := 181) kd746.2.2.2.1 (by decide) (fun _ => ?_) (fun z9 => absurd z9 (by decide))
        refine jx_aload_n 5 kd746.2.2.2.2.2.2.1 rfl rfl ?_
        refine jx_geti jc_11 (j := 15) (by decide) rfl jwF_X11_176 kd746.2.2.2.2.2.2.2.1 hk35 ?_
        refine jx_puti jc_11 (j := 15) (by decide) rfl jwF_X11_176 rfl rfl rfl kd746.2.2.2.2.2.2.2.2.1 hk35 ?_
        refine jx_aload_n 5 kd747.1 rfl rfl ?_
        refine jx_iload 0 kd747.2.1 rfl ?_
        refine jx_if_eq (tgt := 199) kd747.2.2.1 (by decide) (fun _ => ?_) (fun z9 => absurd z9 (by decide))
        refine jx_aload_n 5 kd747.2.2.2.2.2.1 rfl rfl ?_
        refine jx_geti jc_11 (j := 16) (by decide) rfl jwF_X11_180 kd747.2.2.2.2.2.2.1 hk35 ?_
        refine jx_topi (y := (ji S32 a0 16)) (by simp [ji_put, ji_row, ji_putr]) ?_
        refine jx_puti jc_11 (j := 16) (by decide) rfl jwF_X11_180 rfl rfl rfl kd747.2.2.2.2.2.2.2.1 hk35 ?_
        refine jx_aload_n 5 kd747.2.2.2.2.2.2.2.2.1 rfl rfl ?_
        refine jx_iload 0 kd748.1 rfl ?_
        refine jx_if_eq (tgt := 221) kd748.2.1 (by decide) (fun _ => ?_) (fun z9 => absurd z9 (by decide))
        refine jx_aload_n 5 kd748.2.2.2.2.2.2.2.1 rfl rfl ?_
        refine jx_geti jc_11 (j := 17) (by decide) rfl jwF_X11_183 kd748.2.2.2.2.2.2.2.2.1 hk35 ?_
        refine jx_topi (y := (ji S32 a0 17)) (by simp [ji_put, ji_row, ji_putr]) ?_
        refine jx_puti jc_11 (j := 17) (by decide) rfl jwF_X11_183 rfl rfl rfl kd749.1 hk35 ?_
        refine jx_iload_n 6 kd749.2.1 rfl rfl ?_
        exact jx_iret kd749.2.2.1 rfl rfl (jle rfl) (jle rfl) ⟨_, rfl, h⟩
      replace h := h.1 c55
      refine jx_aload_n 4 kd744.2.2.2.2.2.2.2.2.1 rfl rfl ?_
      obtain ⟨b56, hb56, h⟩ := h
      refine jx_getr jc_11 (j := 14) (by decide) rfl jwF_X11_49 kd745.1 hk35 hb56 ?_
      refine jx_iconst (v := 0) kd745.2.1 (by decide) ?_
      obtain ⟨hk57, h⟩ := h
      obtain ⟨hi58, h⟩ := h
      refine jx_iald kd745.2.2.1 hk57 hi58 ?_
      refine jx_aload_n 4 kd745.2.2.2.1 rfl rfl ?_
      refine jx_geti jc_11 (j := 17) (by decide) rfl jwF_X11_183 kd745.2.2.2.2.1 hk35 ?_
      refine jx_icmp_ge (tgt := 168) kd745.2.2.2.2.2.1 (by decide) (fun c59 => ?_) (fun c59 => ?_)
      · replace h := h.1 c59
        refine jx_iconst (v := 0) kd745.2.2.2.2.2.2.2.2.1 (by decide) ?_
        refine jx_istore (lv1 := [(6, .int 0), (5, .int ((ji S32 b36 (Int32.toNatClampNeg 5)) - (ji S32 b39 (Int32.toNatClampNeg 5)))), (1, .int y30), (4, .int (ji S10 b6 (Int32.toNatClampNeg ((6 * (ji S b7 (Int32.toNatClampNeg 3))) + r11)))), (3, .int (ji S b3 (Int32.toNatClampNeg x2))), (0, .ref a0), (2, .int x2)]) kd746.1 (by decide) rfl ?_
        refine jx_aload_n 5 kd746.2.1 rfl rfl ?_
        refine jx_iload 0 kd746.2.2.1 rfl ?_
        refine jx_if_eq (tgt := 181) kd746.2.2.2.1 (by decide) (fun _ => ?_) (fun z9 => absurd z9 (by decide))
        refine jx_aload_n 5 kd746.2.2.2.2.2.2.1 rfl rfl ?_
        refine jx_geti jc_11 (j := 15) (by decide) rfl jwF_X11_176 kd746.2.2.2.2.2.2.2.1 hk35 ?_
        refine jx_puti jc_11 (j := 15) (by decide) rfl jwF_X11_176 rfl rfl rfl kd746.2.2.2.2.2.2.2.2.1 hk35 ?_
        refine jx_aload_n 5 kd747.1 rfl rfl ?_
        refine jx_iload 0 kd747.2.1 rfl ?_
        refine jx_if_eq (tgt := 199) kd747.2.2.1 (by decide) (fun _ => ?_) (fun z9 => absurd z9 (by decide))
        refine jx_aload_n 5 kd747.2.2.2.2.2.1 rfl rfl ?_
        refine jx_geti jc_11 (j := 16) (by decide) rfl jwF_X11_180 kd747.2.2.2.2.2.2.1 hk35 ?_
        refine jx_topi (y := (ji S32 a0 16)) (by simp [ji_put, ji_row, ji_putr]) ?_
        refine jx_puti jc_11 (j := 16) (by decide) rfl jwF_X11_180 rfl rfl rfl kd747.2.2.2.2.2.2.2.1 hk35 ?_
        refine jx_aload_n 5 kd747.2.2.2.2.2.2.2.2.1 rfl rfl ?_
        refine jx_iload 0 kd748.1 rfl ?_
        refine jx_if_eq (tgt := 221) kd748.2.1 (by decide) (fun _ => ?_) (fun z9 => absurd z9 (by decide))
        refine jx_aload_n 5 kd748.2.2.2.2.2.2.2.1 rfl rfl ?_
        refine jx_geti jc_11 (j := 17) (by decide) rfl jwF_X11_183 kd748.2.2.2.2.2.2.2.2.1 hk35 ?_
        refine jx_topi (y := (ji S32 a0 17)) (by simp [ji_put, ji_row, ji_putr]) ?_
        refine jx_puti jc_11 (j := 17) (by decide) rfl jwF_X11_183 rfl rfl rfl kd749.1 hk35 ?_
        refine jx_iload_n 6 kd749.2.1 rfl rfl ?_
        exact jx_iret kd749.2.2.1 rfl rfl (jle rfl) (jle rfl) ⟨_, rfl, h⟩
      replace h := h.2 c59
      refine jx_iconst (v := 1) kd745.2.2.2.2.2.2.1 (by decide) ?_
      refine jx_goto (tgt := 169) kd745.2.2.2.2.2.2.2.1 (by decide) ?_
      refine jx_istore (lv1 := [(6, .int 1), (5, .int ((ji S32 b36 (Int32.toNatClampNeg 5)) - (ji S32 b39 (Int32.toNatClampNeg 5)))), (1, .int y30), (4, .int (ji S10 b6 (Int32.toNatClampNeg ((6 * (ji S b7 (Int32.toNatClampNeg 3))) + r11)))), (3, .int (ji S b3 (Int32.toNatClampNeg x2))), (0, .ref a0), (2, .int x2)]) kd746.1 (by decide) rfl ?_
      refine jx_aload_n 5 kd746.2.1 rfl rfl ?_
      refine jx_iload 0 kd746.2.2.1 rfl ?_
      refine jx_if_eq (tgt := 181) kd746.2.2.2.1 (by decide) (fun z9 => absurd z9 (by decide)) (fun _ => ?_)
      refine jx_iload_n 2 kd746.2.2.2.2.1 rfl rfl ?_
      refine jx_goto (tgt := 185) kd746.2.2.2.2.2.1 (by decide) ?_
      refine jx_puti jc_11 (j := 15) (by decide) rfl jwF_X11_176 rfl rfl rfl kd746.2.2.2.2.2.2.2.2.1 hk35 ?_
      refine jx_aload_n 5 kd747.1 rfl rfl ?_
      refine jx_iload 0 kd747.2.1 rfl ?_
      refine jx_if_eq (tgt := 199) kd747.2.2.1 (by decide) (fun z9 => absurd z9 (by decide)) (fun _ => ?_)
      refine jx_iload 1 kd747.2.2.2.1 rfl ?_
      refine jx_goto (tgt := 203) kd747.2.2.2.2.1 (by decide) ?_
      refine jx_puti jc_11 (j := 16) (by decide) rfl jwF_X11_180 rfl rfl rfl kd747.2.2.2.2.2.2.2.1 hk35 ?_
      refine jx_aload_n 5 kd747.2.2.2.2.2.2.2.2.1 rfl rfl ?_
      refine jx_iload 0 kd748.1 rfl ?_
      refine jx_if_eq (tgt := 221) kd748.2.1 (by decide) (fun z9 => absurd z9 (by decide)) (fun _ => ?_)
      refine jx_aload_n 5 kd748.2.2.1 rfl rfl ?_
      refine jx_getr jc_11 (j := 14) (by decide) rfl jwF_X11_49 kd748.2.2.2.1 hk35 hb56 ?_
      refine jx_iconst (v := 0) kd748.2.2.2.2.1 (by decide) ?_
      refine jx_iald kd748.2.2.2.2.2.1 hk57 hi58 ?_
      refine jx_topi (y := (ji S32 b56 (Int32.toNatClampNeg 0))) (by simp [ji_put, ji_row, ji_putr, jne hk57 hk35 (by decide), jne hk57 hk35 (by decide)]) ?_
      refine jx_goto (tgt := 225) kd748.2.2.2.2.2.2.1 (by decide) ?_
      refine jx_puti jc_11 (j := 17) (by decide) rfl jwF_X11_183 rfl rfl rfl kd749.1 hk35 ?_
      refine jx_iload_n 6 kd749.2.1 rfl rfl ?_
      exact jx_iret kd749.2.2.1 rfl rfl (jle rfl) (jle rfl) ⟨_, rfl, h⟩
    replace h := h.1 c26
    refine jx_iload_n 4 kd740.2.2.1 rfl rfl ?_
    exact jx_iret kd740.2.2.2.1 rfl rfl (jle rfl) (jle rfl) ⟨_, rfl, h⟩
  replace h := h.1 c14
  refine jx_iload_n 4 kd738.2.2.2.1 rfl rfl ?_
  exact jx_iret kd738.2.2.2.2.1 rfl rfl (jle rfl) (jle rfl) ⟨_, rfl, h⟩
/-- X11_findSoonest at its loop's head 15 -/
abbrev L_X11_findSoonest_15 (E : jEnv) (d : Nat) (Q : jM → Prop) (a0 : Nat) (x1 : Int32) (S : jM) : Prop := jX E mX11_findSoonest (jRm (d + 1) 0 0) (jZm E (fun r S' => r = none ∧ Q S') 0 0) 15 [(0, .ref a0), (1, .int x1)] [] S 0 0
/-- X11_findSoonest at its loop's head 33 -/
abbrev L_X11_findSoonest_33 (E : jEnv) (d : Nat) (Q : jM → Prop) (a0 : Nat) (S : jM) : Prop := jX E mX11_findSoonest (jRm (d + 1) 0 0) (jZm E (fun r S' => r = none ∧ Q S') 0 0) 33 [(0, .ref a0)] [] S 0 0
/-- X11_findSoonest at its loop's head 80 -/
abbrev L_X11_findSoonest_80 (E : jEnv) (d : Nat) (Q : jM → Prop) (a0 : Nat) (x1 : Int32) (x2 : Int32) (S : jM) : Prop := jX E mX11_findSoonest (jRm (d + 1) 0 0) (jZm E (fun r S' => r = none ∧ Q S') 0 0) 80 [(0, .ref a0), (1, .int x1), (2, .int x2)] [] S 0 0
/-- X11_findSoonest at its loop's head 100 -/
abbrev L_X11_findSoonest_100 (E : jEnv) (d : Nat) (Q : jM → Prop) (a0 : Nat) (x2 : Int32) (S : jM) : Prop := jX E mX11_findSoonest (jRm (d + 1) 0 0) (jZm E (fun r S' => r = none ∧ Q S') 0 0) 100 [(0, .ref a0), (2, .int x2)] [] S 0 0
set_option maxRecDepth 100000 in
set_option maxHeartbeats 4000000 in
theorem T_X11_findSoonest {E : jEnv} {d : Nat} {Q : jM → Prop} {a0 : Nat} {S : jM} (h : jk S a0 = 11 ∧ jFv E mX11_findFar d 0 0 [.ref a0] (jput S a0 15 (-1)) (fun S2 => jk S2 a0 = 11 ∧ jFv E mX11_laysBy d 0 0 [.ref a0] S2 (fun S4 => L_X11_findSoonest_15 E d Q a0 0 S4))) : jFv E mX11_findSoonest (d + 1) 0 0 [.ref a0] S Q := by
  refine jF_of (by decide) (jle rfl) ?_
  refine jx_lv (lv1 := [(0, .ref a0)]) [0] rfl ?_
  refine jx_aload_n 0 kd750.1 rfl rfl ?_
  refine jx_iconst (v := (-1)) kd750.2.1 (by decide) ?_
  obtain ⟨hk1, h⟩ := h
  refine jx_puti jc_11 (j := 15) (by decide) rfl jwF_X11_176 rfl rfl rfl kd750.2.2.1 hk1 ?_
  refine jx_aload_n 0 kd750.2.2.2.1 rfl rfl ?_
  refine jx_callVv (M' := mX11_findFar) (As := []) jo_X11_findFar jc_11 rfl jwM_X11_137 jwN_X11_findFar jwX_X11_findFar kd750.2.2.2.2.1 (jRok_m _ _ _) rfl (jle rfl) ⟨jle rfl, jle rfl⟩ hk1 h (fun S2 h => ?_)
  refine jx_aload_n 0 kd750.2.2.2.2.2.1 rfl rfl ?_
  obtain ⟨hk3, h⟩ := h
  refine jx_callVv (M' := mX11_laysBy) (As := []) jo_X11_laysBy jc_11 rfl jwM_X11_186 jwN_X11_laysBy jwX_X11_laysBy kd750.2.2.2.2.2.2.1 (jRok_m _ _ _) rfl (jle rfl) ⟨jle rfl, jle rfl⟩ hk3 h (fun S4 h => ?_)
  refine jx_iconst (v := 0) kd750.2.2.2.2.2.2.2.1 (by decide) ?_
  refine jx_istore_n (lv1 := [(1, .int 0), (0, .ref a0)]) kd750.2.2.2.2.2.2.2.2.1 rfl (by decide) rfl ?_
  exact jx_lv [1, 0] rfl h
set_option maxRecDepth 100000 in
set_option maxHeartbeats 4000000 in
theorem T_X11_findSoonest_15 {E : jEnv} {d : Nat} {Q : jM → Prop} {a0 : Nat} {x1 : Int32} {S : jM} (h : (4 ≤ x1 → L_X11_findSoonest_33 E d Q a0 S) ∧ (¬ 4 ≤ x1 → jk S a0 = 11 ∧ ∃ b7, jr S a0 14 = some b7 ∧ (jk S b7 = 12 ∧ vp_in x1 (jl S b7) ∧ (L_X11_findSoonest_15 E d Q a0 (x1 + 1) (jput S b7 (Int32.toNatClampNeg x1) 0))))) : L_X11_findSoonest_15 E d Q a0 x1 S := by
  show jX E mX11_findSoonest (jRm (d + 1) 0 0) (jZm E (fun r S' => r = none ∧ Q S') 0 0) 15 [(0, .ref a0), (1, .int x1)] [] S 0 0
  refine jx_iload_n 1 kd751.1 rfl rfl ?_
  refine jx_iconst (v := 4) kd751.2.1 (by decide) ?_
  refine jx_icmp_ge (tgt := 33) kd751.2.2.1 (by decide) (fun c5 => ?_) (fun c5 => ?_)
  · replace h := h.1 c5
    exact jx_lv [0] rfl h
  replace h := h.2 c5
  refine jx_aload_n 0 kd751.2.2.2.1 rfl rfl ?_
  obtain ⟨hk6, h⟩ := h
  obtain ⟨b7, hb7, h⟩ := h
  refine jx_getr jc_11 (j := 14) (by decide) rfl jwF_X11_49 kd751.2.2.2.2.1 hk6 hb7 ?_
  refine jx_iload_n 1 kd751.2.2.2.2.2.1 rfl rfl ?_
  refine jx_iconst (v := 0) kd751.2.2.2.2.2.2.1 (by decide) ?_
  obtain ⟨hk8, h⟩ := h
  obtain ⟨hi9, h⟩ := h
  refine jx_iast kd751.2.2.2.2.2.2.2.1 hk8 hi9 ?_
  refine jx_iinc 1 (v := (x1 + 1)) (lv1 := [(1, .int (x1 + 1)), (0, .ref a0)]) kd751.2.2.2.2.2.2.2.2.1 rfl rfl (by decide) rfl ?_
  refine jx_goto (tgt := 15) kd752.1 (by decide) ?_
  exact jx_lv [1, 0] rfl h
set_option maxRecDepth 100000 in
set_option maxHeartbeats 4000000 in
theorem T_X11_findSoonest_33 {E : jEnv} {d : Nat} {Q : jM → Prop} {a0 : Nat} {S : jM} (h : jk S a0 = 11 ∧ ∃ b11, jr S a0 0 = some b11 ∧ (jk S b11 = 12 ∧ vp_in 0 (jl S b11) ∧ (((ji S b11 (Int32.toNatClampNeg 0)) ≤ 0 → Q S) ∧ (¬ (ji S b11 (Int32.toNatClampNeg 0)) ≤ 0 → ∃ b15, jr S a0 14 = some b15 ∧ (jk S b15 = 12 ∧ vp_in 0 (jl S b15) ∧ ((((ji S b11 (Int32.toNatClampNeg 0)) ≤ (ji S b15 (Int32.toNatClampNeg 0)) → Q S) ∧ (¬ (ji S b11 (Int32.toNatClampNeg 0)) ≤ (ji S b15 (Int32.toNatClampNeg 0)) → jFi E mX11_goesWay d 0 0 [.ref a0] S (fun r20 S19 => jk S19 a0 = 11 ∧ jFv E mX11_laysBack d 0 0 [.ref a0] S19 (fun S22 => jk S22 a0 = 11 ∧ ∃ b24, jr S22 a0 14 = some b24 ∧ (jk S22 b24 = 12 ∧ vp_in r20 (jl S22 b24) ∧ ((L_X11_findSoonest_80 E d Q a0 r20 (r20 + 1) (jput S22 b24 (Int32.toNatClampNeg r20) ((ji S22 b24 (Int32.toNatClampNeg r20)) + 1))))))))))))))) : L_X11_findSoonest_33 E d Q a0 S := by
  show jX E mX11_findSoonest (jRm (d + 1) 0 0) (jZm E (fun r S' => r = none ∧ Q S') 0 0) 33 [(0, .ref a0)] [] S 0 0
  refine jx_aload_n 0 kd752.2.1 rfl rfl ?_
  obtain ⟨hk10, h⟩ := h
  obtain ⟨b11, hb11, h⟩ := h
  refine jx_getr jc_11 (j := 0) (by decide) rfl jwF_X11_7 kd752.2.2.1 hk10 hb11 ?_
  refine jx_iconst (v := 0) kd752.2.2.2.1 (by decide) ?_
  obtain ⟨hk12, h⟩ := h
  obtain ⟨hi13, h⟩ := h
  refine jx_iald kd752.2.2.2.2.1 hk12 hi13 ?_
  refine jx_if_le (tgt := 147) kd752.2.2.2.2.2.1 (by decide) (fun c14 => ?_) (fun c14 => ?_)
  · replace h := h.1 c14
    exact jx_vret kd760.2.1 rfl (jle rfl) (jle rfl) ⟨rfl, h⟩
  replace h := h.2 c14
  refine jx_aload_n 0 kd752.2.2.2.2.2.2.1 rfl rfl ?_
  obtain ⟨b15, hb15, h⟩ := h
  refine jx_getr jc_11 (j := 14) (by decide) rfl jwF_X11_49 kd752.2.2.2.2.2.2.2.1 hk10 hb15 ?_
  refine jx_iconst (v := 0) kd752.2.2.2.2.2.2.2.2.1 (by decide) ?_
  obtain ⟨hk16, h⟩ := h
  obtain ⟨hi17, h⟩ := h
  refine jx_iald kd753.1 hk16 hi17 ?_
  refine jx_aload_n 0 kd753.2.1 rfl rfl ?_
  refine jx_getr jc_11 (j := 0) (by decide) rfl jwF_X11_7 kd753.2.2.1 hk10 hb11 ?_
  refine jx_iconst (v := 0) kd753.2.2.2.1 (by decide) ?_
  refine jx_iald kd753.2.2.2.2.1 hk12 hi13 ?_
  refine jx_icmp_ge (tgt := 147) kd753.2.2.2.2.2.1 (by decide) (fun c18 => ?_) (fun c18 => ?_)
  · replace h := h.1 c18
    exact jx_vret kd760.2.1 rfl (jle rfl) (jle rfl) ⟨rfl, h⟩
  replace h := h.2 c18
  refine jx_aload_n 0 kd753.2.2.2.2.2.2.1 rfl rfl ?_
  refine jx_callVi (M' := mX11_goesWay) (As := []) jo_X11_goesWay jc_11 rfl jwM_X11_189 jwN_X11_goesWay jwX_X11_goesWay kd753.2.2.2.2.2.2.2.1 (jRok_m _ _ _) rfl (jle rfl) ⟨jle rfl, jle rfl⟩ hk10 h (fun r20 S19 h => ?_)
  refine jx_istore_n (lv1 := [(1, .int r20), (0, .ref a0)]) kd753.2.2.2.2.2.2.2.2.1 rfl (by decide) rfl ?_
  refine jx_aload_n 1 kd754.1 rfl rfl ?_
  obtain ⟨hk21, h⟩ := h
  refine jx_callVv (M' := mX11_laysBack) (As := []) jo_X11_laysBack jc_11 rfl jwM_X11_192 jwN_X11_laysBack jwX_X11_laysBack kd754.2.1 (jRok_m _ _ _) rfl (jle rfl) ⟨jle rfl, jle rfl⟩ hk21 h (fun S22 h => ?_)
  refine jx_aload_n 1 kd754.2.2.1 rfl rfl ?_
  obtain ⟨hk23, h⟩ := h
  obtain ⟨b24, hb24, h⟩ := h
  refine jx_getr jc_11 (j := 14) (by decide) rfl jwF_X11_49 kd754.2.2.2.1 hk23 hb24 ?_
  refine jx_iload_n 0 kd754.2.2.2.2.1 rfl rfl ?_
  refine jx_dup2 kd754.2.2.2.2.2.1 rfl rfl ?_
  obtain ⟨hk25, h⟩ := h
  obtain ⟨hi26, h⟩ := h
  refine jx_iald kd754.2.2.2.2.2.2.1 hk25 hi26 ?_
  refine jx_iconst (v := 1) kd754.2.2.2.2.2.2.2.1 (by decide) ?_
  refine jx_iadd kd754.2.2.2.2.2.2.2.2.1 ?_
  refine jx_iast kd755.1 hk25 hi26 ?_
  refine jx_iload_n 0 kd755.2.1 rfl rfl ?_
  refine jx_iconst (v := 1) kd755.2.2.1 (by decide) ?_
  refine jx_iadd kd755.2.2.2.1 ?_
  refine jx_istore_n (lv1 := [(2, .int (r20 + 1)), (1, .int r20), (0, .ref a0)]) kd755.2.2.2.2.1 rfl (by decide) rfl ?_
  exact jx_lv [2, 1, 0] rfl h
set_option maxRecDepth 100000 in
set_option maxHeartbeats 4000000 in
theorem T_X11_findSoonest_80 {E : jEnv} {d : Nat} {Q : jM → Prop} {a0 : Nat} {x1 : Int32} {x2 : Int32} {S : jM} (h : (4 ≤ x2 → L_X11_findSoonest_100 E d Q a0 x1 S) ∧ (¬ 4 ≤ x2 → jk S a0 = 11 ∧ ∃ b29, jr S a0 14 = some b29 ∧ (jk S b29 = 12 ∧ vp_in x2 (jl S b29) ∧ (L_X11_findSoonest_80 E d Q a0 x1 (x2 + 1) (jput S b29 (Int32.toNatClampNeg x2) 0))))) : L_X11_findSoonest_80 E d Q a0 x1 x2 S := by
  show jX E mX11_findSoonest (jRm (d + 1) 0 0) (jZm E (fun r S' => r = none ∧ Q S') 0 0) 80 [(0, .ref a0), (1, .int x1), (2, .int x2)] [] S 0 0
  refine jx_iload_n 2 kd755.2.2.2.2.2.1 rfl rfl ?_
  refine jx_iconst (v := 4) kd755.2.2.2.2.2.2.1 (by decide) ?_
  refine jx_icmp_ge (tgt := 98) kd755.2.2.2.2.2.2.2.1 (by decide) (fun c27 => ?_) (fun c27 => ?_)
  · replace h := h.1 c27
    refine jx_iload_n 1 kd756.2.2.2.2.2.2.1 rfl rfl ?_
    refine jx_istore_n (lv1 := [(2, .int x1), (0, .ref a0), (1, .int x1)]) kd756.2.2.2.2.2.2.2.1 rfl (by decide) rfl ?_
    exact jx_lv [1, 0] rfl h
  replace h := h.2 c27
  refine jx_aload_n 0 kd755.2.2.2.2.2.2.2.2.1 rfl rfl ?_
  obtain ⟨hk28, h⟩ := h
  obtain ⟨b29, hb29, h⟩ := h
  refine jx_getr jc_11 (j := 14) (by decide) rfl jwF_X11_49 kd756.1 hk28 hb29 ?_
  refine jx_iload_n 2 kd756.2.1 rfl rfl ?_
  refine jx_iconst (v := 0) kd756.2.2.1 (by decide) ?_
  obtain ⟨hk30, h⟩ := h
  obtain ⟨hi31, h⟩ := h
  refine jx_iast kd756.2.2.2.1 hk30 hi31 ?_
  refine jx_iinc 2 (v := (x2 + 1)) (lv1 := [(2, .int (x2 + 1)), (0, .ref a0), (1, .int x1)]) kd756.2.2.2.2.1 rfl rfl (by decide) rfl ?_
  refine jx_goto (tgt := 80) kd756.2.2.2.2.2.1 (by decide) ?_
  exact jx_lv [1, 2, 0] rfl h
set_option maxRecDepth 100000 in
set_option maxHeartbeats 4000000 in
theorem T_X11_findSoonest_100 {E : jEnv} {d : Nat} {Q : jM → Prop} {a0 : Nat} {x2 : Int32} {S : jM} (h : (x2 ≤ 0 → L_X11_findSoonest_33 E d Q a0 S) ∧ (¬ x2 ≤ 0 → jk S a0 = 11 ∧ ∃ b34, jr S a0 14 = some b34 ∧ (jk S b34 = 12 ∧ vp_in x2 (jl S b34) ∧ (∃ b37, jr S a0 0 = some b37 ∧ (jk S b37 = 12 ∧ vp_in 0 (jl S b37) ∧ (((ji S b34 (Int32.toNatClampNeg x2)) = (ji S b37 (Int32.toNatClampNeg 0)) → (vp_in (x2 - 1) (jl S b34) ∧ ((L_X11_findSoonest_100 E d Q a0 (x2 + (-1)) (jput (jput S b34 (Int32.toNatClampNeg x2) 0) b34 (Int32.toNatClampNeg (x2 - 1)) ((ji (jput S b34 (Int32.toNatClampNeg x2) 0) b34 (Int32.toNatClampNeg (x2 - 1))) + 1)))))) ∧ (¬ (ji S b34 (Int32.toNatClampNeg x2)) = (ji S b37 (Int32.toNatClampNeg 0)) → L_X11_findSoonest_33 E d Q a0 S))))))) : L_X11_findSoonest_100 E d Q a0 x2 S := by
  show jX E mX11_findSoonest (jRm (d + 1) 0 0) (jZm E (fun r S' => r = none ∧ Q S') 0 0) 100 [(0, .ref a0), (2, .int x2)] [] S 0 0
  refine jx_iload_n 1 kd756.2.2.2.2.2.2.2.2.1 rfl rfl ?_
  refine jx_if_le (tgt := 144) kd757.1 (by decide) (fun c32 => ?_) (fun c32 => ?_)
  · replace h := h.1 c32
    refine jx_goto (tgt := 33) kd760.1 (by decide) ?_
    exact jx_lv [0] rfl h
  replace h := h.2 c32
  refine jx_aload_n 0 kd757.2.1 rfl rfl ?_
  obtain ⟨hk33, h⟩ := h
  obtain ⟨b34, hb34, h⟩ := h
  refine jx_getr jc_11 (j := 14) (by decide) rfl jwF_X11_49 kd757.2.2.1 hk33 hb34 ?_
  refine jx_iload_n 1 kd757.2.2.2.1 rfl rfl ?_
  obtain ⟨hk35, h⟩ := h
  obtain ⟨hi36, h⟩ := h
  refine jx_iald kd757.2.2.2.2.1 hk35 hi36 ?_
  refine jx_aload_n 0 kd757.2.2.2.2.2.1 rfl rfl ?_
  obtain ⟨b37, hb37, h⟩ := h
  refine jx_getr jc_11 (j := 0) (by decide) rfl jwF_X11_7 kd757.2.2.2.2.2.2.1 hk33 hb37 ?_
  refine jx_iconst (v := 0) kd757.2.2.2.2.2.2.2.1 (by decide) ?_
  obtain ⟨hk38, h⟩ := h
  obtain ⟨hi39, h⟩ := h
  refine jx_iald kd757.2.2.2.2.2.2.2.2.1 hk38 hi39 ?_
  refine jx_icmp_ne (tgt := 144) kd758.1 (by decide) (fun c40 => ?_) (fun c40 => ?_)
  · replace h := h.2 c40
    refine jx_goto (tgt := 33) kd760.1 (by decide) ?_
    exact jx_lv [0] rfl h
  replace h := h.1 c40
  refine jx_aload_n 0 kd758.2.1 rfl rfl ?_
  refine jx_getr jc_11 (j := 14) (by decide) rfl jwF_X11_49 kd758.2.2.1 hk33 hb34 ?_
  refine jx_iload_n 1 kd758.2.2.2.1 rfl rfl ?_
  refine jx_iconst (v := 0) kd758.2.2.2.2.1 (by decide) ?_
  refine jx_iast kd758.2.2.2.2.2.1 hk35 hi36 ?_
  refine jx_aload_n 0 kd758.2.2.2.2.2.2.1 rfl rfl ?_
  refine jx_getr jc_11 (j := 14) (by decide) rfl jwF_X11_49 kd758.2.2.2.2.2.2.2.1 hk33 hb34 ?_
  refine jx_iload_n 1 kd758.2.2.2.2.2.2.2.2.1 rfl rfl ?_
  refine jx_iconst (v := 1) kd759.1 (by decide) ?_
  refine jx_isub kd759.2.1 ?_
  refine jx_dup2 kd759.2.2.1 rfl rfl ?_
  obtain ⟨hi41, h⟩ := h
  refine jx_iald kd759.2.2.2.1 hk35 hi41 ?_
  refine jx_iconst (v := 1) kd759.2.2.2.2.1 (by decide) ?_
  refine jx_iadd kd759.2.2.2.2.2.1 ?_
  refine jx_iast kd759.2.2.2.2.2.2.1 hk35 hi41 ?_
  refine jx_iinc 1 (v := (x2 + (-1))) (lv1 := [(2, .int (x2 + (-1))), (0, .ref a0)]) kd759.2.2.2.2.2.2.2.1 rfl rfl (by decide) rfl ?_
  refine jx_goto (tgt := 100) kd759.2.2.2.2.2.2.2.2.1 (by decide) ?_
  exact jx_lv [1, 0] rfl h
set_option maxRecDepth 100000 in
set_option maxHeartbeats 4000000 in
theorem T_X11_soonest {E : jEnv} {d : Nat} {Q : Int32 → jM → Prop} {a0 : Nat} {x1 : Int32} {S : jM} (h : ((jisin (Int32.toInt64 x1) 0 2) = 0 → Q (-1000000001) S) ∧ (¬ (jisin (Int32.toInt64 x1) 0 2) = 0 → jk S a0 = 11 ∧ jFi E mX11_can d 0 0 [.ref a0] S (fun r7 S6 => (r7 = 0 → jk S6 a0 = 11 ∧ jFv E mX11_findSoonest d 0 0 [.ref a0] S6 (fun S10 => jk S10 a0 = 11 ∧ (0 ≤ (ji S10 a0 15) → (x1 = 0 → Q (ji S10 a0 15) S10) ∧ (¬ x1 = 0 → (x1 = 1 → Q (ji S10 a0 16) S10) ∧ (¬ x1 = 1 → Q (ji S10 a0 17) S10))) ∧ (¬ 0 ≤ (ji S10 a0 15) → Q (-1000000005) S10))) ∧ (¬ r7 = 0 → (x1 = 2 → Q (-1000000005) S6) ∧ (¬ x1 = 2 → Q 0 S6))))) : jFi E mX11_soonest (d + 1) 0 0 [.ref a0, .int x1] S Q := by
  refine jF_of (by decide) (jle rfl) ?_
  refine jx_lv (lv1 := [(0, .ref a0), (1, .int x1)]) [0, 1] rfl ?_
  refine jx_iload_n 1 kd761.1 rfl rfl ?_
  refine jx_i2l kd761.2.1 ?_
  refine jx_lconst (v := 0) kd761.2.2.1 (by decide) ?_
  refine jx_ldc2 jwL_X11_146 kd761.2.2.2.1 ?_
  refine jx_callSi (M' := mX11_isIn) (As := [.long (Int32.toInt64 x1), .long 0, .long 2]) jo_X11_isIn jwM_X11_71 jwS_X11_isIn kd761.2.2.2.2.1 (jRok_m _ _ _) rfl (jle rfl) ⟨jle rfl, jle rfl⟩ (c_X11_isIn (Q := fun v S' => v = (jisin (Int32.toInt64 x1) 0 2) ∧ S = S') ⟨rfl, rfl⟩) (fun r1 S2 hq3 => ?_)
  obtain ⟨rfl, rfl⟩ := hq3
  refine jx_if_ne (tgt := 15) kd761.2.2.2.2.2.1 (by decide) (fun c4 => ?_) (fun c4 => ?_)
  · replace h := h.2 c4
    refine jx_aload_n 0 kd761.2.2.2.2.2.2.2.2.1 rfl rfl ?_
    obtain ⟨hk5, h⟩ := h
    refine jx_callVi (M' := mX11_can) (As := []) jo_X11_can jc_11 rfl jwM_X11_172 jwN_X11_can jwX_X11_can kd762.1 (jRok_m _ _ _) rfl (jle rfl) ⟨jle rfl, jle rfl⟩ hk5 h (fun r7 S6 h => ?_)
    refine jx_if_eq (tgt := 34) kd762.2.1 (by decide) (fun c8 => ?_) (fun c8 => ?_)
    · replace h := h.1 c8
      refine jx_aload_n 0 kd763.1 rfl rfl ?_
      obtain ⟨hk9, h⟩ := h
      refine jx_callVv (M' := mX11_findSoonest) (As := []) jo_X11_findSoonest jc_11 rfl jwM_X11_195 jwN_X11_findSoonest jwX_X11_findSoonest kd763.2.1 (jRok_m _ _ _) rfl (jle rfl) ⟨jle rfl, jle rfl⟩ hk9 h (fun S10 h => ?_)
      refine jx_aload_n 0 kd763.2.2.1 rfl rfl ?_
      obtain ⟨hk11, h⟩ := h
      refine jx_geti jc_11 (j := 15) (by decide) rfl jwF_X11_176 kd763.2.2.2.1 hk11 ?_
      refine jx_if_ge (tgt := 50) kd763.2.2.2.2.1 (by decide) (fun c12 => ?_) (fun c12 => ?_)
      · replace h := h.1 c12
        refine jx_iload_n 1 kd763.2.2.2.2.2.2.2.1 rfl rfl ?_
        refine jx_if_ne (tgt := 61) kd763.2.2.2.2.2.2.2.2.1 (by decide) (fun c13 => ?_) (fun c13 => ?_)
        · replace h := h.2 c13
          refine jx_iload_n 1 kd764.2.2.2.1 rfl rfl ?_
          refine jx_iconst (v := 1) kd764.2.2.2.2.1 (by decide) ?_
          refine jx_icmp_ne (tgt := 73) kd764.2.2.2.2.2.1 (by decide) (fun c14 => ?_) (fun c14 => ?_)
          · replace h := h.2 c14
            refine jx_aload_n 0 kd765.1 rfl rfl ?_
            refine jx_geti jc_11 (j := 17) (by decide) rfl jwF_X11_183 kd765.2.1 hk11 ?_
            exact jx_iret kd765.2.2.1 rfl rfl (jle rfl) (jle rfl) ⟨_, rfl, h⟩
          replace h := h.1 c14
          refine jx_aload_n 0 kd764.2.2.2.2.2.2.1 rfl rfl ?_
          refine jx_geti jc_11 (j := 16) (by decide) rfl jwF_X11_180 kd764.2.2.2.2.2.2.2.1 hk11 ?_
          refine jx_goto (tgt := 77) kd764.2.2.2.2.2.2.2.2.1 (by decide) ?_
          exact jx_iret kd765.2.2.1 rfl rfl (jle rfl) (jle rfl) ⟨_, rfl, h⟩
        replace h := h.1 c13
        refine jx_aload_n 0 kd764.1 rfl rfl ?_
        refine jx_geti jc_11 (j := 15) (by decide) rfl jwF_X11_176 kd764.2.1 hk11 ?_
        refine jx_goto (tgt := 77) kd764.2.2.1 (by decide) ?_
        exact jx_iret kd765.2.2.1 rfl rfl (jle rfl) (jle rfl) ⟨_, rfl, h⟩
      replace h := h.2 c12
      refine jx_ldc jwC_X11_70 kd763.2.2.2.2.2.1 ?_
      refine jx_goto (tgt := 77) kd763.2.2.2.2.2.2.1 (by decide) ?_
      exact jx_iret kd765.2.2.1 rfl rfl (jle rfl) (jle rfl) ⟨_, rfl, h⟩
    replace h := h.2 c8
    refine jx_iload_n 1 kd762.2.2.1 rfl rfl ?_
    refine jx_iconst (v := 2) kd762.2.2.2.1 (by decide) ?_
    refine jx_icmp_ne (tgt := 32) kd762.2.2.2.2.1 (by decide) (fun c15 => ?_) (fun c15 => ?_)
    · replace h := h.2 c15
      refine jx_iconst (v := 0) kd762.2.2.2.2.2.2.2.1 (by decide) ?_
      exact jx_iret kd762.2.2.2.2.2.2.2.2.1 rfl rfl (jle rfl) (jle rfl) ⟨_, rfl, h⟩
    replace h := h.1 c15
    refine jx_ldc jwC_X11_70 kd762.2.2.2.2.2.1 ?_
    refine jx_goto (tgt := 33) kd762.2.2.2.2.2.2.1 (by decide) ?_
    exact jx_iret kd762.2.2.2.2.2.2.2.2.1 rfl rfl (jle rfl) (jle rfl) ⟨_, rfl, h⟩
  replace h := h.1 c4
  refine jx_ldc jwC_X11_87 kd761.2.2.2.2.2.2.1 ?_
  exact jx_iret kd761.2.2.2.2.2.2.2.1 rfl rfl (jle rfl) (jle rfl) ⟨_, rfl, h⟩
/-- X11_areTogether at its loop's head 10 -/
abbrev L_X11_areTogether_10 (E : jEnv) (d : Nat) (Q : Int32 → jM → Prop) (a0 : Nat) (x1 : Int32) (x2 : Int32) (x3 : Int32) (x4 : Int32) (S : jM) : Prop := jX E mX11_areTogether (jRm (d + 1) 0 0) (jZm E (fun r S' => ∃ v : Int32, r = some (.int v) ∧ Q v S') 0 0) 10 [(0, .ref a0), (1, .int x1), (2, .int x2), (3, .int x3), (4, .int x4)] [] S 0 0
/-- X11_areTogether at its loop's head 34 -/
abbrev L_X11_areTogether_34 (E : jEnv) (d : Nat) (Q : Int32 → jM → Prop) (a0 : Nat) (x1 : Int32) (x2 : Int32) (x3 : Int32) (x4 : Int32) (S : jM) : Prop := jX E mX11_areTogether (jRm (d + 1) 0 0) (jZm E (fun r S' => ∃ v : Int32, r = some (.int v) ∧ Q v S') 0 0) 34 [(0, .ref a0), (1, .int x1), (2, .int x2), (3, .int x3), (4, .int x4)] [] S 0 0
/-- X11_areTogether at its loop's head 53 -/
abbrev L_X11_areTogether_53 (E : jEnv) (d : Nat) (Q : Int32 → jM → Prop) (a0 : Nat) (x1 : Int32) (x2 : Int32) (x3 : Int32) (x4 : Int32) (x5 : Int32) (x6 : Int32) (x7 : Int32) (x8 : Int32) (S : jM) : Prop := jX E mX11_areTogether (jRm (d + 1) 0 0) (jZm E (fun r S' => ∃ v : Int32, r = some (.int v) ∧ Q v S') 0 0) 53 [(0, .ref a0), (1, .int x1), (2, .int x2), (3, .int x3), (4, .int x4), (5, .int x5), (6, .int x6), (7, .int x7), (8, .int x8)] [] S 0 0
set_option maxRecDepth 100000 in
set_option maxHeartbeats 4000000 in
theorem T_X11_areTogether {E : jEnv} {d : Nat} {Q : Int32 → jM → Prop} {a0 : Nat} {x1 : Int32} {S : jM} (h : L_X11_areTogether_10 E d Q a0 x1 (jmany x1) 1 0 S) : jFi E mX11_areTogether (d + 1) 0 0 [.ref a0, .int x1] S Q := by
  refine jF_of (by decide) (jle rfl) ?_
  refine jx_lv (lv1 := [(0, .ref a0), (1, .int x1)]) [0, 1] rfl ?_
  refine jx_iload_n 1 kd766.1 rfl rfl ?_
  refine jx_callSi (M' := mX11_manyIn) (As := [.int x1]) jo_X11_manyIn jwM_X11_108 jwS_X11_manyIn kd766.2.1 (jRok_m _ _ _) rfl (jle rfl) ⟨jle rfl, jle rfl⟩ (c_X11_manyIn (Q := fun v S' => v = (jmany x1) ∧ S = S') ⟨rfl, rfl⟩) (fun r1 S2 hq3 => ?_)
  obtain ⟨rfl, rfl⟩ := hq3
  refine jx_istore_n (lv1 := [(2, .int (jmany x1)), (0, .ref a0), (1, .int x1)]) kd766.2.2.1 rfl (by decide) rfl ?_
  refine jx_iconst (v := 1) kd766.2.2.2.1 (by decide) ?_
  refine jx_istore_n (lv1 := [(3, .int 1), (2, .int (jmany x1)), (0, .ref a0), (1, .int x1)]) kd766.2.2.2.2.1 rfl (by decide) rfl ?_
  refine jx_iconst (v := 0) kd766.2.2.2.2.2.1 (by decide) ?_
  refine jx_istore (lv1 := [(4, .int 0), (3, .int 1), (2, .int (jmany x1)), (0, .ref a0), (1, .int x1)]) kd766.2.2.2.2.2.2.1 (by decide) rfl ?_
  exact jx_lv [3, 4, 2, 1, 0] rfl h
set_option maxRecDepth 100000 in
set_option maxHeartbeats 4000000 in
theorem T_X11_areTogether_10 {E : jEnv} {d : Nat} {Q : Int32 → jM → Prop} {a0 : Nat} {x1 : Int32} {x2 : Int32} {x3 : Int32} {x4 : Int32} {S : jM} (h : (x2 ≤ x4 → L_X11_areTogether_34 E d Q a0 x1 x2 x3 0 S) ∧ (¬ x2 ≤ x4 → jk S a0 = 11 ∧ ∃ b6, jr S a0 0 = some b6 ∧ (jk S b6 = 12 ∧ vp_in 0 (jl S b6) ∧ (L_X11_areTogether_10 E d Q a0 x1 x2 (x3 * (ji S b6 (Int32.toNatClampNeg 0))) (x4 + 1) S)))) : L_X11_areTogether_10 E d Q a0 x1 x2 x3 x4 S := by
  show jX E mX11_areTogether (jRm (d + 1) 0 0) (jZm E (fun r S' => ∃ v : Int32, r = some (.int v) ∧ Q v S') 0 0) 10 [(0, .ref a0), (1, .int x1), (2, .int x2), (3, .int x3), (4, .int x4)] [] S 0 0
  refine jx_iload 4 kd766.2.2.2.2.2.2.2.1 rfl ?_
  refine jx_iload_n 2 kd766.2.2.2.2.2.2.2.2.1 rfl rfl ?_
  refine jx_icmp_ge (tgt := 31) kd767.1 (by decide) (fun c4 => ?_) (fun c4 => ?_)
  · replace h := h.1 c4
    refine jx_iconst (v := 0) kd768.2.1 (by decide) ?_
    refine jx_istore (lv1 := [(4, .int 0), (0, .ref a0), (1, .int x1), (2, .int x2), (3, .int x3)]) kd768.2.2.1 (by decide) rfl ?_
    exact jx_lv [1, 2, 3, 4, 0] rfl h
  replace h := h.2 c4
  refine jx_iload_n 3 kd767.2.1 rfl rfl ?_
  refine jx_aload_n 0 kd767.2.2.1 rfl rfl ?_
  obtain ⟨hk5, h⟩ := h
  obtain ⟨b6, hb6, h⟩ := h
  refine jx_getr jc_11 (j := 0) (by decide) rfl jwF_X11_7 kd767.2.2.2.1 hk5 hb6 ?_
  refine jx_iconst (v := 0) kd767.2.2.2.2.1 (by decide) ?_
  obtain ⟨hk7, h⟩ := h
  obtain ⟨hi8, h⟩ := h
  refine jx_iald kd767.2.2.2.2.2.1 hk7 hi8 ?_
  refine jx_imul kd767.2.2.2.2.2.2.1 ?_
  refine jx_istore_n (lv1 := [(3, .int (x3 * (ji S b6 (Int32.toNatClampNeg 0)))), (0, .ref a0), (1, .int x1), (2, .int x2), (4, .int x4)]) kd767.2.2.2.2.2.2.2.1 rfl (by decide) rfl ?_
  refine jx_iinc 4 (v := (x4 + 1)) (lv1 := [(4, .int (x4 + 1)), (3, .int (x3 * (ji S b6 (Int32.toNatClampNeg 0)))), (0, .ref a0), (1, .int x1), (2, .int x2)]) kd767.2.2.2.2.2.2.2.2.1 rfl rfl (by decide) rfl ?_
  refine jx_goto (tgt := 10) kd768.1 (by decide) ?_
  exact jx_lv [2, 3, 4, 1, 0] rfl h
set_option maxRecDepth 100000 in
set_option maxHeartbeats 4000000 in
theorem T_X11_areTogether_34 {E : jEnv} {d : Nat} {Q : Int32 → jM → Prop} {a0 : Nat} {x1 : Int32} {x2 : Int32} {x3 : Int32} {x4 : Int32} {S : jM} (h : (x3 ≤ x4 → Q 0 S) ∧ (¬ x3 ≤ x4 → L_X11_areTogether_53 E d Q a0 x1 x2 x3 x4 x4 0 0 0 S)) : L_X11_areTogether_34 E d Q a0 x1 x2 x3 x4 S := by
  show jX E mX11_areTogether (jRm (d + 1) 0 0) (jZm E (fun r S' => ∃ v : Int32, r = some (.int v) ∧ Q v S') 0 0) 34 [(0, .ref a0), (1, .int x1), (2, .int x2), (3, .int x3), (4, .int x4)] [] S 0 0
  refine jx_iload 4 kd768.2.2.2.1 rfl ?_
  refine jx_iload_n 3 kd768.2.2.2.2.1 rfl rfl ?_
  refine jx_icmp_ge (tgt := 202) kd768.2.2.2.2.2.1 (by decide) (fun c9 => ?_) (fun c9 => ?_)
  · replace h := h.1 c9
    refine jx_iconst (v := 0) kd778.2.1 (by decide) ?_
    exact jx_iret kd778.2.2.1 rfl (by decide) (jle rfl) (jle rfl) ⟨_, rfl, h⟩
  replace h := h.2 c9
  refine jx_iload 4 kd768.2.2.2.2.2.2.1 rfl ?_
  refine jx_istore (lv1 := [(5, .int x4), (0, .ref a0), (1, .int x1), (2, .int x2), (3, .int x3), (4, .int x4)]) kd768.2.2.2.2.2.2.2.1 (by decide) rfl ?_
  refine jx_iconst (v := 0) kd768.2.2.2.2.2.2.2.2.1 (by decide) ?_
  refine jx_istore (lv1 := [(6, .int 0), (5, .int x4), (0, .ref a0), (1, .int x1), (2, .int x2), (3, .int x3), (4, .int x4)]) kd769.1 (by decide) rfl ?_
  refine jx_iconst (v := 0) kd769.2.1 (by decide) ?_
  refine jx_istore (lv1 := [(7, .int 0), (6, .int 0), (5, .int x4), (0, .ref a0), (1, .int x1), (2, .int x2), (3, .int x3), (4, .int x4)]) kd769.2.2.1 (by decide) rfl ?_
  refine jx_iconst (v := 0) kd769.2.2.2.1 (by decide) ?_
  refine jx_istore (lv1 := [(8, .int 0), (7, .int 0), (6, .int 0), (5, .int x4), (0, .ref a0), (1, .int x1), (2, .int x2), (3, .int x3), (4, .int x4)]) kd769.2.2.2.2.1 (by decide) rfl ?_
  exact jx_lv [4, 5, 6, 7, 8, 3, 2, 1, 0] rfl h
set_option maxRecDepth 100000 in
set_option maxHeartbeats 4000000 in
theorem T_X11_areTogether_53 {E : jEnv} {d : Nat} {Q : Int32 → jM → Prop} {a0 : Nat} {x1 : Int32} {x2 : Int32} {x3 : Int32} {x4 : Int32} {x5 : Int32} {x6 : Int32} {x7 : Int32} {x8 : Int32} {S : jM} (h : (x2 ≤ x8 → (x7 = x1 → (x6 = x1 → Q 1 S) ∧ (¬ x6 = x1 → L_X11_areTogether_34 E d Q a0 x1 x2 x3 (x4 + 1) S)) ∧ (¬ x7 = x1 → L_X11_areTogether_34 E d Q a0 x1 x2 x3 (x4 + 1) S)) ∧ (¬ x2 ≤ x8 → jk S a0 = 11 ∧ ∃ b14, jr S a0 0 = some b14 ∧ (jk S b14 = 12 ∧ vp_in 0 (jl S b14) ∧ ((¬ (ji S b14 (Int32.toNatClampNeg 0)) = 0) ∧ (((¬ (ji S b14 (Int32.toNatClampNeg 0)) = 0) ∧ (jFi E mX11_of d 0 0 [.ref a0, .int (jrem x5 (ji S b14 (Int32.toNatClampNeg 0))), .int 2] S (fun r20 S19 => (x7 < 0 → L_X11_areTogether_53 E d Q a0 x1 x2 x3 x4 (x5 / (ji S b14 (Int32.toNatClampNeg 0))) 0 (-1) (x8 + 1) S19) ∧ (¬ x7 < 0 → jk S19 a0 = 11 ∧ jFi E mX11_of d 0 0 [.ref a0, .int (jrem x5 (ji S b14 (Int32.toNatClampNeg 0))), .int 6] S19 (fun r24 S23 => (r24 = 0 → ((x1 &&& (jshl 1 r20)) = 0 → L_X11_areTogether_53 E d Q a0 x1 x2 x3 x4 (x5 / (ji S b14 (Int32.toNatClampNeg 0))) 0 (-1) (x8 + 1) S23) ∧ (¬ (x1 &&& (jshl 1 r20)) = 0 → ((x7 &&& (jshl 1 r20)) = 0 → jk S23 a0 = 11 ∧ jFi E mX11_teaches d 0 0 [.ref a0, .int (jrem x5 (ji S b14 (Int32.toNatClampNeg 0))), .int x6] S23 (fun r30 S29 => (r30 = 0 → L_X11_areTogether_53 E d Q a0 x1 x2 x3 x4 (x5 / (ji S b14 (Int32.toNatClampNeg 0))) 0 (-1) (x8 + 1) S29) ∧ (¬ r30 = 0 → jk S29 a0 = 11 ∧ jFi E mX11_behindLesson d 0 0 [.ref a0, .int (jrem x5 (ji S b14 (Int32.toNatClampNeg 0))), .int x6] S29 (fun r34 S33 => L_X11_areTogether_53 E d Q a0 x1 x2 x3 x4 (x5 / (ji S b14 (Int32.toNatClampNeg 0))) r34 (x7 ||| (jshl 1 r20)) (x8 + 1) S33)))) ∧ (¬ (x7 &&& (jshl 1 r20)) = 0 → L_X11_areTogether_53 E d Q a0 x1 x2 x3 x4 (x5 / (ji S b14 (Int32.toNatClampNeg 0))) 0 (-1) (x8 + 1) S23))) ∧ (¬ r24 = 0 → L_X11_areTogether_53 E d Q a0 x1 x2 x3 x4 (x5 / (ji S b14 (Int32.toNatClampNeg 0))) 0 (-1) (x8 + 1) S23))))))))))) : L_X11_areTogether_53 E d Q a0 x1 x2 x3 x4 x5 x6 x7 x8 S := by
  show jX E mX11_areTogether (jRm (d + 1) 0 0) (jZm E (fun r S' => ∃ v : Int32, r = some (.int v) ∧ Q v S') 0 0) 53 [(0, .ref a0), (1, .int x1), (2, .int x2), (3, .int x3), (4, .int x4), (5, .int x5), (6, .int x6), (7, .int x7), (8, .int x8)] [] S 0 0
  refine jx_iload 8 kd769.2.2.2.2.2.1 rfl ?_
  refine jx_iload_n 2 kd769.2.2.2.2.2.2.1 rfl rfl ?_
  refine jx_icmp_ge (tgt := 182) kd769.2.2.2.2.2.2.2.1 (by decide) (fun c10 => ?_) (fun c10 => ?_)
  · replace h := h.1 c10
    refine jx_iload 7 kd777.1 rfl ?_
    refine jx_iload_n 1 kd777.2.1 rfl rfl ?_
    refine jx_icmp_ne (tgt := 196) kd777.2.2.1 (by decide) (fun c11 => ?_) (fun c11 => ?_)
    · replace h := h.2 c11
      refine jx_iinc 4 (v := (x4 + 1)) (lv1 := [(4, .int (x4 + 1)), (0, .ref a0), (1, .int x1), (2, .int x2), (3, .int x3), (5, .int x5), (6, .int x6), (7, .int x7), (8, .int x8)]) kd777.2.2.2.2.2.2.2.2.1 rfl rfl (by decide) rfl ?_
      refine jx_goto (tgt := 34) kd778.1 (by decide) ?_
      exact jx_lv [1, 2, 3, 4, 0] rfl h
    replace h := h.1 c11
    refine jx_iload 6 kd777.2.2.2.1 rfl ?_
    refine jx_iload_n 1 kd777.2.2.2.2.1 rfl rfl ?_
    refine jx_icmp_ne (tgt := 196) kd777.2.2.2.2.2.1 (by decide) (fun c12 => ?_) (fun c12 => ?_)
    · replace h := h.2 c12
      refine jx_iinc 4 (v := (x4 + 1)) (lv1 := [(4, .int (x4 + 1)), (0, .ref a0), (1, .int x1), (2, .int x2), (3, .int x3), (5, .int x5), (6, .int x6), (7, .int x7), (8, .int x8)]) kd777.2.2.2.2.2.2.2.2.1 rfl rfl (by decide) rfl ?_
      refine jx_goto (tgt := 34) kd778.1 (by decide) ?_
      exact jx_lv [1, 2, 3, 4, 0] rfl h
    replace h := h.1 c12
    refine jx_iconst (v := 1) kd777.2.2.2.2.2.2.1 (by decide) ?_
    exact jx_iret kd777.2.2.2.2.2.2.2.1 rfl (by decide) (jle rfl) (jle rfl) ⟨_, rfl, h⟩
  replace h := h.2 c10
  refine jx_iload 5 kd769.2.2.2.2.2.2.2.2.1 rfl ?_
  refine jx_aload_n 0 kd770.1 rfl rfl ?_
  obtain ⟨hk13, h⟩ := h
  obtain ⟨b14, hb14, h⟩ := h
  refine jx_getr jc_11 (j := 0) (by decide) rfl jwF_X11_7 kd770.2.1 hk13 hb14 ?_
  refine jx_iconst (v := 0) kd770.2.2.1 (by decide) ?_
  obtain ⟨hk15, h⟩ := h
  obtain ⟨hi16, h⟩ := h
  refine jx_iald kd770.2.2.2.1 hk15 hi16 ?_
  obtain ⟨hz17, h⟩ := h
  refine jx_irem kd770.2.2.2.2.1 hz17 ?_
  refine jx_istore (lv1 := [(9, .int (jrem x5 (ji S b14 (Int32.toNatClampNeg 0)))), (0, .ref a0), (1, .int x1), (2, .int x2), (3, .int x3), (4, .int x4), (5, .int x5), (6, .int x6), (7, .int x7), (8, .int x8)]) kd770.2.2.2.2.2.1 (by decide) rfl ?_
  refine jx_iload 6 kd770.2.2.2.2.2.2.1 rfl ?_
  refine jx_aload_n 1 kd770.2.2.2.2.2.2.2.1 rfl rfl ?_
  refine jx_getr jc_11 (j := 0) (by decide) rfl jwF_X11_7 kd770.2.2.2.2.2.2.2.2.1 hk13 hb14 ?_
  refine jx_iconst (v := 0) kd771.1 (by decide) ?_
  refine jx_iald kd771.2.1 hk15 hi16 ?_
  obtain ⟨hz18, h⟩ := h
  refine jx_idiv kd771.2.2.1 hz18 ?_
  refine jx_istore (lv1 := [(5, .int (x5 / (ji S b14 (Int32.toNatClampNeg 0)))), (9, .int (jrem x5 (ji S b14 (Int32.toNatClampNeg 0)))), (0, .ref a0), (1, .int x1), (2, .int x2), (3, .int x3), (4, .int x4), (6, .int x6), (7, .int x7), (8, .int x8)]) kd771.2.2.2.1 (by decide) rfl ?_
  refine jx_iconst (v := 1) kd771.2.2.2.2.1 (by decide) ?_
  refine jx_aload_n 2 kd771.2.2.2.2.2.1 rfl rfl ?_
  refine jx_iload 1 kd771.2.2.2.2.2.2.1 rfl ?_
  refine jx_iconst (v := 2) kd771.2.2.2.2.2.2.2.1 (by decide) ?_
  refine jx_callVi (M' := mX11_of) (As := [.int (jrem x5 (ji S b14 (Int32.toNatClampNeg 0))), .int 2]) jo_X11_of jc_11 rfl jwM_X11_97 jwN_X11_of jwX_X11_of kd771.2.2.2.2.2.2.2.2.1 (jRok_m _ _ _) rfl (jle rfl) ⟨jle rfl, jle rfl⟩ hk13 h (fun r20 S19 h => ?_)
  refine jx_ishl kd772.1 ?_
  refine jx_istore (lv1 := [(10, .int (jshl 1 r20)), (5, .int (x5 / (ji S b14 (Int32.toNatClampNeg 0)))), (9, .int (jrem x5 (ji S b14 (Int32.toNatClampNeg 0)))), (0, .ref a0), (1, .int x1), (2, .int x2), (3, .int x3), (4, .int x4), (6, .int x6), (7, .int x7), (8, .int x8)]) kd772.2.1 (by decide) rfl ?_
  refine jx_iload 9 kd772.2.2.1 rfl ?_
  refine jx_if_lt (tgt := 138) kd772.2.2.2.1 (by decide) (fun c21 => ?_) (fun c21 => ?_)
  · replace h := h.1 c21
    refine jx_iconst (v := 0) kd774.2.2.2.2.2.2.1 (by decide) ?_
    refine jx_istore (lv1 := [(11, .int 0), (10, .int (jshl 1 r20)), (5, .int (x5 / (ji S b14 (Int32.toNatClampNeg 0)))), (9, .int (jrem x5 (ji S b14 (Int32.toNatClampNeg 0)))), (0, .ref a0), (1, .int x1), (2, .int x2), (3, .int x3), (4, .int x4), (6, .int x6), (7, .int x7), (8, .int x8)]) kd774.2.2.2.2.2.2.2.1 (by decide) rfl ?_
    refine jx_iload 0 kd774.2.2.2.2.2.2.2.2.1 rfl ?_
    refine jx_if_eq (tgt := 157) kd775.1 (by decide) (fun _ => ?_) (fun z9 => absurd z9 (by decide))
    refine jx_iconst (v := 0) kd775.2.2.2.2.2.2.1 (by decide) ?_
    refine jx_istore (lv1 := [(6, .int 0), (11, .int 0), (10, .int (jshl 1 r20)), (5, .int (x5 / (ji S b14 (Int32.toNatClampNeg 0)))), (9, .int (jrem x5 (ji S b14 (Int32.toNatClampNeg 0)))), (0, .ref a0), (1, .int x1), (2, .int x2), (3, .int x3), (4, .int x4), (7, .int x7), (8, .int x8)]) kd775.2.2.2.2.2.2.2.1 (by decide) rfl ?_
    refine jx_iload 1 kd775.2.2.2.2.2.2.2.2.1 rfl ?_
    refine jx_if_eq (tgt := 173) kd776.1 (by decide) (fun _ => ?_) (fun z9 => absurd z9 (by decide))
    refine jx_iconst (v := (-1)) kd776.2.2.2.2.2.1 (by decide) ?_
    refine jx_istore (lv1 := [(7, .int (-1)), (6, .int 0), (11, .int 0), (10, .int (jshl 1 r20)), (5, .int (x5 / (ji S b14 (Int32.toNatClampNeg 0)))), (9, .int (jrem x5 (ji S b14 (Int32.toNatClampNeg 0)))), (0, .ref a0), (1, .int x1), (2, .int x2), (3, .int x3), (4, .int x4), (8, .int x8)]) kd776.2.2.2.2.2.2.1 (by decide) rfl ?_
    refine jx_iinc 11 (v := (x8 + 1)) (lv1 := [(8, .int (x8 + 1)), (7, .int (-1)), (6, .int 0), (11, .int 0), (10, .int (jshl 1 r20)), (5, .int (x5 / (ji S b14 (Int32.toNatClampNeg 0)))), (9, .int (jrem x5 (ji S b14 (Int32.toNatClampNeg 0)))), (0, .ref a0), (1, .int x1), (2, .int x2), (3, .int x3), (4, .int x4)]) kd776.2.2.2.2.2.2.2.1 rfl rfl (by decide) rfl ?_
    refine jx_goto (tgt := 53) kd776.2.2.2.2.2.2.2.2.1 (by decide) ?_
    exact jx_lv [7, 8, 9, 10, 11, 5, 2, 1, 0] rfl h
  replace h := h.2 c21
  refine jx_aload_n 3 kd772.2.2.2.2.1 rfl rfl ?_
  refine jx_iload 2 kd772.2.2.2.2.2.1 rfl ?_
  refine jx_bipush (v := 6) kd772.2.2.2.2.2.2.1 (by decide) ?_
  obtain ⟨hk22, h⟩ := h
  refine jx_callVi (M' := mX11_of) (As := [.int (jrem x5 (ji S b14 (Int32.toNatClampNeg 0))), .int 6]) jo_X11_of jc_11 rfl jwM_X11_97 jwN_X11_of jwX_X11_of kd772.2.2.2.2.2.2.2.1 (jRok_m _ _ _) rfl (jle rfl) ⟨jle rfl, jle rfl⟩ hk22 h (fun r24 S23 h => ?_)
  refine jx_if_ne (tgt := 138) kd772.2.2.2.2.2.2.2.2.1 (by decide) (fun c25 => ?_) (fun c25 => ?_)
  · replace h := h.2 c25
    refine jx_iconst (v := 0) kd774.2.2.2.2.2.2.1 (by decide) ?_
    refine jx_istore (lv1 := [(11, .int 0), (10, .int (jshl 1 r20)), (5, .int (x5 / (ji S b14 (Int32.toNatClampNeg 0)))), (9, .int (jrem x5 (ji S b14 (Int32.toNatClampNeg 0)))), (0, .ref a0), (1, .int x1), (2, .int x2), (3, .int x3), (4, .int x4), (6, .int x6), (7, .int x7), (8, .int x8)]) kd774.2.2.2.2.2.2.2.1 (by decide) rfl ?_
    refine jx_iload 0 kd774.2.2.2.2.2.2.2.2.1 rfl ?_
    refine jx_if_eq (tgt := 157) kd775.1 (by decide) (fun _ => ?_) (fun z9 => absurd z9 (by decide))
    refine jx_iconst (v := 0) kd775.2.2.2.2.2.2.1 (by decide) ?_
    refine jx_istore (lv1 := [(6, .int 0), (11, .int 0), (10, .int (jshl 1 r20)), (5, .int (x5 / (ji S b14 (Int32.toNatClampNeg 0)))), (9, .int (jrem x5 (ji S b14 (Int32.toNatClampNeg 0)))), (0, .ref a0), (1, .int x1), (2, .int x2), (3, .int x3), (4, .int x4), (7, .int x7), (8, .int x8)]) kd775.2.2.2.2.2.2.2.1 (by decide) rfl ?_
    refine jx_iload 1 kd775.2.2.2.2.2.2.2.2.1 rfl ?_
    refine jx_if_eq (tgt := 173) kd776.1 (by decide) (fun _ => ?_) (fun z9 => absurd z9 (by decide))
    refine jx_iconst (v := (-1)) kd776.2.2.2.2.2.1 (by decide) ?_
    refine jx_istore (lv1 := [(7, .int (-1)), (6, .int 0), (11, .int 0), (10, .int (jshl 1 r20)), (5, .int (x5 / (ji S b14 (Int32.toNatClampNeg 0)))), (9, .int (jrem x5 (ji S b14 (Int32.toNatClampNeg 0)))), (0, .ref a0), (1, .int x1), (2, .int x2), (3, .int x3), (4, .int x4), (8, .int x8)]) kd776.2.2.2.2.2.2.1 (by decide) rfl ?_
    refine jx_iinc 11 (v := (x8 + 1)) (lv1 := [(8, .int (x8 + 1)), (7, .int (-1)), (6, .int 0), (11, .int 0), (10, .int (jshl 1 r20)), (5, .int (x5 / (ji S b14 (Int32.toNatClampNeg 0)))), (9, .int (jrem x5 (ji S b14 (Int32.toNatClampNeg 0)))), (0, .ref a0), (1, .int x1), (2, .int x2), (3, .int x3), (4, .int x4)]) kd776.2.2.2.2.2.2.2.1 rfl rfl (by decide) rfl ?_
    refine jx_goto (tgt := 53) kd776.2.2.2.2.2.2.2.2.1 (by decide) ?_
    exact jx_lv [7, 8, 9, 10, 11, 5, 2, 1, 0] rfl h
  replace h := h.1 c25
  refine jx_iload_n 4 kd773.1 rfl rfl ?_
  refine jx_iload 0 kd773.2.1 rfl ?_
  refine jx_iand kd773.2.2.1 ?_
  refine jx_if_eq (tgt := 138) kd773.2.2.2.1 (by decide) (fun c26 => ?_) (fun c26 => ?_)
  · replace h := h.1 c26
    refine jx_iconst (v := 0) kd774.2.2.2.2.2.2.1 (by decide) ?_
    refine jx_istore (lv1 := [(11, .int 0), (10, .int (jshl 1 r20)), (5, .int (x5 / (ji S b14 (Int32.toNatClampNeg 0)))), (9, .int (jrem x5 (ji S b14 (Int32.toNatClampNeg 0)))), (0, .ref a0), (1, .int x1), (2, .int x2), (3, .int x3), (4, .int x4), (6, .int x6), (7, .int x7), (8, .int x8)]) kd774.2.2.2.2.2.2.2.1 (by decide) rfl ?_
    refine jx_iload 0 kd774.2.2.2.2.2.2.2.2.1 rfl ?_
    refine jx_if_eq (tgt := 157) kd775.1 (by decide) (fun _ => ?_) (fun z9 => absurd z9 (by decide))
    refine jx_iconst (v := 0) kd775.2.2.2.2.2.2.1 (by decide) ?_
    refine jx_istore (lv1 := [(6, .int 0), (11, .int 0), (10, .int (jshl 1 r20)), (5, .int (x5 / (ji S b14 (Int32.toNatClampNeg 0)))), (9, .int (jrem x5 (ji S b14 (Int32.toNatClampNeg 0)))), (0, .ref a0), (1, .int x1), (2, .int x2), (3, .int x3), (4, .int x4), (7, .int x7), (8, .int x8)]) kd775.2.2.2.2.2.2.2.1 (by decide) rfl ?_
    refine jx_iload 1 kd775.2.2.2.2.2.2.2.2.1 rfl ?_
    refine jx_if_eq (tgt := 173) kd776.1 (by decide) (fun _ => ?_) (fun z9 => absurd z9 (by decide))
    refine jx_iconst (v := (-1)) kd776.2.2.2.2.2.1 (by decide) ?_
    refine jx_istore (lv1 := [(7, .int (-1)), (6, .int 0), (11, .int 0), (10, .int (jshl 1 r20)), (5, .int (x5 / (ji S b14 (Int32.toNatClampNeg 0)))), (9, .int (jrem x5 (ji S b14 (Int32.toNatClampNeg 0)))), (0, .ref a0), (1, .int x1), (2, .int x2), (3, .int x3), (4, .int x4), (8, .int x8)]) kd776.2.2.2.2.2.2.1 (by decide) rfl ?_
    refine jx_iinc 11 (v := (x8 + 1)) (lv1 := [(8, .int (x8 + 1)), (7, .int (-1)), (6, .int 0), (11, .int 0), (10, .int (jshl 1 r20)), (5, .int (x5 / (ji S b14 (Int32.toNatClampNeg 0)))), (9, .int (jrem x5 (ji S b14 (Int32.toNatClampNeg 0)))), (0, .ref a0), (1, .int x1), (2, .int x2), (3, .int x3), (4, .int x4)]) kd776.2.2.2.2.2.2.2.1 rfl rfl (by decide) rfl ?_
    refine jx_goto (tgt := 53) kd776.2.2.2.2.2.2.2.2.1 (by decide) ?_
    exact jx_lv [7, 8, 9, 10, 11, 5, 2, 1, 0] rfl h
  replace h := h.2 c26
  refine jx_iload 9 kd773.2.2.2.2.1 rfl ?_
  refine jx_iload 0 kd773.2.2.2.2.2.1 rfl ?_
  refine jx_iand kd773.2.2.2.2.2.2.1 ?_
  refine jx_if_ne (tgt := 138) kd773.2.2.2.2.2.2.2.1 (by decide) (fun c27 => ?_) (fun c27 => ?_)
  · replace h := h.2 c27
    refine jx_iconst (v := 0) kd774.2.2.2.2.2.2.1 (by decide) ?_
    refine jx_istore (lv1 := [(11, .int 0), (10, .int (jshl 1 r20)), (5, .int (x5 / (ji S b14 (Int32.toNatClampNeg 0)))), (9, .int (jrem x5 (ji S b14 (Int32.toNatClampNeg 0)))), (0, .ref a0), (1, .int x1), (2, .int x2), (3, .int x3), (4, .int x4), (6, .int x6), (7, .int x7), (8, .int x8)]) kd774.2.2.2.2.2.2.2.1 (by decide) rfl ?_
    refine jx_iload 0 kd774.2.2.2.2.2.2.2.2.1 rfl ?_
    refine jx_if_eq (tgt := 157) kd775.1 (by decide) (fun _ => ?_) (fun z9 => absurd z9 (by decide))
    refine jx_iconst (v := 0) kd775.2.2.2.2.2.2.1 (by decide) ?_
    refine jx_istore (lv1 := [(6, .int 0), (11, .int 0), (10, .int (jshl 1 r20)), (5, .int (x5 / (ji S b14 (Int32.toNatClampNeg 0)))), (9, .int (jrem x5 (ji S b14 (Int32.toNatClampNeg 0)))), (0, .ref a0), (1, .int x1), (2, .int x2), (3, .int x3), (4, .int x4), (7, .int x7), (8, .int x8)]) kd775.2.2.2.2.2.2.2.1 (by decide) rfl ?_
    refine jx_iload 1 kd775.2.2.2.2.2.2.2.2.1 rfl ?_
    refine jx_if_eq (tgt := 173) kd776.1 (by decide) (fun _ => ?_) (fun z9 => absurd z9 (by decide))
    refine jx_iconst (v := (-1)) kd776.2.2.2.2.2.1 (by decide) ?_
    refine jx_istore (lv1 := [(7, .int (-1)), (6, .int 0), (11, .int 0), (10, .int (jshl 1 r20)), (5, .int (x5 / (ji S b14 (Int32.toNatClampNeg 0)))), (9, .int (jrem x5 (ji S b14 (Int32.toNatClampNeg 0)))), (0, .ref a0), (1, .int x1), (2, .int x2), (3, .int x3), (4, .int x4), (8, .int x8)]) kd776.2.2.2.2.2.2.1 (by decide) rfl ?_
    refine jx_iinc 11 (v := (x8 + 1)) (lv1 := [(8, .int (x8 + 1)), (7, .int (-1)), (6, .int 0), (11, .int 0), (10, .int (jshl 1 r20)), (5, .int (x5 / (ji S b14 (Int32.toNatClampNeg 0)))), (9, .int (jrem x5 (ji S b14 (Int32.toNatClampNeg 0)))), (0, .ref a0), (1, .int x1), (2, .int x2), (3, .int x3), (4, .int x4)]) kd776.2.2.2.2.2.2.2.1 rfl rfl (by decide) rfl ?_
    refine jx_goto (tgt := 53) kd776.2.2.2.2.2.2.2.2.1 (by decide) ?_
    exact jx_lv [7, 8, 9, 10, 11, 5, 2, 1, 0] rfl h
  replace h := h.1 c27
  refine jx_aload_n 3 kd773.2.2.2.2.2.2.2.2.1 rfl rfl ?_
  refine jx_iload 2 kd774.1 rfl ?_
  refine jx_iload 8 kd774.2.1 rfl ?_
  obtain ⟨hk28, h⟩ := h
  refine jx_callVi (M' := mX11_teaches) (As := [.int (jrem x5 (ji S b14 (Int32.toNatClampNeg 0))), .int x6]) jo_X11_teaches jc_11 rfl jwM_X11_122 jwN_X11_teaches jwX_X11_teaches kd774.2.2.1 (jRok_m _ _ _) rfl (jle rfl) ⟨jle rfl, jle rfl⟩ hk28 h (fun r30 S29 h => ?_)
  refine jx_if_eq (tgt := 138) kd774.2.2.2.1 (by decide) (fun c31 => ?_) (fun c31 => ?_)
  · replace h := h.1 c31
    refine jx_iconst (v := 0) kd774.2.2.2.2.2.2.1 (by decide) ?_
    refine jx_istore (lv1 := [(11, .int 0), (10, .int (jshl 1 r20)), (5, .int (x5 / (ji S b14 (Int32.toNatClampNeg 0)))), (9, .int (jrem x5 (ji S b14 (Int32.toNatClampNeg 0)))), (0, .ref a0), (1, .int x1), (2, .int x2), (3, .int x3), (4, .int x4), (6, .int x6), (7, .int x7), (8, .int x8)]) kd774.2.2.2.2.2.2.2.1 (by decide) rfl ?_
    refine jx_iload 0 kd774.2.2.2.2.2.2.2.2.1 rfl ?_
    refine jx_if_eq (tgt := 157) kd775.1 (by decide) (fun _ => ?_) (fun z9 => absurd z9 (by decide))
    refine jx_iconst (v := 0) kd775.2.2.2.2.2.2.1 (by decide) ?_
    refine jx_istore (lv1 := [(6, .int 0), (11, .int 0), (10, .int (jshl 1 r20)), (5, .int (x5 / (ji S b14 (Int32.toNatClampNeg 0)))), (9, .int (jrem x5 (ji S b14 (Int32.toNatClampNeg 0)))), (0, .ref a0), (1, .int x1), (2, .int x2), (3, .int x3), (4, .int x4), (7, .int x7), (8, .int x8)]) kd775.2.2.2.2.2.2.2.1 (by decide) rfl ?_
    refine jx_iload 1 kd775.2.2.2.2.2.2.2.2.1 rfl ?_
    refine jx_if_eq (tgt := 173) kd776.1 (by decide) (fun _ => ?_) (fun z9 => absurd z9 (by decide))
    refine jx_iconst (v := (-1)) kd776.2.2.2.2.2.1 (by decide) ?_
    refine jx_istore (lv1 := [(7, .int (-1)), (6, .int 0), (11, .int 0), (10, .int (jshl 1 r20)), (5, .int (x5 / (ji S b14 (Int32.toNatClampNeg 0)))), (9, .int (jrem x5 (ji S b14 (Int32.toNatClampNeg 0)))), (0, .ref a0), (1, .int x1), (2, .int x2), (3, .int x3), (4, .int x4), (8, .int x8)]) kd776.2.2.2.2.2.2.1 (by decide) rfl ?_
    refine jx_iinc 11 (v := (x8 + 1)) (lv1 := [(8, .int (x8 + 1)), (7, .int (-1)), (6, .int 0), (11, .int 0), (10, .int (jshl 1 r20)), (5, .int (x5 / (ji S b14 (Int32.toNatClampNeg 0)))), (9, .int (jrem x5 (ji S b14 (Int32.toNatClampNeg 0)))), (0, .ref a0), (1, .int x1), (2, .int x2), (3, .int x3), (4, .int x4)]) kd776.2.2.2.2.2.2.2.1 rfl rfl (by decide) rfl ?_
    refine jx_goto (tgt := 53) kd776.2.2.2.2.2.2.2.2.1 (by decide) ?_
    exact jx_lv [7, 8, 9, 10, 11, 5, 2, 1, 0] rfl h
  replace h := h.2 c31
  refine jx_iconst (v := 1) kd774.2.2.2.2.1 (by decide) ?_
  refine jx_goto (tgt := 139) kd774.2.2.2.2.2.1 (by decide) ?_
  refine jx_istore (lv1 := [(11, .int 1), (10, .int (jshl 1 r20)), (5, .int (x5 / (ji S b14 (Int32.toNatClampNeg 0)))), (9, .int (jrem x5 (ji S b14 (Int32.toNatClampNeg 0)))), (0, .ref a0), (1, .int x1), (2, .int x2), (3, .int x3), (4, .int x4), (6, .int x6), (7, .int x7), (8, .int x8)]) kd774.2.2.2.2.2.2.2.1 (by decide) rfl ?_
  refine jx_iload 0 kd774.2.2.2.2.2.2.2.2.1 rfl ?_
  refine jx_if_eq (tgt := 157) kd775.1 (by decide) (fun z9 => absurd z9 (by decide)) (fun _ => ?_)
  refine jx_aload_n 4 kd775.2.1 rfl rfl ?_
  refine jx_iload 3 kd775.2.2.1 rfl ?_
  refine jx_iload 9 kd775.2.2.2.1 rfl ?_
  obtain ⟨hk32, h⟩ := h
  refine jx_callVi (M' := mX11_behindLesson) (As := [.int (jrem x5 (ji S b14 (Int32.toNatClampNeg 0))), .int x6]) jo_X11_behindLesson jc_11 rfl jwM_X11_158 jwN_X11_behindLesson jwX_X11_behindLesson kd775.2.2.2.2.1 (jRok_m _ _ _) rfl (jle rfl) ⟨jle rfl, jle rfl⟩ hk32 h (fun r34 S33 h => ?_)
  refine jx_goto (tgt := 158) kd775.2.2.2.2.2.1 (by decide) ?_
  refine jx_istore (lv1 := [(6, .int r34), (11, .int 1), (10, .int (jshl 1 r20)), (5, .int (x5 / (ji S b14 (Int32.toNatClampNeg 0)))), (9, .int (jrem x5 (ji S b14 (Int32.toNatClampNeg 0)))), (0, .ref a0), (1, .int x1), (2, .int x2), (3, .int x3), (4, .int x4), (7, .int x7), (8, .int x8)]) kd775.2.2.2.2.2.2.2.1 (by decide) rfl ?_
  refine jx_iload 1 kd775.2.2.2.2.2.2.2.2.1 rfl ?_
  refine jx_if_eq (tgt := 173) kd776.1 (by decide) (fun z9 => absurd z9 (by decide)) (fun _ => ?_)
  refine jx_iload 10 kd776.2.1 rfl ?_
  refine jx_iload 2 kd776.2.2.1 rfl ?_
  refine jx_ior kd776.2.2.2.1 ?_
  refine jx_goto (tgt := 174) kd776.2.2.2.2.1 (by decide) ?_
  refine jx_istore (lv1 := [(7, .int (x7 ||| (jshl 1 r20))), (6, .int r34), (11, .int 1), (10, .int (jshl 1 r20)), (5, .int (x5 / (ji S b14 (Int32.toNatClampNeg 0)))), (9, .int (jrem x5 (ji S b14 (Int32.toNatClampNeg 0)))), (0, .ref a0), (1, .int x1), (2, .int x2), (3, .int x3), (4, .int x4), (8, .int x8)]) kd776.2.2.2.2.2.2.1 (by decide) rfl ?_
  refine jx_iinc 11 (v := (x8 + 1)) (lv1 := [(8, .int (x8 + 1)), (7, .int (x7 ||| (jshl 1 r20))), (6, .int r34), (11, .int 1), (10, .int (jshl 1 r20)), (5, .int (x5 / (ji S b14 (Int32.toNatClampNeg 0)))), (9, .int (jrem x5 (ji S b14 (Int32.toNatClampNeg 0)))), (0, .ref a0), (1, .int x1), (2, .int x2), (3, .int x3), (4, .int x4)]) kd776.2.2.2.2.2.2.2.1 rfl rfl (by decide) rfl ?_
  refine jx_goto (tgt := 53) kd776.2.2.2.2.2.2.2.2.1 (by decide) ?_
  exact jx_lv [7, 8, 9, 10, 11, 5, 2, 1, 0] rfl h
set_option maxRecDepth 100000 in
set_option maxHeartbeats 4000000 in
theorem T_X11_together {E : jEnv} {d : Nat} {Q : Int32 → jM → Prop} {a0 : Nat} {x1 : Int32} {S : jM} (h : ((jisin (Int32.toInt64 x1) 0 1023) = 0 → Q (-1000000001) S) ∧ (¬ (jisin (Int32.toInt64 x1) 0 1023) = 0 → ((jmany x1) ≤ 3 → jk S a0 = 11 ∧ jFi E mX11_areTogether d 0 0 [.ref a0, .int x1] S (fun r11 S10 => (r11 = 0 → Q 0 S10) ∧ (¬ r11 = 0 → Q 1 S10))) ∧ (¬ (jmany x1) ≤ 3 → Q (-1000000001) S))) : jFi E mX11_together (d + 1) 0 0 [.ref a0, .int x1] S Q := by
  refine jF_of (by decide) (jle rfl) ?_
  refine jx_lv (lv1 := [(0, .ref a0), (1, .int x1)]) [0, 1] rfl ?_
  refine jx_iload_n 1 kd779.1 rfl rfl ?_
  refine jx_i2l kd779.2.1 ?_
  refine jx_lconst (v := 0) kd779.2.2.1 (by decide) ?_
  refine jx_ldc2 jwL_X11_198 kd779.2.2.2.1 ?_
  refine jx_callSi (M' := mX11_isIn) (As := [.long (Int32.toInt64 x1), .long 0, .long 1023]) jo_X11_isIn jwM_X11_71 jwS_X11_isIn kd779.2.2.2.2.1 (jRok_m _ _ _) rfl (jle rfl) ⟨jle rfl, jle rfl⟩ (c_X11_isIn (Q := fun v S' => v = (jisin (Int32.toInt64 x1) 0 1023) ∧ S = S') ⟨rfl, rfl⟩) (fun r1 S2 hq3 => ?_)
  obtain ⟨rfl, rfl⟩ := hq3
  refine jx_if_eq (tgt := 20) kd779.2.2.2.2.2.1 (by decide) (fun c4 => ?_) (fun c4 => ?_)
  · replace h := h.1 c4
    refine jx_ldc jwC_X11_87 kd780.2.1 ?_
    exact jx_iret kd780.2.2.1 rfl rfl (jle rfl) (jle rfl) ⟨_, rfl, h⟩
  replace h := h.2 c4
  refine jx_iload_n 1 kd779.2.2.2.2.2.2.1 rfl rfl ?_
  refine jx_callSi (M' := mX11_manyIn) (As := [.int x1]) jo_X11_manyIn jwM_X11_108 jwS_X11_manyIn kd779.2.2.2.2.2.2.2.1 (jRok_m _ _ _) rfl (jle rfl) ⟨jle rfl, jle rfl⟩ (c_X11_manyIn (Q := fun v S' => v = (jmany x1) ∧ S = S') ⟨rfl, rfl⟩) (fun r5 S6 hq7 => ?_)
  obtain ⟨rfl, rfl⟩ := hq7
  refine jx_iconst (v := 3) kd779.2.2.2.2.2.2.2.2.1 (by decide) ?_
  refine jx_icmp_le (tgt := 23) kd780.1 (by decide) (fun c8 => ?_) (fun c8 => ?_)
  · replace h := h.1 c8
    refine jx_aload_n 0 kd780.2.2.2.1 rfl rfl ?_
    refine jx_iload_n 1 kd780.2.2.2.2.1 rfl rfl ?_
    obtain ⟨hk9, h⟩ := h
    refine jx_callVi (M' := mX11_areTogether) (As := [.int x1]) jo_X11_areTogether jc_11 rfl jwM_X11_200 jwN_X11_areTogether jwX_X11_areTogether kd780.2.2.2.2.2.1 (jRok_m _ _ _) rfl (jle rfl) ⟨jle rfl, jle rfl⟩ hk9 h (fun r11 S10 h => ?_)
    refine jx_if_eq (tgt := 35) kd780.2.2.2.2.2.2.1 (by decide) (fun c12 => ?_) (fun c12 => ?_)
    · replace h := h.1 c12
      refine jx_iconst (v := 0) kd781.1 (by decide) ?_
      exact jx_iret kd781.2.1 rfl rfl (jle rfl) (jle rfl) ⟨_, rfl, h⟩
    replace h := h.2 c12
    refine jx_iconst (v := 1) kd780.2.2.2.2.2.2.2.1 (by decide) ?_
    refine jx_goto (tgt := 36) kd780.2.2.2.2.2.2.2.2.1 (by decide) ?_
    exact jx_iret kd781.2.1 rfl rfl (jle rfl) (jle rfl) ⟨_, rfl, h⟩
  replace h := h.2 c8
  refine jx_ldc jwC_X11_87 kd780.2.1 ?_
  exact jx_iret kd780.2.2.1 rfl rfl (jle rfl) (jle rfl) ⟨_, rfl, h⟩
end
section
/-- X11_taughtNow at its loop's head 4 -/
abbrev L_X11_taughtNow_4 (E : jEnv) (d : Nat) (Q : Int32 → jM → Prop) (a0 : Nat) (x1 : Int32) (x2 : Int32) (S : jM) : Prop := jX E mX11_taughtNow (jRm (d + 1) 0 0) (jZm E (fun r S' => ∃ v : Int32, r = some (.int v) ∧ Q v S') 0 0) 4 [(0, .ref a0), (1, .int x1), (2, .int x2)] [] S 0 0
set_option maxRecDepth 100000 in
set_option maxHeartbeats 4000000 in
theorem T_X11_taughtNow {E : jEnv} {d : Nat} {Q : Int32 → jM → Prop} {a0 : Nat} {S : jM} (h : L_X11_taughtNow_4 E d Q a0 0 0 S) : jFi E mX11_taughtNow (d + 1) 0 0 [.ref a0] S Q := by
  refine jF_of (by decide) (jle rfl) ?_
  refine jx_lv (lv1 := [(0, .ref a0)]) [0] rfl ?_
  refine jx_iconst (v := 0) kd782.1 (by decide) ?_
  refine jx_istore_n (lv1 := [(1, .int 0), (0, .ref a0)]) kd782.2.1 rfl (by decide) rfl ?_
  refine jx_iconst (v := 0) kd782.2.2.1 (by decide) ?_
  refine jx_istore_n (lv1 := [(2, .int 0), (1, .int 0), (0, .ref a0)]) kd782.2.2.2.1 rfl (by decide) rfl ?_
  exact jx_lv [2, 1, 0] rfl h
set_option maxRecDepth 100000 in
set_option maxHeartbeats 4000000 in
theorem T_X11_taughtNow_4 {E : jEnv} {d : Nat} {Q : Int32 → jM → Prop} {a0 : Nat} {x1 : Int32} {x2 : Int32} {S : jM} (h : jk S a0 = 11 ∧ ∃ b2, jr S a0 0 = some b2 ∧ (jk S b2 = 12 ∧ vp_in 0 (jl S b2) ∧ (((ji S b2 (Int32.toNatClampNeg 0)) ≤ x2 → Q x1 S) ∧ (¬ (ji S b2 (Int32.toNatClampNeg 0)) ≤ x2 → jFi E mX11_of d 0 0 [.ref a0, .int x2, .int 6] S (fun r7 S6 => (r7 = 0 → jk S6 a0 = 11 ∧ jFi E mX11_of d 0 0 [.ref a0, .int x2, .int 2] S6 (fun r11 S10 => L_X11_taughtNow_4 E d Q a0 (x1 ||| (jshl 1 r11)) (x2 + 1) S10)) ∧ (¬ r7 = 0 → L_X11_taughtNow_4 E d Q a0 (x1 ||| 0) (x2 + 1) S6)))))) : L_X11_taughtNow_4 E d Q a0 x1 x2 S := by
  show jX E mX11_taughtNow (jRm (d + 1) 0 0) (jZm E (fun r S' => ∃ v : Int32, r = some (.int v) ∧ Q v S') 0 0) 4 [(0, .ref a0), (1, .int x1), (2, .int x2)] [] S 0 0
  refine jx_iload_n 2 kd782.2.2.2.2.1 rfl rfl ?_
  refine jx_aload_n 0 kd782.2.2.2.2.2.1 rfl rfl ?_
  obtain ⟨hk1, h⟩ := h
  obtain ⟨b2, hb2, h⟩ := h
  refine jx_getr jc_11 (j := 0) (by decide) rfl jwF_X11_7 kd782.2.2.2.2.2.2.1 hk1 hb2 ?_
  refine jx_iconst (v := 0) kd782.2.2.2.2.2.2.2.1 (by decide) ?_
  obtain ⟨hk3, h⟩ := h
  obtain ⟨hi4, h⟩ := h
  refine jx_iald kd782.2.2.2.2.2.2.2.2.1 hk3 hi4 ?_
  refine jx_icmp_ge (tgt := 45) kd783.1 (by decide) (fun c5 => ?_) (fun c5 => ?_)
  · replace h := h.1 c5
    refine jx_iload_n 1 kd785.2.1 rfl rfl ?_
    exact jx_iret kd785.2.2.1 rfl rfl (jle rfl) (jle rfl) ⟨_, rfl, h⟩
  replace h := h.2 c5
  refine jx_iload_n 1 kd783.2.1 rfl rfl ?_
  refine jx_aload_n 0 kd783.2.2.1 rfl rfl ?_
  refine jx_iload_n 2 kd783.2.2.2.1 rfl rfl ?_
  refine jx_bipush (v := 6) kd783.2.2.2.2.1 (by decide) ?_
  refine jx_callVi (M' := mX11_of) (As := [.int x2, .int 6]) jo_X11_of jc_11 rfl jwM_X11_97 jwN_X11_of jwX_X11_of kd783.2.2.2.2.2.1 (jRok_m _ _ _) rfl (jle rfl) ⟨jle rfl, jle rfl⟩ hk1 h (fun r7 S6 h => ?_)
  refine jx_if_ne (tgt := 36) kd783.2.2.2.2.2.2.1 (by decide) (fun c8 => ?_) (fun c8 => ?_)
  · replace h := h.2 c8
    refine jx_iconst (v := 0) kd784.2.2.2.2.2.1 (by decide) ?_
    refine jx_ior kd784.2.2.2.2.2.2.1 ?_
    refine jx_istore_n (lv1 := [(1, .int (x1 ||| 0)), (0, .ref a0), (2, .int x2)]) kd784.2.2.2.2.2.2.2.1 rfl (by decide) rfl ?_
    refine jx_iinc 2 (v := (x2 + 1)) (lv1 := [(2, .int (x2 + 1)), (1, .int (x1 ||| 0)), (0, .ref a0)]) kd784.2.2.2.2.2.2.2.2.1 rfl rfl (by decide) rfl ?_
    refine jx_goto (tgt := 4) kd785.1 (by decide) ?_
    exact jx_lv [2, 1, 0] rfl h
  replace h := h.1 c8
  refine jx_iconst (v := 1) kd783.2.2.2.2.2.2.2.1 (by decide) ?_
  refine jx_aload_n 0 kd783.2.2.2.2.2.2.2.2.1 rfl rfl ?_
  refine jx_iload_n 2 kd784.1 rfl rfl ?_
  refine jx_iconst (v := 2) kd784.2.1 (by decide) ?_
  obtain ⟨hk9, h⟩ := h
  refine jx_callVi (M' := mX11_of) (As := [.int x2, .int 2]) jo_X11_of jc_11 rfl jwM_X11_97 jwN_X11_of jwX_X11_of kd784.2.2.1 (jRok_m _ _ _) rfl (jle rfl) ⟨jle rfl, jle rfl⟩ hk9 h (fun r11 S10 h => ?_)
  refine jx_ishl kd784.2.2.2.1 ?_
  refine jx_goto (tgt := 37) kd784.2.2.2.2.1 (by decide) ?_
  refine jx_ior kd784.2.2.2.2.2.2.1 ?_
  refine jx_istore_n (lv1 := [(1, .int (x1 ||| (jshl 1 r11))), (0, .ref a0), (2, .int x2)]) kd784.2.2.2.2.2.2.2.1 rfl (by decide) rfl ?_
  refine jx_iinc 2 (v := (x2 + 1)) (lv1 := [(2, .int (x2 + 1)), (1, .int (x1 ||| (jshl 1 r11))), (0, .ref a0)]) kd784.2.2.2.2.2.2.2.2.1 rfl rfl (by decide) rfl ?_
  refine jx_goto (tgt := 4) kd785.1 (by decide) ?_
  exact jx_lv [2, 1, 0] rfl h
/-- X11_never at its loop's head 7 -/
abbrev L_X11_never_7 (E : jEnv) (d : Nat) (Q : Int32 → jM → Prop) (a0 : Nat) (x1 : Int32) (x2 : Int32) (S : jM) : Prop := jX E mX11_never (jRm (d + 1) 0 0) (jZm E (fun r S' => ∃ v : Int32, r = some (.int v) ∧ Q v S') 0 0) 7 [(0, .ref a0), (1, .int x1), (2, .int x2)] [] S 0 0
/-- X11_never at its loop's head 17 -/
abbrev L_X11_never_17 (E : jEnv) (d : Nat) (Q : Int32 → jM → Prop) (a0 : Nat) (x1 : Int32) (x2 : Int32) (x3 : Int32) (S : jM) : Prop := jX E mX11_never (jRm (d + 1) 0 0) (jZm E (fun r S' => ∃ v : Int32, r = some (.int v) ∧ Q v S') 0 0) 17 [(0, .ref a0), (1, .int x1), (2, .int x2), (3, .int x3)] [] S 0 0
set_option maxRecDepth 100000 in
set_option maxHeartbeats 4000000 in
theorem T_X11_never {E : jEnv} {d : Nat} {Q : Int32 → jM → Prop} {a0 : Nat} {S : jM} (h : jk S a0 = 11 ∧ jFi E mX11_taughtNow d 0 0 [.ref a0] S (fun r3 S2 => L_X11_never_7 E d Q a0 r3 0 S2)) : jFi E mX11_never (d + 1) 0 0 [.ref a0] S Q := by
  refine jF_of (by decide) (jle rfl) ?_
  refine jx_lv (lv1 := [(0, .ref a0)]) [0] rfl ?_
  refine jx_aload_n 0 kd786.1 rfl rfl ?_
  obtain ⟨hk1, h⟩ := h
  refine jx_callVi (M' := mX11_taughtNow) (As := []) jo_X11_taughtNow jc_11 rfl jwM_X11_203 jwN_X11_taughtNow jwX_X11_taughtNow kd786.2.1 (jRok_m _ _ _) rfl (jle rfl) ⟨jle rfl, jle rfl⟩ hk1 h (fun r3 S2 h => ?_)
  refine jx_istore_n (lv1 := [(1, .int r3), (0, .ref a0)]) kd786.2.2.1 rfl (by decide) rfl ?_
  refine jx_iconst (v := 0) kd786.2.2.2.1 (by decide) ?_
  refine jx_istore_n (lv1 := [(2, .int 0), (1, .int r3), (0, .ref a0)]) kd786.2.2.2.2.1 rfl (by decide) rfl ?_
  exact jx_lv [2, 1, 0] rfl h
set_option maxRecDepth 100000 in
set_option maxHeartbeats 4000000 in
theorem T_X11_never_7 {E : jEnv} {d : Nat} {Q : Int32 → jM → Prop} {a0 : Nat} {x1 : Int32} {x2 : Int32} {S : jM} (h : (10 ≤ x2 → Q (-1000000005) S) ∧ (¬ 10 ≤ x2 → L_X11_never_17 E d Q a0 x1 x2 (x2 + 1) S)) : L_X11_never_7 E d Q a0 x1 x2 S := by
  show jX E mX11_never (jRm (d + 1) 0 0) (jZm E (fun r S' => ∃ v : Int32, r = some (.int v) ∧ Q v S') 0 0) 7 [(0, .ref a0), (1, .int x1), (2, .int x2)] [] S 0 0
  refine jx_iload_n 2 kd786.2.2.2.2.2.1 rfl rfl ?_
  refine jx_bipush (v := 10) kd786.2.2.2.2.2.2.1 (by decide) ?_
  refine jx_icmp_ge (tgt := 69) kd786.2.2.2.2.2.2.2.1 (by decide) (fun c4 => ?_) (fun c4 => ?_)
  · replace h := h.1 c4
    refine jx_ldc jwC_X11_70 kd790.2.2.2.2.2.2.1 ?_
    exact jx_iret kd790.2.2.2.2.2.2.2.1 rfl rfl (jle rfl) (jle rfl) ⟨_, rfl, h⟩
  replace h := h.2 c4
  refine jx_iload_n 2 kd786.2.2.2.2.2.2.2.2.1 rfl rfl ?_
  refine jx_iconst (v := 1) kd787.1 (by decide) ?_
  refine jx_iadd kd787.2.1 ?_
  refine jx_istore_n (lv1 := [(3, .int (x2 + 1)), (0, .ref a0), (1, .int x1), (2, .int x2)]) kd787.2.2.1 rfl (by decide) rfl ?_
  exact jx_lv [1, 2, 3, 0] rfl h
set_option maxRecDepth 100000 in
set_option maxHeartbeats 4000000 in
theorem T_X11_never_17 {E : jEnv} {d : Nat} {Q : Int32 → jM → Prop} {a0 : Nat} {x1 : Int32} {x2 : Int32} {x3 : Int32} {S : jM} (h : (10 ≤ x3 → L_X11_never_7 E d Q a0 x1 (x2 + 1) S) ∧ (¬ 10 ≤ x3 → ((x1 &&& ((jshl 1 x2) ||| (jshl 1 x3))) = ((jshl 1 x2) ||| (jshl 1 x3)) → jk S a0 = 11 ∧ jFi E mX11_areTogether d 0 0 [.ref a0, .int ((jshl 1 x2) ||| (jshl 1 x3))] S (fun r9 S8 => (r9 = 0 → Q ((10 * x2) + x3) S8) ∧ (¬ r9 = 0 → L_X11_never_17 E d Q a0 x1 x2 (x3 + 1) S8))) ∧ (¬ (x1 &&& ((jshl 1 x2) ||| (jshl 1 x3))) = ((jshl 1 x2) ||| (jshl 1 x3)) → L_X11_never_17 E d Q a0 x1 x2 (x3 + 1) S))) : L_X11_never_17 E d Q a0 x1 x2 x3 S := by
  show jX E mX11_never (jRm (d + 1) 0 0) (jZm E (fun r S' => ∃ v : Int32, r = some (.int v) ∧ Q v S') 0 0) 17 [(0, .ref a0), (1, .int x1), (2, .int x2), (3, .int x3)] [] S 0 0
  refine jx_iload_n 3 kd787.2.2.2.1 rfl rfl ?_
  refine jx_bipush (v := 10) kd787.2.2.2.2.1 (by decide) ?_
  refine jx_icmp_ge (tgt := 63) kd787.2.2.2.2.2.1 (by decide) (fun c5 => ?_) (fun c5 => ?_)
  · replace h := h.1 c5
    refine jx_iinc 2 (v := (x2 + 1)) (lv1 := [(2, .int (x2 + 1)), (0, .ref a0), (1, .int x1), (3, .int x3)]) kd790.2.2.2.2.1 rfl rfl (by decide) rfl ?_
    refine jx_goto (tgt := 7) kd790.2.2.2.2.2.1 (by decide) ?_
    exact jx_lv [1, 2, 0] rfl h
  replace h := h.2 c5
  refine jx_iconst (v := 1) kd787.2.2.2.2.2.2.1 (by decide) ?_
  refine jx_iload_n 2 kd787.2.2.2.2.2.2.2.1 rfl rfl ?_
  refine jx_ishl kd787.2.2.2.2.2.2.2.2.1 ?_
  refine jx_iconst (v := 1) kd788.1 (by decide) ?_
  refine jx_iload_n 3 kd788.2.1 rfl rfl ?_
  refine jx_ishl kd788.2.2.1 ?_
  refine jx_ior kd788.2.2.2.1 ?_
  refine jx_istore (lv1 := [(4, .int ((jshl 1 x2) ||| (jshl 1 x3))), (0, .ref a0), (1, .int x1), (2, .int x2), (3, .int x3)]) kd788.2.2.2.2.1 (by decide) rfl ?_
  refine jx_iload_n 2 kd788.2.2.2.2.2.1 rfl rfl ?_
  refine jx_iload 0 kd788.2.2.2.2.2.2.1 rfl ?_
  refine jx_iand kd788.2.2.2.2.2.2.2.1 ?_
  refine jx_iload 0 kd788.2.2.2.2.2.2.2.2.1 rfl ?_
  refine jx_icmp_ne (tgt := 57) kd789.1 (by decide) (fun c6 => ?_) (fun c6 => ?_)
  · replace h := h.2 c6
    refine jx_iinc 4 (v := (x3 + 1)) (lv1 := [(3, .int (x3 + 1)), (4, .int ((jshl 1 x2) ||| (jshl 1 x3))), (0, .ref a0), (1, .int x1), (2, .int x2)]) kd790.2.2.1 rfl rfl (by decide) rfl ?_
    refine jx_goto (tgt := 17) kd790.2.2.2.1 (by decide) ?_
    exact jx_lv [2, 3, 4, 0] rfl h
  replace h := h.1 c6
  refine jx_aload_n 1 kd789.2.1 rfl rfl ?_
  refine jx_iload 0 kd789.2.2.1 rfl ?_
  obtain ⟨hk7, h⟩ := h
  refine jx_callVi (M' := mX11_areTogether) (As := [.int ((jshl 1 x2) ||| (jshl 1 x3))]) jo_X11_areTogether jc_11 rfl jwM_X11_200 jwN_X11_areTogether jwX_X11_areTogether kd789.2.2.2.1 (jRok_m _ _ _) rfl (jle rfl) ⟨jle rfl, jle rfl⟩ hk7 h (fun r9 S8 h => ?_)
  refine jx_if_ne (tgt := 57) kd789.2.2.2.2.1 (by decide) (fun c10 => ?_) (fun c10 => ?_)
  · replace h := h.2 c10
    refine jx_iinc 4 (v := (x3 + 1)) (lv1 := [(3, .int (x3 + 1)), (4, .int ((jshl 1 x2) ||| (jshl 1 x3))), (0, .ref a0), (1, .int x1), (2, .int x2)]) kd790.2.2.1 rfl rfl (by decide) rfl ?_
    refine jx_goto (tgt := 17) kd790.2.2.2.1 (by decide) ?_
    exact jx_lv [2, 3, 4, 0] rfl h
  replace h := h.1 c10
  refine jx_bipush (v := 10) kd789.2.2.2.2.2.1 (by decide) ?_
  refine jx_iload_n 3 kd789.2.2.2.2.2.2.1 rfl rfl ?_
  refine jx_imul kd789.2.2.2.2.2.2.2.1 ?_
  refine jx_iload_n 4 kd789.2.2.2.2.2.2.2.2.1 rfl rfl ?_
  refine jx_iadd kd790.1 ?_
  exact jx_iret kd790.2.1 rfl rfl (jle rfl) (jle rfl) ⟨_, rfl, h⟩
/-- X11_last at its loop's head 17 -/
abbrev L_X11_last_17 (E : jEnv) (d : Nat) (Q : Int32 → jM → Prop) (a0 : Nat) (x1 : Int32) (x2 : Int32) (x3 : Int32) (x4 : Int32) (S : jM) : Prop := jX E mX11_last (jRm (d + 1) 0 0) (jZm E (fun r S' => ∃ v : Int32, r = some (.int v) ∧ Q v S') 0 0) 17 [(0, .ref a0), (1, .int x1), (2, .int x2), (3, .int x3), (4, .int x4)] [] S 0 0
set_option maxRecDepth 100000 in
set_option maxHeartbeats 4000000 in
theorem T_X11_last {E : jEnv} {d : Nat} {Q : Int32 → jM → Prop} {a0 : Nat} {x1 : Int32} {S : jM} (h : ((jisg x1) = 0 → Q (-1000000001) S) ∧ (¬ (jisg x1) = 0 → L_X11_last_17 E d Q a0 x1 (-1) 0 0 S)) : jFi E mX11_last (d + 1) 0 0 [.ref a0, .int x1] S Q := by
  refine jF_of (by decide) (jle rfl) ?_
  refine jx_lv (lv1 := [(0, .ref a0), (1, .int x1)]) [0, 1] rfl ?_
  refine jx_iload_n 1 kd791.1 rfl rfl ?_
  refine jx_callSi (M' := mX11_isGesture) (As := [.int x1]) jo_X11_isGesture jwM_X11_82 jwS_X11_isGesture kd791.2.1 (jRok_m _ _ _) rfl (jle rfl) ⟨jle rfl, jle rfl⟩ (c_X11_isGesture (Q := fun v S' => v = (jisg x1) ∧ S = S') ⟨rfl, rfl⟩) (fun r1 S2 hq3 => ?_)
  obtain ⟨rfl, rfl⟩ := hq3
  refine jx_if_ne (tgt := 10) kd791.2.2.1 (by decide) (fun c4 => ?_) (fun c4 => ?_)
  · replace h := h.2 c4
    refine jx_iconst (v := (-1)) kd791.2.2.2.2.2.1 (by decide) ?_
    refine jx_istore_n (lv1 := [(2, .int (-1)), (0, .ref a0), (1, .int x1)]) kd791.2.2.2.2.2.2.1 rfl (by decide) rfl ?_
    refine jx_iconst (v := 0) kd791.2.2.2.2.2.2.2.1 (by decide) ?_
    refine jx_istore_n (lv1 := [(3, .int 0), (2, .int (-1)), (0, .ref a0), (1, .int x1)]) kd791.2.2.2.2.2.2.2.2.1 rfl (by decide) rfl ?_
    refine jx_iconst (v := 0) kd792.1 (by decide) ?_
    refine jx_istore (lv1 := [(4, .int 0), (3, .int 0), (2, .int (-1)), (0, .ref a0), (1, .int x1)]) kd792.2.1 (by decide) rfl ?_
    exact jx_lv [3, 4, 2, 1, 0] rfl h
  replace h := h.1 c4
  refine jx_ldc jwC_X11_87 kd791.2.2.2.1 ?_
  exact jx_iret kd791.2.2.2.2.1 rfl rfl (jle rfl) (jle rfl) ⟨_, rfl, h⟩
set_option maxRecDepth 100000 in
set_option maxHeartbeats 4000000 in
theorem T_X11_last_17 {E : jEnv} {d : Nat} {Q : Int32 → jM → Prop} {a0 : Nat} {x1 : Int32} {x2 : Int32} {x3 : Int32} {x4 : Int32} {S : jM} (h : jk S a0 = 11 ∧ ∃ b6, jr S a0 0 = some b6 ∧ (jk S b6 = 12 ∧ vp_in 0 (jl S b6) ∧ (((ji S b6 (Int32.toNatClampNeg 0)) ≤ x4 → (x3 = 1 → Q x2 S) ∧ (¬ x3 = 1 → Q (-1000000005) S)) ∧ (¬ (ji S b6 (Int32.toNatClampNeg 0)) ≤ x4 → jFi E mX11_of d 0 0 [.ref a0, .int x4, .int 6] S (fun r12 S11 => (r12 = 0 → jk S11 a0 = 11 ∧ jFi E mX11_of d 0 0 [.ref a0, .int x4, .int 2] S11 (fun r16 S15 => (r16 = x1 → L_X11_last_17 E d Q a0 x1 x4 (x3 + 1) (x4 + 1) S15) ∧ (¬ r16 = x1 → L_X11_last_17 E d Q a0 x1 x2 x3 (x4 + 1) S15))) ∧ (¬ r12 = 0 → L_X11_last_17 E d Q a0 x1 x2 x3 (x4 + 1) S11)))))) : L_X11_last_17 E d Q a0 x1 x2 x3 x4 S := by
  show jX E mX11_last (jRm (d + 1) 0 0) (jZm E (fun r S' => ∃ v : Int32, r = some (.int v) ∧ Q v S') 0 0) 17 [(0, .ref a0), (1, .int x1), (2, .int x2), (3, .int x3), (4, .int x4)] [] S 0 0
  refine jx_iload 4 kd792.2.2.1 rfl ?_
  refine jx_aload_n 0 kd792.2.2.2.1 rfl rfl ?_
  obtain ⟨hk5, h⟩ := h
  obtain ⟨b6, hb6, h⟩ := h
  refine jx_getr jc_11 (j := 0) (by decide) rfl jwF_X11_7 kd792.2.2.2.2.1 hk5 hb6 ?_
  refine jx_iconst (v := 0) kd792.2.2.2.2.2.1 (by decide) ?_
  obtain ⟨hk7, h⟩ := h
  obtain ⟨hi8, h⟩ := h
  refine jx_iald kd792.2.2.2.2.2.2.1 hk7 hi8 ?_
  refine jx_icmp_ge (tgt := 62) kd792.2.2.2.2.2.2.2.1 (by decide) (fun c9 => ?_) (fun c9 => ?_)
  · replace h := h.1 c9
    refine jx_iload_n 3 kd794.2.2.2.2.2.2.1 rfl rfl ?_
    refine jx_iconst (v := 1) kd794.2.2.2.2.2.2.2.1 (by decide) ?_
    refine jx_icmp_ne (tgt := 71) kd794.2.2.2.2.2.2.2.2.1 (by decide) (fun c10 => ?_) (fun c10 => ?_)
    · replace h := h.2 c10
      refine jx_ldc jwC_X11_70 kd795.2.2.1 ?_
      exact jx_iret kd795.2.2.2.1 rfl rfl (jle rfl) (jle rfl) ⟨_, rfl, h⟩
    replace h := h.1 c10
    refine jx_iload_n 2 kd795.1 rfl rfl ?_
    refine jx_goto (tgt := 73) kd795.2.1 (by decide) ?_
    exact jx_iret kd795.2.2.2.1 rfl rfl (jle rfl) (jle rfl) ⟨_, rfl, h⟩
  replace h := h.2 c9
  refine jx_aload_n 0 kd792.2.2.2.2.2.2.2.2.1 rfl rfl ?_
  refine jx_iload 4 kd793.1 rfl ?_
  refine jx_bipush (v := 6) kd793.2.1 (by decide) ?_
  refine jx_callVi (M' := mX11_of) (As := [.int x4, .int 6]) jo_X11_of jc_11 rfl jwM_X11_97 jwN_X11_of jwX_X11_of kd793.2.2.1 (jRok_m _ _ _) rfl (jle rfl) ⟨jle rfl, jle rfl⟩ hk5 h (fun r12 S11 h => ?_)
  refine jx_if_ne (tgt := 56) kd793.2.2.2.1 (by decide) (fun c13 => ?_) (fun c13 => ?_)
  · replace h := h.2 c13
    refine jx_iinc 4 (v := (x4 + 1)) (lv1 := [(4, .int (x4 + 1)), (0, .ref a0), (1, .int x1), (2, .int x2), (3, .int x3)]) kd794.2.2.2.2.1 rfl rfl (by decide) rfl ?_
    refine jx_goto (tgt := 17) kd794.2.2.2.2.2.1 (by decide) ?_
    exact jx_lv [1, 2, 3, 4, 0] rfl h
  replace h := h.1 c13
  refine jx_aload_n 0 kd793.2.2.2.2.1 rfl rfl ?_
  refine jx_iload 4 kd793.2.2.2.2.2.1 rfl ?_
  refine jx_iconst (v := 2) kd793.2.2.2.2.2.2.1 (by decide) ?_
  obtain ⟨hk14, h⟩ := h
  refine jx_callVi (M' := mX11_of) (As := [.int x4, .int 2]) jo_X11_of jc_11 rfl jwM_X11_97 jwN_X11_of jwX_X11_of kd793.2.2.2.2.2.2.2.1 (jRok_m _ _ _) rfl (jle rfl) ⟨jle rfl, jle rfl⟩ hk14 h (fun r16 S15 h => ?_)
  refine jx_iload_n 1 kd793.2.2.2.2.2.2.2.2.1 rfl rfl ?_
  refine jx_icmp_ne (tgt := 56) kd794.1 (by decide) (fun c17 => ?_) (fun c17 => ?_)
  · replace h := h.2 c17
    refine jx_iinc 4 (v := (x4 + 1)) (lv1 := [(4, .int (x4 + 1)), (0, .ref a0), (1, .int x1), (2, .int x2), (3, .int x3)]) kd794.2.2.2.2.1 rfl rfl (by decide) rfl ?_
    refine jx_goto (tgt := 17) kd794.2.2.2.2.2.1 (by decide) ?_
    exact jx_lv [1, 2, 3, 4, 0] rfl h
  replace h := h.1 c17
  refine jx_iload 4 kd794.2.1 rfl ?_
  refine jx_istore_n (lv1 := [(2, .int x4), (0, .ref a0), (1, .int x1), (3, .int x3), (4, .int x4)]) kd794.2.2.1 rfl (by decide) rfl ?_
  refine jx_iinc 3 (v := (x3 + 1)) (lv1 := [(3, .int (x3 + 1)), (2, .int x4), (0, .ref a0), (1, .int x1), (4, .int x4)]) kd794.2.2.2.1 rfl rfl (by decide) rfl ?_
  refine jx_iinc 4 (v := (x4 + 1)) (lv1 := [(4, .int (x4 + 1)), (3, .int (x3 + 1)), (2, .int x4), (0, .ref a0), (1, .int x1)]) kd794.2.2.2.2.1 rfl rfl (by decide) rfl ?_
  refine jx_goto (tgt := 17) kd794.2.2.2.2.2.1 (by decide) ?_
  exact jx_lv [3, 4, 2, 1, 0] rfl h
/-- X11_year at its loop's head 4 -/
abbrev L_X11_year_4 (E : jEnv) (d : Nat) (Q : Int32 → jM → Prop) (a0 : Nat) (x1 : Int32) (x2 : Int32) (S : jM) : Prop := jX E mX11_year (jRm (d + 1) 0 0) (jZm E (fun r S' => ∃ v : Int32, r = some (.int v) ∧ Q v S') 0 0) 4 [(0, .ref a0), (1, .int x1), (2, .int x2)] [] S 0 0
set_option maxRecDepth 100000 in
set_option maxHeartbeats 4000000 in
theorem T_X11_year {E : jEnv} {d : Nat} {Q : Int32 → jM → Prop} {a0 : Nat} {S : jM} (h : L_X11_year_4 E d Q a0 0 0 S) : jFi E mX11_year (d + 1) 0 0 [.ref a0] S Q := by
  refine jF_of (by decide) (jle rfl) ?_
  refine jx_lv (lv1 := [(0, .ref a0)]) [0] rfl ?_
  refine jx_iconst (v := 0) kd796.1 (by decide) ?_
  refine jx_istore_n (lv1 := [(1, .int 0), (0, .ref a0)]) kd796.2.1 rfl (by decide) rfl ?_
  refine jx_iconst (v := 0) kd796.2.2.1 (by decide) ?_
  refine jx_istore_n (lv1 := [(2, .int 0), (1, .int 0), (0, .ref a0)]) kd796.2.2.2.1 rfl (by decide) rfl ?_
  exact jx_lv [2, 1, 0] rfl h
set_option maxRecDepth 100000 in
set_option maxHeartbeats 4000000 in
theorem T_X11_year_4 {E : jEnv} {d : Nat} {Q : Int32 → jM → Prop} {a0 : Nat} {x1 : Int32} {x2 : Int32} {S : jM} (h : jk S a0 = 11 ∧ ∃ b2, jr S a0 0 = some b2 ∧ (jk S b2 = 12 ∧ vp_in 0 (jl S b2) ∧ (((ji S b2 (Int32.toNatClampNeg 0)) ≤ x2 → Q x1 S) ∧ (¬ (ji S b2 (Int32.toNatClampNeg 0)) ≤ x2 → vp_in ((72 + (7 * x2)) + 6) (jl S b2) ∧ (((ji S b2 (Int32.toNatClampNeg ((72 + (7 * x2)) + 6))) = 0 → jFi E mX11_drawn d 0 0 [.ref a0] S (fun r9 S8 => jk S8 a0 = 11 ∧ ∃ b11, jr S8 a0 0 = some b11 ∧ (jk S8 b11 = 12 ∧ vp_in ((72 + (7 * x2)) + 5) (jl S8 b11) ∧ ((((ji S8 b11 (Int32.toNatClampNeg ((72 + (7 * x2)) + 5))) - 50) ≤ (jrem r9 100) → ((L_X11_year_4 E d Q a0 x1 (x2 + 1) (jput S8 b11 (Int32.toNatClampNeg ((72 + (7 * x2)) + 5)) (jclamp ((ji S8 b11 (Int32.toNatClampNeg ((72 + (7 * x2)) + 5))) + 1) 0 99))))) ∧ (¬ ((ji S8 b11 (Int32.toNatClampNeg ((72 + (7 * x2)) + 5))) - 50) ≤ (jrem r9 100) → vp_in ((72 + (7 * x2)) + 6) (jl S8 b11) ∧ (L_X11_year_4 E d Q a0 (x1 + 1) (x2 + 1) (jput S8 b11 (Int32.toNatClampNeg ((72 + (7 * x2)) + 6)) 1))))))) ∧ (¬ (ji S b2 (Int32.toNatClampNeg ((72 + (7 * x2)) + 6))) = 0 → L_X11_year_4 E d Q a0 x1 (x2 + 1) S)))))) : L_X11_year_4 E d Q a0 x1 x2 S := by
  show jX E mX11_year (jRm (d + 1) 0 0) (jZm E (fun r S' => ∃ v : Int32, r = some (.int v) ∧ Q v S') 0 0) 4 [(0, .ref a0), (1, .int x1), (2, .int x2)] [] S 0 0
  refine jx_iload_n 2 kd796.2.2.2.2.1 rfl rfl ?_
  refine jx_aload_n 0 kd796.2.2.2.2.2.1 rfl rfl ?_
  obtain ⟨hk1, h⟩ := h
  obtain ⟨b2, hb2, h⟩ := h
  refine jx_getr jc_11 (j := 0) (by decide) rfl jwF_X11_7 kd796.2.2.2.2.2.2.1 hk1 hb2 ?_
  refine jx_iconst (v := 0) kd796.2.2.2.2.2.2.2.1 (by decide) ?_
  obtain ⟨hk3, h⟩ := h
  obtain ⟨hi4, h⟩ := h
  refine jx_iald kd796.2.2.2.2.2.2.2.2.1 hk3 hi4 ?_
  refine jx_icmp_ge (tgt := 101) kd797.1 (by decide) (fun c5 => ?_) (fun c5 => ?_)
  · replace h := h.1 c5
    refine jx_iload_n 1 kd803.2.1 rfl rfl ?_
    exact jx_iret kd803.2.2.1 rfl rfl (jle rfl) (jle rfl) ⟨_, rfl, h⟩
  replace h := h.2 c5
  refine jx_bipush (v := 72) kd797.2.1 (by decide) ?_
  refine jx_bipush (v := 7) kd797.2.2.1 (by decide) ?_
  refine jx_iload_n 2 kd797.2.2.2.1 rfl rfl ?_
  refine jx_imul kd797.2.2.2.2.1 ?_
  refine jx_iadd kd797.2.2.2.2.2.1 ?_
  refine jx_istore_n (lv1 := [(3, .int (72 + (7 * x2))), (0, .ref a0), (1, .int x1), (2, .int x2)]) kd797.2.2.2.2.2.2.1 rfl (by decide) rfl ?_
  refine jx_aload_n 1 kd797.2.2.2.2.2.2.2.1 rfl rfl ?_
  refine jx_getr jc_11 (j := 0) (by decide) rfl jwF_X11_7 kd797.2.2.2.2.2.2.2.2.1 hk1 hb2 ?_
  refine jx_iload_n 0 kd798.1 rfl rfl ?_
  refine jx_bipush (v := 6) kd798.2.1 (by decide) ?_
  refine jx_iadd kd798.2.2.1 ?_
  obtain ⟨hi6, h⟩ := h
  refine jx_iald kd798.2.2.2.1 hk3 hi6 ?_
  refine jx_if_ne (tgt := 95) kd798.2.2.2.2.1 (by decide) (fun c7 => ?_) (fun c7 => ?_)
  · replace h := h.2 c7
    refine jx_iinc 3 (v := (x2 + 1)) (lv1 := [(2, .int (x2 + 1)), (3, .int (72 + (7 * x2))), (0, .ref a0), (1, .int x1)]) kd802.2.2.2.2.2.2.2.2.1 rfl rfl (by decide) rfl ?_
    refine jx_goto (tgt := 4) kd803.1 (by decide) ?_
    exact jx_lv [2, 3, 0] rfl h
  replace h := h.1 c7
  refine jx_aload_n 1 kd798.2.2.2.2.2.1 rfl rfl ?_
  refine jx_callVi (M' := mX11_drawn) (As := []) jo_X11_drawn jc_11 rfl jwM_X11_140 jwN_X11_drawn jwX_X11_drawn kd798.2.2.2.2.2.2.1 (jRok_m _ _ _) rfl (jle rfl) ⟨jle rfl, jle rfl⟩ hk1 h (fun r9 S8 h => ?_)
  refine jx_bipush (v := 100) kd798.2.2.2.2.2.2.2.1 (by decide) ?_
  refine jx_irem kd798.2.2.2.2.2.2.2.2.1 (by decide) ?_
  refine jx_aload_n 1 kd799.1 rfl rfl ?_
  obtain ⟨hk10, h⟩ := h
  obtain ⟨b11, hb11, h⟩ := h
  refine jx_getr jc_11 (j := 0) (by decide) rfl jwF_X11_7 kd799.2.1 hk10 hb11 ?_
  refine jx_iload_n 0 kd799.2.2.1 rfl rfl ?_
  refine jx_iconst (v := 5) kd799.2.2.2.1 (by decide) ?_
  refine jx_iadd kd799.2.2.2.2.1 ?_
  obtain ⟨hk12, h⟩ := h
  obtain ⟨hi13, h⟩ := h
  refine jx_iald kd799.2.2.2.2.2.1 hk12 hi13 ?_
  refine jx_bipush (v := 50) kd799.2.2.2.2.2.2.1 (by decide) ?_
  refine jx_isub kd799.2.2.2.2.2.2.2.1 ?_
  refine jx_icmp_ge (tgt := 71) kd799.2.2.2.2.2.2.2.2.1 (by decide) (fun c14 => ?_) (fun c14 => ?_)
  · replace h := h.1 c14
    refine jx_aload_n 1 kd801.1 rfl rfl ?_
    refine jx_getr jc_11 (j := 0) (by decide) rfl jwF_X11_7 kd801.2.1 hk10 hb11 ?_
    refine jx_iload_n 0 kd801.2.2.1 rfl rfl ?_
    refine jx_iconst (v := 5) kd801.2.2.2.1 (by decide) ?_
    refine jx_iadd kd801.2.2.2.2.1 ?_
    refine jx_aload_n 1 kd801.2.2.2.2.2.1 rfl rfl ?_
    refine jx_getr jc_11 (j := 0) (by decide) rfl jwF_X11_7 kd801.2.2.2.2.2.2.1 hk10 hb11 ?_
    refine jx_iload_n 0 kd801.2.2.2.2.2.2.2.1 rfl rfl ?_
    refine jx_iconst (v := 5) kd801.2.2.2.2.2.2.2.2.1 (by decide) ?_
    refine jx_iadd kd802.1 ?_
    refine jx_iald kd802.2.1 hk12 hi13 ?_
    refine jx_iconst (v := 1) kd802.2.2.1 (by decide) ?_
    refine jx_iadd kd802.2.2.2.1 ?_
    refine jx_iconst (v := 0) kd802.2.2.2.2.1 (by decide) ?_
    refine jx_bipush (v := 99) kd802.2.2.2.2.2.1 (by decide) ?_
    refine jx_callSi (M' := mX11_within) (As := [.int ((ji S8 b11 (Int32.toNatClampNeg ((72 + (7 * x2)) + 5))) + 1), .int 0, .int 99]) jo_X11_within jwM_X11_104 jwS_X11_within kd802.2.2.2.2.2.2.1 (jRok_m _ _ _) rfl (jle rfl) ⟨jle rfl, jle rfl⟩ (c_X11_within (Q := fun v S' => v = (jclamp ((ji S8 b11 (Int32.toNatClampNeg ((72 + (7 * x2)) + 5))) + 1) 0 99) ∧ S8 = S') ⟨rfl, rfl⟩) (fun r15 S16 hq17 => ?_)
    obtain ⟨rfl, rfl⟩ := hq17
    refine jx_iast kd802.2.2.2.2.2.2.2.1 hk12 hi13 ?_
    refine jx_iinc 3 (v := (x2 + 1)) (lv1 := [(2, .int (x2 + 1)), (3, .int (72 + (7 * x2))), (0, .ref a0), (1, .int x1)]) kd802.2.2.2.2.2.2.2.2.1 rfl rfl (by decide) rfl ?_
    refine jx_goto (tgt := 4) kd803.1 (by decide) ?_
    exact jx_lv [2, 3, 0] rfl h
  replace h := h.2 c14
  refine jx_aload_n 1 kd800.1 rfl rfl ?_
  refine jx_getr jc_11 (j := 0) (by decide) rfl jwF_X11_7 kd800.2.1 hk10 hb11 ?_
  refine jx_iload_n 0 kd800.2.2.1 rfl rfl ?_
  refine jx_bipush (v := 6) kd800.2.2.2.1 (by decide) ?_
  refine jx_iadd kd800.2.2.2.2.1 ?_
  refine jx_iconst (v := 1) kd800.2.2.2.2.2.1 (by decide) ?_
  obtain ⟨hi18, h⟩ := h
  refine jx_iast kd800.2.2.2.2.2.2.1 hk12 hi18 ?_
  refine jx_iinc 2 (v := (x1 + 1)) (lv1 := [(1, .int (x1 + 1)), (3, .int (72 + (7 * x2))), (0, .ref a0), (2, .int x2)]) kd800.2.2.2.2.2.2.2.1 rfl rfl (by decide) rfl ?_
  refine jx_goto (tgt := 95) kd800.2.2.2.2.2.2.2.2.1 (by decide) ?_
  refine jx_iinc 3 (v := (x2 + 1)) (lv1 := [(2, .int (x2 + 1)), (1, .int (x1 + 1)), (3, .int (72 + (7 * x2))), (0, .ref a0)]) kd802.2.2.2.2.2.2.2.2.1 rfl rfl (by decide) rfl ?_
  refine jx_goto (tgt := 4) kd803.1 (by decide) ?_
  exact jx_lv [3, 1, 0] rfl h
/-- X11_years at its loop's head 19 -/
abbrev L_X11_years_19 (E : jEnv) (d : Nat) (Q : Int32 → jM → Prop) (a0 : Nat) (x1 : Int32) (x2 : Int32) (x3 : Int32) (S : jM) : Prop := jX E mX11_years (jRm (d + 1) 0 0) (jZm E (fun r S' => ∃ v : Int32, r = some (.int v) ∧ Q v S') 0 0) 19 [(0, .ref a0), (1, .int x1), (2, .int x2), (3, .int x3)] [] S 0 0
set_option maxRecDepth 100000 in
set_option maxHeartbeats 4000000 in
theorem T_X11_years {E : jEnv} {d : Nat} {Q : Int32 → jM → Prop} {a0 : Nat} {x1 : Int32} {S : jM} (h : ((jisin (Int32.toInt64 x1) 1 60) = 0 → Q (-1000000001) S) ∧ (¬ (jisin (Int32.toInt64 x1) 1 60) = 0 → L_X11_years_19 E d Q a0 x1 0 0 S)) : jFi E mX11_years (d + 1) 0 0 [.ref a0, .int x1] S Q := by
  refine jF_of (by decide) (jle rfl) ?_
  refine jx_lv (lv1 := [(0, .ref a0), (1, .int x1)]) [0, 1] rfl ?_
  refine jx_iload_n 1 kd804.1 rfl rfl ?_
  refine jx_i2l kd804.2.1 ?_
  refine jx_lconst (v := 1) kd804.2.2.1 (by decide) ?_
  refine jx_ldc2 jwL_X11_206 kd804.2.2.2.1 ?_
  refine jx_callSi (M' := mX11_isIn) (As := [.long (Int32.toInt64 x1), .long 1, .long 60]) jo_X11_isIn jwM_X11_71 jwS_X11_isIn kd804.2.2.2.2.1 (jRok_m _ _ _) rfl (jle rfl) ⟨jle rfl, jle rfl⟩ (c_X11_isIn (Q := fun v S' => v = (jisin (Int32.toInt64 x1) 1 60) ∧ S = S') ⟨rfl, rfl⟩) (fun r1 S2 hq3 => ?_)
  obtain ⟨rfl, rfl⟩ := hq3
  refine jx_if_ne (tgt := 15) kd804.2.2.2.2.2.1 (by decide) (fun c4 => ?_) (fun c4 => ?_)
  · replace h := h.2 c4
    refine jx_iconst (v := 0) kd804.2.2.2.2.2.2.2.2.1 (by decide) ?_
    refine jx_istore_n (lv1 := [(2, .int 0), (0, .ref a0), (1, .int x1)]) kd805.1 rfl (by decide) rfl ?_
    refine jx_iconst (v := 0) kd805.2.1 (by decide) ?_
    refine jx_istore_n (lv1 := [(3, .int 0), (2, .int 0), (0, .ref a0), (1, .int x1)]) kd805.2.2.1 rfl (by decide) rfl ?_
    exact jx_lv [2, 3, 1, 0] rfl h
  replace h := h.1 c4
  refine jx_ldc jwC_X11_87 kd804.2.2.2.2.2.2.1 ?_
  exact jx_iret kd804.2.2.2.2.2.2.2.1 rfl rfl (jle rfl) (jle rfl) ⟨_, rfl, h⟩
set_option maxRecDepth 100000 in
set_option maxHeartbeats 4000000 in
theorem T_X11_years_19 {E : jEnv} {d : Nat} {Q : Int32 → jM → Prop} {a0 : Nat} {x1 : Int32} {x2 : Int32} {x3 : Int32} {S : jM} (h : (x1 ≤ x3 → Q x2 S) ∧ (¬ x1 ≤ x3 → jk S a0 = 11 ∧ jFi E mX11_year d 0 0 [.ref a0] S (fun r8 S7 => L_X11_years_19 E d Q a0 x1 (x2 + r8) (x3 + 1) S7))) : L_X11_years_19 E d Q a0 x1 x2 x3 S := by
  show jX E mX11_years (jRm (d + 1) 0 0) (jZm E (fun r S' => ∃ v : Int32, r = some (.int v) ∧ Q v S') 0 0) 19 [(0, .ref a0), (1, .int x1), (2, .int x2), (3, .int x3)] [] S 0 0
  refine jx_iload_n 3 kd805.2.2.2.1 rfl rfl ?_
  refine jx_iload_n 1 kd805.2.2.2.2.1 rfl rfl ?_
  refine jx_icmp_ge (tgt := 37) kd805.2.2.2.2.2.1 (by decide) (fun c5 => ?_) (fun c5 => ?_)
  · replace h := h.1 c5
    refine jx_iload_n 2 kd806.2.2.2.2.1 rfl rfl ?_
    exact jx_iret kd806.2.2.2.2.2.1 rfl rfl (jle rfl) (jle rfl) ⟨_, rfl, h⟩
  replace h := h.2 c5
  refine jx_iload_n 2 kd805.2.2.2.2.2.2.1 rfl rfl ?_
  refine jx_aload_n 0 kd805.2.2.2.2.2.2.2.1 rfl rfl ?_
  obtain ⟨hk6, h⟩ := h
  refine jx_callVi (M' := mX11_year) (As := []) jo_X11_year jc_11 rfl jwM_X11_208 jwN_X11_year jwX_X11_year kd805.2.2.2.2.2.2.2.2.1 (jRok_m _ _ _) rfl (jle rfl) ⟨jle rfl, jle rfl⟩ hk6 h (fun r8 S7 h => ?_)
  refine jx_iadd kd806.1 ?_
  refine jx_istore_n (lv1 := [(2, .int (x2 + r8)), (0, .ref a0), (1, .int x1), (3, .int x3)]) kd806.2.1 rfl (by decide) rfl ?_
  refine jx_iinc 3 (v := (x3 + 1)) (lv1 := [(3, .int (x3 + 1)), (2, .int (x2 + r8)), (0, .ref a0), (1, .int x1)]) kd806.2.2.1 rfl rfl (by decide) rfl ?_
  refine jx_goto (tgt := 19) kd806.2.2.2.1 (by decide) ?_
  exact jx_lv [2, 3, 1, 0] rfl h
/-- X11_gone at its loop's head 29 -/
abbrev L_X11_gone_29 (E : jEnv) (d : Nat) (Q : Int32 → jM → Prop) (a0 : Nat) (x1 : Int32) (x2 : Int32) (x3 : Int32) (x4 : Int32) (S : jM) : Prop := jX E mX11_gone (jRm (d + 1) 0 0) (jZm E (fun r S' => ∃ v : Int32, r = some (.int v) ∧ Q v S') 0 0) 29 [(0, .ref a0), (1, .int x1), (2, .int x2), (3, .int x3), (4, .int x4)] [] S 0 0
set_option maxRecDepth 100000 in
set_option maxHeartbeats 4000000 in
theorem T_X11_gone {E : jEnv} {d : Nat} {Q : Int32 → jM → Prop} {a0 : Nat} {x1 : Int32} {S : jM} (h : ((jisin (Int32.toInt64 x1) 0 60) = 0 → Q (-1000000001) S) ∧ (¬ (jisin (Int32.toInt64 x1) 0 60) = 0 → jk S a0 = 11 ∧ jFv E mX11_laysBy d 0 0 [.ref a0] S (fun S6 => jk S6 a0 = 11 ∧ jFi E mX11_taughtNow d 0 0 [.ref a0] S6 (fun r9 S8 => L_X11_gone_29 E d Q a0 x1 r9 0 0 S8)))) : jFi E mX11_gone (d + 1) 0 0 [.ref a0, .int x1] S Q := by
  refine jF_of (by decide) (jle rfl) ?_
  refine jx_lv (lv1 := [(0, .ref a0), (1, .int x1)]) [0, 1] rfl ?_
  refine jx_iload_n 1 kd807.1 rfl rfl ?_
  refine jx_i2l kd807.2.1 ?_
  refine jx_lconst (v := 0) kd807.2.2.1 (by decide) ?_
  refine jx_ldc2 jwL_X11_206 kd807.2.2.2.1 ?_
  refine jx_callSi (M' := mX11_isIn) (As := [.long (Int32.toInt64 x1), .long 0, .long 60]) jo_X11_isIn jwM_X11_71 jwS_X11_isIn kd807.2.2.2.2.1 (jRok_m _ _ _) rfl (jle rfl) ⟨jle rfl, jle rfl⟩ (c_X11_isIn (Q := fun v S' => v = (jisin (Int32.toInt64 x1) 0 60) ∧ S = S') ⟨rfl, rfl⟩) (fun r1 S2 hq3 => ?_)
  obtain ⟨rfl, rfl⟩ := hq3
  refine jx_if_ne (tgt := 15) kd807.2.2.2.2.2.1 (by decide) (fun c4 => ?_) (fun c4 => ?_)
  · replace h := h.2 c4
    refine jx_aload_n 0 kd807.2.2.2.2.2.2.2.2.1 rfl rfl ?_
    obtain ⟨hk5, h⟩ := h
    refine jx_callVv (M' := mX11_laysBy) (As := []) jo_X11_laysBy jc_11 rfl jwM_X11_186 jwN_X11_laysBy jwX_X11_laysBy kd808.1 (jRok_m _ _ _) rfl (jle rfl) ⟨jle rfl, jle rfl⟩ hk5 h (fun S6 h => ?_)
    refine jx_aload_n 0 kd808.2.1 rfl rfl ?_
    obtain ⟨hk7, h⟩ := h
    refine jx_callVi (M' := mX11_taughtNow) (As := []) jo_X11_taughtNow jc_11 rfl jwM_X11_203 jwN_X11_taughtNow jwX_X11_taughtNow kd808.2.2.1 (jRok_m _ _ _) rfl (jle rfl) ⟨jle rfl, jle rfl⟩ hk7 h (fun r9 S8 h => ?_)
    refine jx_istore_n (lv1 := [(2, .int r9), (0, .ref a0), (1, .int x1)]) kd808.2.2.2.1 rfl (by decide) rfl ?_
    refine jx_iconst (v := 0) kd808.2.2.2.2.1 (by decide) ?_
    refine jx_istore_n (lv1 := [(3, .int 0), (2, .int r9), (0, .ref a0), (1, .int x1)]) kd808.2.2.2.2.2.1 rfl (by decide) rfl ?_
    refine jx_iconst (v := 0) kd808.2.2.2.2.2.2.1 (by decide) ?_
    refine jx_istore (lv1 := [(4, .int 0), (3, .int 0), (2, .int r9), (0, .ref a0), (1, .int x1)]) kd808.2.2.2.2.2.2.2.1 (by decide) rfl ?_
    exact jx_lv [3, 4, 2, 1, 0] rfl h
  replace h := h.1 c4
  refine jx_ldc jwC_X11_87 kd807.2.2.2.2.2.2.1 ?_
  exact jx_iret kd807.2.2.2.2.2.2.2.1 rfl rfl (jle rfl) (jle rfl) ⟨_, rfl, h⟩
set_option maxRecDepth 100000 in
set_option maxHeartbeats 4000000 in
theorem T_X11_gone_29 {E : jEnv} {d : Nat} {Q : Int32 → jM → Prop} {a0 : Nat} {x1 : Int32} {x2 : Int32} {x3 : Int32} {x4 : Int32} {S : jM} (h : (x1 ≤ x4 → jk S a0 = 11 ∧ jFi E mX11_taughtNow d 0 0 [.ref a0] S (fun r13 S12 => jk S12 a0 = 11 ∧ jFv E mX11_laysBack d 0 0 [.ref a0] S12 (fun S18 => Q (jmany (x2 &&& (r13 ^^^ (-1)))) S18))) ∧ (¬ x1 ≤ x4 → jk S a0 = 11 ∧ jFi E mX11_year d 0 0 [.ref a0] S (fun r21 S20 => L_X11_gone_29 E d Q a0 x1 x2 (x3 + r21) (x4 + 1) S20))) : L_X11_gone_29 E d Q a0 x1 x2 x3 x4 S := by
  show jX E mX11_gone (jRm (d + 1) 0 0) (jZm E (fun r S' => ∃ v : Int32, r = some (.int v) ∧ Q v S') 0 0) 29 [(0, .ref a0), (1, .int x1), (2, .int x2), (3, .int x3), (4, .int x4)] [] S 0 0
  refine jx_iload 4 kd808.2.2.2.2.2.2.2.2.1 rfl ?_
  refine jx_iload_n 1 kd809.1 rfl rfl ?_
  refine jx_icmp_ge (tgt := 48) kd809.2.1 (by decide) (fun c10 => ?_) (fun c10 => ?_)
  · replace h := h.1 c10
    refine jx_iload_n 2 kd810.1 rfl rfl ?_
    refine jx_aload_n 0 kd810.2.1 rfl rfl ?_
    obtain ⟨hk11, h⟩ := h
    refine jx_callVi (M' := mX11_taughtNow) (As := []) jo_X11_taughtNow jc_11 rfl jwM_X11_203 jwN_X11_taughtNow jwX_X11_taughtNow kd810.2.2.1 (jRok_m _ _ _) rfl (jle rfl) ⟨jle rfl, jle rfl⟩ hk11 h (fun r13 S12 h => ?_)
    refine jx_iconst (v := (-1)) kd810.2.2.2.1 (by decide) ?_
    refine jx_ixor kd810.2.2.2.2.1 ?_
    refine jx_iand kd810.2.2.2.2.2.1 ?_
    refine jx_callSi (M' := mX11_manyIn) (As := [.int (x2 &&& (r13 ^^^ (-1)))]) jo_X11_manyIn jwM_X11_108 jwS_X11_manyIn kd810.2.2.2.2.2.2.1 (jRok_m _ _ _) rfl (jle rfl) ⟨jle rfl, jle rfl⟩ (c_X11_manyIn (Q := fun v S' => v = (jmany (x2 &&& (r13 ^^^ (-1)))) ∧ S12 = S') ⟨rfl, rfl⟩) (fun r14 S15 hq16 => ?_)
    obtain ⟨rfl, rfl⟩ := hq16
    refine jx_istore (lv1 := [(4, .int (jmany (x2 &&& (r13 ^^^ (-1))))), (0, .ref a0), (1, .int x1), (2, .int x2), (3, .int x3)]) kd810.2.2.2.2.2.2.2.1 (by decide) rfl ?_
    refine jx_aload_n 1 kd810.2.2.2.2.2.2.2.2.1 rfl rfl ?_
    obtain ⟨hk17, h⟩ := h
    refine jx_callVv (M' := mX11_laysBack) (As := []) jo_X11_laysBack jc_11 rfl jwM_X11_192 jwN_X11_laysBack jwX_X11_laysBack kd811.1 (jRok_m _ _ _) rfl (jle rfl) ⟨jle rfl, jle rfl⟩ hk17 h (fun S18 h => ?_)
    refine jx_iload 0 kd811.2.1 rfl ?_
    exact jx_iret kd811.2.2.1 rfl rfl (jle rfl) (jle rfl) ⟨_, rfl, h⟩
  replace h := h.2 c10
  refine jx_iload_n 3 kd809.2.2.1 rfl rfl ?_
  refine jx_aload_n 0 kd809.2.2.2.1 rfl rfl ?_
  obtain ⟨hk19, h⟩ := h
  refine jx_callVi (M' := mX11_year) (As := []) jo_X11_year jc_11 rfl jwM_X11_208 jwN_X11_year jwX_X11_year kd809.2.2.2.2.1 (jRok_m _ _ _) rfl (jle rfl) ⟨jle rfl, jle rfl⟩ hk19 h (fun r21 S20 h => ?_)
  refine jx_iadd kd809.2.2.2.2.2.1 ?_
  refine jx_istore_n (lv1 := [(3, .int (x3 + r21)), (0, .ref a0), (1, .int x1), (2, .int x2), (4, .int x4)]) kd809.2.2.2.2.2.2.1 rfl (by decide) rfl ?_
  refine jx_iinc 4 (v := (x4 + 1)) (lv1 := [(4, .int (x4 + 1)), (3, .int (x3 + r21)), (0, .ref a0), (1, .int x1), (2, .int x2)]) kd809.2.2.2.2.2.2.2.1 rfl rfl (by decide) rfl ?_
  refine jx_goto (tgt := 29) kd809.2.2.2.2.2.2.2.2.1 (by decide) ?_
  exact jx_lv [2, 3, 4, 1, 0] rfl h
/-- X11_farFrom at its loop's head 4 -/
abbrev L_X11_farFrom_4 (E : jEnv) (d : Nat) (Q : Int32 → jM → Prop) (a0 : Nat) (x1 : Int32) (x2 : Int32) (x3 : Int32) (S : jM) : Prop := jX E mX11_farFrom (jRm (d + 1) 0 0) (jZm E (fun r S' => ∃ v : Int32, r = some (.int v) ∧ Q v S') 0 0) 4 [(0, .ref a0), (1, .int x1), (2, .int x2), (3, .int x3)] [] S 0 0
set_option maxRecDepth 100000 in
set_option maxHeartbeats 4000000 in
theorem T_X11_farFrom {E : jEnv} {d : Nat} {Q : Int32 → jM → Prop} {a0 : Nat} {x1 : Int32} {S : jM} (h : L_X11_farFrom_4 E d Q a0 x1 0 0 S) : jFi E mX11_farFrom (d + 1) 0 0 [.ref a0, .int x1] S Q := by
  refine jF_of (by decide) (jle rfl) ?_
  refine jx_lv (lv1 := [(0, .ref a0), (1, .int x1)]) [0, 1] rfl ?_
  refine jx_iconst (v := 0) kd812.1 (by decide) ?_
  refine jx_istore_n (lv1 := [(2, .int 0), (0, .ref a0), (1, .int x1)]) kd812.2.1 rfl (by decide) rfl ?_
  refine jx_iconst (v := 0) kd812.2.2.1 (by decide) ?_
  refine jx_istore_n (lv1 := [(3, .int 0), (2, .int 0), (0, .ref a0), (1, .int x1)]) kd812.2.2.2.1 rfl (by decide) rfl ?_
  exact jx_lv [2, 3, 1, 0] rfl h
set_option maxRecDepth 100000 in
set_option maxHeartbeats 4000000 in
theorem T_X11_farFrom_4 {E : jEnv} {d : Nat} {Q : Int32 → jM → Prop} {a0 : Nat} {x1 : Int32} {x2 : Int32} {x3 : Int32} {S : jM} (h : jk S a0 = 11 ∧ ∃ b2, jr S a0 0 = some b2 ∧ (jk S b2 = 12 ∧ vp_in 0 (jl S b2) ∧ (((ji S b2 (Int32.toNatClampNeg 0)) ≤ x3 → Q x2 S) ∧ (¬ (ji S b2 (Int32.toNatClampNeg 0)) ≤ x3 → jFi E mX11_of d 0 0 [.ref a0, .int x3, .int 6] S (fun r7 S6 => (r7 = 0 → jk S6 a0 = 11 ∧ ∃ b10, jr S6 a0 12 = some b10 ∧ (jFi E mX11_of d 0 0 [.ref a0, .int x3, .int 1] S6 (fun r12 S11 => jk S11 b10 = 12 ∧ vp_in ((6 * x1) + r12) (jl S11 b10) ∧ (L_X11_farFrom_4 E d Q a0 x1 (x2 + (ji S11 b10 (Int32.toNatClampNeg ((6 * x1) + r12)))) (x3 + 1) S11)))) ∧ (¬ r7 = 0 → L_X11_farFrom_4 E d Q a0 x1 (x2 + 0) (x3 + 1) S6)))))) : L_X11_farFrom_4 E d Q a0 x1 x2 x3 S := by
  show jX E mX11_farFrom (jRm (d + 1) 0 0) (jZm E (fun r S' => ∃ v : Int32, r = some (.int v) ∧ Q v S') 0 0) 4 [(0, .ref a0), (1, .int x1), (2, .int x2), (3, .int x3)] [] S 0 0
  refine jx_iload_n 3 kd812.2.2.2.2.1 rfl rfl ?_
  refine jx_aload_n 0 kd812.2.2.2.2.2.1 rfl rfl ?_
  obtain ⟨hk1, h⟩ := h
  obtain ⟨b2, hb2, h⟩ := h
  refine jx_getr jc_11 (j := 0) (by decide) rfl jwF_X11_7 kd812.2.2.2.2.2.2.1 hk1 hb2 ?_
  refine jx_iconst (v := 0) kd812.2.2.2.2.2.2.2.1 (by decide) ?_
  obtain ⟨hk3, h⟩ := h
  obtain ⟨hi4, h⟩ := h
  refine jx_iald kd812.2.2.2.2.2.2.2.2.1 hk3 hi4 ?_
  refine jx_icmp_ge (tgt := 53) kd813.1 (by decide) (fun c5 => ?_) (fun c5 => ?_)
  · replace h := h.1 c5
    refine jx_iload_n 2 kd815.2.2.2.2.2.2.1 rfl rfl ?_
    exact jx_iret kd815.2.2.2.2.2.2.2.1 rfl rfl (jle rfl) (jle rfl) ⟨_, rfl, h⟩
  replace h := h.2 c5
  refine jx_iload_n 2 kd813.2.1 rfl rfl ?_
  refine jx_aload_n 0 kd813.2.2.1 rfl rfl ?_
  refine jx_iload_n 3 kd813.2.2.2.1 rfl rfl ?_
  refine jx_bipush (v := 6) kd813.2.2.2.2.1 (by decide) ?_
  refine jx_callVi (M' := mX11_of) (As := [.int x3, .int 6]) jo_X11_of jc_11 rfl jwM_X11_97 jwN_X11_of jwX_X11_of kd813.2.2.2.2.2.1 (jRok_m _ _ _) rfl (jle rfl) ⟨jle rfl, jle rfl⟩ hk1 h (fun r7 S6 h => ?_)
  refine jx_if_ne (tgt := 44) kd813.2.2.2.2.2.2.1 (by decide) (fun c8 => ?_) (fun c8 => ?_)
  · replace h := h.2 c8
    refine jx_iconst (v := 0) kd815.2.1 (by decide) ?_
    refine jx_iadd kd815.2.2.1 ?_
    refine jx_istore_n (lv1 := [(2, .int (x2 + 0)), (0, .ref a0), (1, .int x1), (3, .int x3)]) kd815.2.2.2.1 rfl (by decide) rfl ?_
    refine jx_iinc 3 (v := (x3 + 1)) (lv1 := [(3, .int (x3 + 1)), (2, .int (x2 + 0)), (0, .ref a0), (1, .int x1)]) kd815.2.2.2.2.1 rfl rfl (by decide) rfl ?_
    refine jx_goto (tgt := 4) kd815.2.2.2.2.2.1 (by decide) ?_
    exact jx_lv [2, 3, 1, 0] rfl h
  replace h := h.1 c8
  refine jx_aload_n 0 kd813.2.2.2.2.2.2.2.1 rfl rfl ?_
  obtain ⟨hk9, h⟩ := h
  obtain ⟨b10, hb10, h⟩ := h
  refine jx_getr jc_11 (j := 12) (by decide) rfl jwF_X11_43 kd813.2.2.2.2.2.2.2.2.1 hk9 hb10 ?_
  refine jx_bipush (v := 6) kd814.1 (by decide) ?_
  refine jx_iload_n 1 kd814.2.1 rfl rfl ?_
  refine jx_imul kd814.2.2.1 ?_
  refine jx_aload_n 0 kd814.2.2.2.1 rfl rfl ?_
  refine jx_iload_n 3 kd814.2.2.2.2.1 rfl rfl ?_
  refine jx_iconst (v := 1) kd814.2.2.2.2.2.1 (by decide) ?_
  refine jx_callVi (M' := mX11_of) (As := [.int x3, .int 1]) jo_X11_of jc_11 rfl jwM_X11_97 jwN_X11_of jwX_X11_of kd814.2.2.2.2.2.2.1 (jRok_m _ _ _) rfl (jle rfl) ⟨jle rfl, jle rfl⟩ hk9 h (fun r12 S11 h => ?_)
  refine jx_iadd kd814.2.2.2.2.2.2.2.1 ?_
  obtain ⟨hk13, h⟩ := h
  obtain ⟨hi14, h⟩ := h
  refine jx_iald kd814.2.2.2.2.2.2.2.2.1 hk13 hi14 ?_
  refine jx_goto (tgt := 45) kd815.1 (by decide) ?_
  refine jx_iadd kd815.2.2.1 ?_
  refine jx_istore_n (lv1 := [(2, .int (x2 + (ji S11 b10 (Int32.toNatClampNeg ((6 * x1) + r12))))), (0, .ref a0), (1, .int x1), (3, .int x3)]) kd815.2.2.2.1 rfl (by decide) rfl ?_
  refine jx_iinc 3 (v := (x3 + 1)) (lv1 := [(3, .int (x3 + 1)), (2, .int (x2 + (ji S11 b10 (Int32.toNatClampNeg ((6 * x1) + r12))))), (0, .ref a0), (1, .int x1)]) kd815.2.2.2.2.1 rfl rfl (by decide) rfl ?_
  refine jx_goto (tgt := 4) kd815.2.2.2.2.2.1 (by decide) ?_
  exact jx_lv [2, 3, 1, 0] rfl h
/-- X11_fresh at its loop's head 8 -/
abbrev L_X11_fresh_8 (E : jEnv) (d : Nat) (Q : Int32 → jM → Prop) (a0 : Nat) (x1 : Int32) (x2 : Int32) (S : jM) : Prop := jX E mX11_fresh (jRm (d + 1) 0 0) (jZm E (fun r S' => ∃ v : Int32, r = some (.int v) ∧ Q v S') 0 0) 8 [(0, .ref a0), (1, .int x1), (2, .int x2)] [] S 0 0
set_option maxRecDepth 100000 in
set_option maxHeartbeats 4000000 in
theorem T_X11_fresh {E : jEnv} {d : Nat} {Q : Int32 → jM → Prop} {a0 : Nat} {S : jM} (h : jk S a0 = 11 ∧ jFv E mX11_findFar d 0 0 [.ref a0] S (fun S2 => L_X11_fresh_8 E d Q a0 0 1 S2)) : jFi E mX11_fresh (d + 1) 0 0 [.ref a0] S Q := by
  refine jF_of (by decide) (jle rfl) ?_
  refine jx_lv (lv1 := [(0, .ref a0)]) [0] rfl ?_
  refine jx_aload_n 0 kd816.1 rfl rfl ?_
  obtain ⟨hk1, h⟩ := h
  refine jx_callVv (M' := mX11_findFar) (As := []) jo_X11_findFar jc_11 rfl jwM_X11_137 jwN_X11_findFar jwX_X11_findFar kd816.2.1 (jRok_m _ _ _) rfl (jle rfl) ⟨jle rfl, jle rfl⟩ hk1 h (fun S2 h => ?_)
  refine jx_iconst (v := 0) kd816.2.2.1 (by decide) ?_
  refine jx_istore_n (lv1 := [(1, .int 0), (0, .ref a0)]) kd816.2.2.2.1 rfl (by decide) rfl ?_
  refine jx_iconst (v := 1) kd816.2.2.2.2.1 (by decide) ?_
  refine jx_istore_n (lv1 := [(2, .int 1), (1, .int 0), (0, .ref a0)]) kd816.2.2.2.2.2.1 rfl (by decide) rfl ?_
  exact jx_lv [2, 1, 0] rfl h
set_option maxRecDepth 100000 in
set_option maxHeartbeats 4000000 in
theorem T_X11_fresh_8 {E : jEnv} {d : Nat} {Q : Int32 → jM → Prop} {a0 : Nat} {x1 : Int32} {x2 : Int32} {S : jM} (h : (6 ≤ x2 → Q x1 S) ∧ (¬ 6 ≤ x2 → jk S a0 = 11 ∧ jFi E mX11_farFrom d 0 0 [.ref a0, .int x2] S (fun r6 S5 => jk S5 a0 = 11 ∧ jFi E mX11_farFrom d 0 0 [.ref a0, .int x1] S5 (fun r9 S8 => (r9 ≤ r6 → L_X11_fresh_8 E d Q a0 x1 (x2 + 1) S8) ∧ (¬ r9 ≤ r6 → L_X11_fresh_8 E d Q a0 x2 (x2 + 1) S8))))) : L_X11_fresh_8 E d Q a0 x1 x2 S := by
  show jX E mX11_fresh (jRm (d + 1) 0 0) (jZm E (fun r S' => ∃ v : Int32, r = some (.int v) ∧ Q v S') 0 0) 8 [(0, .ref a0), (1, .int x1), (2, .int x2)] [] S 0 0
  refine jx_iload_n 2 kd816.2.2.2.2.2.2.1 rfl rfl ?_
  refine jx_bipush (v := 6) kd816.2.2.2.2.2.2.2.1 (by decide) ?_
  refine jx_icmp_ge (tgt := 39) kd816.2.2.2.2.2.2.2.2.1 (by decide) (fun c3 => ?_) (fun c3 => ?_)
  · replace h := h.1 c3
    refine jx_iload_n 1 kd818.2.2.2.2.1 rfl rfl ?_
    exact jx_iret kd818.2.2.2.2.2.1 rfl rfl (jle rfl) (jle rfl) ⟨_, rfl, h⟩
  replace h := h.2 c3
  refine jx_aload_n 0 kd817.1 rfl rfl ?_
  refine jx_iload_n 2 kd817.2.1 rfl rfl ?_
  obtain ⟨hk4, h⟩ := h
  refine jx_callVi (M' := mX11_farFrom) (As := [.int x2]) jo_X11_farFrom jc_11 rfl jwM_X11_211 jwN_X11_farFrom jwX_X11_farFrom kd817.2.2.1 (jRok_m _ _ _) rfl (jle rfl) ⟨jle rfl, jle rfl⟩ hk4 h (fun r6 S5 h => ?_)
  refine jx_aload_n 0 kd817.2.2.2.1 rfl rfl ?_
  refine jx_iload_n 1 kd817.2.2.2.2.1 rfl rfl ?_
  obtain ⟨hk7, h⟩ := h
  refine jx_callVi (M' := mX11_farFrom) (As := [.int x1]) jo_X11_farFrom jc_11 rfl jwM_X11_211 jwN_X11_farFrom jwX_X11_farFrom kd817.2.2.2.2.2.1 (jRok_m _ _ _) rfl (jle rfl) ⟨jle rfl, jle rfl⟩ hk7 h (fun r9 S8 h => ?_)
  refine jx_icmp_ge (tgt := 31) kd817.2.2.2.2.2.2.1 (by decide) (fun c10 => ?_) (fun c10 => ?_)
  · replace h := h.1 c10
    refine jx_iload_n 1 kd818.1 rfl rfl ?_
    refine jx_istore_n (lv1 := [(1, .int x1), (0, .ref a0), (2, .int x2)]) kd818.2.1 rfl (by decide) rfl ?_
    refine jx_iinc 2 (v := (x2 + 1)) (lv1 := [(2, .int (x2 + 1)), (1, .int x1), (0, .ref a0)]) kd818.2.2.1 rfl rfl (by decide) rfl ?_
    refine jx_goto (tgt := 8) kd818.2.2.2.1 (by decide) ?_
    exact jx_lv [2, 1, 0] rfl h
  replace h := h.2 c10
  refine jx_iload_n 2 kd817.2.2.2.2.2.2.2.1 rfl rfl ?_
  refine jx_goto (tgt := 32) kd817.2.2.2.2.2.2.2.2.1 (by decide) ?_
  refine jx_istore_n (lv1 := [(1, .int x2), (0, .ref a0), (2, .int x2)]) kd818.2.1 rfl (by decide) rfl ?_
  refine jx_iinc 2 (v := (x2 + 1)) (lv1 := [(2, .int (x2 + 1)), (1, .int x2), (0, .ref a0)]) kd818.2.2.1 rfl rfl (by decide) rfl ?_
  refine jx_goto (tgt := 8) kd818.2.2.2.1 (by decide) ?_
  exact jx_lv [2, 1, 0] rfl h
set_option maxRecDepth 100000 in
set_option maxHeartbeats 4000000 in
theorem T_X11_fame {E : jEnv} {d : Nat} {Q : Int32 → jM → Prop} {a0 : Nat} {x1 : Int32} {S : jM} (h : jk S a0 = 11 ∧ jFi E mX11_isMaster d 0 0 [.ref a0, .int x1] S (fun r3 S2 => (r3 = 0 → Q (-1000000001) S2) ∧ (¬ r3 = 0 → jk S2 a0 = 11 ∧ jFi E mX11_counts d 0 0 [.ref a0, .int 1] S2 (fun r7 S6 => (0 ≤ r7 → jk S6 a0 = 11 ∧ ∃ b10, jr S6 a0 30 = some b10 ∧ (jFi E mX11_of d 0 0 [.ref a0, .int x1, .int 4] S6 (fun r12 S11 => jk S11 b10 = 12 ∧ vp_in 102 (jl S11 b10) ∧ (jk S11 a0 = 11 ∧ ∃ b16, jr S11 a0 30 = some b16 ∧ (jFi E mX11_of d 0 0 [.ref a0, .int x1, .int 5] (jput S11 b10 (Int32.toNatClampNeg 102) r12) (fun r18 S17 => jk S17 b16 = 12 ∧ vp_in 97 (jl S17 b16) ∧ (jk S17 a0 = 11 ∧ jFi E mX11_worked d 0 0 [.ref a0, .int r7] (jput S17 b16 (Int32.toNatClampNeg 97) r18) (fun r23 S22 => Q r23 S22)))))))) ∧ (¬ 0 ≤ r7 → jk S6 a0 = 11 ∧ jFi E mX11_of d 0 0 [.ref a0, .int x1, .int 4] S6 (fun r26 S25 => Q r26 S25)))))) : jFi E mX11_fame (d + 1) 0 0 [.ref a0, .int x1] S Q := by
  refine jF_of (by decide) (jle rfl) ?_
  refine jx_lv (lv1 := [(0, .ref a0), (1, .int x1)]) [0, 1] rfl ?_
  refine jx_aload_n 0 kd819.1 rfl rfl ?_
  refine jx_iload_n 1 kd819.2.1 rfl rfl ?_
  obtain ⟨hk1, h⟩ := h
  refine jx_callVi (M' := mX11_isMaster) (As := [.int x1]) jo_X11_isMaster jc_11 rfl jwM_X11_111 jwN_X11_isMaster jwX_X11_isMaster kd819.2.2.1 (jRok_m _ _ _) rfl (jle rfl) ⟨jle rfl, jle rfl⟩ hk1 h (fun r3 S2 h => ?_)
  refine jx_if_ne (tgt := 11) kd819.2.2.2.1 (by decide) (fun c4 => ?_) (fun c4 => ?_)
  · replace h := h.2 c4
    refine jx_aload_n 0 kd819.2.2.2.2.2.2.1 rfl rfl ?_
    refine jx_iconst (v := 1) kd819.2.2.2.2.2.2.2.1 (by decide) ?_
    obtain ⟨hk5, h⟩ := h
    refine jx_callVi (M' := mX11_counts) (As := [.int 1]) jo_X11_counts jc_11 rfl jwM_X11_93 jwN_X11_counts jwX_X11_counts kd819.2.2.2.2.2.2.2.2.1 (jRok_m _ _ _) rfl (jle rfl) ⟨jle rfl, jle rfl⟩ hk5 h (fun r7 S6 h => ?_)
    refine jx_istore_n (lv1 := [(2, .int r7), (0, .ref a0), (1, .int x1)]) kd820.1 rfl (by decide) rfl ?_
    refine jx_iload_n 0 kd820.2.1 rfl rfl ?_
    refine jx_if_ge (tgt := 28) kd820.2.2.1 (by decide) (fun c8 => ?_) (fun c8 => ?_)
    · replace h := h.1 c8
      refine jx_aload_n 1 kd820.2.2.2.2.2.2.2.2.1 rfl rfl ?_
      obtain ⟨hk9, h⟩ := h
      obtain ⟨b10, hb10, h⟩ := h
      refine jx_getr jc_11 (j := 30) (by decide) rfl jwF_X11_55 kd821.1 hk9 hb10 ?_
      refine jx_bipush (v := 102) kd821.2.1 (by decide) ?_
      refine jx_aload_n 1 kd821.2.2.1 rfl rfl ?_
      refine jx_iload_n 2 kd821.2.2.2.1 rfl rfl ?_
      refine jx_iconst (v := 4) kd821.2.2.2.2.1 (by decide) ?_
      refine jx_callVi (M' := mX11_of) (As := [.int x1, .int 4]) jo_X11_of jc_11 rfl jwM_X11_97 jwN_X11_of jwX_X11_of kd821.2.2.2.2.2.1 (jRok_m _ _ _) rfl (jle rfl) ⟨jle rfl, jle rfl⟩ hk9 h (fun r12 S11 h => ?_)
      obtain ⟨hk13, h⟩ := h
      obtain ⟨hi14, h⟩ := h
      refine jx_iast kd821.2.2.2.2.2.2.1 hk13 hi14 ?_
      refine jx_aload_n 1 kd821.2.2.2.2.2.2.2.1 rfl rfl ?_
      obtain ⟨hk15, h⟩ := h
      obtain ⟨b16, hb16, h⟩ := h
      refine jx_getr jc_11 (j := 30) (by decide) rfl jwF_X11_55 kd821.2.2.2.2.2.2.2.2.1 hk15 hb16 ?_
      refine jx_bipush (v := 97) kd822.1 (by decide) ?_
      refine jx_aload_n 1 kd822.2.1 rfl rfl ?_
      refine jx_iload_n 2 kd822.2.2.1 rfl rfl ?_
      refine jx_iconst (v := 5) kd822.2.2.2.1 (by decide) ?_
      refine jx_callVi (M' := mX11_of) (As := [.int x1, .int 5]) jo_X11_of jc_11 rfl jwM_X11_97 jwN_X11_of jwX_X11_of kd822.2.2.2.2.1 (jRok_m _ _ _) rfl (jle rfl) ⟨jle rfl, jle rfl⟩ hk15 h (fun r18 S17 h => ?_)
      obtain ⟨hk19, h⟩ := h
      obtain ⟨hi20, h⟩ := h
      refine jx_iast kd822.2.2.2.2.2.1 hk19 hi20 ?_
      refine jx_aload_n 1 kd822.2.2.2.2.2.2.1 rfl rfl ?_
      refine jx_iload_n 0 kd822.2.2.2.2.2.2.2.1 rfl rfl ?_
      obtain ⟨hk21, h⟩ := h
      refine jx_callVi (M' := mX11_worked) (As := [.int r7]) jo_X11_worked jc_11 rfl jwM_X11_101 jwN_X11_worked jwX_X11_worked kd822.2.2.2.2.2.2.2.2.1 (jRok_m _ _ _) rfl (jle rfl) ⟨jle rfl, jle rfl⟩ hk21 h (fun r23 S22 h => ?_)
      exact jx_iret kd823.1 rfl rfl (jle rfl) (jle rfl) ⟨_, rfl, h⟩
    replace h := h.2 c8
    refine jx_aload_n 1 kd820.2.2.2.1 rfl rfl ?_
    refine jx_iload_n 2 kd820.2.2.2.2.1 rfl rfl ?_
    refine jx_iconst (v := 4) kd820.2.2.2.2.2.1 (by decide) ?_
    obtain ⟨hk24, h⟩ := h
    refine jx_callVi (M' := mX11_of) (As := [.int x1, .int 4]) jo_X11_of jc_11 rfl jwM_X11_97 jwN_X11_of jwX_X11_of kd820.2.2.2.2.2.2.1 (jRok_m _ _ _) rfl (jle rfl) ⟨jle rfl, jle rfl⟩ hk24 h (fun r26 S25 h => ?_)
    exact jx_iret kd820.2.2.2.2.2.2.2.1 rfl rfl (jle rfl) (jle rfl) ⟨_, rfl, h⟩
  replace h := h.1 c4
  refine jx_ldc jwC_X11_87 kd819.2.2.2.2.1 ?_
  exact jx_iret kd819.2.2.2.2.2.1 rfl rfl (jle rfl) (jle rfl) ⟨_, rfl, h⟩
set_option maxRecDepth 100000 in
set_option maxHeartbeats 4000000 in
theorem T_X11_fine {E : jEnv} {d : Nat} {Q : Int32 → jM → Prop} {a0 : Nat} {S : jM} (h : jk S a0 = 11 ∧ jFi E mX11_counts d 0 0 [.ref a0, .int 2] S (fun r3 S2 => (0 ≤ r3 → jk S2 a0 = 11 ∧ ∃ b6, jr S2 a0 30 = some b6 ∧ (∃ b7, jr S2 a0 0 = some b7 ∧ (jk S2 b7 = 12 ∧ vp_in 5 (jl S2 b7) ∧ (jk S2 b6 = 12 ∧ vp_in 99 (jl S2 b6) ∧ (vp_in 2 (jl S2 b7) ∧ (vp_in 100 (jl S2 b6) ∧ (jFi E mX11_worked d 0 0 [.ref a0, .int r3] (jput (jput S2 b6 (Int32.toNatClampNeg 99) (ji S2 b7 (Int32.toNatClampNeg 5))) b6 (Int32.toNatClampNeg 100) (ji (jput S2 b6 (Int32.toNatClampNeg 99) (ji S2 b7 (Int32.toNatClampNeg 5))) b7 (Int32.toNatClampNeg 2))) (fun r15 S14 => Q r15 S14)))))))) ∧ (¬ 0 ≤ r3 → jk S2 a0 = 11 ∧ ∃ b17, jr S2 a0 0 = some b17 ∧ (jk S2 b17 = 12 ∧ vp_in 5 (jl S2 b17) ∧ (Q (ji S2 b17 (Int32.toNatClampNeg 5)) S2))))) : jFi E mX11_fine (d + 1) 0 0 [.ref a0] S Q := by
  refine jF_of (by decide) (jle rfl) ?_
  refine jx_lv (lv1 := [(0, .ref a0)]) [0] rfl ?_
  refine jx_aload_n 0 kd824.1 rfl rfl ?_
  refine jx_iconst (v := 2) kd824.2.1 (by decide) ?_
  obtain ⟨hk1, h⟩ := h
  refine jx_callVi (M' := mX11_counts) (As := [.int 2]) jo_X11_counts jc_11 rfl jwM_X11_93 jwN_X11_counts jwX_X11_counts kd824.2.2.1 (jRok_m _ _ _) rfl (jle rfl) ⟨jle rfl, jle rfl⟩ hk1 h (fun r3 S2 h => ?_)
  refine jx_istore_n (lv1 := [(1, .int r3), (0, .ref a0)]) kd824.2.2.2.1 rfl (by decide) rfl ?_
  refine jx_iload_n 0 kd824.2.2.2.2.1 rfl rfl ?_
  refine jx_if_ge (tgt := 17) kd824.2.2.2.2.2.1 (by decide) (fun c4 => ?_) (fun c4 => ?_)
  · replace h := h.1 c4
    refine jx_aload_n 1 kd825.2.2.1 rfl rfl ?_
    obtain ⟨hk5, h⟩ := h
    obtain ⟨b6, hb6, h⟩ := h
    refine jx_getr jc_11 (j := 30) (by decide) rfl jwF_X11_55 kd825.2.2.2.1 hk5 hb6 ?_
    refine jx_bipush (v := 99) kd825.2.2.2.2.1 (by decide) ?_
    refine jx_aload_n 1 kd825.2.2.2.2.2.1 rfl rfl ?_
    obtain ⟨b7, hb7, h⟩ := h
    refine jx_getr jc_11 (j := 0) (by decide) rfl jwF_X11_7 kd825.2.2.2.2.2.2.1 hk5 hb7 ?_
    refine jx_iconst (v := 5) kd825.2.2.2.2.2.2.2.1 (by decide) ?_
    obtain ⟨hk8, h⟩ := h
    obtain ⟨hi9, h⟩ := h
    refine jx_iald kd825.2.2.2.2.2.2.2.2.1 hk8 hi9 ?_
    obtain ⟨hk10, h⟩ := h
    obtain ⟨hi11, h⟩ := h
    refine jx_iast kd826.1 hk10 hi11 ?_
    refine jx_aload_n 1 kd826.2.1 rfl rfl ?_
    refine jx_getr jc_11 (j := 30) (by decide) rfl jwF_X11_55 kd826.2.2.1 hk5 hb6 ?_
    refine jx_bipush (v := 100) kd826.2.2.2.1 (by decide) ?_
    refine jx_aload_n 1 kd826.2.2.2.2.1 rfl rfl ?_
    refine jx_getr jc_11 (j := 0) (by decide) rfl jwF_X11_7 kd826.2.2.2.2.2.1 hk5 hb7 ?_
    refine jx_iconst (v := 2) kd826.2.2.2.2.2.2.1 (by decide) ?_
    obtain ⟨hi12, h⟩ := h
    refine jx_iald kd826.2.2.2.2.2.2.2.1 hk8 hi12 ?_
    obtain ⟨hi13, h⟩ := h
    refine jx_iast kd826.2.2.2.2.2.2.2.2.1 hk10 hi13 ?_
    refine jx_aload_n 1 kd827.1 rfl rfl ?_
    refine jx_iload_n 0 kd827.2.1 rfl rfl ?_
    refine jx_callVi (M' := mX11_worked) (As := [.int r3]) jo_X11_worked jc_11 rfl jwM_X11_101 jwN_X11_worked jwX_X11_worked kd827.2.2.1 (jRok_m _ _ _) rfl (jle rfl) ⟨jle rfl, jle rfl⟩ hk5 h (fun r15 S14 h => ?_)
    exact jx_iret kd827.2.2.2.1 rfl rfl (jle rfl) (jle rfl) ⟨_, rfl, h⟩
  replace h := h.2 c4
  refine jx_aload_n 1 kd824.2.2.2.2.2.2.1 rfl rfl ?_
  obtain ⟨hk16, h⟩ := h
  obtain ⟨b17, hb17, h⟩ := h
  refine jx_getr jc_11 (j := 0) (by decide) rfl jwF_X11_7 kd824.2.2.2.2.2.2.2.1 hk16 hb17 ?_
  refine jx_iconst (v := 5) kd824.2.2.2.2.2.2.2.2.1 (by decide) ?_
  obtain ⟨hk18, h⟩ := h
  obtain ⟨hi19, h⟩ := h
  refine jx_iald kd825.1 hk18 hi19 ?_
  exact jx_iret kd825.2.1 rfl rfl (jle rfl) (jle rfl) ⟨_, rfl, h⟩
/-- X11_feed at its loop's head 18 -/
abbrev L_X11_feed_18 (E : jEnv) (d : Nat) (Q : Int32 → jM → Prop) (a0 : Nat) (x1 : Int32) (x2 : Int32) (x3 : Int32) (x4 : Int32) (S : jM) : Prop := jX E mX11_feed (jRm d 0 0) (jZm E (fun r S' => ∃ v : Int32, r = some (.int v) ∧ Q v S') 0 0) 18 [(0, .ref a0), (1, .int x1), (2, .int x2), (3, .int x3), (4, .int x4)] [] S 0 0
set_option maxRecDepth 100000 in
set_option maxHeartbeats 4000000 in
theorem T_X11_feed {E : jEnv} {d : Nat} {Q : Int32 → jM → Prop} {a0 : Nat} {x1 : Int32} {x2 : Int32} {x3 : Int32} {S : jM} (h : jk S a0 = 11 ∧ (((ji S a0 19) + 12) ≤ 96 → L_X11_feed_18 E d Q a0 x1 x2 x3 0 S) ∧ (¬ ((ji S a0 19) + 12) ≤ 96 → Q (-1000000003) S)) : jFi E mX11_feed d 0 0 [.ref a0, .int x1, .int x2, .int x3] S Q := by
  refine jF_of (by decide) (jle rfl) ?_
  refine jx_lv (lv1 := [(0, .ref a0), (1, .int x1), (2, .int x2), (3, .int x3)]) [0, 1, 2, 3] rfl ?_
  refine jx_aload_n 0 kd828.1 rfl rfl ?_
  obtain ⟨hk1, h⟩ := h
  refine jx_geti jc_11 (j := 19) (by decide) rfl jwF_X11_214 kd828.2.1 hk1 ?_
  refine jx_bipush (v := 12) kd828.2.2.1 (by decide) ?_
  refine jx_iadd kd828.2.2.2.1 ?_
  refine jx_bipush (v := 96) kd828.2.2.2.2.1 (by decide) ?_
  refine jx_icmp_le (tgt := 15) kd828.2.2.2.2.2.1 (by decide) (fun c2 => ?_) (fun c2 => ?_)
  · replace h := h.1 c2
    refine jx_iconst (v := 0) kd828.2.2.2.2.2.2.2.2.1 (by decide) ?_
    refine jx_istore (lv1 := [(4, .int 0), (0, .ref a0), (1, .int x1), (2, .int x2), (3, .int x3)]) kd829.1 (by decide) rfl ?_
    exact jx_lv [1, 2, 3, 4, 0] rfl h
  replace h := h.2 c2
  refine jx_ldc jwC_X11_88 kd828.2.2.2.2.2.2.1 ?_
  exact jx_iret kd828.2.2.2.2.2.2.2.1 rfl rfl (jle rfl) (jle rfl) ⟨_, rfl, h⟩
set_option maxRecDepth 100000 in
set_option maxHeartbeats 4000000 in
theorem T_X11_feed_18 {E : jEnv} {d : Nat} {Q : Int32 → jM → Prop} {a0 : Nat} {x1 : Int32} {x2 : Int32} {x3 : Int32} {x4 : Int32} {S : jM} (h : (12 ≤ x4 → jk S a0 = 11 ∧ Q (ji S a0 19) S) ∧ (¬ 12 ≤ x4 → (4 ≤ x4 → (8 ≤ x4 → jk S a0 = 11 ∧ ∃ b8, jr S a0 18 = some b8 ∧ (jk S b8 = 12 ∧ vp_in (ji S a0 19) (jl S b8) ∧ (L_X11_feed_18 E d Q a0 x1 x2 x3 (x4 + 1) (jput (jput S b8 (Int32.toNatClampNeg (ji S a0 19)) ((jshr x3 (24 - (8 * (jrem x4 4)))) &&& 255)) a0 19 ((ji S a0 19) + 1))))) ∧ (¬ 8 ≤ x4 → jk S a0 = 11 ∧ ∃ b12, jr S a0 18 = some b12 ∧ (jk S b12 = 12 ∧ vp_in (ji S a0 19) (jl S b12) ∧ (L_X11_feed_18 E d Q a0 x1 x2 x3 (x4 + 1) (jput (jput S b12 (Int32.toNatClampNeg (ji S a0 19)) ((jshr x2 (24 - (8 * (jrem x4 4)))) &&& 255)) a0 19 ((ji S a0 19) + 1)))))) ∧ (¬ 4 ≤ x4 → jk S a0 = 11 ∧ ∃ b16, jr S a0 18 = some b16 ∧ (jk S b16 = 12 ∧ vp_in (ji S a0 19) (jl S b16) ∧ (L_X11_feed_18 E d Q a0 x1 x2 x3 (x4 + 1) (jput (jput S b16 (Int32.toNatClampNeg (ji S a0 19)) ((jshr x1 (24 - (8 * (jrem x4 4)))) &&& 255)) a0 19 ((ji S a0 19) + 1))))))) : L_X11_feed_18 E d Q a0 x1 x2 x3 x4 S := by
  show jX E mX11_feed (jRm d 0 0) (jZm E (fun r S' => ∃ v : Int32, r = some (.int v) ∧ Q v S') 0 0) 18 [(0, .ref a0), (1, .int x1), (2, .int x2), (3, .int x3), (4, .int x4)] [] S 0 0
  refine jx_iload 4 kd829.2.1 rfl ?_
  refine jx_bipush (v := 12) kd829.2.2.1 (by decide) ?_
  refine jx_icmp_ge (tgt := 91) kd829.2.2.2.1 (by decide) (fun c3 => ?_) (fun c3 => ?_)
  · replace h := h.1 c3
    refine jx_aload_n 0 kd833.2.2.2.2.1 rfl rfl ?_
    obtain ⟨hk4, h⟩ := h
    refine jx_geti jc_11 (j := 19) (by decide) rfl jwF_X11_214 kd833.2.2.2.2.2.1 hk4 ?_
    exact jx_iret kd833.2.2.2.2.2.2.1 rfl rfl (jle rfl) (jle rfl) ⟨_, rfl, h⟩
  replace h := h.2 c3
  refine jx_iload 4 kd829.2.2.2.2.1 rfl ?_
  refine jx_iconst (v := 4) kd829.2.2.2.2.2.1 (by decide) ?_
  refine jx_icmp_ge (tgt := 35) kd829.2.2.2.2.2.2.1 (by decide) (fun c5 => ?_) (fun c5 => ?_)
  · replace h := h.1 c5
    refine jx_iload 4 kd830.1 rfl ?_
    refine jx_bipush (v := 8) kd830.2.1 (by decide) ?_
    refine jx_icmp_ge (tgt := 46) kd830.2.2.1 (by decide) (fun c6 => ?_) (fun c6 => ?_)
    · replace h := h.1 c6
      refine jx_iload_n 3 kd830.2.2.2.2.2.1 rfl rfl ?_
      refine jx_istore (lv1 := [(5, .int x3), (0, .ref a0), (1, .int x1), (2, .int x2), (3, .int x3), (4, .int x4)]) kd830.2.2.2.2.2.2.1 (by decide) rfl ?_
      refine jx_aload_n 1 kd830.2.2.2.2.2.2.2.1 rfl rfl ?_
      obtain ⟨hk7, h⟩ := h
      obtain ⟨b8, hb8, h⟩ := h
      refine jx_getr jc_11 (j := 18) (by decide) rfl jwF_X11_52 kd830.2.2.2.2.2.2.2.2.1 hk7 hb8 ?_
      refine jx_aload_n 1 kd831.1 rfl rfl ?_
      refine jx_geti jc_11 (j := 19) (by decide) rfl jwF_X11_214 kd831.2.1 hk7 ?_
      refine jx_iload 0 kd831.2.2.1 rfl ?_
      refine jx_bipush (v := 24) kd831.2.2.2.1 (by decide) ?_
      refine jx_bipush (v := 8) kd831.2.2.2.2.1 (by decide) ?_
      refine jx_iload 5 kd831.2.2.2.2.2.1 rfl ?_
      refine jx_iconst (v := 4) kd831.2.2.2.2.2.2.1 (by decide) ?_
      refine jx_irem kd831.2.2.2.2.2.2.2.1 (by decide) ?_
      refine jx_imul kd831.2.2.2.2.2.2.2.2.1 ?_
      refine jx_isub kd832.1 ?_
      refine jx_ishr kd832.2.1 ?_
      refine jx_sipush (v := 255) kd832.2.2.1 (by decide) ?_
      refine jx_iand kd832.2.2.2.1 ?_
      obtain ⟨hk9, h⟩ := h
      obtain ⟨hi10, h⟩ := h
      refine jx_iast kd832.2.2.2.2.1 hk9 hi10 ?_
      refine jx_aload_n 1 kd832.2.2.2.2.2.1 rfl rfl ?_
      refine jx_dup kd832.2.2.2.2.2.2.1 rfl ?_
      refine jx_geti jc_11 (j := 19) (by decide) rfl jwF_X11_214 kd832.2.2.2.2.2.2.2.1 hk7 ?_
      refine jx_topi (y := (ji S a0 19)) (by simp [ji_put, ji_row, ji_putr, jne hk7 hk9 (by decide)]) ?_
      refine jx_iconst (v := 1) kd832.2.2.2.2.2.2.2.2.1 (by decide) ?_
      refine jx_iadd kd833.1 ?_
      refine jx_puti jc_11 (j := 19) (by decide) rfl jwF_X11_214 rfl rfl rfl kd833.2.1 hk7 ?_
      refine jx_iinc 5 (v := (x4 + 1)) (lv1 := [(4, .int (x4 + 1)), (5, .int x3), (0, .ref a0), (1, .int x1), (2, .int x2), (3, .int x3)]) kd833.2.2.1 rfl rfl (by decide) rfl ?_
      refine jx_goto (tgt := 18) kd833.2.2.2.1 (by decide) ?_
      exact jx_lv [2, 3, 4, 5, 0] rfl h
    replace h := h.2 c6
    refine jx_iload_n 2 kd830.2.2.2.1 rfl rfl ?_
    refine jx_goto (tgt := 47) kd830.2.2.2.2.1 (by decide) ?_
    refine jx_istore (lv1 := [(5, .int x2), (0, .ref a0), (1, .int x1), (2, .int x2), (3, .int x3), (4, .int x4)]) kd830.2.2.2.2.2.2.1 (by decide) rfl ?_
    refine jx_aload_n 1 kd830.2.2.2.2.2.2.2.1 rfl rfl ?_
    obtain ⟨hk11, h⟩ := h
    obtain ⟨b12, hb12, h⟩ := h
    refine jx_getr jc_11 (j := 18) (by decide) rfl jwF_X11_52 kd830.2.2.2.2.2.2.2.2.1 hk11 hb12 ?_
    refine jx_aload_n 1 kd831.1 rfl rfl ?_
    refine jx_geti jc_11 (j := 19) (by decide) rfl jwF_X11_214 kd831.2.1 hk11 ?_
    refine jx_iload 0 kd831.2.2.1 rfl ?_
    refine jx_bipush (v := 24) kd831.2.2.2.1 (by decide) ?_
    refine jx_bipush (v := 8) kd831.2.2.2.2.1 (by decide) ?_
    refine jx_iload 5 kd831.2.2.2.2.2.1 rfl ?_
    refine jx_iconst (v := 4) kd831.2.2.2.2.2.2.1 (by decide) ?_
    refine jx_irem kd831.2.2.2.2.2.2.2.1 (by decide) ?_
    refine jx_imul kd831.2.2.2.2.2.2.2.2.1 ?_
    refine jx_isub kd832.1 ?_
    refine jx_ishr kd832.2.1 ?_
    refine jx_sipush (v := 255) kd832.2.2.1 (by decide) ?_
    refine jx_iand kd832.2.2.2.1 ?_
    obtain ⟨hk13, h⟩ := h
    obtain ⟨hi14, h⟩ := h
    refine jx_iast kd832.2.2.2.2.1 hk13 hi14 ?_
    refine jx_aload_n 1 kd832.2.2.2.2.2.1 rfl rfl ?_
    refine jx_dup kd832.2.2.2.2.2.2.1 rfl ?_
    refine jx_geti jc_11 (j := 19) (by decide) rfl jwF_X11_214 kd832.2.2.2.2.2.2.2.1 hk11 ?_
    refine jx_topi (y := (ji S a0 19)) (by simp [ji_put, ji_row, ji_putr, jne hk11 hk13 (by decide)]) ?_
    refine jx_iconst (v := 1) kd832.2.2.2.2.2.2.2.2.1 (by decide) ?_
    refine jx_iadd kd833.1 ?_
    refine jx_puti jc_11 (j := 19) (by decide) rfl jwF_X11_214 rfl rfl rfl kd833.2.1 hk11 ?_
    refine jx_iinc 5 (v := (x4 + 1)) (lv1 := [(4, .int (x4 + 1)), (5, .int x2), (0, .ref a0), (1, .int x1), (2, .int x2), (3, .int x3)]) kd833.2.2.1 rfl rfl (by decide) rfl ?_
    refine jx_goto (tgt := 18) kd833.2.2.2.1 (by decide) ?_
    exact jx_lv [2, 3, 4, 5, 0] rfl h
  replace h := h.2 c5
  refine jx_iload_n 1 kd829.2.2.2.2.2.2.2.1 rfl rfl ?_
  refine jx_goto (tgt := 47) kd829.2.2.2.2.2.2.2.2.1 (by decide) ?_
  refine jx_istore (lv1 := [(5, .int x1), (0, .ref a0), (1, .int x1), (2, .int x2), (3, .int x3), (4, .int x4)]) kd830.2.2.2.2.2.2.1 (by decide) rfl ?_
  refine jx_aload_n 1 kd830.2.2.2.2.2.2.2.1 rfl rfl ?_
  obtain ⟨hk15, h⟩ := h
  obtain ⟨b16, hb16, h⟩ := h
  refine jx_getr jc_11 (j := 18) (by decide) rfl jwF_X11_52 kd830.2.2.2.2.2.2.2.2.1 hk15 hb16 ?_
  refine jx_aload_n 1 kd831.1 rfl rfl ?_
  refine jx_geti jc_11 (j := 19) (by decide) rfl jwF_X11_214 kd831.2.1 hk15 ?_
  refine jx_iload 0 kd831.2.2.1 rfl ?_
  refine jx_bipush (v := 24) kd831.2.2.2.1 (by decide) ?_
  refine jx_bipush (v := 8) kd831.2.2.2.2.1 (by decide) ?_
  refine jx_iload 5 kd831.2.2.2.2.2.1 rfl ?_
  refine jx_iconst (v := 4) kd831.2.2.2.2.2.2.1 (by decide) ?_
  refine jx_irem kd831.2.2.2.2.2.2.2.1 (by decide) ?_
  refine jx_imul kd831.2.2.2.2.2.2.2.2.1 ?_
  refine jx_isub kd832.1 ?_
  refine jx_ishr kd832.2.1 ?_
  refine jx_sipush (v := 255) kd832.2.2.1 (by decide) ?_
  refine jx_iand kd832.2.2.2.1 ?_
  obtain ⟨hk17, h⟩ := h
  obtain ⟨hi18, h⟩ := h
  refine jx_iast kd832.2.2.2.2.1 hk17 hi18 ?_
  refine jx_aload_n 1 kd832.2.2.2.2.2.1 rfl rfl ?_
  refine jx_dup kd832.2.2.2.2.2.2.1 rfl ?_
  refine jx_geti jc_11 (j := 19) (by decide) rfl jwF_X11_214 kd832.2.2.2.2.2.2.2.1 hk15 ?_
  refine jx_topi (y := (ji S a0 19)) (by simp [ji_put, ji_row, ji_putr, jne hk15 hk17 (by decide)]) ?_
  refine jx_iconst (v := 1) kd832.2.2.2.2.2.2.2.2.1 (by decide) ?_
  refine jx_iadd kd833.1 ?_
  refine jx_puti jc_11 (j := 19) (by decide) rfl jwF_X11_214 rfl rfl rfl kd833.2.1 hk15 ?_
  refine jx_iinc 5 (v := (x4 + 1)) (lv1 := [(4, .int (x4 + 1)), (5, .int x1), (0, .ref a0), (1, .int x1), (2, .int x2), (3, .int x3)]) kd833.2.2.1 rfl rfl (by decide) rfl ?_
  refine jx_goto (tgt := 18) kd833.2.2.2.1 (by decide) ?_
  exact jx_lv [2, 3, 4, 5, 0] rfl h
set_option maxRecDepth 100000 in
set_option maxHeartbeats 4000000 in
theorem T_X11_trim {E : jEnv} {d : Nat} {Q : Int32 → jM → Prop} {a0 : Nat} {x1 : Int32} {S : jM} (h : jk S a0 = 11 ∧ ((jisin (Int32.toInt64 x1) 0 (Int32.toInt64 (ji S a0 19))) = 0 → Q (-1000000001) S) ∧ (¬ (jisin (Int32.toInt64 x1) 0 (Int32.toInt64 (ji S a0 19))) = 0 → Q x1 (jput S a0 19 x1))) : jFi E mX11_trim (d + 1) 0 0 [.ref a0, .int x1] S Q := by
  refine jF_of (by decide) (jle rfl) ?_
  refine jx_lv (lv1 := [(0, .ref a0), (1, .int x1)]) [0, 1] rfl ?_
  refine jx_iload_n 1 kd834.1 rfl rfl ?_
  refine jx_i2l kd834.2.1 ?_
  refine jx_lconst (v := 0) kd834.2.2.1 (by decide) ?_
  refine jx_aload_n 0 kd834.2.2.2.1 rfl rfl ?_
  obtain ⟨hk1, h⟩ := h
  refine jx_geti jc_11 (j := 19) (by decide) rfl jwF_X11_214 kd834.2.2.2.2.1 hk1 ?_
  refine jx_i2l kd834.2.2.2.2.2.1 ?_
  refine jx_callSi (M' := mX11_isIn) (As := [.long (Int32.toInt64 x1), .long 0, .long (Int32.toInt64 (ji S a0 19))]) jo_X11_isIn jwM_X11_71 jwS_X11_isIn kd834.2.2.2.2.2.2.1 (jRok_m _ _ _) rfl (jle rfl) ⟨jle rfl, jle rfl⟩ (c_X11_isIn (Q := fun v S' => v = (jisin (Int32.toInt64 x1) 0 (Int32.toInt64 (ji S a0 19))) ∧ S = S') ⟨rfl, rfl⟩) (fun r2 S3 hq4 => ?_)
  obtain ⟨rfl, rfl⟩ := hq4
  refine jx_if_ne (tgt := 17) kd834.2.2.2.2.2.2.2.1 (by decide) (fun c5 => ?_) (fun c5 => ?_)
  · replace h := h.2 c5
    refine jx_aload_n 0 kd835.2.1 rfl rfl ?_
    refine jx_iload_n 1 kd835.2.2.1 rfl rfl ?_
    refine jx_puti jc_11 (j := 19) (by decide) rfl jwF_X11_214 rfl rfl rfl kd835.2.2.2.1 hk1 ?_
    refine jx_iload_n 1 kd835.2.2.2.2.1 rfl rfl ?_
    exact jx_iret kd835.2.2.2.2.2.1 rfl rfl (jle rfl) (jle rfl) ⟨_, rfl, h⟩
  replace h := h.1 c5
  refine jx_ldc jwC_X11_87 kd834.2.2.2.2.2.2.2.2.1 ?_
  exact jx_iret kd835.1 rfl rfl (jle rfl) (jle rfl) ⟨_, rfl, h⟩
set_option maxRecDepth 100000 in
set_option maxHeartbeats 4000000 in
theorem T_X11_isLetter {E : jEnv} {d : Nat} {Q : Int32 → jM → Prop} {a0 : Nat} {x1 : Int32} {S : jM} (h : jk S a0 = 11 ∧ ((ji S a0 19) ≤ x1 → Q 0 S) ∧ (¬ (ji S a0 19) ≤ x1 → ∃ b3, jr S a0 18 = some b3 ∧ (jk S b3 = 12 ∧ vp_in x1 (jl S b3) ∧ (((jisin (Int32.toInt64 (ji S b3 (Int32.toNatClampNeg x1))) 97 122) = 0 → Q 0 S) ∧ (¬ (jisin (Int32.toInt64 (ji S b3 (Int32.toNatClampNeg x1))) 97 122) = 0 → Q 1 S))))) : jFi E mX11_isLetter (d + 1) 0 0 [.ref a0, .int x1] S Q := by
  refine jF_of (by decide) (jle rfl) ?_
  refine jx_lv (lv1 := [(0, .ref a0), (1, .int x1)]) [0, 1] rfl ?_
  refine jx_iload_n 1 kd836.1 rfl rfl ?_
  refine jx_aload_n 0 kd836.2.1 rfl rfl ?_
  obtain ⟨hk1, h⟩ := h
  refine jx_geti jc_11 (j := 19) (by decide) rfl jwF_X11_214 kd836.2.2.1 hk1 ?_
  refine jx_icmp_ge (tgt := 31) kd836.2.2.2.1 (by decide) (fun c2 => ?_) (fun c2 => ?_)
  · replace h := h.1 c2
    refine jx_iconst (v := 0) kd837.2.2.2.2.2.2.1 (by decide) ?_
    exact jx_iret kd837.2.2.2.2.2.2.2.1 rfl (by decide) (jle rfl) (jle rfl) ⟨_, rfl, h⟩
  replace h := h.2 c2
  refine jx_aload_n 0 kd836.2.2.2.2.1 rfl rfl ?_
  obtain ⟨b3, hb3, h⟩ := h
  refine jx_getr jc_11 (j := 18) (by decide) rfl jwF_X11_52 kd836.2.2.2.2.2.1 hk1 hb3 ?_
  refine jx_iload_n 1 kd836.2.2.2.2.2.2.1 rfl rfl ?_
  obtain ⟨hk4, h⟩ := h
  obtain ⟨hi5, h⟩ := h
  refine jx_iald kd836.2.2.2.2.2.2.2.1 hk4 hi5 ?_
  refine jx_i2l kd836.2.2.2.2.2.2.2.2.1 ?_
  refine jx_ldc2 jwL_X11_217 kd837.1 ?_
  refine jx_ldc2 jwL_X11_219 kd837.2.1 ?_
  refine jx_callSi (M' := mX11_isIn) (As := [.long (Int32.toInt64 (ji S b3 (Int32.toNatClampNeg x1))), .long 97, .long 122]) jo_X11_isIn jwM_X11_71 jwS_X11_isIn kd837.2.2.1 (jRok_m _ _ _) rfl (jle rfl) ⟨jle rfl, jle rfl⟩ (c_X11_isIn (Q := fun v S' => v = (jisin (Int32.toInt64 (ji S b3 (Int32.toNatClampNeg x1))) 97 122) ∧ S = S') ⟨rfl, rfl⟩) (fun r6 S7 hq8 => ?_)
  obtain ⟨rfl, rfl⟩ := hq8
  refine jx_if_eq (tgt := 31) kd837.2.2.2.1 (by decide) (fun c9 => ?_) (fun c9 => ?_)
  · replace h := h.1 c9
    refine jx_iconst (v := 0) kd837.2.2.2.2.2.2.1 (by decide) ?_
    exact jx_iret kd837.2.2.2.2.2.2.2.1 rfl (by decide) (jle rfl) (jle rfl) ⟨_, rfl, h⟩
  replace h := h.2 c9
  refine jx_iconst (v := 1) kd837.2.2.2.2.1 (by decide) ?_
  refine jx_goto (tgt := 32) kd837.2.2.2.2.2.1 (by decide) ?_
  exact jx_iret kd837.2.2.2.2.2.2.2.1 rfl (by decide) (jle rfl) (jle rfl) ⟨_, rfl, h⟩
set_option maxRecDepth 100000 in
set_option maxHeartbeats 4000000 in
theorem T_X11_isDigit {E : jEnv} {d : Nat} {Q : Int32 → jM → Prop} {a0 : Nat} {x1 : Int32} {S : jM} (h : jk S a0 = 11 ∧ ((ji S a0 19) ≤ x1 → Q 0 S) ∧ (¬ (ji S a0 19) ≤ x1 → ∃ b3, jr S a0 18 = some b3 ∧ (jk S b3 = 12 ∧ vp_in x1 (jl S b3) ∧ (((jisin (Int32.toInt64 (ji S b3 (Int32.toNatClampNeg x1))) 48 57) = 0 → Q 0 S) ∧ (¬ (jisin (Int32.toInt64 (ji S b3 (Int32.toNatClampNeg x1))) 48 57) = 0 → Q 1 S))))) : jFi E mX11_isDigit (d + 1) 0 0 [.ref a0, .int x1] S Q := by
  refine jF_of (by decide) (jle rfl) ?_
  refine jx_lv (lv1 := [(0, .ref a0), (1, .int x1)]) [0, 1] rfl ?_
  refine jx_iload_n 1 kd838.1 rfl rfl ?_
  refine jx_aload_n 0 kd838.2.1 rfl rfl ?_
  obtain ⟨hk1, h⟩ := h
  refine jx_geti jc_11 (j := 19) (by decide) rfl jwF_X11_214 kd838.2.2.1 hk1 ?_
  refine jx_icmp_ge (tgt := 31) kd838.2.2.2.1 (by decide) (fun c2 => ?_) (fun c2 => ?_)
  · replace h := h.1 c2
    refine jx_iconst (v := 0) kd839.2.2.2.2.2.2.1 (by decide) ?_
    exact jx_iret kd839.2.2.2.2.2.2.2.1 rfl (by decide) (jle rfl) (jle rfl) ⟨_, rfl, h⟩
  replace h := h.2 c2
  refine jx_aload_n 0 kd838.2.2.2.2.1 rfl rfl ?_
  obtain ⟨b3, hb3, h⟩ := h
  refine jx_getr jc_11 (j := 18) (by decide) rfl jwF_X11_52 kd838.2.2.2.2.2.1 hk1 hb3 ?_
  refine jx_iload_n 1 kd838.2.2.2.2.2.2.1 rfl rfl ?_
  obtain ⟨hk4, h⟩ := h
  obtain ⟨hi5, h⟩ := h
  refine jx_iald kd838.2.2.2.2.2.2.2.1 hk4 hi5 ?_
  refine jx_i2l kd838.2.2.2.2.2.2.2.2.1 ?_
  refine jx_ldc2 jwL_X11_221 kd839.1 ?_
  refine jx_ldc2 jwL_X11_223 kd839.2.1 ?_
  refine jx_callSi (M' := mX11_isIn) (As := [.long (Int32.toInt64 (ji S b3 (Int32.toNatClampNeg x1))), .long 48, .long 57]) jo_X11_isIn jwM_X11_71 jwS_X11_isIn kd839.2.2.1 (jRok_m _ _ _) rfl (jle rfl) ⟨jle rfl, jle rfl⟩ (c_X11_isIn (Q := fun v S' => v = (jisin (Int32.toInt64 (ji S b3 (Int32.toNatClampNeg x1))) 48 57) ∧ S = S') ⟨rfl, rfl⟩) (fun r6 S7 hq8 => ?_)
  obtain ⟨rfl, rfl⟩ := hq8
  refine jx_if_eq (tgt := 31) kd839.2.2.2.1 (by decide) (fun c9 => ?_) (fun c9 => ?_)
  · replace h := h.1 c9
    refine jx_iconst (v := 0) kd839.2.2.2.2.2.2.1 (by decide) ?_
    exact jx_iret kd839.2.2.2.2.2.2.2.1 rfl (by decide) (jle rfl) (jle rfl) ⟨_, rfl, h⟩
  replace h := h.2 c9
  refine jx_iconst (v := 1) kd839.2.2.2.2.1 (by decide) ?_
  refine jx_goto (tgt := 32) kd839.2.2.2.2.2.1 (by decide) ?_
  exact jx_iret kd839.2.2.2.2.2.2.2.1 rfl (by decide) (jle rfl) (jle rfl) ⟨_, rfl, h⟩
/-- X11_nextToken at its loop's head 34 -/
abbrev L_X11_nextToken_34 (E : jEnv) (d : Nat) (Q : jM → Prop) (a0 : Nat) (x1 : Int32) (x2 : Int32) (S : jM) : Prop := jX E mX11_nextToken (jRm (d + 1) 0 0) (jZm E (fun r S' => r = none ∧ Q S') 0 0) 34 [(0, .ref a0), (1, .int x1), (2, .int x2)] [] S 0 0
/-- X11_nextToken at its loop's head 214 -/
abbrev L_X11_nextToken_214 (E : jEnv) (d : Nat) (Q : jM → Prop) (a0 : Nat) (x1 : Int32) (S : jM) : Prop := jX E mX11_nextToken (jRm (d + 1) 0 0) (jZm E (fun r S' => r = none ∧ Q S') 0 0) 214 [(0, .ref a0), (1, .int x1)] [] S 0 0
/-- X11_nextToken at its loop's head 128 -/
abbrev L_X11_nextToken_128 (E : jEnv) (d : Nat) (Q : jM → Prop) (a0 : Nat) (x1 : Int32) (S : jM) : Prop := jX E mX11_nextToken (jRm (d + 1) 0 0) (jZm E (fun r S' => r = none ∧ Q S') 0 0) 128 [(0, .ref a0), (1, .int x1)] [] S 0 0
set_option maxRecDepth 100000 in
set_option maxHeartbeats 4000000 in
theorem T_X11_nextToken {E : jEnv} {d : Nat} {Q : jM → Prop} {a0 : Nat} {S : jM} (h : jk S a0 = 11 ∧ ((ji S a0 21) ≤ 0 → L_X11_nextToken_34 E d Q a0 0 (ji S a0 21) S) ∧ (¬ (ji S a0 21) ≤ 0 → ((ji S a0 22) = 1 → L_X11_nextToken_34 E d Q a0 1 (ji S a0 21) S) ∧ (¬ (ji S a0 22) = 1 → ((ji S a0 22) = 2 → L_X11_nextToken_34 E d Q a0 1 (ji S a0 21) S) ∧ (¬ (ji S a0 22) = 2 → L_X11_nextToken_34 E d Q a0 0 (ji S a0 21) S)))) : jFv E mX11_nextToken (d + 1) 0 0 [.ref a0] S Q := by
  refine jF_of (by decide) (jle rfl) ?_
  refine jx_lv (lv1 := [(0, .ref a0)]) [0] rfl ?_
  refine jx_aload_n 0 kd840.1 rfl rfl ?_
  obtain ⟨hk1, h⟩ := h
  refine jx_geti jc_11 (j := 21) (by decide) rfl jwF_X11_225 kd840.2.1 hk1 ?_
  refine jx_if_le (tgt := 27) kd840.2.2.1 (by decide) (fun c2 => ?_) (fun c2 => ?_)
  · replace h := h.1 c2
    refine jx_iconst (v := 0) kd841.2.2.2.2.1 (by decide) ?_
    refine jx_istore_n (lv1 := [(1, .int 0), (0, .ref a0)]) kd841.2.2.2.2.2.1 rfl (by decide) rfl ?_
    refine jx_aload_n 1 kd841.2.2.2.2.2.2.1 rfl rfl ?_
    refine jx_geti jc_11 (j := 21) (by decide) rfl jwF_X11_225 kd841.2.2.2.2.2.2.2.1 hk1 ?_
    refine jx_istore_n (lv1 := [(2, .int (ji S a0 21)), (1, .int 0), (0, .ref a0)]) kd841.2.2.2.2.2.2.2.2.1 rfl (by decide) rfl ?_
    exact jx_lv [2, 1, 0] rfl h
  replace h := h.2 c2
  refine jx_aload_n 0 kd840.2.2.2.1 rfl rfl ?_
  refine jx_geti jc_11 (j := 22) (by decide) rfl jwF_X11_228 kd840.2.2.2.2.1 hk1 ?_
  refine jx_iconst (v := 1) kd840.2.2.2.2.2.1 (by decide) ?_
  refine jx_icmp_eq (tgt := 23) kd840.2.2.2.2.2.2.1 (by decide) (fun c3 => ?_) (fun c3 => ?_)
  · replace h := h.1 c3
    refine jx_iconst (v := 1) kd841.2.2.1 (by decide) ?_
    refine jx_goto (tgt := 28) kd841.2.2.2.1 (by decide) ?_
    refine jx_istore_n (lv1 := [(1, .int 1), (0, .ref a0)]) kd841.2.2.2.2.2.1 rfl (by decide) rfl ?_
    refine jx_aload_n 1 kd841.2.2.2.2.2.2.1 rfl rfl ?_
    refine jx_geti jc_11 (j := 21) (by decide) rfl jwF_X11_225 kd841.2.2.2.2.2.2.2.1 hk1 ?_
    refine jx_istore_n (lv1 := [(2, .int (ji S a0 21)), (1, .int 1), (0, .ref a0)]) kd841.2.2.2.2.2.2.2.2.1 rfl (by decide) rfl ?_
    exact jx_lv [2, 1, 0] rfl h
  replace h := h.2 c3
  refine jx_aload_n 0 kd840.2.2.2.2.2.2.2.1 rfl rfl ?_
  refine jx_geti jc_11 (j := 22) (by decide) rfl jwF_X11_228 kd840.2.2.2.2.2.2.2.2.1 hk1 ?_
  refine jx_iconst (v := 2) kd841.1 (by decide) ?_
  refine jx_icmp_ne (tgt := 27) kd841.2.1 (by decide) (fun c4 => ?_) (fun c4 => ?_)
  · replace h := h.2 c4
    refine jx_iconst (v := 0) kd841.2.2.2.2.1 (by decide) ?_
    refine jx_istore_n (lv1 := [(1, .int 0), (0, .ref a0)]) kd841.2.2.2.2.2.1 rfl (by decide) rfl ?_
    refine jx_aload_n 1 kd841.2.2.2.2.2.2.1 rfl rfl ?_
    refine jx_geti jc_11 (j := 21) (by decide) rfl jwF_X11_225 kd841.2.2.2.2.2.2.2.1 hk1 ?_
    refine jx_istore_n (lv1 := [(2, .int (ji S a0 21)), (1, .int 0), (0, .ref a0)]) kd841.2.2.2.2.2.2.2.2.1 rfl (by decide) rfl ?_
    exact jx_lv [2, 1, 0] rfl h
  replace h := h.1 c4
  refine jx_iconst (v := 1) kd841.2.2.1 (by decide) ?_
  refine jx_goto (tgt := 28) kd841.2.2.2.1 (by decide) ?_
  refine jx_istore_n (lv1 := [(1, .int 1), (0, .ref a0)]) kd841.2.2.2.2.2.1 rfl (by decide) rfl ?_
  refine jx_aload_n 1 kd841.2.2.2.2.2.2.1 rfl rfl ?_
  refine jx_geti jc_11 (j := 21) (by decide) rfl jwF_X11_225 kd841.2.2.2.2.2.2.2.1 hk1 ?_
  refine jx_istore_n (lv1 := [(2, .int (ji S a0 21)), (1, .int 1), (0, .ref a0)]) kd841.2.2.2.2.2.2.2.2.1 rfl (by decide) rfl ?_
  exact jx_lv [2, 1, 0] rfl h
set_option maxRecDepth 100000 in
set_option maxHeartbeats 4000000 in
theorem T_X11_nextToken_34 {E : jEnv} {d : Nat} {Q : jM → Prop} {a0 : Nat} {x1 : Int32} {x2 : Int32} {S : jM} (h : jk S a0 = 11 ∧ ((ji S a0 19) ≤ (ji S a0 21) → (x1 = 0 → ((ji S a0 21) = (ji S a0 19) → Q (jput (jput S a0 20 (ji S a0 21)) a0 22 0)) ∧ (¬ (ji S a0 21) = (ji S a0 19) → jFi E mX11_isLetter d 0 0 [.ref a0, .int (ji S a0 21)] (jput S a0 20 (ji S a0 21)) (fun r10 S9 => (r10 = 0 → jk S9 a0 = 11 ∧ jFi E mX11_isDigit d 0 0 [.ref a0, .int (ji S9 a0 20)] S9 (fun r14 S13 => (r14 = 0 → jk S13 a0 = 11 ∧ ∃ b17, jr S13 a0 18 = some b17 ∧ (jk S13 b17 = 12 ∧ vp_in (ji S13 a0 20) (jl S13 b17) ∧ (Q (jput (jput (jput S13 a0 22 3) a0 24 (ji S13 b17 (Int32.toNatClampNeg (ji S13 a0 20)))) a0 21 ((ji S13 a0 21) + 1))))) ∧ (¬ r14 = 0 → jk S13 a0 = 11 ∧ L_X11_nextToken_214 E d Q a0 0 (jput S13 a0 23 0)))) ∧ (¬ r10 = 0 → L_X11_nextToken_128 E d Q a0 0 S9)))) ∧ (¬ x1 = 0 → (x2 = (ji S a0 21) → ((ji S a0 21) = (ji S a0 19) → Q (jput (jput S a0 20 (ji S a0 21)) a0 22 0)) ∧ (¬ (ji S a0 21) = (ji S a0 19) → jFi E mX11_isLetter d 0 0 [.ref a0, .int (ji S a0 21)] (jput S a0 20 (ji S a0 21)) (fun r37 S36 => (r37 = 0 → jk S36 a0 = 11 ∧ jFi E mX11_isDigit d 0 0 [.ref a0, .int (ji S36 a0 20)] S36 (fun r41 S40 => (r41 = 0 → jk S40 a0 = 11 ∧ ∃ b44, jr S40 a0 18 = some b44 ∧ (jk S40 b44 = 12 ∧ vp_in (ji S40 a0 20) (jl S40 b44) ∧ (Q (jput (jput (jput S40 a0 22 3) a0 24 (ji S40 b44 (Int32.toNatClampNeg (ji S40 a0 20)))) a0 21 ((ji S40 a0 21) + 1))))) ∧ (¬ r41 = 0 → jk S40 a0 = 11 ∧ L_X11_nextToken_214 E d Q a0 1 (jput S40 a0 23 0)))) ∧ (¬ r37 = 0 → L_X11_nextToken_128 E d Q a0 1 S36)))) ∧ (¬ x2 = (ji S a0 21) → ((ji S a0 21) = (ji S a0 19) → Q (jput (jput S a0 20 (ji S a0 21)) a0 22 0)) ∧ (¬ (ji S a0 21) = (ji S a0 19) → jFi E mX11_isLetter d 0 0 [.ref a0, .int (ji S a0 21)] (jput S a0 20 (ji S a0 21)) (fun r24 S23 => (r24 = 0 → jk S23 a0 = 11 ∧ jFi E mX11_isDigit d 0 0 [.ref a0, .int (ji S23 a0 20)] S23 (fun r28 S27 => (r28 = 0 → jk S27 a0 = 11 ∧ ∃ b31, jr S27 a0 18 = some b31 ∧ (jk S27 b31 = 12 ∧ vp_in (ji S27 a0 20) (jl S27 b31) ∧ (Q (jput (jput (jput S27 a0 22 3) a0 24 (ji S27 b31 (Int32.toNatClampNeg (ji S27 a0 20)))) a0 21 ((ji S27 a0 21) + 1))))) ∧ (¬ r28 = 0 → jk S27 a0 = 11 ∧ L_X11_nextToken_214 E d Q a0 0 (jput S27 a0 23 0)))) ∧ (¬ r24 = 0 → L_X11_nextToken_128 E d Q a0 0 S23)))))) ∧ (¬ (ji S a0 19) ≤ (ji S a0 21) → ∃ b48, jr S a0 18 = some b48 ∧ (jk S b48 = 12 ∧ vp_in (ji S a0 21) (jl S b48) ∧ (((ji S b48 (Int32.toNatClampNeg (ji S a0 21))) = 32 → L_X11_nextToken_34 E d Q a0 x1 x2 (jput S a0 21 ((ji S a0 21) + 1))) ∧ (¬ (ji S b48 (Int32.toNatClampNeg (ji S a0 21))) = 32 → (x1 = 0 → ((ji S a0 21) = (ji S a0 19) → Q (jput (jput S a0 20 (ji S a0 21)) a0 22 0)) ∧ (¬ (ji S a0 21) = (ji S a0 19) → jFi E mX11_isLetter d 0 0 [.ref a0, .int (ji S a0 21)] (jput S a0 20 (ji S a0 21)) (fun r55 S54 => (r55 = 0 → jk S54 a0 = 11 ∧ jFi E mX11_isDigit d 0 0 [.ref a0, .int (ji S54 a0 20)] S54 (fun r59 S58 => (r59 = 0 → jk S58 a0 = 11 ∧ ∃ b62, jr S58 a0 18 = some b62 ∧ (jk S58 b62 = 12 ∧ vp_in (ji S58 a0 20) (jl S58 b62) ∧ (Q (jput (jput (jput S58 a0 22 3) a0 24 (ji S58 b62 (Int32.toNatClampNeg (ji S58 a0 20)))) a0 21 ((ji S58 a0 21) + 1))))) ∧ (¬ r59 = 0 → jk S58 a0 = 11 ∧ L_X11_nextToken_214 E d Q a0 0 (jput S58 a0 23 0)))) ∧ (¬ r55 = 0 → L_X11_nextToken_128 E d Q a0 0 S54)))) ∧ (¬ x1 = 0 → (x2 = (ji S a0 21) → ((ji S a0 21) = (ji S a0 19) → Q (jput (jput S a0 20 (ji S a0 21)) a0 22 0)) ∧ (¬ (ji S a0 21) = (ji S a0 19) → jFi E mX11_isLetter d 0 0 [.ref a0, .int (ji S a0 21)] (jput S a0 20 (ji S a0 21)) (fun r82 S81 => (r82 = 0 → jk S81 a0 = 11 ∧ jFi E mX11_isDigit d 0 0 [.ref a0, .int (ji S81 a0 20)] S81 (fun r86 S85 => (r86 = 0 → jk S85 a0 = 11 ∧ ∃ b89, jr S85 a0 18 = some b89 ∧ (jk S85 b89 = 12 ∧ vp_in (ji S85 a0 20) (jl S85 b89) ∧ (Q (jput (jput (jput S85 a0 22 3) a0 24 (ji S85 b89 (Int32.toNatClampNeg (ji S85 a0 20)))) a0 21 ((ji S85 a0 21) + 1))))) ∧ (¬ r86 = 0 → jk S85 a0 = 11 ∧ L_X11_nextToken_214 E d Q a0 1 (jput S85 a0 23 0)))) ∧ (¬ r82 = 0 → L_X11_nextToken_128 E d Q a0 1 S81)))) ∧ (¬ x2 = (ji S a0 21) → ((ji S a0 21) = (ji S a0 19) → Q (jput (jput S a0 20 (ji S a0 21)) a0 22 0)) ∧ (¬ (ji S a0 21) = (ji S a0 19) → jFi E mX11_isLetter d 0 0 [.ref a0, .int (ji S a0 21)] (jput S a0 20 (ji S a0 21)) (fun r69 S68 => (r69 = 0 → jk S68 a0 = 11 ∧ jFi E mX11_isDigit d 0 0 [.ref a0, .int (ji S68 a0 20)] S68 (fun r73 S72 => (r73 = 0 → jk S72 a0 = 11 ∧ ∃ b76, jr S72 a0 18 = some b76 ∧ (jk S72 b76 = 12 ∧ vp_in (ji S72 a0 20) (jl S72 b76) ∧ (Q (jput (jput (jput S72 a0 22 3) a0 24 (ji S72 b76 (Int32.toNatClampNeg (ji S72 a0 20)))) a0 21 ((ji S72 a0 21) + 1))))) ∧ (¬ r73 = 0 → jk S72 a0 = 11 ∧ L_X11_nextToken_214 E d Q a0 0 (jput S72 a0 23 0)))) ∧ (¬ r69 = 0 → L_X11_nextToken_128 E d Q a0 0 S68)))))))))) : L_X11_nextToken_34 E d Q a0 x1 x2 S := by
  show jX E mX11_nextToken (jRm (d + 1) 0 0) (jZm E (fun r S' => r = none ∧ Q S') 0 0) 34 [(0, .ref a0), (1, .int x1), (2, .int x2)] [] S 0 0
  refine jx_aload_n 0 kd842.1 rfl rfl ?_
  obtain ⟨hk5, h⟩ := h
  refine jx_geti jc_11 (j := 21) (by decide) rfl jwF_X11_225 kd842.2.1 hk5 ?_
  refine jx_aload_n 0 kd842.2.2.1 rfl rfl ?_
  refine jx_geti jc_11 (j := 19) (by decide) rfl jwF_X11_214 kd842.2.2.2.1 hk5 ?_
  refine jx_icmp_ge (tgt := 72) kd842.2.2.2.2.1 (by decide) (fun c6 => ?_) (fun c6 => ?_)
  · replace h := h.1 c6
    refine jx_iload_n 1 kd844.2.1 rfl rfl ?_
    refine jx_if_eq (tgt := 88) kd844.2.2.1 (by decide) (fun c7 => ?_) (fun c7 => ?_)
    · replace h := h.1 c7
      refine jx_iconst (v := 0) kd845.1 (by decide) ?_
      refine jx_istore_n (lv1 := [(1, .int 0), (0, .ref a0), (2, .int x2)]) kd845.2.1 rfl (by decide) rfl ?_
      refine jx_aload_n 1 kd845.2.2.1 rfl rfl ?_
      refine jx_aload_n 1 kd845.2.2.2.1 rfl rfl ?_
      refine jx_geti jc_11 (j := 21) (by decide) rfl jwF_X11_225 kd845.2.2.2.2.1 hk5 ?_
      refine jx_puti jc_11 (j := 20) (by decide) rfl jwF_X11_231 rfl rfl rfl kd845.2.2.2.2.2.1 hk5 ?_
      refine jx_aload_n 1 kd845.2.2.2.2.2.2.1 rfl rfl ?_
      refine jx_geti jc_11 (j := 20) (by decide) rfl jwF_X11_231 kd845.2.2.2.2.2.2.2.1 hk5 ?_
      refine jx_topi (y := (ji S a0 21)) (by simp [ji_put, ji_row, ji_putr]) ?_
      refine jx_aload_n 1 kd845.2.2.2.2.2.2.2.2.1 rfl rfl ?_
      refine jx_geti jc_11 (j := 19) (by decide) rfl jwF_X11_214 kd846.1 hk5 ?_
      refine jx_topi (y := (ji S a0 19)) (by simp [ji_put, ji_row, ji_putr]) ?_
      refine jx_icmp_ne (tgt := 117) kd846.2.1 (by decide) (fun c8 => ?_) (fun c8 => ?_)
      · replace h := h.2 c8
        refine jx_aload_n 1 kd846.2.2.2.2.2.2.1 rfl rfl ?_
        refine jx_aload_n 1 kd846.2.2.2.2.2.2.2.1 rfl rfl ?_
        refine jx_geti jc_11 (j := 20) (by decide) rfl jwF_X11_231 kd846.2.2.2.2.2.2.2.2.1 hk5 ?_
        refine jx_topi (y := (ji S a0 21)) (by simp [ji_put, ji_row, ji_putr]) ?_
        refine jx_callVi (M' := mX11_isLetter) (As := [.int (ji S a0 21)]) jo_X11_isLetter jc_11 rfl jwM_X11_234 jwN_X11_isLetter jwX_X11_isLetter kd847.1 (jRok_m _ _ _) rfl (jle rfl) ⟨jle rfl, jle rfl⟩ hk5 h (fun r10 S9 h => ?_)
        refine jx_if_eq (tgt := 198) kd847.2.1 (by decide) (fun c11 => ?_) (fun c11 => ?_)
        · replace h := h.1 c11
          refine jx_aload_n 1 kd851.2.2.1 rfl rfl ?_
          refine jx_aload_n 1 kd851.2.2.2.1 rfl rfl ?_
          obtain ⟨hk12, h⟩ := h
          refine jx_geti jc_11 (j := 20) (by decide) rfl jwF_X11_231 kd851.2.2.2.2.1 hk12 ?_
          refine jx_callVi (M' := mX11_isDigit) (As := [.int (ji S9 a0 20)]) jo_X11_isDigit jc_11 rfl jwM_X11_240 jwN_X11_isDigit jwX_X11_isDigit kd851.2.2.2.2.2.1 (jRok_m _ _ _) rfl (jle rfl) ⟨jle rfl, jle rfl⟩ hk12 h (fun r14 S13 h => ?_)
          refine jx_if_eq (tgt := 311) kd851.2.2.2.2.2.2.1 (by decide) (fun c15 => ?_) (fun c15 => ?_)
          · replace h := h.1 c15
            refine jx_aload_n 1 kd857.2.2.2.2.2.2.2.1 rfl rfl ?_
            refine jx_iconst (v := 3) kd857.2.2.2.2.2.2.2.2.1 (by decide) ?_
            obtain ⟨hk16, h⟩ := h
            refine jx_puti jc_11 (j := 22) (by decide) rfl jwF_X11_228 rfl rfl rfl kd858.1 hk16 ?_
            refine jx_aload_n 1 kd858.2.1 rfl rfl ?_
            refine jx_aload_n 1 kd858.2.2.1 rfl rfl ?_
            obtain ⟨b17, hb17, h⟩ := h
            refine jx_getr jc_11 (j := 18) (by decide) rfl jwF_X11_52 kd858.2.2.2.1 hk16 hb17 ?_
            refine jx_aload_n 1 kd858.2.2.2.2.1 rfl rfl ?_
            refine jx_geti jc_11 (j := 20) (by decide) rfl jwF_X11_231 kd858.2.2.2.2.2.1 hk16 ?_
            refine jx_topi (y := (ji S13 a0 20)) (by simp [ji_put, ji_row, ji_putr]) ?_
            obtain ⟨hk18, h⟩ := h
            obtain ⟨hi19, h⟩ := h
            refine jx_iald kd858.2.2.2.2.2.2.1 hk18 hi19 ?_
            refine jx_topi (y := (ji S13 b17 (Int32.toNatClampNeg (ji S13 a0 20)))) (by simp [ji_put, ji_row, ji_putr, jne hk18 hk16 (by decide)]) ?_
            refine jx_puti jc_11 (j := 24) (by decide) rfl jwF_X11_237 rfl rfl rfl kd858.2.2.2.2.2.2.2.1 hk16 ?_
            refine jx_aload_n 1 kd858.2.2.2.2.2.2.2.2.1 rfl rfl ?_
            refine jx_dup kd859.1 rfl ?_
            refine jx_geti jc_11 (j := 21) (by decide) rfl jwF_X11_225 kd859.2.1 hk16 ?_
            refine jx_topi (y := (ji S13 a0 21)) (by simp [ji_put, ji_row, ji_putr]) ?_
            refine jx_iconst (v := 1) kd859.2.2.1 (by decide) ?_
            refine jx_iadd kd859.2.2.2.1 ?_
            refine jx_puti jc_11 (j := 21) (by decide) rfl jwF_X11_225 rfl rfl rfl kd859.2.2.2.2.1 hk16 ?_
            exact jx_vret kd859.2.2.2.2.2.1 rfl (jle rfl) (jle rfl) ⟨rfl, h⟩
          replace h := h.2 c15
          refine jx_aload_n 1 kd851.2.2.2.2.2.2.2.1 rfl rfl ?_
          refine jx_iconst (v := 0) kd851.2.2.2.2.2.2.2.2.1 (by decide) ?_
          obtain ⟨hk20, h⟩ := h
          refine jx_puti jc_11 (j := 23) (by decide) rfl jwF_X11_243 rfl rfl rfl kd852.1 hk20 ?_
          exact jx_lv [1, 0] rfl h
        replace h := h.2 c11
        exact jx_lv [1, 0] rfl h
      replace h := h.1 c8
      refine jx_aload_n 1 kd846.2.2.1 rfl rfl ?_
      refine jx_iconst (v := 0) kd846.2.2.2.1 (by decide) ?_
      refine jx_puti jc_11 (j := 22) (by decide) rfl jwF_X11_228 rfl rfl rfl kd846.2.2.2.2.1 hk5 ?_
      refine jx_goto (tgt := 339) kd846.2.2.2.2.2.1 (by decide) ?_
      exact jx_vret kd859.2.2.2.2.2.1 rfl (jle rfl) (jle rfl) ⟨rfl, h⟩
    replace h := h.2 c7
    refine jx_iload_n 2 kd844.2.2.2.1 rfl rfl ?_
    refine jx_aload_n 0 kd844.2.2.2.2.1 rfl rfl ?_
    refine jx_geti jc_11 (j := 21) (by decide) rfl jwF_X11_225 kd844.2.2.2.2.2.1 hk5 ?_
    refine jx_icmp_ne (tgt := 88) kd844.2.2.2.2.2.2.1 (by decide) (fun c21 => ?_) (fun c21 => ?_)
    · replace h := h.2 c21
      refine jx_iconst (v := 0) kd845.1 (by decide) ?_
      refine jx_istore_n (lv1 := [(1, .int 0), (0, .ref a0), (2, .int x2)]) kd845.2.1 rfl (by decide) rfl ?_
      refine jx_aload_n 1 kd845.2.2.1 rfl rfl ?_
      refine jx_aload_n 1 kd845.2.2.2.1 rfl rfl ?_
      refine jx_geti jc_11 (j := 21) (by decide) rfl jwF_X11_225 kd845.2.2.2.2.1 hk5 ?_
      refine jx_puti jc_11 (j := 20) (by decide) rfl jwF_X11_231 rfl rfl rfl kd845.2.2.2.2.2.1 hk5 ?_
      refine jx_aload_n 1 kd845.2.2.2.2.2.2.1 rfl rfl ?_
      refine jx_geti jc_11 (j := 20) (by decide) rfl jwF_X11_231 kd845.2.2.2.2.2.2.2.1 hk5 ?_
      refine jx_topi (y := (ji S a0 21)) (by simp [ji_put, ji_row, ji_putr]) ?_
      refine jx_aload_n 1 kd845.2.2.2.2.2.2.2.2.1 rfl rfl ?_
      refine jx_geti jc_11 (j := 19) (by decide) rfl jwF_X11_214 kd846.1 hk5 ?_
      refine jx_topi (y := (ji S a0 19)) (by simp [ji_put, ji_row, ji_putr]) ?_
      refine jx_icmp_ne (tgt := 117) kd846.2.1 (by decide) (fun c22 => ?_) (fun c22 => ?_)
      · replace h := h.2 c22
        refine jx_aload_n 1 kd846.2.2.2.2.2.2.1 rfl rfl ?_
        refine jx_aload_n 1 kd846.2.2.2.2.2.2.2.1 rfl rfl ?_
        refine jx_geti jc_11 (j := 20) (by decide) rfl jwF_X11_231 kd846.2.2.2.2.2.2.2.2.1 hk5 ?_
        refine jx_topi (y := (ji S a0 21)) (by simp [ji_put, ji_row, ji_putr]) ?_
        refine jx_callVi (M' := mX11_isLetter) (As := [.int (ji S a0 21)]) jo_X11_isLetter jc_11 rfl jwM_X11_234 jwN_X11_isLetter jwX_X11_isLetter kd847.1 (jRok_m _ _ _) rfl (jle rfl) ⟨jle rfl, jle rfl⟩ hk5 h (fun r24 S23 h => ?_)
        refine jx_if_eq (tgt := 198) kd847.2.1 (by decide) (fun c25 => ?_) (fun c25 => ?_)
        · replace h := h.1 c25
          refine jx_aload_n 1 kd851.2.2.1 rfl rfl ?_
          refine jx_aload_n 1 kd851.2.2.2.1 rfl rfl ?_
          obtain ⟨hk26, h⟩ := h
          refine jx_geti jc_11 (j := 20) (by decide) rfl jwF_X11_231 kd851.2.2.2.2.1 hk26 ?_
          refine jx_callVi (M' := mX11_isDigit) (As := [.int (ji S23 a0 20)]) jo_X11_isDigit jc_11 rfl jwM_X11_240 jwN_X11_isDigit jwX_X11_isDigit kd851.2.2.2.2.2.1 (jRok_m _ _ _) rfl (jle rfl) ⟨jle rfl, jle rfl⟩ hk26 h (fun r28 S27 h => ?_)
          refine jx_if_eq (tgt := 311) kd851.2.2.2.2.2.2.1 (by decide) (fun c29 => ?_) (fun c29 => ?_)
          · replace h := h.1 c29
            refine jx_aload_n 1 kd857.2.2.2.2.2.2.2.1 rfl rfl ?_
            refine jx_iconst (v := 3) kd857.2.2.2.2.2.2.2.2.1 (by decide) ?_
            obtain ⟨hk30, h⟩ := h
            refine jx_puti jc_11 (j := 22) (by decide) rfl jwF_X11_228 rfl rfl rfl kd858.1 hk30 ?_
            refine jx_aload_n 1 kd858.2.1 rfl rfl ?_
            refine jx_aload_n 1 kd858.2.2.1 rfl rfl ?_
            obtain ⟨b31, hb31, h⟩ := h
            refine jx_getr jc_11 (j := 18) (by decide) rfl jwF_X11_52 kd858.2.2.2.1 hk30 hb31 ?_
            refine jx_aload_n 1 kd858.2.2.2.2.1 rfl rfl ?_
            refine jx_geti jc_11 (j := 20) (by decide) rfl jwF_X11_231 kd858.2.2.2.2.2.1 hk30 ?_
            refine jx_topi (y := (ji S27 a0 20)) (by simp [ji_put, ji_row, ji_putr]) ?_
            obtain ⟨hk32, h⟩ := h
            obtain ⟨hi33, h⟩ := h
            refine jx_iald kd858.2.2.2.2.2.2.1 hk32 hi33 ?_
            refine jx_topi (y := (ji S27 b31 (Int32.toNatClampNeg (ji S27 a0 20)))) (by simp [ji_put, ji_row, ji_putr, jne hk32 hk30 (by decide)]) ?_
            refine jx_puti jc_11 (j := 24) (by decide) rfl jwF_X11_237 rfl rfl rfl kd858.2.2.2.2.2.2.2.1 hk30 ?_
            refine jx_aload_n 1 kd858.2.2.2.2.2.2.2.2.1 rfl rfl ?_
            refine jx_dup kd859.1 rfl ?_
            refine jx_geti jc_11 (j := 21) (by decide) rfl jwF_X11_225 kd859.2.1 hk30 ?_
            refine jx_topi (y := (ji S27 a0 21)) (by simp [ji_put, ji_row, ji_putr]) ?_
            refine jx_iconst (v := 1) kd859.2.2.1 (by decide) ?_
            refine jx_iadd kd859.2.2.2.1 ?_
            refine jx_puti jc_11 (j := 21) (by decide) rfl jwF_X11_225 rfl rfl rfl kd859.2.2.2.2.1 hk30 ?_
            exact jx_vret kd859.2.2.2.2.2.1 rfl (jle rfl) (jle rfl) ⟨rfl, h⟩
          replace h := h.2 c29
          refine jx_aload_n 1 kd851.2.2.2.2.2.2.2.1 rfl rfl ?_
          refine jx_iconst (v := 0) kd851.2.2.2.2.2.2.2.2.1 (by decide) ?_
          obtain ⟨hk34, h⟩ := h
          refine jx_puti jc_11 (j := 23) (by decide) rfl jwF_X11_243 rfl rfl rfl kd852.1 hk34 ?_
          exact jx_lv [1, 0] rfl h
        replace h := h.2 c25
        exact jx_lv [1, 0] rfl h
      replace h := h.1 c22
      refine jx_aload_n 1 kd846.2.2.1 rfl rfl ?_
      refine jx_iconst (v := 0) kd846.2.2.2.1 (by decide) ?_
      refine jx_puti jc_11 (j := 22) (by decide) rfl jwF_X11_228 rfl rfl rfl kd846.2.2.2.2.1 hk5 ?_
      refine jx_goto (tgt := 339) kd846.2.2.2.2.2.1 (by decide) ?_
      exact jx_vret kd859.2.2.2.2.2.1 rfl (jle rfl) (jle rfl) ⟨rfl, h⟩
    replace h := h.1 c21
    refine jx_iconst (v := 1) kd844.2.2.2.2.2.2.2.1 (by decide) ?_
    refine jx_goto (tgt := 89) kd844.2.2.2.2.2.2.2.2.1 (by decide) ?_
    refine jx_istore_n (lv1 := [(1, .int 1), (0, .ref a0), (2, .int x2)]) kd845.2.1 rfl (by decide) rfl ?_
    refine jx_aload_n 1 kd845.2.2.1 rfl rfl ?_
    refine jx_aload_n 1 kd845.2.2.2.1 rfl rfl ?_
    refine jx_geti jc_11 (j := 21) (by decide) rfl jwF_X11_225 kd845.2.2.2.2.1 hk5 ?_
    refine jx_puti jc_11 (j := 20) (by decide) rfl jwF_X11_231 rfl rfl rfl kd845.2.2.2.2.2.1 hk5 ?_
    refine jx_aload_n 1 kd845.2.2.2.2.2.2.1 rfl rfl ?_
    refine jx_geti jc_11 (j := 20) (by decide) rfl jwF_X11_231 kd845.2.2.2.2.2.2.2.1 hk5 ?_
    refine jx_topi (y := (ji S a0 21)) (by simp [ji_put, ji_row, ji_putr]) ?_
    refine jx_aload_n 1 kd845.2.2.2.2.2.2.2.2.1 rfl rfl ?_
    refine jx_geti jc_11 (j := 19) (by decide) rfl jwF_X11_214 kd846.1 hk5 ?_
    refine jx_topi (y := (ji S a0 19)) (by simp [ji_put, ji_row, ji_putr]) ?_
    refine jx_icmp_ne (tgt := 117) kd846.2.1 (by decide) (fun c35 => ?_) (fun c35 => ?_)
    · replace h := h.2 c35
      refine jx_aload_n 1 kd846.2.2.2.2.2.2.1 rfl rfl ?_
      refine jx_aload_n 1 kd846.2.2.2.2.2.2.2.1 rfl rfl ?_
      refine jx_geti jc_11 (j := 20) (by decide) rfl jwF_X11_231 kd846.2.2.2.2.2.2.2.2.1 hk5 ?_
      refine jx_topi (y := (ji S a0 21)) (by simp [ji_put, ji_row, ji_putr]) ?_
      refine jx_callVi (M' := mX11_isLetter) (As := [.int (ji S a0 21)]) jo_X11_isLetter jc_11 rfl jwM_X11_234 jwN_X11_isLetter jwX_X11_isLetter kd847.1 (jRok_m _ _ _) rfl (jle rfl) ⟨jle rfl, jle rfl⟩ hk5 h (fun r37 S36 h => ?_)
      refine jx_if_eq (tgt := 198) kd847.2.1 (by decide) (fun c38 => ?_) (fun c38 => ?_)
      · replace h := h.1 c38
        refine jx_aload_n 1 kd851.2.2.1 rfl rfl ?_
        refine jx_aload_n 1 kd851.2.2.2.1 rfl rfl ?_
        obtain ⟨hk39, h⟩ := h
        refine jx_geti jc_11 (j := 20) (by decide) rfl jwF_X11_231 kd851.2.2.2.2.1 hk39 ?_
        refine jx_callVi (M' := mX11_isDigit) (As := [.int (ji S36 a0 20)]) jo_X11_isDigit jc_11 rfl jwM_X11_240 jwN_X11_isDigit jwX_X11_isDigit kd851.2.2.2.2.2.1 (jRok_m _ _ _) rfl (jle rfl) ⟨jle rfl, jle rfl⟩ hk39 h (fun r41 S40 h => ?_)
        refine jx_if_eq (tgt := 311) kd851.2.2.2.2.2.2.1 (by decide) (fun c42 => ?_) (fun c42 => ?_)
        · replace h := h.1 c42
          refine jx_aload_n 1 kd857.2.2.2.2.2.2.2.1 rfl rfl ?_
          refine jx_iconst (v := 3) kd857.2.2.2.2.2.2.2.2.1 (by decide) ?_
          obtain ⟨hk43, h⟩ := h
          refine jx_puti jc_11 (j := 22) (by decide) rfl jwF_X11_228 rfl rfl rfl kd858.1 hk43 ?_
          refine jx_aload_n 1 kd858.2.1 rfl rfl ?_
          refine jx_aload_n 1 kd858.2.2.1 rfl rfl ?_
          obtain ⟨b44, hb44, h⟩ := h
          refine jx_getr jc_11 (j := 18) (by decide) rfl jwF_X11_52 kd858.2.2.2.1 hk43 hb44 ?_
          refine jx_aload_n 1 kd858.2.2.2.2.1 rfl rfl ?_
          refine jx_geti jc_11 (j := 20) (by decide) rfl jwF_X11_231 kd858.2.2.2.2.2.1 hk43 ?_
          refine jx_topi (y := (ji S40 a0 20)) (by simp [ji_put, ji_row, ji_putr]) ?_
          obtain ⟨hk45, h⟩ := h
          obtain ⟨hi46, h⟩ := h
          refine jx_iald kd858.2.2.2.2.2.2.1 hk45 hi46 ?_
          refine jx_topi (y := (ji S40 b44 (Int32.toNatClampNeg (ji S40 a0 20)))) (by simp [ji_put, ji_row, ji_putr, jne hk45 hk43 (by decide)]) ?_
          refine jx_puti jc_11 (j := 24) (by decide) rfl jwF_X11_237 rfl rfl rfl kd858.2.2.2.2.2.2.2.1 hk43 ?_
          refine jx_aload_n 1 kd858.2.2.2.2.2.2.2.2.1 rfl rfl ?_
          refine jx_dup kd859.1 rfl ?_
          refine jx_geti jc_11 (j := 21) (by decide) rfl jwF_X11_225 kd859.2.1 hk43 ?_
          refine jx_topi (y := (ji S40 a0 21)) (by simp [ji_put, ji_row, ji_putr]) ?_
          refine jx_iconst (v := 1) kd859.2.2.1 (by decide) ?_
          refine jx_iadd kd859.2.2.2.1 ?_
          refine jx_puti jc_11 (j := 21) (by decide) rfl jwF_X11_225 rfl rfl rfl kd859.2.2.2.2.1 hk43 ?_
          exact jx_vret kd859.2.2.2.2.2.1 rfl (jle rfl) (jle rfl) ⟨rfl, h⟩
        replace h := h.2 c42
        refine jx_aload_n 1 kd851.2.2.2.2.2.2.2.1 rfl rfl ?_
        refine jx_iconst (v := 0) kd851.2.2.2.2.2.2.2.2.1 (by decide) ?_
        obtain ⟨hk47, h⟩ := h
        refine jx_puti jc_11 (j := 23) (by decide) rfl jwF_X11_243 rfl rfl rfl kd852.1 hk47 ?_
        exact jx_lv [1, 0] rfl h
      replace h := h.2 c38
      exact jx_lv [1, 0] rfl h
    replace h := h.1 c35
    refine jx_aload_n 1 kd846.2.2.1 rfl rfl ?_
    refine jx_iconst (v := 0) kd846.2.2.2.1 (by decide) ?_
    refine jx_puti jc_11 (j := 22) (by decide) rfl jwF_X11_228 rfl rfl rfl kd846.2.2.2.2.1 hk5 ?_
    refine jx_goto (tgt := 339) kd846.2.2.2.2.2.1 (by decide) ?_
    exact jx_vret kd859.2.2.2.2.2.1 rfl (jle rfl) (jle rfl) ⟨rfl, h⟩
  replace h := h.2 c6
  refine jx_aload_n 0 kd842.2.2.2.2.2.1 rfl rfl ?_
  obtain ⟨b48, hb48, h⟩ := h
  refine jx_getr jc_11 (j := 18) (by decide) rfl jwF_X11_52 kd842.2.2.2.2.2.2.1 hk5 hb48 ?_
  refine jx_aload_n 0 kd842.2.2.2.2.2.2.2.1 rfl rfl ?_
  refine jx_geti jc_11 (j := 21) (by decide) rfl jwF_X11_225 kd842.2.2.2.2.2.2.2.2.1 hk5 ?_
  obtain ⟨hk49, h⟩ := h
  obtain ⟨hi50, h⟩ := h
  refine jx_iald kd843.1 hk49 hi50 ?_
  refine jx_bipush (v := 32) kd843.2.1 (by decide) ?_
  refine jx_icmp_ne (tgt := 72) kd843.2.2.1 (by decide) (fun c51 => ?_) (fun c51 => ?_)
  · replace h := h.2 c51
    refine jx_iload_n 1 kd844.2.1 rfl rfl ?_
    refine jx_if_eq (tgt := 88) kd844.2.2.1 (by decide) (fun c52 => ?_) (fun c52 => ?_)
    · replace h := h.1 c52
      refine jx_iconst (v := 0) kd845.1 (by decide) ?_
      refine jx_istore_n (lv1 := [(1, .int 0), (0, .ref a0), (2, .int x2)]) kd845.2.1 rfl (by decide) rfl ?_
      refine jx_aload_n 1 kd845.2.2.1 rfl rfl ?_
      refine jx_aload_n 1 kd845.2.2.2.1 rfl rfl ?_
      refine jx_geti jc_11 (j := 21) (by decide) rfl jwF_X11_225 kd845.2.2.2.2.1 hk5 ?_
      refine jx_puti jc_11 (j := 20) (by decide) rfl jwF_X11_231 rfl rfl rfl kd845.2.2.2.2.2.1 hk5 ?_
      refine jx_aload_n 1 kd845.2.2.2.2.2.2.1 rfl rfl ?_
      refine jx_geti jc_11 (j := 20) (by decide) rfl jwF_X11_231 kd845.2.2.2.2.2.2.2.1 hk5 ?_
      refine jx_topi (y := (ji S a0 21)) (by simp [ji_put, ji_row, ji_putr]) ?_
      refine jx_aload_n 1 kd845.2.2.2.2.2.2.2.2.1 rfl rfl ?_
      refine jx_geti jc_11 (j := 19) (by decide) rfl jwF_X11_214 kd846.1 hk5 ?_
      refine jx_topi (y := (ji S a0 19)) (by simp [ji_put, ji_row, ji_putr]) ?_
      refine jx_icmp_ne (tgt := 117) kd846.2.1 (by decide) (fun c53 => ?_) (fun c53 => ?_)
      · replace h := h.2 c53
        refine jx_aload_n 1 kd846.2.2.2.2.2.2.1 rfl rfl ?_
        refine jx_aload_n 1 kd846.2.2.2.2.2.2.2.1 rfl rfl ?_
        refine jx_geti jc_11 (j := 20) (by decide) rfl jwF_X11_231 kd846.2.2.2.2.2.2.2.2.1 hk5 ?_
        refine jx_topi (y := (ji S a0 21)) (by simp [ji_put, ji_row, ji_putr]) ?_
        refine jx_callVi (M' := mX11_isLetter) (As := [.int (ji S a0 21)]) jo_X11_isLetter jc_11 rfl jwM_X11_234 jwN_X11_isLetter jwX_X11_isLetter kd847.1 (jRok_m _ _ _) rfl (jle rfl) ⟨jle rfl, jle rfl⟩ hk5 h (fun r55 S54 h => ?_)
        refine jx_if_eq (tgt := 198) kd847.2.1 (by decide) (fun c56 => ?_) (fun c56 => ?_)
        · replace h := h.1 c56
          refine jx_aload_n 1 kd851.2.2.1 rfl rfl ?_
          refine jx_aload_n 1 kd851.2.2.2.1 rfl rfl ?_
          obtain ⟨hk57, h⟩ := h
          refine jx_geti jc_11 (j := 20) (by decide) rfl jwF_X11_231 kd851.2.2.2.2.1 hk57 ?_
          refine jx_callVi (M' := mX11_isDigit) (As := [.int (ji S54 a0 20)]) jo_X11_isDigit jc_11 rfl jwM_X11_240 jwN_X11_isDigit jwX_X11_isDigit kd851.2.2.2.2.2.1 (jRok_m _ _ _) rfl (jle rfl) ⟨jle rfl, jle rfl⟩ hk57 h (fun r59 S58 h => ?_)
          refine jx_if_eq (tgt := 311) kd851.2.2.2.2.2.2.1 (by decide) (fun c60 => ?_) (fun c60 => ?_)
          · replace h := h.1 c60
            refine jx_aload_n 1 kd857.2.2.2.2.2.2.2.1 rfl rfl ?_
            refine jx_iconst (v := 3) kd857.2.2.2.2.2.2.2.2.1 (by decide) ?_
            obtain ⟨hk61, h⟩ := h
            refine jx_puti jc_11 (j := 22) (by decide) rfl jwF_X11_228 rfl rfl rfl kd858.1 hk61 ?_
            refine jx_aload_n 1 kd858.2.1 rfl rfl ?_
            refine jx_aload_n 1 kd858.2.2.1 rfl rfl ?_
            obtain ⟨b62, hb62, h⟩ := h
            refine jx_getr jc_11 (j := 18) (by decide) rfl jwF_X11_52 kd858.2.2.2.1 hk61 hb62 ?_
            refine jx_aload_n 1 kd858.2.2.2.2.1 rfl rfl ?_
            refine jx_geti jc_11 (j := 20) (by decide) rfl jwF_X11_231 kd858.2.2.2.2.2.1 hk61 ?_
            refine jx_topi (y := (ji S58 a0 20)) (by simp [ji_put, ji_row, ji_putr]) ?_
            obtain ⟨hk63, h⟩ := h
            obtain ⟨hi64, h⟩ := h
            refine jx_iald kd858.2.2.2.2.2.2.1 hk63 hi64 ?_
            refine jx_topi (y := (ji S58 b62 (Int32.toNatClampNeg (ji S58 a0 20)))) (by simp [ji_put, ji_row, ji_putr, jne hk63 hk61 (by decide)]) ?_
            refine jx_puti jc_11 (j := 24) (by decide) rfl jwF_X11_237 rfl rfl rfl kd858.2.2.2.2.2.2.2.1 hk61 ?_
            refine jx_aload_n 1 kd858.2.2.2.2.2.2.2.2.1 rfl rfl ?_
            refine jx_dup kd859.1 rfl ?_
            refine jx_geti jc_11 (j := 21) (by decide) rfl jwF_X11_225 kd859.2.1 hk61 ?_
            refine jx_topi (y := (ji S58 a0 21)) (by simp [ji_put, ji_row, ji_putr]) ?_
            refine jx_iconst (v := 1) kd859.2.2.1 (by decide) ?_
            refine jx_iadd kd859.2.2.2.1 ?_
            refine jx_puti jc_11 (j := 21) (by decide) rfl jwF_X11_225 rfl rfl rfl kd859.2.2.2.2.1 hk61 ?_
            exact jx_vret kd859.2.2.2.2.2.1 rfl (jle rfl) (jle rfl) ⟨rfl, h⟩
          replace h := h.2 c60
          refine jx_aload_n 1 kd851.2.2.2.2.2.2.2.1 rfl rfl ?_
          refine jx_iconst (v := 0) kd851.2.2.2.2.2.2.2.2.1 (by decide) ?_
          obtain ⟨hk65, h⟩ := h
          refine jx_puti jc_11 (j := 23) (by decide) rfl jwF_X11_243 rfl rfl rfl kd852.1 hk65 ?_
          exact jx_lv [1, 0] rfl h
        replace h := h.2 c56
        exact jx_lv [1, 0] rfl h
      replace h := h.1 c53
      refine jx_aload_n 1 kd846.2.2.1 rfl rfl ?_
      refine jx_iconst (v := 0) kd846.2.2.2.1 (by decide) ?_
      refine jx_puti jc_11 (j := 22) (by decide) rfl jwF_X11_228 rfl rfl rfl kd846.2.2.2.2.1 hk5 ?_
      refine jx_goto (tgt := 339) kd846.2.2.2.2.2.1 (by decide) ?_
      exact jx_vret kd859.2.2.2.2.2.1 rfl (jle rfl) (jle rfl) ⟨rfl, h⟩
    replace h := h.2 c52
    refine jx_iload_n 2 kd844.2.2.2.1 rfl rfl ?_
    refine jx_aload_n 0 kd844.2.2.2.2.1 rfl rfl ?_
    refine jx_geti jc_11 (j := 21) (by decide) rfl jwF_X11_225 kd844.2.2.2.2.2.1 hk5 ?_
    refine jx_icmp_ne (tgt := 88) kd844.2.2.2.2.2.2.1 (by decide) (fun c66 => ?_) (fun c66 => ?_)
    · replace h := h.2 c66
      refine jx_iconst (v := 0) kd845.1 (by decide) ?_
      refine jx_istore_n (lv1 := [(1, .int 0), (0, .ref a0), (2, .int x2)]) kd845.2.1 rfl (by decide) rfl ?_
      refine jx_aload_n 1 kd845.2.2.1 rfl rfl ?_
      refine jx_aload_n 1 kd845.2.2.2.1 rfl rfl ?_
      refine jx_geti jc_11 (j := 21) (by decide) rfl jwF_X11_225 kd845.2.2.2.2.1 hk5 ?_
      refine jx_puti jc_11 (j := 20) (by decide) rfl jwF_X11_231 rfl rfl rfl kd845.2.2.2.2.2.1 hk5 ?_
      refine jx_aload_n 1 kd845.2.2.2.2.2.2.1 rfl rfl ?_
      refine jx_geti jc_11 (j := 20) (by decide) rfl jwF_X11_231 kd845.2.2.2.2.2.2.2.1 hk5 ?_
      refine jx_topi (y := (ji S a0 21)) (by simp [ji_put, ji_row, ji_putr]) ?_
      refine jx_aload_n 1 kd845.2.2.2.2.2.2.2.2.1 rfl rfl ?_
      refine jx_geti jc_11 (j := 19) (by decide) rfl jwF_X11_214 kd846.1 hk5 ?_
      refine jx_topi (y := (ji S a0 19)) (by simp [ji_put, ji_row, ji_putr]) ?_
      refine jx_icmp_ne (tgt := 117) kd846.2.1 (by decide) (fun c67 => ?_) (fun c67 => ?_)
      · replace h := h.2 c67
        refine jx_aload_n 1 kd846.2.2.2.2.2.2.1 rfl rfl ?_
        refine jx_aload_n 1 kd846.2.2.2.2.2.2.2.1 rfl rfl ?_
        refine jx_geti jc_11 (j := 20) (by decide) rfl jwF_X11_231 kd846.2.2.2.2.2.2.2.2.1 hk5 ?_
        refine jx_topi (y := (ji S a0 21)) (by simp [ji_put, ji_row, ji_putr]) ?_
        refine jx_callVi (M' := mX11_isLetter) (As := [.int (ji S a0 21)]) jo_X11_isLetter jc_11 rfl jwM_X11_234 jwN_X11_isLetter jwX_X11_isLetter kd847.1 (jRok_m _ _ _) rfl (jle rfl) ⟨jle rfl, jle rfl⟩ hk5 h (fun r69 S68 h => ?_)
        refine jx_if_eq (tgt := 198) kd847.2.1 (by decide) (fun c70 => ?_) (fun c70 => ?_)
        · replace h := h.1 c70
          refine jx_aload_n 1 kd851.2.2.1 rfl rfl ?_
          refine jx_aload_n 1 kd851.2.2.2.1 rfl rfl ?_
          obtain ⟨hk71, h⟩ := h
          refine jx_geti jc_11 (j := 20) (by decide) rfl jwF_X11_231 kd851.2.2.2.2.1 hk71 ?_
          refine jx_callVi (M' := mX11_isDigit) (As := [.int (ji S68 a0 20)]) jo_X11_isDigit jc_11 rfl jwM_X11_240 jwN_X11_isDigit jwX_X11_isDigit kd851.2.2.2.2.2.1 (jRok_m _ _ _) rfl (jle rfl) ⟨jle rfl, jle rfl⟩ hk71 h (fun r73 S72 h => ?_)
          refine jx_if_eq (tgt := 311) kd851.2.2.2.2.2.2.1 (by decide) (fun c74 => ?_) (fun c74 => ?_)
          · replace h := h.1 c74
            refine jx_aload_n 1 kd857.2.2.2.2.2.2.2.1 rfl rfl ?_
            refine jx_iconst (v := 3) kd857.2.2.2.2.2.2.2.2.1 (by decide) ?_
            obtain ⟨hk75, h⟩ := h
            refine jx_puti jc_11 (j := 22) (by decide) rfl jwF_X11_228 rfl rfl rfl kd858.1 hk75 ?_
            refine jx_aload_n 1 kd858.2.1 rfl rfl ?_
            refine jx_aload_n 1 kd858.2.2.1 rfl rfl ?_
            obtain ⟨b76, hb76, h⟩ := h
            refine jx_getr jc_11 (j := 18) (by decide) rfl jwF_X11_52 kd858.2.2.2.1 hk75 hb76 ?_
            refine jx_aload_n 1 kd858.2.2.2.2.1 rfl rfl ?_
            refine jx_geti jc_11 (j := 20) (by decide) rfl jwF_X11_231 kd858.2.2.2.2.2.1 hk75 ?_
            refine jx_topi (y := (ji S72 a0 20)) (by simp [ji_put, ji_row, ji_putr]) ?_
            obtain ⟨hk77, h⟩ := h
            obtain ⟨hi78, h⟩ := h
            refine jx_iald kd858.2.2.2.2.2.2.1 hk77 hi78 ?_
            refine jx_topi (y := (ji S72 b76 (Int32.toNatClampNeg (ji S72 a0 20)))) (by simp [ji_put, ji_row, ji_putr, jne hk77 hk75 (by decide)]) ?_
            refine jx_puti jc_11 (j := 24) (by decide) rfl jwF_X11_237 rfl rfl rfl kd858.2.2.2.2.2.2.2.1 hk75 ?_
            refine jx_aload_n 1 kd858.2.2.2.2.2.2.2.2.1 rfl rfl ?_
            refine jx_dup kd859.1 rfl ?_
            refine jx_geti jc_11 (j := 21) (by decide) rfl jwF_X11_225 kd859.2.1 hk75 ?_
            refine jx_topi (y := (ji S72 a0 21)) (by simp [ji_put, ji_row, ji_putr]) ?_
            refine jx_iconst (v := 1) kd859.2.2.1 (by decide) ?_
            refine jx_iadd kd859.2.2.2.1 ?_
            refine jx_puti jc_11 (j := 21) (by decide) rfl jwF_X11_225 rfl rfl rfl kd859.2.2.2.2.1 hk75 ?_
            exact jx_vret kd859.2.2.2.2.2.1 rfl (jle rfl) (jle rfl) ⟨rfl, h⟩
          replace h := h.2 c74
          refine jx_aload_n 1 kd851.2.2.2.2.2.2.2.1 rfl rfl ?_
          refine jx_iconst (v := 0) kd851.2.2.2.2.2.2.2.2.1 (by decide) ?_
          obtain ⟨hk79, h⟩ := h
          refine jx_puti jc_11 (j := 23) (by decide) rfl jwF_X11_243 rfl rfl rfl kd852.1 hk79 ?_
          exact jx_lv [1, 0] rfl h
        replace h := h.2 c70
        exact jx_lv [1, 0] rfl h
      replace h := h.1 c67
      refine jx_aload_n 1 kd846.2.2.1 rfl rfl ?_
      refine jx_iconst (v := 0) kd846.2.2.2.1 (by decide) ?_
      refine jx_puti jc_11 (j := 22) (by decide) rfl jwF_X11_228 rfl rfl rfl kd846.2.2.2.2.1 hk5 ?_
      refine jx_goto (tgt := 339) kd846.2.2.2.2.2.1 (by decide) ?_
      exact jx_vret kd859.2.2.2.2.2.1 rfl (jle rfl) (jle rfl) ⟨rfl, h⟩
    replace h := h.1 c66
    refine jx_iconst (v := 1) kd844.2.2.2.2.2.2.2.1 (by decide) ?_
    refine jx_goto (tgt := 89) kd844.2.2.2.2.2.2.2.2.1 (by decide) ?_
    refine jx_istore_n (lv1 := [(1, .int 1), (0, .ref a0), (2, .int x2)]) kd845.2.1 rfl (by decide) rfl ?_
    refine jx_aload_n 1 kd845.2.2.1 rfl rfl ?_
    refine jx_aload_n 1 kd845.2.2.2.1 rfl rfl ?_
    refine jx_geti jc_11 (j := 21) (by decide) rfl jwF_X11_225 kd845.2.2.2.2.1 hk5 ?_
    refine jx_puti jc_11 (j := 20) (by decide) rfl jwF_X11_231 rfl rfl rfl kd845.2.2.2.2.2.1 hk5 ?_
    refine jx_aload_n 1 kd845.2.2.2.2.2.2.1 rfl rfl ?_
    refine jx_geti jc_11 (j := 20) (by decide) rfl jwF_X11_231 kd845.2.2.2.2.2.2.2.1 hk5 ?_
    refine jx_topi (y := (ji S a0 21)) (by simp [ji_put, ji_row, ji_putr]) ?_
    refine jx_aload_n 1 kd845.2.2.2.2.2.2.2.2.1 rfl rfl ?_
    refine jx_geti jc_11 (j := 19) (by decide) rfl jwF_X11_214 kd846.1 hk5 ?_
    refine jx_topi (y := (ji S a0 19)) (by simp [ji_put, ji_row, ji_putr]) ?_
    refine jx_icmp_ne (tgt := 117) kd846.2.1 (by decide) (fun c80 => ?_) (fun c80 => ?_)
    · replace h := h.2 c80
      refine jx_aload_n 1 kd846.2.2.2.2.2.2.1 rfl rfl ?_
      refine jx_aload_n 1 kd846.2.2.2.2.2.2.2.1 rfl rfl ?_
      refine jx_geti jc_11 (j := 20) (by decide) rfl jwF_X11_231 kd846.2.2.2.2.2.2.2.2.1 hk5 ?_
      refine jx_topi (y := (ji S a0 21)) (by simp [ji_put, ji_row, ji_putr]) ?_
      refine jx_callVi (M' := mX11_isLetter) (As := [.int (ji S a0 21)]) jo_X11_isLetter jc_11 rfl jwM_X11_234 jwN_X11_isLetter jwX_X11_isLetter kd847.1 (jRok_m _ _ _) rfl (jle rfl) ⟨jle rfl, jle rfl⟩ hk5 h (fun r82 S81 h => ?_)
      refine jx_if_eq (tgt := 198) kd847.2.1 (by decide) (fun c83 => ?_) (fun c83 => ?_)
      · replace h := h.1 c83
        refine jx_aload_n 1 kd851.2.2.1 rfl rfl ?_
        refine jx_aload_n 1 kd851.2.2.2.1 rfl rfl ?_
        obtain ⟨hk84, h⟩ := h
        refine jx_geti jc_11 (j := 20) (by decide) rfl jwF_X11_231 kd851.2.2.2.2.1 hk84 ?_
        refine jx_callVi (M' := mX11_isDigit) (As := [.int (ji S81 a0 20)]) jo_X11_isDigit jc_11 rfl jwM_X11_240 jwN_X11_isDigit jwX_X11_isDigit kd851.2.2.2.2.2.1 (jRok_m _ _ _) rfl (jle rfl) ⟨jle rfl, jle rfl⟩ hk84 h (fun r86 S85 h => ?_)
        refine jx_if_eq (tgt := 311) kd851.2.2.2.2.2.2.1 (by decide) (fun c87 => ?_) (fun c87 => ?_)
        · replace h := h.1 c87
          refine jx_aload_n 1 kd857.2.2.2.2.2.2.2.1 rfl rfl ?_
          refine jx_iconst (v := 3) kd857.2.2.2.2.2.2.2.2.1 (by decide) ?_
          obtain ⟨hk88, h⟩ := h
          refine jx_puti jc_11 (j := 22) (by decide) rfl jwF_X11_228 rfl rfl rfl kd858.1 hk88 ?_
          refine jx_aload_n 1 kd858.2.1 rfl rfl ?_
          refine jx_aload_n 1 kd858.2.2.1 rfl rfl ?_
          obtain ⟨b89, hb89, h⟩ := h
          refine jx_getr jc_11 (j := 18) (by decide) rfl jwF_X11_52 kd858.2.2.2.1 hk88 hb89 ?_
          refine jx_aload_n 1 kd858.2.2.2.2.1 rfl rfl ?_
          refine jx_geti jc_11 (j := 20) (by decide) rfl jwF_X11_231 kd858.2.2.2.2.2.1 hk88 ?_
          refine jx_topi (y := (ji S85 a0 20)) (by simp [ji_put, ji_row, ji_putr]) ?_
          obtain ⟨hk90, h⟩ := h
          obtain ⟨hi91, h⟩ := h
          refine jx_iald kd858.2.2.2.2.2.2.1 hk90 hi91 ?_
          refine jx_topi (y := (ji S85 b89 (Int32.toNatClampNeg (ji S85 a0 20)))) (by simp [ji_put, ji_row, ji_putr, jne hk90 hk88 (by decide)]) ?_
          refine jx_puti jc_11 (j := 24) (by decide) rfl jwF_X11_237 rfl rfl rfl kd858.2.2.2.2.2.2.2.1 hk88 ?_
          refine jx_aload_n 1 kd858.2.2.2.2.2.2.2.2.1 rfl rfl ?_
          refine jx_dup kd859.1 rfl ?_
          refine jx_geti jc_11 (j := 21) (by decide) rfl jwF_X11_225 kd859.2.1 hk88 ?_
          refine jx_topi (y := (ji S85 a0 21)) (by simp [ji_put, ji_row, ji_putr]) ?_
          refine jx_iconst (v := 1) kd859.2.2.1 (by decide) ?_
          refine jx_iadd kd859.2.2.2.1 ?_
          refine jx_puti jc_11 (j := 21) (by decide) rfl jwF_X11_225 rfl rfl rfl kd859.2.2.2.2.1 hk88 ?_
          exact jx_vret kd859.2.2.2.2.2.1 rfl (jle rfl) (jle rfl) ⟨rfl, h⟩
        replace h := h.2 c87
        refine jx_aload_n 1 kd851.2.2.2.2.2.2.2.1 rfl rfl ?_
        refine jx_iconst (v := 0) kd851.2.2.2.2.2.2.2.2.1 (by decide) ?_
        obtain ⟨hk92, h⟩ := h
        refine jx_puti jc_11 (j := 23) (by decide) rfl jwF_X11_243 rfl rfl rfl kd852.1 hk92 ?_
        exact jx_lv [1, 0] rfl h
      replace h := h.2 c83
      exact jx_lv [1, 0] rfl h
    replace h := h.1 c80
    refine jx_aload_n 1 kd846.2.2.1 rfl rfl ?_
    refine jx_iconst (v := 0) kd846.2.2.2.1 (by decide) ?_
    refine jx_puti jc_11 (j := 22) (by decide) rfl jwF_X11_228 rfl rfl rfl kd846.2.2.2.2.1 hk5 ?_
    refine jx_goto (tgt := 339) kd846.2.2.2.2.2.1 (by decide) ?_
    exact jx_vret kd859.2.2.2.2.2.1 rfl (jle rfl) (jle rfl) ⟨rfl, h⟩
  replace h := h.1 c51
  refine jx_aload_n 0 kd843.2.2.2.1 rfl rfl ?_
  refine jx_dup kd843.2.2.2.2.1 rfl ?_
  refine jx_geti jc_11 (j := 21) (by decide) rfl jwF_X11_225 kd843.2.2.2.2.2.1 hk5 ?_
  refine jx_iconst (v := 1) kd843.2.2.2.2.2.2.1 (by decide) ?_
  refine jx_iadd kd843.2.2.2.2.2.2.2.1 ?_
  refine jx_puti jc_11 (j := 21) (by decide) rfl jwF_X11_225 rfl rfl rfl kd843.2.2.2.2.2.2.2.2.1 hk5 ?_
  refine jx_goto (tgt := 34) kd844.1 (by decide) ?_
  exact jx_lv [0, 1, 2] rfl h
set_option maxRecDepth 100000 in
set_option maxHeartbeats 4000000 in
theorem T_X11_nextToken_214 {E : jEnv} {d : Nat} {Q : jM → Prop} {a0 : Nat} {x1 : Int32} {S : jM} (h : jk S a0 = 11 ∧ jFi E mX11_isDigit d 0 0 [.ref a0, .int (ji S a0 21)] S (fun r95 S94 => (r95 = 0 → (x1 = 0 → jk S94 a0 = 11 ∧ (((ji S94 a0 21) - (ji S94 a0 20)) ≤ 4 → Q (jput S94 a0 22 2)) ∧ (¬ ((ji S94 a0 21) - (ji S94 a0 20)) ≤ 4 → Q (jput S94 a0 22 4))) ∧ (¬ x1 = 0 → jk S94 a0 = 11 ∧ Q (jput S94 a0 22 4))) ∧ (¬ r95 = 0 → jk S94 a0 = 11 ∧ (4 ≤ ((ji S94 a0 21) - (ji S94 a0 20)) → L_X11_nextToken_214 E d Q a0 x1 (jput (jput S94 a0 23 (ji S94 a0 23)) a0 21 ((ji S94 a0 21) + 1))) ∧ (¬ 4 ≤ ((ji S94 a0 21) - (ji S94 a0 20)) → ∃ b103, jr S94 a0 18 = some b103 ∧ (jk S94 b103 = 12 ∧ vp_in (ji S94 a0 21) (jl S94 b103) ∧ (L_X11_nextToken_214 E d Q a0 x1 (jput (jput S94 a0 23 (((10 * (ji S94 a0 23)) + (ji S94 b103 (Int32.toNatClampNeg (ji S94 a0 21)))) - 48)) a0 21 ((ji S94 a0 21) + 1)))))))) : L_X11_nextToken_214 E d Q a0 x1 S := by
  show jX E mX11_nextToken (jRm (d + 1) 0 0) (jZm E (fun r S' => r = none ∧ Q S') 0 0) 214 [(0, .ref a0), (1, .int x1)] [] S 0 0
  refine jx_aload_n 0 kd852.2.1 rfl rfl ?_
  refine jx_aload_n 0 kd852.2.2.1 rfl rfl ?_
  obtain ⟨hk93, h⟩ := h
  refine jx_geti jc_11 (j := 21) (by decide) rfl jwF_X11_225 kd852.2.2.2.1 hk93 ?_
  refine jx_callVi (M' := mX11_isDigit) (As := [.int (ji S a0 21)]) jo_X11_isDigit jc_11 rfl jwM_X11_240 jwN_X11_isDigit jwX_X11_isDigit kd852.2.2.2.2.1 (jRok_m _ _ _) rfl (jle rfl) ⟨jle rfl, jle rfl⟩ hk93 h (fun r95 S94 h => ?_)
  refine jx_if_eq (tgt := 282) kd852.2.2.2.2.2.1 (by decide) (fun c96 => ?_) (fun c96 => ?_)
  · replace h := h.1 c96
    refine jx_aload_n 0 kd856.2.1 rfl rfl ?_
    refine jx_iload_n 1 kd856.2.2.1 rfl rfl ?_
    refine jx_if_ne (tgt := 300) kd856.2.2.2.1 (by decide) (fun c97 => ?_) (fun c97 => ?_)
    · replace h := h.2 c97
      refine jx_iconst (v := 4) kd857.2.2.1 (by decide) ?_
      refine jx_goto (tgt := 305) kd857.2.2.2.1 (by decide) ?_
      obtain ⟨hk98, h⟩ := h
      refine jx_puti jc_11 (j := 22) (by decide) rfl jwF_X11_228 rfl rfl rfl kd857.2.2.2.2.2.1 hk98 ?_
      refine jx_goto (tgt := 339) kd857.2.2.2.2.2.2.1 (by decide) ?_
      exact jx_vret kd859.2.2.2.2.2.1 rfl (jle rfl) (jle rfl) ⟨rfl, h⟩
    replace h := h.1 c97
    refine jx_aload_n 0 kd856.2.2.2.2.1 rfl rfl ?_
    obtain ⟨hk99, h⟩ := h
    refine jx_geti jc_11 (j := 21) (by decide) rfl jwF_X11_225 kd856.2.2.2.2.2.1 hk99 ?_
    refine jx_aload_n 0 kd856.2.2.2.2.2.2.1 rfl rfl ?_
    refine jx_geti jc_11 (j := 20) (by decide) rfl jwF_X11_231 kd856.2.2.2.2.2.2.2.1 hk99 ?_
    refine jx_isub kd856.2.2.2.2.2.2.2.2.1 ?_
    refine jx_iconst (v := 4) kd857.1 (by decide) ?_
    refine jx_icmp_le (tgt := 304) kd857.2.1 (by decide) (fun c100 => ?_) (fun c100 => ?_)
    · replace h := h.1 c100
      refine jx_iconst (v := 2) kd857.2.2.2.2.1 (by decide) ?_
      refine jx_puti jc_11 (j := 22) (by decide) rfl jwF_X11_228 rfl rfl rfl kd857.2.2.2.2.2.1 hk99 ?_
      refine jx_goto (tgt := 339) kd857.2.2.2.2.2.2.1 (by decide) ?_
      exact jx_vret kd859.2.2.2.2.2.1 rfl (jle rfl) (jle rfl) ⟨rfl, h⟩
    replace h := h.2 c100
    refine jx_iconst (v := 4) kd857.2.2.1 (by decide) ?_
    refine jx_goto (tgt := 305) kd857.2.2.2.1 (by decide) ?_
    refine jx_puti jc_11 (j := 22) (by decide) rfl jwF_X11_228 rfl rfl rfl kd857.2.2.2.2.2.1 hk99 ?_
    refine jx_goto (tgt := 339) kd857.2.2.2.2.2.2.1 (by decide) ?_
    exact jx_vret kd859.2.2.2.2.2.1 rfl (jle rfl) (jle rfl) ⟨rfl, h⟩
  replace h := h.2 c96
  refine jx_aload_n 0 kd852.2.2.2.2.2.2.1 rfl rfl ?_
  refine jx_aload_n 0 kd852.2.2.2.2.2.2.2.1 rfl rfl ?_
  obtain ⟨hk101, h⟩ := h
  refine jx_geti jc_11 (j := 21) (by decide) rfl jwF_X11_225 kd852.2.2.2.2.2.2.2.2.1 hk101 ?_
  refine jx_aload_n 0 kd853.1 rfl rfl ?_
  refine jx_geti jc_11 (j := 20) (by decide) rfl jwF_X11_231 kd853.2.1 hk101 ?_
  refine jx_isub kd853.2.2.1 ?_
  refine jx_iconst (v := 4) kd853.2.2.2.1 (by decide) ?_
  refine jx_icmp_ge (tgt := 262) kd853.2.2.2.2.1 (by decide) (fun c102 => ?_) (fun c102 => ?_)
  · replace h := h.1 c102
    refine jx_aload_n 0 kd855.1 rfl rfl ?_
    refine jx_geti jc_11 (j := 23) (by decide) rfl jwF_X11_243 kd855.2.1 hk101 ?_
    refine jx_puti jc_11 (j := 23) (by decide) rfl jwF_X11_243 rfl rfl rfl kd855.2.2.1 hk101 ?_
    refine jx_aload_n 0 kd855.2.2.2.1 rfl rfl ?_
    refine jx_dup kd855.2.2.2.2.1 rfl ?_
    refine jx_geti jc_11 (j := 21) (by decide) rfl jwF_X11_225 kd855.2.2.2.2.2.1 hk101 ?_
    refine jx_topi (y := (ji S94 a0 21)) (by simp [ji_put, ji_row, ji_putr]) ?_
    refine jx_iconst (v := 1) kd855.2.2.2.2.2.2.1 (by decide) ?_
    refine jx_iadd kd855.2.2.2.2.2.2.2.1 ?_
    refine jx_puti jc_11 (j := 21) (by decide) rfl jwF_X11_225 rfl rfl rfl kd855.2.2.2.2.2.2.2.2.1 hk101 ?_
    refine jx_goto (tgt := 214) kd856.1 (by decide) ?_
    exact jx_lv [0, 1] rfl h
  replace h := h.2 c102
  refine jx_bipush (v := 10) kd853.2.2.2.2.2.1 (by decide) ?_
  refine jx_aload_n 0 kd853.2.2.2.2.2.2.1 rfl rfl ?_
  refine jx_geti jc_11 (j := 23) (by decide) rfl jwF_X11_243 kd853.2.2.2.2.2.2.2.1 hk101 ?_
  refine jx_imul kd853.2.2.2.2.2.2.2.2.1 ?_
  refine jx_aload_n 0 kd854.1 rfl rfl ?_
  obtain ⟨b103, hb103, h⟩ := h
  refine jx_getr jc_11 (j := 18) (by decide) rfl jwF_X11_52 kd854.2.1 hk101 hb103 ?_
  refine jx_aload_n 0 kd854.2.2.1 rfl rfl ?_
  refine jx_geti jc_11 (j := 21) (by decide) rfl jwF_X11_225 kd854.2.2.2.1 hk101 ?_
  obtain ⟨hk104, h⟩ := h
  obtain ⟨hi105, h⟩ := h
  refine jx_iald kd854.2.2.2.2.1 hk104 hi105 ?_
  refine jx_iadd kd854.2.2.2.2.2.1 ?_
  refine jx_bipush (v := 48) kd854.2.2.2.2.2.2.1 (by decide) ?_
  refine jx_isub kd854.2.2.2.2.2.2.2.1 ?_
  refine jx_goto (tgt := 266) kd854.2.2.2.2.2.2.2.2.1 (by decide) ?_
  refine jx_puti jc_11 (j := 23) (by decide) rfl jwF_X11_243 rfl rfl rfl kd855.2.2.1 hk101 ?_
  refine jx_aload_n 0 kd855.2.2.2.1 rfl rfl ?_
  refine jx_dup kd855.2.2.2.2.1 rfl ?_
  refine jx_geti jc_11 (j := 21) (by decide) rfl jwF_X11_225 kd855.2.2.2.2.2.1 hk101 ?_
  refine jx_topi (y := (ji S94 a0 21)) (by simp [ji_put, ji_row, ji_putr]) ?_
  refine jx_iconst (v := 1) kd855.2.2.2.2.2.2.1 (by decide) ?_
  refine jx_iadd kd855.2.2.2.2.2.2.2.1 ?_
  refine jx_puti jc_11 (j := 21) (by decide) rfl jwF_X11_225 rfl rfl rfl kd855.2.2.2.2.2.2.2.2.1 hk101 ?_
  refine jx_goto (tgt := 214) kd856.1 (by decide) ?_
  exact jx_lv [0, 1] rfl h
set_option maxRecDepth 100000 in
set_option maxHeartbeats 4000000 in
theorem T_X11_nextToken_128 {E : jEnv} {d : Nat} {Q : jM → Prop} {a0 : Nat} {x1 : Int32} {S : jM} (h : jk S a0 = 11 ∧ jFi E mX11_isLetter d 0 0 [.ref a0, .int (ji S a0 21)] S (fun r108 S107 => (r108 = 0 → (x1 = 0 → jk S107 a0 = 11 ∧ (((ji S107 a0 21) - (ji S107 a0 20)) = 1 → ∃ b113, jr S107 a0 18 = some b113 ∧ (jk S107 b113 = 12 ∧ vp_in (ji S107 a0 20) (jl S107 b113) ∧ (Q (jput (jput S107 a0 22 1) a0 24 (ji S107 b113 (Int32.toNatClampNeg (ji S107 a0 20))))))) ∧ (¬ ((ji S107 a0 21) - (ji S107 a0 20)) = 1 → Q (jput (jput S107 a0 22 1) a0 24 0))) ∧ (¬ x1 = 0 → jk S107 a0 = 11 ∧ (((ji S107 a0 21) - (ji S107 a0 20)) = 1 → ∃ b118, jr S107 a0 18 = some b118 ∧ (jk S107 b118 = 12 ∧ vp_in (ji S107 a0 20) (jl S107 b118) ∧ (Q (jput (jput S107 a0 22 4) a0 24 (ji S107 b118 (Int32.toNatClampNeg (ji S107 a0 20))))))) ∧ (¬ ((ji S107 a0 21) - (ji S107 a0 20)) = 1 → Q (jput (jput S107 a0 22 4) a0 24 0)))) ∧ (¬ r108 = 0 → jk S107 a0 = 11 ∧ L_X11_nextToken_128 E d Q a0 x1 (jput S107 a0 21 ((ji S107 a0 21) + 1))))) : L_X11_nextToken_128 E d Q a0 x1 S := by
  show jX E mX11_nextToken (jRm (d + 1) 0 0) (jZm E (fun r S' => r = none ∧ Q S') 0 0) 128 [(0, .ref a0), (1, .int x1)] [] S 0 0
  refine jx_aload_n 0 kd847.2.2.1 rfl rfl ?_
  refine jx_aload_n 0 kd847.2.2.2.1 rfl rfl ?_
  obtain ⟨hk106, h⟩ := h
  refine jx_geti jc_11 (j := 21) (by decide) rfl jwF_X11_225 kd847.2.2.2.2.1 hk106 ?_
  refine jx_callVi (M' := mX11_isLetter) (As := [.int (ji S a0 21)]) jo_X11_isLetter jc_11 rfl jwM_X11_234 jwN_X11_isLetter jwX_X11_isLetter kd847.2.2.2.2.2.1 (jRok_m _ _ _) rfl (jle rfl) ⟨jle rfl, jle rfl⟩ hk106 h (fun r108 S107 h => ?_)
  refine jx_if_eq (tgt := 152) kd847.2.2.2.2.2.2.1 (by decide) (fun c109 => ?_) (fun c109 => ?_)
  · replace h := h.1 c109
    refine jx_aload_n 0 kd848.2.2.2.2.2.1 rfl rfl ?_
    refine jx_iload_n 1 kd848.2.2.2.2.2.2.1 rfl rfl ?_
    refine jx_if_eq (tgt := 161) kd848.2.2.2.2.2.2.2.1 (by decide) (fun c110 => ?_) (fun c110 => ?_)
    · replace h := h.1 c110
      refine jx_iconst (v := 1) kd849.2.1 (by decide) ?_
      obtain ⟨hk111, h⟩ := h
      refine jx_puti jc_11 (j := 22) (by decide) rfl jwF_X11_228 rfl rfl rfl kd849.2.2.1 hk111 ?_
      refine jx_aload_n 0 kd849.2.2.2.1 rfl rfl ?_
      refine jx_aload_n 0 kd849.2.2.2.2.1 rfl rfl ?_
      refine jx_geti jc_11 (j := 21) (by decide) rfl jwF_X11_225 kd849.2.2.2.2.2.1 hk111 ?_
      refine jx_topi (y := (ji S107 a0 21)) (by simp [ji_put, ji_row, ji_putr]) ?_
      refine jx_aload_n 0 kd849.2.2.2.2.2.2.1 rfl rfl ?_
      refine jx_geti jc_11 (j := 20) (by decide) rfl jwF_X11_231 kd849.2.2.2.2.2.2.2.1 hk111 ?_
      refine jx_topi (y := (ji S107 a0 20)) (by simp [ji_put, ji_row, ji_putr]) ?_
      refine jx_isub kd849.2.2.2.2.2.2.2.2.1 ?_
      refine jx_iconst (v := 1) kd850.1 (by decide) ?_
      refine jx_icmp_ne (tgt := 191) kd850.2.1 (by decide) (fun c112 => ?_) (fun c112 => ?_)
      · replace h := h.2 c112
        refine jx_iconst (v := 0) kd850.2.2.2.2.2.2.2.2.1 (by decide) ?_
        refine jx_puti jc_11 (j := 24) (by decide) rfl jwF_X11_237 rfl rfl rfl kd851.1 hk111 ?_
        refine jx_goto (tgt := 339) kd851.2.1 (by decide) ?_
        exact jx_vret kd859.2.2.2.2.2.1 rfl (jle rfl) (jle rfl) ⟨rfl, h⟩
      replace h := h.1 c112
      refine jx_aload_n 0 kd850.2.2.1 rfl rfl ?_
      obtain ⟨b113, hb113, h⟩ := h
      refine jx_getr jc_11 (j := 18) (by decide) rfl jwF_X11_52 kd850.2.2.2.1 hk111 hb113 ?_
      refine jx_aload_n 0 kd850.2.2.2.2.1 rfl rfl ?_
      refine jx_geti jc_11 (j := 20) (by decide) rfl jwF_X11_231 kd850.2.2.2.2.2.1 hk111 ?_
      refine jx_topi (y := (ji S107 a0 20)) (by simp [ji_put, ji_row, ji_putr]) ?_
      obtain ⟨hk114, h⟩ := h
      obtain ⟨hi115, h⟩ := h
      refine jx_iald kd850.2.2.2.2.2.2.1 hk114 hi115 ?_
      refine jx_topi (y := (ji S107 b113 (Int32.toNatClampNeg (ji S107 a0 20)))) (by simp [ji_put, ji_row, ji_putr, jne hk114 hk111 (by decide)]) ?_
      refine jx_goto (tgt := 192) kd850.2.2.2.2.2.2.2.1 (by decide) ?_
      refine jx_puti jc_11 (j := 24) (by decide) rfl jwF_X11_237 rfl rfl rfl kd851.1 hk111 ?_
      refine jx_goto (tgt := 339) kd851.2.1 (by decide) ?_
      exact jx_vret kd859.2.2.2.2.2.1 rfl (jle rfl) (jle rfl) ⟨rfl, h⟩
    replace h := h.2 c110
    refine jx_iconst (v := 4) kd848.2.2.2.2.2.2.2.2.1 (by decide) ?_
    refine jx_goto (tgt := 162) kd849.1 (by decide) ?_
    obtain ⟨hk116, h⟩ := h
    refine jx_puti jc_11 (j := 22) (by decide) rfl jwF_X11_228 rfl rfl rfl kd849.2.2.1 hk116 ?_
    refine jx_aload_n 0 kd849.2.2.2.1 rfl rfl ?_
    refine jx_aload_n 0 kd849.2.2.2.2.1 rfl rfl ?_
    refine jx_geti jc_11 (j := 21) (by decide) rfl jwF_X11_225 kd849.2.2.2.2.2.1 hk116 ?_
    refine jx_topi (y := (ji S107 a0 21)) (by simp [ji_put, ji_row, ji_putr]) ?_
    refine jx_aload_n 0 kd849.2.2.2.2.2.2.1 rfl rfl ?_
    refine jx_geti jc_11 (j := 20) (by decide) rfl jwF_X11_231 kd849.2.2.2.2.2.2.2.1 hk116 ?_
    refine jx_topi (y := (ji S107 a0 20)) (by simp [ji_put, ji_row, ji_putr]) ?_
    refine jx_isub kd849.2.2.2.2.2.2.2.2.1 ?_
    refine jx_iconst (v := 1) kd850.1 (by decide) ?_
    refine jx_icmp_ne (tgt := 191) kd850.2.1 (by decide) (fun c117 => ?_) (fun c117 => ?_)
    · replace h := h.2 c117
      refine jx_iconst (v := 0) kd850.2.2.2.2.2.2.2.2.1 (by decide) ?_
      refine jx_puti jc_11 (j := 24) (by decide) rfl jwF_X11_237 rfl rfl rfl kd851.1 hk116 ?_
      refine jx_goto (tgt := 339) kd851.2.1 (by decide) ?_
      exact jx_vret kd859.2.2.2.2.2.1 rfl (jle rfl) (jle rfl) ⟨rfl, h⟩
    replace h := h.1 c117
    refine jx_aload_n 0 kd850.2.2.1 rfl rfl ?_
    obtain ⟨b118, hb118, h⟩ := h
    refine jx_getr jc_11 (j := 18) (by decide) rfl jwF_X11_52 kd850.2.2.2.1 hk116 hb118 ?_
    refine jx_aload_n 0 kd850.2.2.2.2.1 rfl rfl ?_
    refine jx_geti jc_11 (j := 20) (by decide) rfl jwF_X11_231 kd850.2.2.2.2.2.1 hk116 ?_
    refine jx_topi (y := (ji S107 a0 20)) (by simp [ji_put, ji_row, ji_putr]) ?_
    obtain ⟨hk119, h⟩ := h
    obtain ⟨hi120, h⟩ := h
    refine jx_iald kd850.2.2.2.2.2.2.1 hk119 hi120 ?_
    refine jx_topi (y := (ji S107 b118 (Int32.toNatClampNeg (ji S107 a0 20)))) (by simp [ji_put, ji_row, ji_putr, jne hk119 hk116 (by decide)]) ?_
    refine jx_goto (tgt := 192) kd850.2.2.2.2.2.2.2.1 (by decide) ?_
    refine jx_puti jc_11 (j := 24) (by decide) rfl jwF_X11_237 rfl rfl rfl kd851.1 hk116 ?_
    refine jx_goto (tgt := 339) kd851.2.1 (by decide) ?_
    exact jx_vret kd859.2.2.2.2.2.1 rfl (jle rfl) (jle rfl) ⟨rfl, h⟩
  replace h := h.2 c109
  refine jx_aload_n 0 kd847.2.2.2.2.2.2.2.1 rfl rfl ?_
  refine jx_dup kd847.2.2.2.2.2.2.2.2.1 rfl ?_
  obtain ⟨hk121, h⟩ := h
  refine jx_geti jc_11 (j := 21) (by decide) rfl jwF_X11_225 kd848.1 hk121 ?_
  refine jx_iconst (v := 1) kd848.2.1 (by decide) ?_
  refine jx_iadd kd848.2.2.1 ?_
  refine jx_puti jc_11 (j := 21) (by decide) rfl jwF_X11_225 rfl rfl rfl kd848.2.2.2.1 hk121 ?_
  refine jx_goto (tgt := 128) kd848.2.2.2.2.1 (by decide) ?_
  exact jx_lv [0, 1] rfl h
set_option maxRecDepth 100000 in
set_option maxHeartbeats 4000000 in
theorem T_X11_isSign {E : jEnv} {d : Nat} {Q : Int32 → jM → Prop} {a0 : Nat} {x1 : Int32} {S : jM} (h : jk S a0 = 11 ∧ ((ji S a0 22) = 3 → ((ji S a0 24) = x1 → Q 1 S) ∧ (¬ (ji S a0 24) = x1 → Q 0 S)) ∧ (¬ (ji S a0 22) = 3 → Q 0 S)) : jFi E mX11_isSign d 0 0 [.ref a0, .int x1] S Q := by
  refine jF_of (by decide) (jle rfl) ?_
  refine jx_lv (lv1 := [(0, .ref a0), (1, .int x1)]) [0, 1] rfl ?_
  refine jx_aload_n 0 kd860.1 rfl rfl ?_
  obtain ⟨hk1, h⟩ := h
  refine jx_geti jc_11 (j := 22) (by decide) rfl jwF_X11_228 kd860.2.1 hk1 ?_
  refine jx_iconst (v := 3) kd860.2.2.1 (by decide) ?_
  refine jx_icmp_ne (tgt := 20) kd860.2.2.2.1 (by decide) (fun c2 => ?_) (fun c2 => ?_)
  · replace h := h.2 c2
    refine jx_iconst (v := 0) kd861.2.1 (by decide) ?_
    exact jx_iret kd861.2.2.1 rfl (by decide) (jle rfl) (jle rfl) ⟨_, rfl, h⟩
  replace h := h.1 c2
  refine jx_aload_n 0 kd860.2.2.2.2.1 rfl rfl ?_
  refine jx_geti jc_11 (j := 24) (by decide) rfl jwF_X11_237 kd860.2.2.2.2.2.1 hk1 ?_
  refine jx_iload_n 1 kd860.2.2.2.2.2.2.1 rfl rfl ?_
  refine jx_icmp_ne (tgt := 20) kd860.2.2.2.2.2.2.2.1 (by decide) (fun c3 => ?_) (fun c3 => ?_)
  · replace h := h.2 c3
    refine jx_iconst (v := 0) kd861.2.1 (by decide) ?_
    exact jx_iret kd861.2.2.1 rfl (by decide) (jle rfl) (jle rfl) ⟨_, rfl, h⟩
  replace h := h.1 c3
  refine jx_iconst (v := 1) kd860.2.2.2.2.2.2.2.2.1 (by decide) ?_
  refine jx_goto (tgt := 21) kd861.1 (by decide) ?_
  exact jx_iret kd861.2.2.1 rfl (by decide) (jle rfl) (jle rfl) ⟨_, rfl, h⟩
set_option maxRecDepth 100000 in
set_option maxHeartbeats 4000000 in
theorem T_X11_isWordAt {E : jEnv} {d : Nat} {Q : Int32 → jM → Prop} {a0 : Nat} {x1 : Int32} {x2 : Int32} {x3 : Int32} {x4 : Int32} {S : jM} (h : (x4 = 0 → jk S a0 = 11 ∧ ((ji S a0 22) = 1 → (((ji S a0 21) - (ji S a0 20)) = 3 → ∃ b18, jr S a0 18 = some b18 ∧ (jk S b18 = 12 ∧ vp_in (ji S a0 20) (jl S b18) ∧ (((ji S b18 (Int32.toNatClampNeg (ji S a0 20))) = x1 → vp_in ((ji S a0 20) + 1) (jl S b18) ∧ (((ji S b18 (Int32.toNatClampNeg ((ji S a0 20) + 1))) = x2 → vp_in ((ji S a0 20) + 2) (jl S b18) ∧ (((ji S b18 (Int32.toNatClampNeg ((ji S a0 20) + 2))) = x3 → Q 1 S) ∧ (¬ (ji S b18 (Int32.toNatClampNeg ((ji S a0 20) + 2))) = x3 → Q 0 S))) ∧ (¬ (ji S b18 (Int32.toNatClampNeg ((ji S a0 20) + 1))) = x2 → Q 0 S))) ∧ (¬ (ji S b18 (Int32.toNatClampNeg (ji S a0 20))) = x1 → Q 0 S)))) ∧ (¬ ((ji S a0 21) - (ji S a0 20)) = 3 → Q 0 S)) ∧ (¬ (ji S a0 22) = 1 → Q 0 S)) ∧ (¬ x4 = 0 → jk S a0 = 11 ∧ ((ji S a0 22) = 1 → (((ji S a0 21) - (ji S a0 20)) = 4 → ∃ b5, jr S a0 18 = some b5 ∧ (jk S b5 = 12 ∧ vp_in (ji S a0 20) (jl S b5) ∧ (((ji S b5 (Int32.toNatClampNeg (ji S a0 20))) = x1 → vp_in ((ji S a0 20) + 1) (jl S b5) ∧ (((ji S b5 (Int32.toNatClampNeg ((ji S a0 20) + 1))) = x2 → vp_in ((ji S a0 20) + 2) (jl S b5) ∧ (((ji S b5 (Int32.toNatClampNeg ((ji S a0 20) + 2))) = x3 → vp_in ((ji S a0 20) + 3) (jl S b5) ∧ (((ji S b5 (Int32.toNatClampNeg ((ji S a0 20) + 3))) = x4 → Q 1 S) ∧ (¬ (ji S b5 (Int32.toNatClampNeg ((ji S a0 20) + 3))) = x4 → Q 0 S))) ∧ (¬ (ji S b5 (Int32.toNatClampNeg ((ji S a0 20) + 2))) = x3 → Q 0 S))) ∧ (¬ (ji S b5 (Int32.toNatClampNeg ((ji S a0 20) + 1))) = x2 → Q 0 S))) ∧ (¬ (ji S b5 (Int32.toNatClampNeg (ji S a0 20))) = x1 → Q 0 S)))) ∧ (¬ ((ji S a0 21) - (ji S a0 20)) = 4 → Q 0 S)) ∧ (¬ (ji S a0 22) = 1 → Q 0 S))) : jFi E mX11_isWordAt d 0 0 [.ref a0, .int x1, .int x2, .int x3, .int x4] S Q := by
  refine jF_of (by decide) (jle rfl) ?_
  refine jx_lv (lv1 := [(0, .ref a0), (1, .int x1), (2, .int x2), (3, .int x3), (4, .int x4)]) [0, 1, 2, 3, 4] rfl ?_
  refine jx_iload 4 kd862.1 rfl ?_
  refine jx_if_ne (tgt := 9) kd862.2.1 (by decide) (fun c1 => ?_) (fun c1 => ?_)
  · replace h := h.2 c1
    refine jx_iconst (v := 4) kd862.2.2.2.2.1 (by decide) ?_
    refine jx_istore (lv1 := [(5, .int 4), (0, .ref a0), (1, .int x1), (2, .int x2), (3, .int x3), (4, .int x4)]) kd862.2.2.2.2.2.1 (by decide) rfl ?_
    refine jx_aload_n 1 kd862.2.2.2.2.2.2.1 rfl rfl ?_
    obtain ⟨hk2, h⟩ := h
    refine jx_geti jc_11 (j := 22) (by decide) rfl jwF_X11_228 kd862.2.2.2.2.2.2.2.1 hk2 ?_
    refine jx_iconst (v := 1) kd862.2.2.2.2.2.2.2.2.1 (by decide) ?_
    refine jx_icmp_ne (tgt := 102) kd863.1 (by decide) (fun c3 => ?_) (fun c3 => ?_)
    · replace h := h.2 c3
      refine jx_iconst (v := 0) kd868.2.1 (by decide) ?_
      exact jx_iret kd868.2.2.1 rfl (by decide) (jle rfl) (jle rfl) ⟨_, rfl, h⟩
    replace h := h.1 c3
    refine jx_aload_n 1 kd863.2.1 rfl rfl ?_
    refine jx_geti jc_11 (j := 21) (by decide) rfl jwF_X11_225 kd863.2.2.1 hk2 ?_
    refine jx_aload_n 1 kd863.2.2.2.1 rfl rfl ?_
    refine jx_geti jc_11 (j := 20) (by decide) rfl jwF_X11_231 kd863.2.2.2.2.1 hk2 ?_
    refine jx_isub kd863.2.2.2.2.2.1 ?_
    refine jx_iload 0 kd863.2.2.2.2.2.2.1 rfl ?_
    refine jx_icmp_ne (tgt := 102) kd863.2.2.2.2.2.2.2.1 (by decide) (fun c4 => ?_) (fun c4 => ?_)
    · replace h := h.2 c4
      refine jx_iconst (v := 0) kd868.2.1 (by decide) ?_
      exact jx_iret kd868.2.2.1 rfl (by decide) (jle rfl) (jle rfl) ⟨_, rfl, h⟩
    replace h := h.1 c4
    refine jx_aload_n 1 kd863.2.2.2.2.2.2.2.2.1 rfl rfl ?_
    obtain ⟨b5, hb5, h⟩ := h
    refine jx_getr jc_11 (j := 18) (by decide) rfl jwF_X11_52 kd864.1 hk2 hb5 ?_
    refine jx_aload_n 1 kd864.2.1 rfl rfl ?_
    refine jx_geti jc_11 (j := 20) (by decide) rfl jwF_X11_231 kd864.2.2.1 hk2 ?_
    obtain ⟨hk6, h⟩ := h
    obtain ⟨hi7, h⟩ := h
    refine jx_iald kd864.2.2.2.1 hk6 hi7 ?_
    refine jx_iload_n 2 kd864.2.2.2.2.1 rfl rfl ?_
    refine jx_icmp_ne (tgt := 102) kd864.2.2.2.2.2.1 (by decide) (fun c8 => ?_) (fun c8 => ?_)
    · replace h := h.2 c8
      refine jx_iconst (v := 0) kd868.2.1 (by decide) ?_
      exact jx_iret kd868.2.2.1 rfl (by decide) (jle rfl) (jle rfl) ⟨_, rfl, h⟩
    replace h := h.1 c8
    refine jx_aload_n 1 kd864.2.2.2.2.2.2.1 rfl rfl ?_
    refine jx_getr jc_11 (j := 18) (by decide) rfl jwF_X11_52 kd864.2.2.2.2.2.2.2.1 hk2 hb5 ?_
    refine jx_aload_n 1 kd864.2.2.2.2.2.2.2.2.1 rfl rfl ?_
    refine jx_geti jc_11 (j := 20) (by decide) rfl jwF_X11_231 kd865.1 hk2 ?_
    refine jx_iconst (v := 1) kd865.2.1 (by decide) ?_
    refine jx_iadd kd865.2.2.1 ?_
    obtain ⟨hi9, h⟩ := h
    refine jx_iald kd865.2.2.2.1 hk6 hi9 ?_
    refine jx_iload_n 3 kd865.2.2.2.2.1 rfl rfl ?_
    refine jx_icmp_ne (tgt := 102) kd865.2.2.2.2.2.1 (by decide) (fun c10 => ?_) (fun c10 => ?_)
    · replace h := h.2 c10
      refine jx_iconst (v := 0) kd868.2.1 (by decide) ?_
      exact jx_iret kd868.2.2.1 rfl (by decide) (jle rfl) (jle rfl) ⟨_, rfl, h⟩
    replace h := h.1 c10
    refine jx_aload_n 1 kd865.2.2.2.2.2.2.1 rfl rfl ?_
    refine jx_getr jc_11 (j := 18) (by decide) rfl jwF_X11_52 kd865.2.2.2.2.2.2.2.1 hk2 hb5 ?_
    refine jx_aload_n 1 kd865.2.2.2.2.2.2.2.2.1 rfl rfl ?_
    refine jx_geti jc_11 (j := 20) (by decide) rfl jwF_X11_231 kd866.1 hk2 ?_
    refine jx_iconst (v := 2) kd866.2.1 (by decide) ?_
    refine jx_iadd kd866.2.2.1 ?_
    obtain ⟨hi11, h⟩ := h
    refine jx_iald kd866.2.2.2.1 hk6 hi11 ?_
    refine jx_iload_n 4 kd866.2.2.2.2.1 rfl rfl ?_
    refine jx_icmp_ne (tgt := 102) kd866.2.2.2.2.2.1 (by decide) (fun c12 => ?_) (fun c12 => ?_)
    · replace h := h.2 c12
      refine jx_iconst (v := 0) kd868.2.1 (by decide) ?_
      exact jx_iret kd868.2.2.1 rfl (by decide) (jle rfl) (jle rfl) ⟨_, rfl, h⟩
    replace h := h.1 c12
    refine jx_iload 5 kd866.2.2.2.2.2.2.1 rfl ?_
    refine jx_if_eq (tgt := 98) kd866.2.2.2.2.2.2.2.1 (by decide) (fun z9 => absurd z9 c1) (fun _ => ?_)
    refine jx_aload_n 1 kd866.2.2.2.2.2.2.2.2.1 rfl rfl ?_
    refine jx_getr jc_11 (j := 18) (by decide) rfl jwF_X11_52 kd867.1 hk2 hb5 ?_
    refine jx_aload_n 1 kd867.2.1 rfl rfl ?_
    refine jx_geti jc_11 (j := 20) (by decide) rfl jwF_X11_231 kd867.2.2.1 hk2 ?_
    refine jx_iconst (v := 3) kd867.2.2.2.1 (by decide) ?_
    refine jx_iadd kd867.2.2.2.2.1 ?_
    obtain ⟨hi13, h⟩ := h
    refine jx_iald kd867.2.2.2.2.2.1 hk6 hi13 ?_
    refine jx_iload 5 kd867.2.2.2.2.2.2.1 rfl ?_
    refine jx_icmp_ne (tgt := 102) kd867.2.2.2.2.2.2.2.1 (by decide) (fun c14 => ?_) (fun c14 => ?_)
    · replace h := h.2 c14
      refine jx_iconst (v := 0) kd868.2.1 (by decide) ?_
      exact jx_iret kd868.2.2.1 rfl (by decide) (jle rfl) (jle rfl) ⟨_, rfl, h⟩
    replace h := h.1 c14
    refine jx_iconst (v := 1) kd867.2.2.2.2.2.2.2.2.1 (by decide) ?_
    refine jx_goto (tgt := 103) kd868.1 (by decide) ?_
    exact jx_iret kd868.2.2.1 rfl (by decide) (jle rfl) (jle rfl) ⟨_, rfl, h⟩
  replace h := h.1 c1
  refine jx_iconst (v := 3) kd862.2.2.1 (by decide) ?_
  refine jx_goto (tgt := 10) kd862.2.2.2.1 (by decide) ?_
  refine jx_istore (lv1 := [(5, .int 3), (0, .ref a0), (1, .int x1), (2, .int x2), (3, .int x3), (4, .int x4)]) kd862.2.2.2.2.2.1 (by decide) rfl ?_
  refine jx_aload_n 1 kd862.2.2.2.2.2.2.1 rfl rfl ?_
  obtain ⟨hk15, h⟩ := h
  refine jx_geti jc_11 (j := 22) (by decide) rfl jwF_X11_228 kd862.2.2.2.2.2.2.2.1 hk15 ?_
  refine jx_iconst (v := 1) kd862.2.2.2.2.2.2.2.2.1 (by decide) ?_
  refine jx_icmp_ne (tgt := 102) kd863.1 (by decide) (fun c16 => ?_) (fun c16 => ?_)
  · replace h := h.2 c16
    refine jx_iconst (v := 0) kd868.2.1 (by decide) ?_
    exact jx_iret kd868.2.2.1 rfl (by decide) (jle rfl) (jle rfl) ⟨_, rfl, h⟩
  replace h := h.1 c16
  refine jx_aload_n 1 kd863.2.1 rfl rfl ?_
  refine jx_geti jc_11 (j := 21) (by decide) rfl jwF_X11_225 kd863.2.2.1 hk15 ?_
  refine jx_aload_n 1 kd863.2.2.2.1 rfl rfl ?_
  refine jx_geti jc_11 (j := 20) (by decide) rfl jwF_X11_231 kd863.2.2.2.2.1 hk15 ?_
  refine jx_isub kd863.2.2.2.2.2.1 ?_
  refine jx_iload 0 kd863.2.2.2.2.2.2.1 rfl ?_
  refine jx_icmp_ne (tgt := 102) kd863.2.2.2.2.2.2.2.1 (by decide) (fun c17 => ?_) (fun c17 => ?_)
  · replace h := h.2 c17
    refine jx_iconst (v := 0) kd868.2.1 (by decide) ?_
    exact jx_iret kd868.2.2.1 rfl (by decide) (jle rfl) (jle rfl) ⟨_, rfl, h⟩
  replace h := h.1 c17
  refine jx_aload_n 1 kd863.2.2.2.2.2.2.2.2.1 rfl rfl ?_
  obtain ⟨b18, hb18, h⟩ := h
  refine jx_getr jc_11 (j := 18) (by decide) rfl jwF_X11_52 kd864.1 hk15 hb18 ?_
  refine jx_aload_n 1 kd864.2.1 rfl rfl ?_
  refine jx_geti jc_11 (j := 20) (by decide) rfl jwF_X11_231 kd864.2.2.1 hk15 ?_
  obtain ⟨hk19, h⟩ := h
  obtain ⟨hi20, h⟩ := h
  refine jx_iald kd864.2.2.2.1 hk19 hi20 ?_
  refine jx_iload_n 2 kd864.2.2.2.2.1 rfl rfl ?_
  refine jx_icmp_ne (tgt := 102) kd864.2.2.2.2.2.1 (by decide) (fun c21 => ?_) (fun c21 => ?_)
  · replace h := h.2 c21
    refine jx_iconst (v := 0) kd868.2.1 (by decide) ?_
    exact jx_iret kd868.2.2.1 rfl (by decide) (jle rfl) (jle rfl) ⟨_, rfl, h⟩
  replace h := h.1 c21
  refine jx_aload_n 1 kd864.2.2.2.2.2.2.1 rfl rfl ?_
  refine jx_getr jc_11 (j := 18) (by decide) rfl jwF_X11_52 kd864.2.2.2.2.2.2.2.1 hk15 hb18 ?_
  refine jx_aload_n 1 kd864.2.2.2.2.2.2.2.2.1 rfl rfl ?_
  refine jx_geti jc_11 (j := 20) (by decide) rfl jwF_X11_231 kd865.1 hk15 ?_
  refine jx_iconst (v := 1) kd865.2.1 (by decide) ?_
  refine jx_iadd kd865.2.2.1 ?_
  obtain ⟨hi22, h⟩ := h
  refine jx_iald kd865.2.2.2.1 hk19 hi22 ?_
  refine jx_iload_n 3 kd865.2.2.2.2.1 rfl rfl ?_
  refine jx_icmp_ne (tgt := 102) kd865.2.2.2.2.2.1 (by decide) (fun c23 => ?_) (fun c23 => ?_)
  · replace h := h.2 c23
    refine jx_iconst (v := 0) kd868.2.1 (by decide) ?_
    exact jx_iret kd868.2.2.1 rfl (by decide) (jle rfl) (jle rfl) ⟨_, rfl, h⟩
  replace h := h.1 c23
  refine jx_aload_n 1 kd865.2.2.2.2.2.2.1 rfl rfl ?_
  refine jx_getr jc_11 (j := 18) (by decide) rfl jwF_X11_52 kd865.2.2.2.2.2.2.2.1 hk15 hb18 ?_
  refine jx_aload_n 1 kd865.2.2.2.2.2.2.2.2.1 rfl rfl ?_
  refine jx_geti jc_11 (j := 20) (by decide) rfl jwF_X11_231 kd866.1 hk15 ?_
  refine jx_iconst (v := 2) kd866.2.1 (by decide) ?_
  refine jx_iadd kd866.2.2.1 ?_
  obtain ⟨hi24, h⟩ := h
  refine jx_iald kd866.2.2.2.1 hk19 hi24 ?_
  refine jx_iload_n 4 kd866.2.2.2.2.1 rfl rfl ?_
  refine jx_icmp_ne (tgt := 102) kd866.2.2.2.2.2.1 (by decide) (fun c25 => ?_) (fun c25 => ?_)
  · replace h := h.2 c25
    refine jx_iconst (v := 0) kd868.2.1 (by decide) ?_
    exact jx_iret kd868.2.2.1 rfl (by decide) (jle rfl) (jle rfl) ⟨_, rfl, h⟩
  replace h := h.1 c25
  refine jx_iload 5 kd866.2.2.2.2.2.2.1 rfl ?_
  refine jx_if_eq (tgt := 98) kd866.2.2.2.2.2.2.2.1 (by decide) (fun _ => ?_) (fun z9 => absurd c1 z9)
  refine jx_iconst (v := 1) kd867.2.2.2.2.2.2.2.2.1 (by decide) ?_
  refine jx_goto (tgt := 103) kd868.1 (by decide) ?_
  exact jx_iret kd868.2.2.1 rfl (by decide) (jle rfl) (jle rfl) ⟨_, rfl, h⟩
set_option maxRecDepth 100000 in
set_option maxHeartbeats 4000000 in
theorem T_X11_key {E : jEnv} {d : Nat} {Q : Int32 → jM → Prop} {a0 : Nat} {S : jM} (h : jk S a0 = 11 ∧ jFi E mX11_isWordAt d 0 0 [.ref a0, .int 116, .int 101, .int 114, .int 109] S (fun r3 S2 => (r3 = 0 → jk S2 a0 = 11 ∧ jFi E mX11_isWordAt d 0 0 [.ref a0, .int 102, .int 97, .int 109, .int 101] S2 (fun r7 S6 => (r7 = 0 → jk S6 a0 = 11 ∧ jFi E mX11_isWordAt d 0 0 [.ref a0, .int 102, .int 105, .int 110, .int 101] S6 (fun r11 S10 => (r11 = 0 → Q (-1) S10) ∧ (¬ r11 = 0 → Q 2 S10))) ∧ (¬ r7 = 0 → Q 1 S6))) ∧ (¬ r3 = 0 → Q 0 S2))) : jFi E mX11_key (d + 1) 0 0 [.ref a0] S Q := by
  refine jF_of (by decide) (jle rfl) ?_
  refine jx_lv (lv1 := [(0, .ref a0)]) [0] rfl ?_
  refine jx_aload_n 0 kd869.1 rfl rfl ?_
  refine jx_bipush (v := 116) kd869.2.1 (by decide) ?_
  refine jx_bipush (v := 101) kd869.2.2.1 (by decide) ?_
  refine jx_bipush (v := 114) kd869.2.2.2.1 (by decide) ?_
  refine jx_bipush (v := 109) kd869.2.2.2.2.1 (by decide) ?_
  obtain ⟨hk1, h⟩ := h
  refine jx_callVi (M' := mX11_isWordAt) (As := [.int 116, .int 101, .int 114, .int 109]) jo_X11_isWordAt jc_11 rfl jwM_X11_246 jwN_X11_isWordAt jwX_X11_isWordAt kd869.2.2.2.2.2.1 (jRok_m _ _ _) rfl (jle rfl) ⟨jle rfl, jle rfl⟩ hk1 h (fun r3 S2 h => ?_)
  refine jx_if_eq (tgt := 17) kd869.2.2.2.2.2.2.1 (by decide) (fun c4 => ?_) (fun c4 => ?_)
  · replace h := h.1 c4
    refine jx_aload_n 0 kd870.1 rfl rfl ?_
    refine jx_bipush (v := 102) kd870.2.1 (by decide) ?_
    refine jx_bipush (v := 97) kd870.2.2.1 (by decide) ?_
    refine jx_bipush (v := 109) kd870.2.2.2.1 (by decide) ?_
    refine jx_bipush (v := 101) kd870.2.2.2.2.1 (by decide) ?_
    obtain ⟨hk5, h⟩ := h
    refine jx_callVi (M' := mX11_isWordAt) (As := [.int 102, .int 97, .int 109, .int 101]) jo_X11_isWordAt jc_11 rfl jwM_X11_246 jwN_X11_isWordAt jwX_X11_isWordAt kd870.2.2.2.2.2.1 (jRok_m _ _ _) rfl (jle rfl) ⟨jle rfl, jle rfl⟩ hk5 h (fun r7 S6 h => ?_)
    refine jx_if_eq (tgt := 34) kd870.2.2.2.2.2.2.1 (by decide) (fun c8 => ?_) (fun c8 => ?_)
    · replace h := h.1 c8
      refine jx_aload_n 0 kd871.1 rfl rfl ?_
      refine jx_bipush (v := 102) kd871.2.1 (by decide) ?_
      refine jx_bipush (v := 105) kd871.2.2.1 (by decide) ?_
      refine jx_bipush (v := 110) kd871.2.2.2.1 (by decide) ?_
      refine jx_bipush (v := 101) kd871.2.2.2.2.1 (by decide) ?_
      obtain ⟨hk9, h⟩ := h
      refine jx_callVi (M' := mX11_isWordAt) (As := [.int 102, .int 105, .int 110, .int 101]) jo_X11_isWordAt jc_11 rfl jwM_X11_246 jwN_X11_isWordAt jwX_X11_isWordAt kd871.2.2.2.2.2.1 (jRok_m _ _ _) rfl (jle rfl) ⟨jle rfl, jle rfl⟩ hk9 h (fun r11 S10 h => ?_)
      refine jx_if_eq (tgt := 53) kd871.2.2.2.2.2.2.1 (by decide) (fun c12 => ?_) (fun c12 => ?_)
      · replace h := h.1 c12
        refine jx_iconst (v := (-1)) kd872.1 (by decide) ?_
        exact jx_iret kd872.2.1 rfl rfl (jle rfl) (jle rfl) ⟨_, rfl, h⟩
      replace h := h.2 c12
      refine jx_iconst (v := 2) kd871.2.2.2.2.2.2.2.1 (by decide) ?_
      refine jx_goto (tgt := 54) kd871.2.2.2.2.2.2.2.2.1 (by decide) ?_
      exact jx_iret kd872.2.1 rfl rfl (jle rfl) (jle rfl) ⟨_, rfl, h⟩
    replace h := h.2 c8
    refine jx_iconst (v := 1) kd870.2.2.2.2.2.2.2.1 (by decide) ?_
    exact jx_iret kd870.2.2.2.2.2.2.2.2.1 rfl rfl (jle rfl) (jle rfl) ⟨_, rfl, h⟩
  replace h := h.2 c4
  refine jx_iconst (v := 0) kd869.2.2.2.2.2.2.2.1 (by decide) ?_
  exact jx_iret kd869.2.2.2.2.2.2.2.2.1 rfl rfl (jle rfl) (jle rfl) ⟨_, rfl, h⟩
set_option maxRecDepth 100000 in
set_option maxHeartbeats 4000000 in
theorem T_X11_step {E : jEnv} {d : Nat} {Q : jM → Prop} {a0 : Nat} {x1 : Int32} {x2 : Int32} {S : jM} (h : jk S a0 = 11 ∧ ∃ b2, jr S a0 0 = some b2 ∧ (jk S b2 = 12 ∧ vp_in ((ji S a0 28) + (2 * (ji S a0 27))) (jl S b2) ∧ (vp_in (((ji S a0 28) + (2 * (ji S a0 27))) + 1) (jl S b2) ∧ (Q (jput (jput (jput S b2 (Int32.toNatClampNeg ((ji S a0 28) + (2 * (ji S a0 27)))) x1) b2 (Int32.toNatClampNeg (((ji S a0 28) + (2 * (ji S a0 27))) + 1)) x2) a0 27 ((ji S a0 27) + 1)))))) : jFv E mX11_step d 0 0 [.ref a0, .int x1, .int x2] S Q := by
  refine jF_of (by decide) (jle rfl) ?_
  refine jx_lv (lv1 := [(0, .ref a0), (1, .int x1), (2, .int x2)]) [0, 1, 2] rfl ?_
  refine jx_aload_n 0 kd877.1 rfl rfl ?_
  obtain ⟨hk1, h⟩ := h
  obtain ⟨b2, hb2, h⟩ := h
  refine jx_getr jc_11 (j := 0) (by decide) rfl jwF_X11_7 kd877.2.1 hk1 hb2 ?_
  refine jx_aload_n 0 kd877.2.2.1 rfl rfl ?_
  refine jx_geti jc_11 (j := 28) (by decide) rfl jwF_X11_250 kd877.2.2.2.1 hk1 ?_
  refine jx_iconst (v := 2) kd877.2.2.2.2.1 (by decide) ?_
  refine jx_aload_n 0 kd877.2.2.2.2.2.1 rfl rfl ?_
  refine jx_geti jc_11 (j := 27) (by decide) rfl jwF_X11_253 kd877.2.2.2.2.2.2.1 hk1 ?_
  refine jx_imul kd877.2.2.2.2.2.2.2.1 ?_
  refine jx_iadd kd877.2.2.2.2.2.2.2.2.1 ?_
  refine jx_iload_n 1 kd878.1 rfl rfl ?_
  obtain ⟨hk3, h⟩ := h
  obtain ⟨hi4, h⟩ := h
  refine jx_iast kd878.2.1 hk3 hi4 ?_
  refine jx_aload_n 0 kd878.2.2.1 rfl rfl ?_
  refine jx_getr jc_11 (j := 0) (by decide) rfl jwF_X11_7 kd878.2.2.2.1 hk1 hb2 ?_
  refine jx_aload_n 0 kd878.2.2.2.2.1 rfl rfl ?_
  refine jx_geti jc_11 (j := 28) (by decide) rfl jwF_X11_250 kd878.2.2.2.2.2.1 hk1 ?_
  refine jx_topi (y := (ji S a0 28)) (by simp [ji_put, ji_row, ji_putr, jne hk1 hk3 (by decide)]) ?_
  refine jx_iconst (v := 2) kd878.2.2.2.2.2.2.1 (by decide) ?_
  refine jx_aload_n 0 kd878.2.2.2.2.2.2.2.1 rfl rfl ?_
  refine jx_geti jc_11 (j := 27) (by decide) rfl jwF_X11_253 kd878.2.2.2.2.2.2.2.2.1 hk1 ?_
  refine jx_topi (y := (ji S a0 27)) (by simp [ji_put, ji_row, ji_putr, jne hk1 hk3 (by decide)]) ?_
  refine jx_imul kd879.1 ?_
  refine jx_iadd kd879.2.1 ?_
  refine jx_iconst (v := 1) kd879.2.2.1 (by decide) ?_
  refine jx_iadd kd879.2.2.2.1 ?_
  refine jx_iload_n 2 kd879.2.2.2.2.1 rfl rfl ?_
  obtain ⟨hi5, h⟩ := h
  refine jx_iast kd879.2.2.2.2.2.1 hk3 hi5 ?_
  refine jx_aload_n 0 kd879.2.2.2.2.2.2.1 rfl rfl ?_
  refine jx_dup kd879.2.2.2.2.2.2.2.1 rfl ?_
  refine jx_geti jc_11 (j := 27) (by decide) rfl jwF_X11_253 kd879.2.2.2.2.2.2.2.2.1 hk1 ?_
  refine jx_topi (y := (ji S a0 27)) (by simp [ji_put, ji_row, ji_putr, jne hk1 hk3 (by decide), jne hk1 hk3 (by decide)]) ?_
  refine jx_iconst (v := 1) kd880.1 (by decide) ?_
  refine jx_iadd kd880.2.1 ?_
  refine jx_puti jc_11 (j := 27) (by decide) rfl jwF_X11_253 rfl rfl rfl kd880.2.2.1 hk1 ?_
  exact jx_vret kd880.2.2.2.1 rfl (jle rfl) (jle rfl) ⟨rfl, h⟩
/-- X11_either at its loop's head 10 -/
abbrev L_X11_either_10 (E : jEnv) (d : Nat) (Q : Int32 → jM → Prop) (a0 : Nat) (x1 : Int32) (S : jM) : Prop := jX E mX11_either (jRm (d + 1) 0 0) (jZm E (fun r S' => ∃ v : Int32, r = some (.int v) ∧ Q v S') 0 0) 10 [(0, .ref a0), (1, .int x1)] [] S 0 0
set_option maxRecDepth 100000 in
set_option maxHeartbeats 4000000 in
theorem T_X11_either {E : jEnv} {d : Nat} {Q : Int32 → jM → Prop} {a0 : Nat} {x1 : Int32} {S : jM} (h : jk S a0 = 11 ∧ jFi E mX11_both d 0 0 [.ref a0, .int x1] S (fun r3 S2 => (r3 = 0 → Q 0 S2) ∧ (¬ r3 = 0 → L_X11_either_10 E d Q a0 x1 S2))) : jFi E mX11_either (d + 1) 0 0 [.ref a0, .int x1] S Q := by
  refine jF_of (by decide) (jle rfl) ?_
  refine jx_lv (lv1 := [(0, .ref a0), (1, .int x1)]) [0, 1] rfl ?_
  refine jx_aload_n 0 kd881.1 rfl rfl ?_
  refine jx_iload_n 1 kd881.2.1 rfl rfl ?_
  obtain ⟨hk1, h⟩ := h
  refine jx_callVi (M' := mX11_both) (As := [.int x1]) jo_X11_both jc_11 rfl jwM_X11_256 jwN_X11_both jwX_X11_both kd881.2.2.1 (jRok_m _ _ _) rfl (jle rfl) ⟨jle rfl, jle rfl⟩ hk1 h (fun r3 S2 h => ?_)
  refine jx_if_ne (tgt := 10) kd881.2.2.2.1 (by decide) (fun c4 => ?_) (fun c4 => ?_)
  · replace h := h.2 c4
    exact jx_lv [0, 1] rfl h
  replace h := h.1 c4
  refine jx_iconst (v := 0) kd881.2.2.2.2.1 (by decide) ?_
  exact jx_iret kd881.2.2.2.2.2.1 rfl (by decide) (jle rfl) (jle rfl) ⟨_, rfl, h⟩
set_option maxRecDepth 100000 in
set_option maxHeartbeats 4000000 in
theorem T_X11_either_10 {E : jEnv} {d : Nat} {Q : Int32 → jM → Prop} {a0 : Nat} {x1 : Int32} {S : jM} (h : jk S a0 = 11 ∧ jFi E mX11_isSign d 0 0 [.ref a0, .int 124] S (fun r7 S6 => (r7 = 0 → Q 1 S6) ∧ (¬ r7 = 0 → jk S6 a0 = 11 ∧ jFv E mX11_nextToken d 0 0 [.ref a0] S6 (fun S10 => jk S10 a0 = 11 ∧ jFi E mX11_both d 0 0 [.ref a0, .int x1] S10 (fun r13 S12 => (r13 = 0 → Q 0 S12) ∧ (¬ r13 = 0 → jk S12 a0 = 11 ∧ jFv E mX11_step d 0 0 [.ref a0, .int 2, .int 124] S12 (fun S16 => L_X11_either_10 E d Q a0 x1 S16))))))) : L_X11_either_10 E d Q a0 x1 S := by
  show jX E mX11_either (jRm (d + 1) 0 0) (jZm E (fun r S' => ∃ v : Int32, r = some (.int v) ∧ Q v S') 0 0) 10 [(0, .ref a0), (1, .int x1)] [] S 0 0
  refine jx_aload_n 0 kd881.2.2.2.2.2.2.1 rfl rfl ?_
  refine jx_bipush (v := 124) kd881.2.2.2.2.2.2.2.1 (by decide) ?_
  obtain ⟨hk5, h⟩ := h
  refine jx_callVi (M' := mX11_isSign) (As := [.int 124]) jo_X11_isSign jc_11 rfl jwM_X11_259 jwN_X11_isSign jwX_X11_isSign kd881.2.2.2.2.2.2.2.2.1 (jRok_m _ _ _) rfl (jle rfl) ⟨jle rfl, jle rfl⟩ hk5 h (fun r7 S6 h => ?_)
  refine jx_if_eq (tgt := 43) kd882.1 (by decide) (fun c8 => ?_) (fun c8 => ?_)
  · replace h := h.1 c8
    refine jx_iconst (v := 1) kd883.2.2.2.2.2.1 (by decide) ?_
    exact jx_iret kd883.2.2.2.2.2.2.1 rfl (by decide) (jle rfl) (jle rfl) ⟨_, rfl, h⟩
  replace h := h.2 c8
  refine jx_aload_n 0 kd882.2.1 rfl rfl ?_
  obtain ⟨hk9, h⟩ := h
  refine jx_callVv (M' := mX11_nextToken) (As := []) jo_X11_nextToken jc_11 rfl jwM_X11_262 jwN_X11_nextToken jwX_X11_nextToken kd882.2.2.1 (jRok_m _ _ _) rfl (jle rfl) ⟨jle rfl, jle rfl⟩ hk9 h (fun S10 h => ?_)
  refine jx_aload_n 0 kd882.2.2.2.1 rfl rfl ?_
  refine jx_iload_n 1 kd882.2.2.2.2.1 rfl rfl ?_
  obtain ⟨hk11, h⟩ := h
  refine jx_callVi (M' := mX11_both) (As := [.int x1]) jo_X11_both jc_11 rfl jwM_X11_256 jwN_X11_both jwX_X11_both kd882.2.2.2.2.2.1 (jRok_m _ _ _) rfl (jle rfl) ⟨jle rfl, jle rfl⟩ hk11 h (fun r13 S12 h => ?_)
  refine jx_if_ne (tgt := 33) kd882.2.2.2.2.2.2.1 (by decide) (fun c14 => ?_) (fun c14 => ?_)
  · replace h := h.2 c14
    refine jx_aload_n 0 kd883.1 rfl rfl ?_
    refine jx_iconst (v := 2) kd883.2.1 (by decide) ?_
    refine jx_bipush (v := 124) kd883.2.2.1 (by decide) ?_
    obtain ⟨hk15, h⟩ := h
    refine jx_callVv (M' := mX11_step) (As := [.int 2, .int 124]) jo_X11_step jc_11 rfl jwM_X11_265 jwN_X11_step jwX_X11_step kd883.2.2.2.1 (jRok_m _ _ _) rfl (jle rfl) ⟨jle rfl, jle rfl⟩ hk15 h (fun S16 h => ?_)
    refine jx_goto (tgt := 10) kd883.2.2.2.2.1 (by decide) ?_
    exact jx_lv [0, 1] rfl h
  replace h := h.1 c14
  refine jx_iconst (v := 0) kd882.2.2.2.2.2.2.2.1 (by decide) ?_
  exact jx_iret kd882.2.2.2.2.2.2.2.2.1 rfl (by decide) (jle rfl) (jle rfl) ⟨_, rfl, h⟩
/-- X11_both at its loop's head 10 -/
abbrev L_X11_both_10 (E : jEnv) (d : Nat) (Q : Int32 → jM → Prop) (a0 : Nat) (x1 : Int32) (S : jM) : Prop := jX E mX11_both (jRm (d + 1) 0 0) (jZm E (fun r S' => ∃ v : Int32, r = some (.int v) ∧ Q v S') 0 0) 10 [(0, .ref a0), (1, .int x1)] [] S 0 0
set_option maxRecDepth 100000 in
set_option maxHeartbeats 4000000 in
theorem T_X11_both {E : jEnv} {d : Nat} {Q : Int32 → jM → Prop} {a0 : Nat} {x1 : Int32} {S : jM} (h : jk S a0 = 11 ∧ jFi E mX11_test d 0 0 [.ref a0, .int x1] S (fun r3 S2 => (r3 = 0 → Q 0 S2) ∧ (¬ r3 = 0 → L_X11_both_10 E d Q a0 x1 S2))) : jFi E mX11_both (d + 1) 0 0 [.ref a0, .int x1] S Q := by
  refine jF_of (by decide) (jle rfl) ?_
  refine jx_lv (lv1 := [(0, .ref a0), (1, .int x1)]) [0, 1] rfl ?_
  refine jx_aload_n 0 kd884.1 rfl rfl ?_
  refine jx_iload_n 1 kd884.2.1 rfl rfl ?_
  obtain ⟨hk1, h⟩ := h
  refine jx_callVi (M' := mX11_test) (As := [.int x1]) jo_X11_test jc_11 rfl jwM_X11_269 jwN_X11_test jwX_X11_test kd884.2.2.1 (jRok_m _ _ _) rfl (jle rfl) ⟨jle rfl, jle rfl⟩ hk1 h (fun r3 S2 h => ?_)
  refine jx_if_ne (tgt := 10) kd884.2.2.2.1 (by decide) (fun c4 => ?_) (fun c4 => ?_)
  · replace h := h.2 c4
    exact jx_lv [0, 1] rfl h
  replace h := h.1 c4
  refine jx_iconst (v := 0) kd884.2.2.2.2.1 (by decide) ?_
  exact jx_iret kd884.2.2.2.2.2.1 rfl (by decide) (jle rfl) (jle rfl) ⟨_, rfl, h⟩
set_option maxRecDepth 100000 in
set_option maxHeartbeats 4000000 in
theorem T_X11_both_10 {E : jEnv} {d : Nat} {Q : Int32 → jM → Prop} {a0 : Nat} {x1 : Int32} {S : jM} (h : jk S a0 = 11 ∧ jFi E mX11_isSign d 0 0 [.ref a0, .int 38] S (fun r7 S6 => (r7 = 0 → Q 1 S6) ∧ (¬ r7 = 0 → jk S6 a0 = 11 ∧ jFv E mX11_nextToken d 0 0 [.ref a0] S6 (fun S10 => jk S10 a0 = 11 ∧ jFi E mX11_test d 0 0 [.ref a0, .int x1] S10 (fun r13 S12 => (r13 = 0 → Q 0 S12) ∧ (¬ r13 = 0 → jk S12 a0 = 11 ∧ jFv E mX11_step d 0 0 [.ref a0, .int 2, .int 38] S12 (fun S16 => L_X11_both_10 E d Q a0 x1 S16))))))) : L_X11_both_10 E d Q a0 x1 S := by
  show jX E mX11_both (jRm (d + 1) 0 0) (jZm E (fun r S' => ∃ v : Int32, r = some (.int v) ∧ Q v S') 0 0) 10 [(0, .ref a0), (1, .int x1)] [] S 0 0
  refine jx_aload_n 0 kd884.2.2.2.2.2.2.1 rfl rfl ?_
  refine jx_bipush (v := 38) kd884.2.2.2.2.2.2.2.1 (by decide) ?_
  obtain ⟨hk5, h⟩ := h
  refine jx_callVi (M' := mX11_isSign) (As := [.int 38]) jo_X11_isSign jc_11 rfl jwM_X11_259 jwN_X11_isSign jwX_X11_isSign kd884.2.2.2.2.2.2.2.2.1 (jRok_m _ _ _) rfl (jle rfl) ⟨jle rfl, jle rfl⟩ hk5 h (fun r7 S6 h => ?_)
  refine jx_if_eq (tgt := 43) kd885.1 (by decide) (fun c8 => ?_) (fun c8 => ?_)
  · replace h := h.1 c8
    refine jx_iconst (v := 1) kd886.2.2.2.2.2.1 (by decide) ?_
    exact jx_iret kd886.2.2.2.2.2.2.1 rfl (by decide) (jle rfl) (jle rfl) ⟨_, rfl, h⟩
  replace h := h.2 c8
  refine jx_aload_n 0 kd885.2.1 rfl rfl ?_
  obtain ⟨hk9, h⟩ := h
  refine jx_callVv (M' := mX11_nextToken) (As := []) jo_X11_nextToken jc_11 rfl jwM_X11_262 jwN_X11_nextToken jwX_X11_nextToken kd885.2.2.1 (jRok_m _ _ _) rfl (jle rfl) ⟨jle rfl, jle rfl⟩ hk9 h (fun S10 h => ?_)
  refine jx_aload_n 0 kd885.2.2.2.1 rfl rfl ?_
  refine jx_iload_n 1 kd885.2.2.2.2.1 rfl rfl ?_
  obtain ⟨hk11, h⟩ := h
  refine jx_callVi (M' := mX11_test) (As := [.int x1]) jo_X11_test jc_11 rfl jwM_X11_269 jwN_X11_test jwX_X11_test kd885.2.2.2.2.2.1 (jRok_m _ _ _) rfl (jle rfl) ⟨jle rfl, jle rfl⟩ hk11 h (fun r13 S12 h => ?_)
  refine jx_if_ne (tgt := 33) kd885.2.2.2.2.2.2.1 (by decide) (fun c14 => ?_) (fun c14 => ?_)
  · replace h := h.2 c14
    refine jx_aload_n 0 kd886.1 rfl rfl ?_
    refine jx_iconst (v := 2) kd886.2.1 (by decide) ?_
    refine jx_bipush (v := 38) kd886.2.2.1 (by decide) ?_
    obtain ⟨hk15, h⟩ := h
    refine jx_callVv (M' := mX11_step) (As := [.int 2, .int 38]) jo_X11_step jc_11 rfl jwM_X11_265 jwN_X11_step jwX_X11_step kd886.2.2.2.1 (jRok_m _ _ _) rfl (jle rfl) ⟨jle rfl, jle rfl⟩ hk15 h (fun S16 h => ?_)
    refine jx_goto (tgt := 10) kd886.2.2.2.2.1 (by decide) ?_
    exact jx_lv [0, 1] rfl h
  replace h := h.1 c14
  refine jx_iconst (v := 0) kd885.2.2.2.2.2.2.2.1 (by decide) ?_
  exact jx_iret kd885.2.2.2.2.2.2.2.2.1 rfl (by decide) (jle rfl) (jle rfl) ⟨_, rfl, h⟩
set_option maxRecDepth 100000 in
set_option maxHeartbeats 4000000 in
theorem T_X11_test {E : jEnv} {d : Nat} {Q : Int32 → jM → Prop} {a0 : Nat} {x1 : Int32} {S : jM} (h : jk S a0 = 11 ∧ jFi E mX11_sum d 0 0 [.ref a0, .int x1] S (fun r3 S2 => (r3 = 0 → Q 0 S2) ∧ (¬ r3 = 0 → jk S2 a0 = 11 ∧ jFi E mX11_isSign d 0 0 [.ref a0, .int 60] S2 (fun r7 S6 => (r7 = 0 → jk S6 a0 = 11 ∧ jFi E mX11_isSign d 0 0 [.ref a0, .int 61] S6 (fun r19 S18 => (r19 = 0 → jk S18 a0 = 11 ∧ jFi E mX11_isSign d 0 0 [.ref a0, .int 62] S18 (fun r31 S30 => (r31 = 0 → Q 1 S30) ∧ (¬ r31 = 0 → jk S30 a0 = 11 ∧ jFv E mX11_nextToken d 0 0 [.ref a0] S30 (fun S34 => jk S34 a0 = 11 ∧ jFi E mX11_sum d 0 0 [.ref a0, .int x1] S34 (fun r37 S36 => (r37 = 0 → Q 0 S36) ∧ (¬ r37 = 0 → jk S36 a0 = 11 ∧ jFv E mX11_step d 0 0 [.ref a0, .int 2, .int (ji S30 a0 24)] S36 (fun S40 => Q 1 S40))))))) ∧ (¬ r19 = 0 → jk S18 a0 = 11 ∧ jFv E mX11_nextToken d 0 0 [.ref a0] S18 (fun S22 => jk S22 a0 = 11 ∧ jFi E mX11_sum d 0 0 [.ref a0, .int x1] S22 (fun r25 S24 => (r25 = 0 → Q 0 S24) ∧ (¬ r25 = 0 → jk S24 a0 = 11 ∧ jFv E mX11_step d 0 0 [.ref a0, .int 2, .int (ji S18 a0 24)] S24 (fun S28 => Q 1 S28))))))) ∧ (¬ r7 = 0 → jk S6 a0 = 11 ∧ jFv E mX11_nextToken d 0 0 [.ref a0] S6 (fun S10 => jk S10 a0 = 11 ∧ jFi E mX11_sum d 0 0 [.ref a0, .int x1] S10 (fun r13 S12 => (r13 = 0 → Q 0 S12) ∧ (¬ r13 = 0 → jk S12 a0 = 11 ∧ jFv E mX11_step d 0 0 [.ref a0, .int 2, .int (ji S6 a0 24)] S12 (fun S16 => Q 1 S16))))))))) : jFi E mX11_test (d + 1) 0 0 [.ref a0, .int x1] S Q := by
  refine jF_of (by decide) (jle rfl) ?_
  refine jx_lv (lv1 := [(0, .ref a0), (1, .int x1)]) [0, 1] rfl ?_
  refine jx_aload_n 0 kd887.1 rfl rfl ?_
  refine jx_iload_n 1 kd887.2.1 rfl rfl ?_
  obtain ⟨hk1, h⟩ := h
  refine jx_callVi (M' := mX11_sum) (As := [.int x1]) jo_X11_sum jc_11 rfl jwM_X11_272 jwN_X11_sum jwX_X11_sum kd887.2.2.1 (jRok_m _ _ _) rfl (jle rfl) ⟨jle rfl, jle rfl⟩ hk1 h (fun r3 S2 h => ?_)
  refine jx_if_ne (tgt := 10) kd887.2.2.2.1 (by decide) (fun c4 => ?_) (fun c4 => ?_)
  · replace h := h.2 c4
    refine jx_aload_n 0 kd887.2.2.2.2.2.2.1 rfl rfl ?_
    refine jx_bipush (v := 60) kd887.2.2.2.2.2.2.2.1 (by decide) ?_
    obtain ⟨hk5, h⟩ := h
    refine jx_callVi (M' := mX11_isSign) (As := [.int 60]) jo_X11_isSign jc_11 rfl jwM_X11_259 jwN_X11_isSign jwX_X11_isSign kd887.2.2.2.2.2.2.2.2.1 (jRok_m _ _ _) rfl (jle rfl) ⟨jle rfl, jle rfl⟩ hk5 h (fun r7 S6 h => ?_)
    refine jx_if_ne (tgt := 37) kd888.1 (by decide) (fun c8 => ?_) (fun c8 => ?_)
    · replace h := h.2 c8
      refine jx_aload_n 0 kd889.1 rfl rfl ?_
      obtain ⟨hk9, h⟩ := h
      refine jx_geti jc_11 (j := 24) (by decide) rfl jwF_X11_237 kd889.2.1 hk9 ?_
      refine jx_istore_n (lv1 := [(2, .int (ji S6 a0 24)), (0, .ref a0), (1, .int x1)]) kd889.2.2.1 rfl (by decide) rfl ?_
      refine jx_aload_n 1 kd889.2.2.2.1 rfl rfl ?_
      refine jx_callVv (M' := mX11_nextToken) (As := []) jo_X11_nextToken jc_11 rfl jwM_X11_262 jwN_X11_nextToken jwX_X11_nextToken kd889.2.2.2.2.1 (jRok_m _ _ _) rfl (jle rfl) ⟨jle rfl, jle rfl⟩ hk9 h (fun S10 h => ?_)
      refine jx_aload_n 1 kd889.2.2.2.2.2.1 rfl rfl ?_
      refine jx_iload_n 2 kd889.2.2.2.2.2.2.1 rfl rfl ?_
      obtain ⟨hk11, h⟩ := h
      refine jx_callVi (M' := mX11_sum) (As := [.int x1]) jo_X11_sum jc_11 rfl jwM_X11_272 jwN_X11_sum jwX_X11_sum kd889.2.2.2.2.2.2.2.1 (jRok_m _ _ _) rfl (jle rfl) ⟨jle rfl, jle rfl⟩ hk11 h (fun r13 S12 h => ?_)
      refine jx_if_ne (tgt := 56) kd889.2.2.2.2.2.2.2.2.1 (by decide) (fun c14 => ?_) (fun c14 => ?_)
      · replace h := h.2 c14
        refine jx_aload_n 1 kd890.2.2.1 rfl rfl ?_
        refine jx_iconst (v := 2) kd890.2.2.2.1 (by decide) ?_
        refine jx_iload_n 0 kd890.2.2.2.2.1 rfl rfl ?_
        obtain ⟨hk15, h⟩ := h
        refine jx_callVv (M' := mX11_step) (As := [.int 2, .int (ji S6 a0 24)]) jo_X11_step jc_11 rfl jwM_X11_265 jwN_X11_step jwX_X11_step kd890.2.2.2.2.2.1 (jRok_m _ _ _) rfl (jle rfl) ⟨jle rfl, jle rfl⟩ hk15 h (fun S16 h => ?_)
        refine jx_iconst (v := 1) kd890.2.2.2.2.2.2.1 (by decide) ?_
        exact jx_iret kd890.2.2.2.2.2.2.2.1 rfl (by decide) (jle rfl) (jle rfl) ⟨_, rfl, h⟩
      replace h := h.1 c14
      refine jx_iconst (v := 0) kd890.1 (by decide) ?_
      exact jx_iret kd890.2.1 rfl (by decide) (jle rfl) (jle rfl) ⟨_, rfl, h⟩
    replace h := h.1 c8
    refine jx_aload_n 0 kd888.2.1 rfl rfl ?_
    refine jx_bipush (v := 61) kd888.2.2.1 (by decide) ?_
    obtain ⟨hk17, h⟩ := h
    refine jx_callVi (M' := mX11_isSign) (As := [.int 61]) jo_X11_isSign jc_11 rfl jwM_X11_259 jwN_X11_isSign jwX_X11_isSign kd888.2.2.2.1 (jRok_m _ _ _) rfl (jle rfl) ⟨jle rfl, jle rfl⟩ hk17 h (fun r19 S18 h => ?_)
    refine jx_if_ne (tgt := 37) kd888.2.2.2.2.1 (by decide) (fun c20 => ?_) (fun c20 => ?_)
    · replace h := h.2 c20
      refine jx_aload_n 0 kd889.1 rfl rfl ?_
      obtain ⟨hk21, h⟩ := h
      refine jx_geti jc_11 (j := 24) (by decide) rfl jwF_X11_237 kd889.2.1 hk21 ?_
      refine jx_istore_n (lv1 := [(2, .int (ji S18 a0 24)), (0, .ref a0), (1, .int x1)]) kd889.2.2.1 rfl (by decide) rfl ?_
      refine jx_aload_n 1 kd889.2.2.2.1 rfl rfl ?_
      refine jx_callVv (M' := mX11_nextToken) (As := []) jo_X11_nextToken jc_11 rfl jwM_X11_262 jwN_X11_nextToken jwX_X11_nextToken kd889.2.2.2.2.1 (jRok_m _ _ _) rfl (jle rfl) ⟨jle rfl, jle rfl⟩ hk21 h (fun S22 h => ?_)
      refine jx_aload_n 1 kd889.2.2.2.2.2.1 rfl rfl ?_
      refine jx_iload_n 2 kd889.2.2.2.2.2.2.1 rfl rfl ?_
      obtain ⟨hk23, h⟩ := h
      refine jx_callVi (M' := mX11_sum) (As := [.int x1]) jo_X11_sum jc_11 rfl jwM_X11_272 jwN_X11_sum jwX_X11_sum kd889.2.2.2.2.2.2.2.1 (jRok_m _ _ _) rfl (jle rfl) ⟨jle rfl, jle rfl⟩ hk23 h (fun r25 S24 h => ?_)
      refine jx_if_ne (tgt := 56) kd889.2.2.2.2.2.2.2.2.1 (by decide) (fun c26 => ?_) (fun c26 => ?_)
      · replace h := h.2 c26
        refine jx_aload_n 1 kd890.2.2.1 rfl rfl ?_
        refine jx_iconst (v := 2) kd890.2.2.2.1 (by decide) ?_
        refine jx_iload_n 0 kd890.2.2.2.2.1 rfl rfl ?_
        obtain ⟨hk27, h⟩ := h
        refine jx_callVv (M' := mX11_step) (As := [.int 2, .int (ji S18 a0 24)]) jo_X11_step jc_11 rfl jwM_X11_265 jwN_X11_step jwX_X11_step kd890.2.2.2.2.2.1 (jRok_m _ _ _) rfl (jle rfl) ⟨jle rfl, jle rfl⟩ hk27 h (fun S28 h => ?_)
        refine jx_iconst (v := 1) kd890.2.2.2.2.2.2.1 (by decide) ?_
        exact jx_iret kd890.2.2.2.2.2.2.2.1 rfl (by decide) (jle rfl) (jle rfl) ⟨_, rfl, h⟩
      replace h := h.1 c26
      refine jx_iconst (v := 0) kd890.1 (by decide) ?_
      exact jx_iret kd890.2.1 rfl (by decide) (jle rfl) (jle rfl) ⟨_, rfl, h⟩
    replace h := h.1 c20
    refine jx_aload_n 0 kd888.2.2.2.2.2.1 rfl rfl ?_
    refine jx_bipush (v := 62) kd888.2.2.2.2.2.2.1 (by decide) ?_
    obtain ⟨hk29, h⟩ := h
    refine jx_callVi (M' := mX11_isSign) (As := [.int 62]) jo_X11_isSign jc_11 rfl jwM_X11_259 jwN_X11_isSign jwX_X11_isSign kd888.2.2.2.2.2.2.2.1 (jRok_m _ _ _) rfl (jle rfl) ⟨jle rfl, jle rfl⟩ hk29 h (fun r31 S30 h => ?_)
    refine jx_if_eq (tgt := 62) kd888.2.2.2.2.2.2.2.2.1 (by decide) (fun c32 => ?_) (fun c32 => ?_)
    · replace h := h.1 c32
      refine jx_iconst (v := 1) kd890.2.2.2.2.2.2.1 (by decide) ?_
      exact jx_iret kd890.2.2.2.2.2.2.2.1 rfl (by decide) (jle rfl) (jle rfl) ⟨_, rfl, h⟩
    replace h := h.2 c32
    refine jx_aload_n 0 kd889.1 rfl rfl ?_
    obtain ⟨hk33, h⟩ := h
    refine jx_geti jc_11 (j := 24) (by decide) rfl jwF_X11_237 kd889.2.1 hk33 ?_
    refine jx_istore_n (lv1 := [(2, .int (ji S30 a0 24)), (0, .ref a0), (1, .int x1)]) kd889.2.2.1 rfl (by decide) rfl ?_
    refine jx_aload_n 1 kd889.2.2.2.1 rfl rfl ?_
    refine jx_callVv (M' := mX11_nextToken) (As := []) jo_X11_nextToken jc_11 rfl jwM_X11_262 jwN_X11_nextToken jwX_X11_nextToken kd889.2.2.2.2.1 (jRok_m _ _ _) rfl (jle rfl) ⟨jle rfl, jle rfl⟩ hk33 h (fun S34 h => ?_)
    refine jx_aload_n 1 kd889.2.2.2.2.2.1 rfl rfl ?_
    refine jx_iload_n 2 kd889.2.2.2.2.2.2.1 rfl rfl ?_
    obtain ⟨hk35, h⟩ := h
    refine jx_callVi (M' := mX11_sum) (As := [.int x1]) jo_X11_sum jc_11 rfl jwM_X11_272 jwN_X11_sum jwX_X11_sum kd889.2.2.2.2.2.2.2.1 (jRok_m _ _ _) rfl (jle rfl) ⟨jle rfl, jle rfl⟩ hk35 h (fun r37 S36 h => ?_)
    refine jx_if_ne (tgt := 56) kd889.2.2.2.2.2.2.2.2.1 (by decide) (fun c38 => ?_) (fun c38 => ?_)
    · replace h := h.2 c38
      refine jx_aload_n 1 kd890.2.2.1 rfl rfl ?_
      refine jx_iconst (v := 2) kd890.2.2.2.1 (by decide) ?_
      refine jx_iload_n 0 kd890.2.2.2.2.1 rfl rfl ?_
      obtain ⟨hk39, h⟩ := h
      refine jx_callVv (M' := mX11_step) (As := [.int 2, .int (ji S30 a0 24)]) jo_X11_step jc_11 rfl jwM_X11_265 jwN_X11_step jwX_X11_step kd890.2.2.2.2.2.1 (jRok_m _ _ _) rfl (jle rfl) ⟨jle rfl, jle rfl⟩ hk39 h (fun S40 h => ?_)
      refine jx_iconst (v := 1) kd890.2.2.2.2.2.2.1 (by decide) ?_
      exact jx_iret kd890.2.2.2.2.2.2.2.1 rfl (by decide) (jle rfl) (jle rfl) ⟨_, rfl, h⟩
    replace h := h.1 c38
    refine jx_iconst (v := 0) kd890.1 (by decide) ?_
    exact jx_iret kd890.2.1 rfl (by decide) (jle rfl) (jle rfl) ⟨_, rfl, h⟩
  replace h := h.1 c4
  refine jx_iconst (v := 0) kd887.2.2.2.2.1 (by decide) ?_
  exact jx_iret kd887.2.2.2.2.2.1 rfl (by decide) (jle rfl) (jle rfl) ⟨_, rfl, h⟩
/-- X11_sum at its loop's head 10 -/
abbrev L_X11_sum_10 (E : jEnv) (d : Nat) (Q : Int32 → jM → Prop) (a0 : Nat) (x1 : Int32) (S : jM) : Prop := jX E mX11_sum (jRm (d + 1) 0 0) (jZm E (fun r S' => ∃ v : Int32, r = some (.int v) ∧ Q v S') 0 0) 10 [(0, .ref a0), (1, .int x1)] [] S 0 0
set_option maxRecDepth 100000 in
set_option maxHeartbeats 4000000 in
theorem T_X11_sum {E : jEnv} {d : Nat} {Q : Int32 → jM → Prop} {a0 : Nat} {x1 : Int32} {S : jM} (h : jk S a0 = 11 ∧ jFi E mX11_term d 0 0 [.ref a0, .int x1] S (fun r3 S2 => (r3 = 0 → Q 0 S2) ∧ (¬ r3 = 0 → L_X11_sum_10 E d Q a0 x1 S2))) : jFi E mX11_sum (d + 1) 0 0 [.ref a0, .int x1] S Q := by
  refine jF_of (by decide) (jle rfl) ?_
  refine jx_lv (lv1 := [(0, .ref a0), (1, .int x1)]) [0, 1] rfl ?_
  refine jx_aload_n 0 kd891.1 rfl rfl ?_
  refine jx_iload_n 1 kd891.2.1 rfl rfl ?_
  obtain ⟨hk1, h⟩ := h
  refine jx_callVi (M' := mX11_term) (As := [.int x1]) jo_X11_term jc_11 rfl jwM_X11_275 jwN_X11_term jwX_X11_term kd891.2.2.1 (jRok_m _ _ _) rfl (jle rfl) ⟨jle rfl, jle rfl⟩ hk1 h (fun r3 S2 h => ?_)
  refine jx_if_ne (tgt := 10) kd891.2.2.2.1 (by decide) (fun c4 => ?_) (fun c4 => ?_)
  · replace h := h.2 c4
    exact jx_lv [0, 1] rfl h
  replace h := h.1 c4
  refine jx_iconst (v := 0) kd891.2.2.2.2.1 (by decide) ?_
  exact jx_iret kd891.2.2.2.2.2.1 rfl (by decide) (jle rfl) (jle rfl) ⟨_, rfl, h⟩
set_option maxRecDepth 100000 in
set_option maxHeartbeats 4000000 in
theorem T_X11_sum_10 {E : jEnv} {d : Nat} {Q : Int32 → jM → Prop} {a0 : Nat} {x1 : Int32} {S : jM} (h : jk S a0 = 11 ∧ jFi E mX11_isSign d 0 0 [.ref a0, .int 43] S (fun r7 S6 => (r7 = 0 → jk S6 a0 = 11 ∧ jFi E mX11_isSign d 0 0 [.ref a0, .int 45] S6 (fun r19 S18 => (r19 = 0 → Q 1 S18) ∧ (¬ r19 = 0 → jk S18 a0 = 11 ∧ jFv E mX11_nextToken d 0 0 [.ref a0] S18 (fun S22 => jk S22 a0 = 11 ∧ jFi E mX11_term d 0 0 [.ref a0, .int x1] S22 (fun r25 S24 => (r25 = 0 → Q 0 S24) ∧ (¬ r25 = 0 → jk S24 a0 = 11 ∧ jFv E mX11_step d 0 0 [.ref a0, .int 2, .int (ji S18 a0 24)] S24 (fun S28 => L_X11_sum_10 E d Q a0 x1 S28))))))) ∧ (¬ r7 = 0 → jk S6 a0 = 11 ∧ jFv E mX11_nextToken d 0 0 [.ref a0] S6 (fun S10 => jk S10 a0 = 11 ∧ jFi E mX11_term d 0 0 [.ref a0, .int x1] S10 (fun r13 S12 => (r13 = 0 → Q 0 S12) ∧ (¬ r13 = 0 → jk S12 a0 = 11 ∧ jFv E mX11_step d 0 0 [.ref a0, .int 2, .int (ji S6 a0 24)] S12 (fun S16 => L_X11_sum_10 E d Q a0 x1 S16))))))) : L_X11_sum_10 E d Q a0 x1 S := by
  show jX E mX11_sum (jRm (d + 1) 0 0) (jZm E (fun r S' => ∃ v : Int32, r = some (.int v) ∧ Q v S') 0 0) 10 [(0, .ref a0), (1, .int x1)] [] S 0 0
  refine jx_aload_n 0 kd891.2.2.2.2.2.2.1 rfl rfl ?_
  refine jx_bipush (v := 43) kd891.2.2.2.2.2.2.2.1 (by decide) ?_
  obtain ⟨hk5, h⟩ := h
  refine jx_callVi (M' := mX11_isSign) (As := [.int 43]) jo_X11_isSign jc_11 rfl jwM_X11_259 jwN_X11_isSign jwX_X11_isSign kd891.2.2.2.2.2.2.2.2.1 (jRok_m _ _ _) rfl (jle rfl) ⟨jle rfl, jle rfl⟩ hk5 h (fun r7 S6 h => ?_)
  refine jx_if_ne (tgt := 28) kd892.1 (by decide) (fun c8 => ?_) (fun c8 => ?_)
  · replace h := h.2 c8
    refine jx_aload_n 0 kd892.2.2.2.2.2.1 rfl rfl ?_
    obtain ⟨hk9, h⟩ := h
    refine jx_geti jc_11 (j := 24) (by decide) rfl jwF_X11_237 kd892.2.2.2.2.2.2.1 hk9 ?_
    refine jx_istore_n (lv1 := [(2, .int (ji S6 a0 24)), (0, .ref a0), (1, .int x1)]) kd892.2.2.2.2.2.2.2.1 rfl (by decide) rfl ?_
    refine jx_aload_n 1 kd892.2.2.2.2.2.2.2.2.1 rfl rfl ?_
    refine jx_callVv (M' := mX11_nextToken) (As := []) jo_X11_nextToken jc_11 rfl jwM_X11_262 jwN_X11_nextToken jwX_X11_nextToken kd893.1 (jRok_m _ _ _) rfl (jle rfl) ⟨jle rfl, jle rfl⟩ hk9 h (fun S10 h => ?_)
    refine jx_aload_n 1 kd893.2.1 rfl rfl ?_
    refine jx_iload_n 2 kd893.2.2.1 rfl rfl ?_
    obtain ⟨hk11, h⟩ := h
    refine jx_callVi (M' := mX11_term) (As := [.int x1]) jo_X11_term jc_11 rfl jwM_X11_275 jwN_X11_term jwX_X11_term kd893.2.2.2.1 (jRok_m _ _ _) rfl (jle rfl) ⟨jle rfl, jle rfl⟩ hk11 h (fun r13 S12 h => ?_)
    refine jx_if_ne (tgt := 47) kd893.2.2.2.2.1 (by decide) (fun c14 => ?_) (fun c14 => ?_)
    · replace h := h.2 c14
      refine jx_aload_n 1 kd893.2.2.2.2.2.2.2.1 rfl rfl ?_
      refine jx_iconst (v := 2) kd893.2.2.2.2.2.2.2.2.1 (by decide) ?_
      refine jx_iload_n 0 kd894.1 rfl rfl ?_
      obtain ⟨hk15, h⟩ := h
      refine jx_callVv (M' := mX11_step) (As := [.int 2, .int (ji S6 a0 24)]) jo_X11_step jc_11 rfl jwM_X11_265 jwN_X11_step jwX_X11_step kd894.2.1 (jRok_m _ _ _) rfl (jle rfl) ⟨jle rfl, jle rfl⟩ hk15 h (fun S16 h => ?_)
      refine jx_goto (tgt := 10) kd894.2.2.1 (by decide) ?_
      exact jx_lv [1, 2] rfl h
    replace h := h.1 c14
    refine jx_iconst (v := 0) kd893.2.2.2.2.2.1 (by decide) ?_
    exact jx_iret kd893.2.2.2.2.2.2.1 rfl (by decide) (jle rfl) (jle rfl) ⟨_, rfl, h⟩
  replace h := h.1 c8
  refine jx_aload_n 0 kd892.2.1 rfl rfl ?_
  refine jx_bipush (v := 45) kd892.2.2.1 (by decide) ?_
  obtain ⟨hk17, h⟩ := h
  refine jx_callVi (M' := mX11_isSign) (As := [.int 45]) jo_X11_isSign jc_11 rfl jwM_X11_259 jwN_X11_isSign jwX_X11_isSign kd892.2.2.2.1 (jRok_m _ _ _) rfl (jle rfl) ⟨jle rfl, jle rfl⟩ hk17 h (fun r19 S18 h => ?_)
  refine jx_if_eq (tgt := 56) kd892.2.2.2.2.1 (by decide) (fun c20 => ?_) (fun c20 => ?_)
  · replace h := h.1 c20
    refine jx_iconst (v := 1) kd894.2.2.2.1 (by decide) ?_
    exact jx_iret kd894.2.2.2.2.1 rfl (by decide) (jle rfl) (jle rfl) ⟨_, rfl, h⟩
  replace h := h.2 c20
  refine jx_aload_n 0 kd892.2.2.2.2.2.1 rfl rfl ?_
  obtain ⟨hk21, h⟩ := h
  refine jx_geti jc_11 (j := 24) (by decide) rfl jwF_X11_237 kd892.2.2.2.2.2.2.1 hk21 ?_
  refine jx_istore_n (lv1 := [(2, .int (ji S18 a0 24)), (0, .ref a0), (1, .int x1)]) kd892.2.2.2.2.2.2.2.1 rfl (by decide) rfl ?_
  refine jx_aload_n 1 kd892.2.2.2.2.2.2.2.2.1 rfl rfl ?_
  refine jx_callVv (M' := mX11_nextToken) (As := []) jo_X11_nextToken jc_11 rfl jwM_X11_262 jwN_X11_nextToken jwX_X11_nextToken kd893.1 (jRok_m _ _ _) rfl (jle rfl) ⟨jle rfl, jle rfl⟩ hk21 h (fun S22 h => ?_)
  refine jx_aload_n 1 kd893.2.1 rfl rfl ?_
  refine jx_iload_n 2 kd893.2.2.1 rfl rfl ?_
  obtain ⟨hk23, h⟩ := h
  refine jx_callVi (M' := mX11_term) (As := [.int x1]) jo_X11_term jc_11 rfl jwM_X11_275 jwN_X11_term jwX_X11_term kd893.2.2.2.1 (jRok_m _ _ _) rfl (jle rfl) ⟨jle rfl, jle rfl⟩ hk23 h (fun r25 S24 h => ?_)
  refine jx_if_ne (tgt := 47) kd893.2.2.2.2.1 (by decide) (fun c26 => ?_) (fun c26 => ?_)
  · replace h := h.2 c26
    refine jx_aload_n 1 kd893.2.2.2.2.2.2.2.1 rfl rfl ?_
    refine jx_iconst (v := 2) kd893.2.2.2.2.2.2.2.2.1 (by decide) ?_
    refine jx_iload_n 0 kd894.1 rfl rfl ?_
    obtain ⟨hk27, h⟩ := h
    refine jx_callVv (M' := mX11_step) (As := [.int 2, .int (ji S18 a0 24)]) jo_X11_step jc_11 rfl jwM_X11_265 jwN_X11_step jwX_X11_step kd894.2.1 (jRok_m _ _ _) rfl (jle rfl) ⟨jle rfl, jle rfl⟩ hk27 h (fun S28 h => ?_)
    refine jx_goto (tgt := 10) kd894.2.2.1 (by decide) ?_
    exact jx_lv [1, 2] rfl h
  replace h := h.1 c26
  refine jx_iconst (v := 0) kd893.2.2.2.2.2.1 (by decide) ?_
  exact jx_iret kd893.2.2.2.2.2.2.1 rfl (by decide) (jle rfl) (jle rfl) ⟨_, rfl, h⟩
/-- X11_term at its loop's head 10 -/
abbrev L_X11_term_10 (E : jEnv) (d : Nat) (Q : Int32 → jM → Prop) (a0 : Nat) (x1 : Int32) (S : jM) : Prop := jX E mX11_term (jRm (d + 1) 0 0) (jZm E (fun r S' => ∃ v : Int32, r = some (.int v) ∧ Q v S') 0 0) 10 [(0, .ref a0), (1, .int x1)] [] S 0 0
set_option maxRecDepth 100000 in
set_option maxHeartbeats 4000000 in
theorem T_X11_term {E : jEnv} {d : Nat} {Q : Int32 → jM → Prop} {a0 : Nat} {x1 : Int32} {S : jM} (h : jk S a0 = 11 ∧ jFi E mX11_part0 d 0 0 [.ref a0, .int x1] S (fun r3 S2 => (r3 = 0 → Q 0 S2) ∧ (¬ r3 = 0 → L_X11_term_10 E d Q a0 x1 S2))) : jFi E mX11_term (d + 1) 0 0 [.ref a0, .int x1] S Q := by
  refine jF_of (by decide) (jle rfl) ?_
  refine jx_lv (lv1 := [(0, .ref a0), (1, .int x1)]) [0, 1] rfl ?_
  refine jx_aload_n 0 kd895.1 rfl rfl ?_
  refine jx_iload_n 1 kd895.2.1 rfl rfl ?_
  obtain ⟨hk1, h⟩ := h
  refine jx_callVi (M' := mX11_part0) (As := [.int x1]) jo_X11_part0 jc_11 rfl jwM_X11_278 jwN_X11_part0 jwX_X11_part0 kd895.2.2.1 (jRok_m _ _ _) rfl (jle rfl) ⟨jle rfl, jle rfl⟩ hk1 h (fun r3 S2 h => ?_)
  refine jx_if_ne (tgt := 10) kd895.2.2.2.1 (by decide) (fun c4 => ?_) (fun c4 => ?_)
  · replace h := h.2 c4
    exact jx_lv [0, 1] rfl h
  replace h := h.1 c4
  refine jx_iconst (v := 0) kd895.2.2.2.2.1 (by decide) ?_
  exact jx_iret kd895.2.2.2.2.2.1 rfl (by decide) (jle rfl) (jle rfl) ⟨_, rfl, h⟩
set_option maxRecDepth 100000 in
set_option maxHeartbeats 4000000 in
theorem T_X11_term_10 {E : jEnv} {d : Nat} {Q : Int32 → jM → Prop} {a0 : Nat} {x1 : Int32} {S : jM} (h : jk S a0 = 11 ∧ jFi E mX11_isSign d 0 0 [.ref a0, .int 42] S (fun r7 S6 => (r7 = 0 → jk S6 a0 = 11 ∧ jFi E mX11_isSign d 0 0 [.ref a0, .int 47] S6 (fun r19 S18 => (r19 = 0 → Q 1 S18) ∧ (¬ r19 = 0 → jk S18 a0 = 11 ∧ jFv E mX11_nextToken d 0 0 [.ref a0] S18 (fun S22 => jk S22 a0 = 11 ∧ jFi E mX11_part0 d 0 0 [.ref a0, .int x1] S22 (fun r25 S24 => (r25 = 0 → Q 0 S24) ∧ (¬ r25 = 0 → jk S24 a0 = 11 ∧ jFv E mX11_step d 0 0 [.ref a0, .int 2, .int (ji S18 a0 24)] S24 (fun S28 => L_X11_term_10 E d Q a0 x1 S28))))))) ∧ (¬ r7 = 0 → jk S6 a0 = 11 ∧ jFv E mX11_nextToken d 0 0 [.ref a0] S6 (fun S10 => jk S10 a0 = 11 ∧ jFi E mX11_part0 d 0 0 [.ref a0, .int x1] S10 (fun r13 S12 => (r13 = 0 → Q 0 S12) ∧ (¬ r13 = 0 → jk S12 a0 = 11 ∧ jFv E mX11_step d 0 0 [.ref a0, .int 2, .int (ji S6 a0 24)] S12 (fun S16 => L_X11_term_10 E d Q a0 x1 S16))))))) : L_X11_term_10 E d Q a0 x1 S := by
  show jX E mX11_term (jRm (d + 1) 0 0) (jZm E (fun r S' => ∃ v : Int32, r = some (.int v) ∧ Q v S') 0 0) 10 [(0, .ref a0), (1, .int x1)] [] S 0 0
  refine jx_aload_n 0 kd895.2.2.2.2.2.2.1 rfl rfl ?_
  refine jx_bipush (v := 42) kd895.2.2.2.2.2.2.2.1 (by decide) ?_
  obtain ⟨hk5, h⟩ := h
  refine jx_callVi (M' := mX11_isSign) (As := [.int 42]) jo_X11_isSign jc_11 rfl jwM_X11_259 jwN_X11_isSign jwX_X11_isSign kd895.2.2.2.2.2.2.2.2.1 (jRok_m _ _ _) rfl (jle rfl) ⟨jle rfl, jle rfl⟩ hk5 h (fun r7 S6 h => ?_)
  refine jx_if_ne (tgt := 28) kd896.1 (by decide) (fun c8 => ?_) (fun c8 => ?_)
  · replace h := h.2 c8
    refine jx_aload_n 0 kd896.2.2.2.2.2.1 rfl rfl ?_
    obtain ⟨hk9, h⟩ := h
    refine jx_geti jc_11 (j := 24) (by decide) rfl jwF_X11_237 kd896.2.2.2.2.2.2.1 hk9 ?_
    refine jx_istore_n (lv1 := [(2, .int (ji S6 a0 24)), (0, .ref a0), (1, .int x1)]) kd896.2.2.2.2.2.2.2.1 rfl (by decide) rfl ?_
    refine jx_aload_n 1 kd896.2.2.2.2.2.2.2.2.1 rfl rfl ?_
    refine jx_callVv (M' := mX11_nextToken) (As := []) jo_X11_nextToken jc_11 rfl jwM_X11_262 jwN_X11_nextToken jwX_X11_nextToken kd897.1 (jRok_m _ _ _) rfl (jle rfl) ⟨jle rfl, jle rfl⟩ hk9 h (fun S10 h => ?_)
    refine jx_aload_n 1 kd897.2.1 rfl rfl ?_
    refine jx_iload_n 2 kd897.2.2.1 rfl rfl ?_
    obtain ⟨hk11, h⟩ := h
    refine jx_callVi (M' := mX11_part0) (As := [.int x1]) jo_X11_part0 jc_11 rfl jwM_X11_278 jwN_X11_part0 jwX_X11_part0 kd897.2.2.2.1 (jRok_m _ _ _) rfl (jle rfl) ⟨jle rfl, jle rfl⟩ hk11 h (fun r13 S12 h => ?_)
    refine jx_if_ne (tgt := 47) kd897.2.2.2.2.1 (by decide) (fun c14 => ?_) (fun c14 => ?_)
    · replace h := h.2 c14
      refine jx_aload_n 1 kd897.2.2.2.2.2.2.2.1 rfl rfl ?_
      refine jx_iconst (v := 2) kd897.2.2.2.2.2.2.2.2.1 (by decide) ?_
      refine jx_iload_n 0 kd898.1 rfl rfl ?_
      obtain ⟨hk15, h⟩ := h
      refine jx_callVv (M' := mX11_step) (As := [.int 2, .int (ji S6 a0 24)]) jo_X11_step jc_11 rfl jwM_X11_265 jwN_X11_step jwX_X11_step kd898.2.1 (jRok_m _ _ _) rfl (jle rfl) ⟨jle rfl, jle rfl⟩ hk15 h (fun S16 h => ?_)
      refine jx_goto (tgt := 10) kd898.2.2.1 (by decide) ?_
      exact jx_lv [1, 2] rfl h
    replace h := h.1 c14
    refine jx_iconst (v := 0) kd897.2.2.2.2.2.1 (by decide) ?_
    exact jx_iret kd897.2.2.2.2.2.2.1 rfl (by decide) (jle rfl) (jle rfl) ⟨_, rfl, h⟩
  replace h := h.1 c8
  refine jx_aload_n 0 kd896.2.1 rfl rfl ?_
  refine jx_bipush (v := 47) kd896.2.2.1 (by decide) ?_
  obtain ⟨hk17, h⟩ := h
  refine jx_callVi (M' := mX11_isSign) (As := [.int 47]) jo_X11_isSign jc_11 rfl jwM_X11_259 jwN_X11_isSign jwX_X11_isSign kd896.2.2.2.1 (jRok_m _ _ _) rfl (jle rfl) ⟨jle rfl, jle rfl⟩ hk17 h (fun r19 S18 h => ?_)
  refine jx_if_eq (tgt := 56) kd896.2.2.2.2.1 (by decide) (fun c20 => ?_) (fun c20 => ?_)
  · replace h := h.1 c20
    refine jx_iconst (v := 1) kd898.2.2.2.1 (by decide) ?_
    exact jx_iret kd898.2.2.2.2.1 rfl (by decide) (jle rfl) (jle rfl) ⟨_, rfl, h⟩
  replace h := h.2 c20
  refine jx_aload_n 0 kd896.2.2.2.2.2.1 rfl rfl ?_
  obtain ⟨hk21, h⟩ := h
  refine jx_geti jc_11 (j := 24) (by decide) rfl jwF_X11_237 kd896.2.2.2.2.2.2.1 hk21 ?_
  refine jx_istore_n (lv1 := [(2, .int (ji S18 a0 24)), (0, .ref a0), (1, .int x1)]) kd896.2.2.2.2.2.2.2.1 rfl (by decide) rfl ?_
  refine jx_aload_n 1 kd896.2.2.2.2.2.2.2.2.1 rfl rfl ?_
  refine jx_callVv (M' := mX11_nextToken) (As := []) jo_X11_nextToken jc_11 rfl jwM_X11_262 jwN_X11_nextToken jwX_X11_nextToken kd897.1 (jRok_m _ _ _) rfl (jle rfl) ⟨jle rfl, jle rfl⟩ hk21 h (fun S22 h => ?_)
  refine jx_aload_n 1 kd897.2.1 rfl rfl ?_
  refine jx_iload_n 2 kd897.2.2.1 rfl rfl ?_
  obtain ⟨hk23, h⟩ := h
  refine jx_callVi (M' := mX11_part0) (As := [.int x1]) jo_X11_part0 jc_11 rfl jwM_X11_278 jwN_X11_part0 jwX_X11_part0 kd897.2.2.2.1 (jRok_m _ _ _) rfl (jle rfl) ⟨jle rfl, jle rfl⟩ hk23 h (fun r25 S24 h => ?_)
  refine jx_if_ne (tgt := 47) kd897.2.2.2.2.1 (by decide) (fun c26 => ?_) (fun c26 => ?_)
  · replace h := h.2 c26
    refine jx_aload_n 1 kd897.2.2.2.2.2.2.2.1 rfl rfl ?_
    refine jx_iconst (v := 2) kd897.2.2.2.2.2.2.2.2.1 (by decide) ?_
    refine jx_iload_n 0 kd898.1 rfl rfl ?_
    obtain ⟨hk27, h⟩ := h
    refine jx_callVv (M' := mX11_step) (As := [.int 2, .int (ji S18 a0 24)]) jo_X11_step jc_11 rfl jwM_X11_265 jwN_X11_step jwX_X11_step kd898.2.1 (jRok_m _ _ _) rfl (jle rfl) ⟨jle rfl, jle rfl⟩ hk27 h (fun S28 h => ?_)
    refine jx_goto (tgt := 10) kd898.2.2.1 (by decide) ?_
    exact jx_lv [1, 2] rfl h
  replace h := h.1 c26
  refine jx_iconst (v := 0) kd897.2.2.2.2.2.1 (by decide) ?_
  exact jx_iret kd897.2.2.2.2.2.2.1 rfl (by decide) (jle rfl) (jle rfl) ⟨_, rfl, h⟩
set_option maxRecDepth 100000 in
set_option maxHeartbeats 4000000 in
theorem T_X11_part0 {E : jEnv} {d : Nat} {Q : Int32 → jM → Prop} {a0 : Nat} {x1 : Int32} {S : jM} (h : jk S a0 = 11 ∧ ((ji S a0 22) = 2 → jFv E mX11_step d 0 0 [.ref a0, .int 0, .int (ji S a0 23)] S (fun S147 => jk S147 a0 = 11 ∧ jFv E mX11_nextToken d 0 0 [.ref a0] (jput S147 a0 29 ((ji S147 a0 29) + 1)) (fun S149 => Q 1 S149))) ∧ (¬ (ji S a0 22) = 2 → ((ji S a0 22) = 1 → ((ji S a0 24) = 0 → jFi E mX11_isSign d 0 0 [.ref a0, .int 33] S (fun r51 S50 => (r51 = 0 → jk S50 a0 = 11 ∧ jFi E mX11_isSign d 0 0 [.ref a0, .int 40] S50 (fun r55 S54 => (r55 = 0 → Q 0 S54) ∧ (¬ r55 = 0 → jk S54 a0 = 11 ∧ ((ji S54 a0 25) = 8 → Q 0 S54) ∧ (¬ (ji S54 a0 25) = 8 → jFv E mX11_nextToken d 0 0 [.ref a0] (jput S54 a0 25 ((ji S54 a0 25) + 1)) (fun S59 => jk S59 a0 = 11 ∧ jFi E mX11_either d 0 0 [.ref a0, .int x1] S59 (fun r62 S61 => (r62 = 0 → Q 0 S61) ∧ (¬ r62 = 0 → jk S61 a0 = 11 ∧ jFi E mX11_isSign d 0 0 [.ref a0, .int 41] S61 (fun r66 S65 => (r66 = 0 → Q 0 S65) ∧ (¬ r66 = 0 → jk S65 a0 = 11 ∧ jFv E mX11_nextToken d 0 0 [.ref a0] (jput S65 a0 25 ((ji S65 a0 25) - 1)) (fun S69 => Q 1 S69)))))))))) ∧ (¬ r51 = 0 → jk S50 a0 = 11 ∧ (8 ≤ (ji S50 a0 26) → jFi E mX11_isSign d 0 0 [.ref a0, .int 40] S50 (fun r73 S72 => (r73 = 0 → Q 0 S72) ∧ (¬ r73 = 0 → jk S72 a0 = 11 ∧ ((ji S72 a0 25) = 8 → Q 0 S72) ∧ (¬ (ji S72 a0 25) = 8 → jFv E mX11_nextToken d 0 0 [.ref a0] (jput S72 a0 25 ((ji S72 a0 25) + 1)) (fun S77 => jk S77 a0 = 11 ∧ jFi E mX11_either d 0 0 [.ref a0, .int x1] S77 (fun r80 S79 => (r80 = 0 → Q 0 S79) ∧ (¬ r80 = 0 → jk S79 a0 = 11 ∧ jFi E mX11_isSign d 0 0 [.ref a0, .int 41] S79 (fun r84 S83 => (r84 = 0 → Q 0 S83) ∧ (¬ r84 = 0 → jk S83 a0 = 11 ∧ jFv E mX11_nextToken d 0 0 [.ref a0] (jput S83 a0 25 ((ji S83 a0 25) - 1)) (fun S87 => Q 1 S87)))))))))) ∧ (¬ 8 ≤ (ji S50 a0 26) → jFv E mX11_nextToken d 0 0 [.ref a0] (jput S50 a0 26 ((ji S50 a0 26) + 1)) (fun S88 => jk S88 a0 = 11 ∧ jFi E mX11_part0 d 0 0 [.ref a0, .int x1] S88 (fun r91 S90 => (r91 = 0 → Q 0 S90) ∧ (¬ r91 = 0 → jk S90 a0 = 11 ∧ jFv E mX11_step d 0 0 [.ref a0, .int 2, .int 33] (jput S90 a0 26 ((ji S90 a0 26) - 1)) (fun S94 => Q 1 S94)))))))) ∧ (¬ (ji S a0 24) = 0 → ((jisname x1 (ji S a0 24)) = 0 → jFi E mX11_isSign d 0 0 [.ref a0, .int 33] S (fun r100 S99 => (r100 = 0 → jk S99 a0 = 11 ∧ jFi E mX11_isSign d 0 0 [.ref a0, .int 40] S99 (fun r104 S103 => (r104 = 0 → Q 0 S103) ∧ (¬ r104 = 0 → jk S103 a0 = 11 ∧ ((ji S103 a0 25) = 8 → Q 0 S103) ∧ (¬ (ji S103 a0 25) = 8 → jFv E mX11_nextToken d 0 0 [.ref a0] (jput S103 a0 25 ((ji S103 a0 25) + 1)) (fun S108 => jk S108 a0 = 11 ∧ jFi E mX11_either d 0 0 [.ref a0, .int x1] S108 (fun r111 S110 => (r111 = 0 → Q 0 S110) ∧ (¬ r111 = 0 → jk S110 a0 = 11 ∧ jFi E mX11_isSign d 0 0 [.ref a0, .int 41] S110 (fun r115 S114 => (r115 = 0 → Q 0 S114) ∧ (¬ r115 = 0 → jk S114 a0 = 11 ∧ jFv E mX11_nextToken d 0 0 [.ref a0] (jput S114 a0 25 ((ji S114 a0 25) - 1)) (fun S118 => Q 1 S118)))))))))) ∧ (¬ r100 = 0 → jk S99 a0 = 11 ∧ (8 ≤ (ji S99 a0 26) → jFi E mX11_isSign d 0 0 [.ref a0, .int 40] S99 (fun r122 S121 => (r122 = 0 → Q 0 S121) ∧ (¬ r122 = 0 → jk S121 a0 = 11 ∧ ((ji S121 a0 25) = 8 → Q 0 S121) ∧ (¬ (ji S121 a0 25) = 8 → jFv E mX11_nextToken d 0 0 [.ref a0] (jput S121 a0 25 ((ji S121 a0 25) + 1)) (fun S126 => jk S126 a0 = 11 ∧ jFi E mX11_either d 0 0 [.ref a0, .int x1] S126 (fun r129 S128 => (r129 = 0 → Q 0 S128) ∧ (¬ r129 = 0 → jk S128 a0 = 11 ∧ jFi E mX11_isSign d 0 0 [.ref a0, .int 41] S128 (fun r133 S132 => (r133 = 0 → Q 0 S132) ∧ (¬ r133 = 0 → jk S132 a0 = 11 ∧ jFv E mX11_nextToken d 0 0 [.ref a0] (jput S132 a0 25 ((ji S132 a0 25) - 1)) (fun S136 => Q 1 S136)))))))))) ∧ (¬ 8 ≤ (ji S99 a0 26) → jFv E mX11_nextToken d 0 0 [.ref a0] (jput S99 a0 26 ((ji S99 a0 26) + 1)) (fun S137 => jk S137 a0 = 11 ∧ jFi E mX11_part0 d 0 0 [.ref a0, .int x1] S137 (fun r140 S139 => (r140 = 0 → Q 0 S139) ∧ (¬ r140 = 0 → jk S139 a0 = 11 ∧ jFv E mX11_step d 0 0 [.ref a0, .int 2, .int 33] (jput S139 a0 26 ((ji S139 a0 26) - 1)) (fun S143 => Q 1 S143)))))))) ∧ (¬ (jisname x1 (ji S a0 24)) = 0 → jFv E mX11_step d 0 0 [.ref a0, .int 1, .int (ji S a0 24)] S (fun S144 => jk S144 a0 = 11 ∧ jFv E mX11_nextToken d 0 0 [.ref a0] (jput S144 a0 29 ((ji S144 a0 29) + 1)) (fun S146 => Q 1 S146))))) ∧ (¬ (ji S a0 22) = 1 → jFi E mX11_isSign d 0 0 [.ref a0, .int 33] S (fun r5 S4 => (r5 = 0 → jk S4 a0 = 11 ∧ jFi E mX11_isSign d 0 0 [.ref a0, .int 40] S4 (fun r9 S8 => (r9 = 0 → Q 0 S8) ∧ (¬ r9 = 0 → jk S8 a0 = 11 ∧ ((ji S8 a0 25) = 8 → Q 0 S8) ∧ (¬ (ji S8 a0 25) = 8 → jFv E mX11_nextToken d 0 0 [.ref a0] (jput S8 a0 25 ((ji S8 a0 25) + 1)) (fun S13 => jk S13 a0 = 11 ∧ jFi E mX11_either d 0 0 [.ref a0, .int x1] S13 (fun r16 S15 => (r16 = 0 → Q 0 S15) ∧ (¬ r16 = 0 → jk S15 a0 = 11 ∧ jFi E mX11_isSign d 0 0 [.ref a0, .int 41] S15 (fun r20 S19 => (r20 = 0 → Q 0 S19) ∧ (¬ r20 = 0 → jk S19 a0 = 11 ∧ jFv E mX11_nextToken d 0 0 [.ref a0] (jput S19 a0 25 ((ji S19 a0 25) - 1)) (fun S23 => Q 1 S23)))))))))) ∧ (¬ r5 = 0 → jk S4 a0 = 11 ∧ (8 ≤ (ji S4 a0 26) → jFi E mX11_isSign d 0 0 [.ref a0, .int 40] S4 (fun r27 S26 => (r27 = 0 → Q 0 S26) ∧ (¬ r27 = 0 → jk S26 a0 = 11 ∧ ((ji S26 a0 25) = 8 → Q 0 S26) ∧ (¬ (ji S26 a0 25) = 8 → jFv E mX11_nextToken d 0 0 [.ref a0] (jput S26 a0 25 ((ji S26 a0 25) + 1)) (fun S31 => jk S31 a0 = 11 ∧ jFi E mX11_either d 0 0 [.ref a0, .int x1] S31 (fun r34 S33 => (r34 = 0 → Q 0 S33) ∧ (¬ r34 = 0 → jk S33 a0 = 11 ∧ jFi E mX11_isSign d 0 0 [.ref a0, .int 41] S33 (fun r38 S37 => (r38 = 0 → Q 0 S37) ∧ (¬ r38 = 0 → jk S37 a0 = 11 ∧ jFv E mX11_nextToken d 0 0 [.ref a0] (jput S37 a0 25 ((ji S37 a0 25) - 1)) (fun S41 => Q 1 S41)))))))))) ∧ (¬ 8 ≤ (ji S4 a0 26) → jFv E mX11_nextToken d 0 0 [.ref a0] (jput S4 a0 26 ((ji S4 a0 26) + 1)) (fun S42 => jk S42 a0 = 11 ∧ jFi E mX11_part0 d 0 0 [.ref a0, .int x1] S42 (fun r45 S44 => (r45 = 0 → Q 0 S44) ∧ (¬ r45 = 0 → jk S44 a0 = 11 ∧ jFv E mX11_step d 0 0 [.ref a0, .int 2, .int 33] (jput S44 a0 26 ((ji S44 a0 26) - 1)) (fun S48 => Q 1 S48)))))))))) : jFi E mX11_part0 (d + 1) 0 0 [.ref a0, .int x1] S Q := by
  refine jF_of (by decide) (jle rfl) ?_
  refine jx_lv (lv1 := [(0, .ref a0), (1, .int x1)]) [0, 1] rfl ?_
  refine jx_aload_n 0 kd899.1 rfl rfl ?_
  obtain ⟨hk1, h⟩ := h
  refine jx_geti jc_11 (j := 22) (by decide) rfl jwF_X11_228 kd899.2.1 hk1 ?_
  refine jx_iconst (v := 2) kd899.2.2.1 (by decide) ?_
  refine jx_icmp_ne (tgt := 33) kd899.2.2.2.1 (by decide) (fun c2 => ?_) (fun c2 => ?_)
  · replace h := h.2 c2
    refine jx_aload_n 0 kd901.2.1 rfl rfl ?_
    refine jx_geti jc_11 (j := 22) (by decide) rfl jwF_X11_228 kd901.2.2.1 hk1 ?_
    refine jx_iconst (v := 1) kd901.2.2.2.1 (by decide) ?_
    refine jx_icmp_ne (tgt := 84) kd901.2.2.2.2.1 (by decide) (fun c3 => ?_) (fun c3 => ?_)
    · replace h := h.2 c3
      refine jx_aload_n 0 kd904.2.1 rfl rfl ?_
      refine jx_bipush (v := 33) kd904.2.2.1 (by decide) ?_
      refine jx_callVi (M' := mX11_isSign) (As := [.int 33]) jo_X11_isSign jc_11 rfl jwM_X11_259 jwN_X11_isSign jwX_X11_isSign kd904.2.2.2.1 (jRok_m _ _ _) rfl (jle rfl) ⟨jle rfl, jle rfl⟩ hk1 h (fun r5 S4 h => ?_)
      refine jx_if_eq (tgt := 145) kd904.2.2.2.2.1 (by decide) (fun c6 => ?_) (fun c6 => ?_)
      · replace h := h.1 c6
        refine jx_aload_n 0 kd907.2.2.2.2.2.2.2.2.1 rfl rfl ?_
        refine jx_bipush (v := 40) kd908.1 (by decide) ?_
        obtain ⟨hk7, h⟩ := h
        refine jx_callVi (M' := mX11_isSign) (As := [.int 40]) jo_X11_isSign jc_11 rfl jwM_X11_259 jwN_X11_isSign jwX_X11_isSign kd908.2.1 (jRok_m _ _ _) rfl (jle rfl) ⟨jle rfl, jle rfl⟩ hk7 h (fun r9 S8 h => ?_)
        refine jx_if_eq (tgt := 163) kd908.2.2.1 (by decide) (fun c10 => ?_) (fun c10 => ?_)
        · replace h := h.1 c10
          refine jx_iconst (v := 0) kd908.2.2.2.2.2.2.2.1 (by decide) ?_
          exact jx_iret kd908.2.2.2.2.2.2.2.2.1 rfl (by decide) (jle rfl) (jle rfl) ⟨_, rfl, h⟩
        replace h := h.2 c10
        refine jx_aload_n 0 kd908.2.2.2.1 rfl rfl ?_
        obtain ⟨hk11, h⟩ := h
        refine jx_geti jc_11 (j := 25) (by decide) rfl jwF_X11_290 kd908.2.2.2.2.1 hk11 ?_
        refine jx_bipush (v := 8) kd908.2.2.2.2.2.1 (by decide) ?_
        refine jx_icmp_ne (tgt := 165) kd908.2.2.2.2.2.2.1 (by decide) (fun c12 => ?_) (fun c12 => ?_)
        · replace h := h.2 c12
          refine jx_aload_n 0 kd909.1 rfl rfl ?_
          refine jx_dup kd909.2.1 rfl ?_
          refine jx_geti jc_11 (j := 25) (by decide) rfl jwF_X11_290 kd909.2.2.1 hk11 ?_
          refine jx_iconst (v := 1) kd909.2.2.2.1 (by decide) ?_
          refine jx_iadd kd909.2.2.2.2.1 ?_
          refine jx_puti jc_11 (j := 25) (by decide) rfl jwF_X11_290 rfl rfl rfl kd909.2.2.2.2.2.1 hk11 ?_
          refine jx_aload_n 0 kd909.2.2.2.2.2.2.1 rfl rfl ?_
          refine jx_callVv (M' := mX11_nextToken) (As := []) jo_X11_nextToken jc_11 rfl jwM_X11_262 jwN_X11_nextToken jwX_X11_nextToken kd909.2.2.2.2.2.2.2.1 (jRok_m _ _ _) rfl (jle rfl) ⟨jle rfl, jle rfl⟩ hk11 h (fun S13 h => ?_)
          refine jx_aload_n 0 kd909.2.2.2.2.2.2.2.2.1 rfl rfl ?_
          refine jx_iload_n 1 kd910.1 rfl rfl ?_
          obtain ⟨hk14, h⟩ := h
          refine jx_callVi (M' := mX11_either) (As := [.int x1]) jo_X11_either jc_11 rfl jwM_X11_293 jwN_X11_either jwX_X11_either kd910.2.1 (jRok_m _ _ _) rfl (jle rfl) ⟨jle rfl, jle rfl⟩ hk14 h (fun r16 S15 h => ?_)
          refine jx_if_eq (tgt := 196) kd910.2.2.1 (by decide) (fun c17 => ?_) (fun c17 => ?_)
          · replace h := h.1 c17
            refine jx_iconst (v := 0) kd910.2.2.2.2.2.2.2.1 (by decide) ?_
            exact jx_iret kd910.2.2.2.2.2.2.2.2.1 rfl (by decide) (jle rfl) (jle rfl) ⟨_, rfl, h⟩
          replace h := h.2 c17
          refine jx_aload_n 0 kd910.2.2.2.1 rfl rfl ?_
          refine jx_bipush (v := 41) kd910.2.2.2.2.1 (by decide) ?_
          obtain ⟨hk18, h⟩ := h
          refine jx_callVi (M' := mX11_isSign) (As := [.int 41]) jo_X11_isSign jc_11 rfl jwM_X11_259 jwN_X11_isSign jwX_X11_isSign kd910.2.2.2.2.2.1 (jRok_m _ _ _) rfl (jle rfl) ⟨jle rfl, jle rfl⟩ hk18 h (fun r20 S19 h => ?_)
          refine jx_if_ne (tgt := 198) kd910.2.2.2.2.2.2.1 (by decide) (fun c21 => ?_) (fun c21 => ?_)
          · replace h := h.2 c21
            refine jx_aload_n 0 kd911.1 rfl rfl ?_
            refine jx_dup kd911.2.1 rfl ?_
            obtain ⟨hk22, h⟩ := h
            refine jx_geti jc_11 (j := 25) (by decide) rfl jwF_X11_290 kd911.2.2.1 hk22 ?_
            refine jx_iconst (v := 1) kd911.2.2.2.1 (by decide) ?_
            refine jx_isub kd911.2.2.2.2.1 ?_
            refine jx_puti jc_11 (j := 25) (by decide) rfl jwF_X11_290 rfl rfl rfl kd911.2.2.2.2.2.1 hk22 ?_
            refine jx_aload_n 0 kd911.2.2.2.2.2.2.1 rfl rfl ?_
            refine jx_callVv (M' := mX11_nextToken) (As := []) jo_X11_nextToken jc_11 rfl jwM_X11_262 jwN_X11_nextToken jwX_X11_nextToken kd911.2.2.2.2.2.2.2.1 (jRok_m _ _ _) rfl (jle rfl) ⟨jle rfl, jle rfl⟩ hk22 h (fun S23 h => ?_)
            refine jx_iconst (v := 1) kd911.2.2.2.2.2.2.2.2.1 (by decide) ?_
            exact jx_iret kd912.1 rfl (by decide) (jle rfl) (jle rfl) ⟨_, rfl, h⟩
          replace h := h.1 c21
          refine jx_iconst (v := 0) kd910.2.2.2.2.2.2.2.1 (by decide) ?_
          exact jx_iret kd910.2.2.2.2.2.2.2.2.1 rfl (by decide) (jle rfl) (jle rfl) ⟨_, rfl, h⟩
        replace h := h.1 c12
        refine jx_iconst (v := 0) kd908.2.2.2.2.2.2.2.1 (by decide) ?_
        exact jx_iret kd908.2.2.2.2.2.2.2.2.1 rfl (by decide) (jle rfl) (jle rfl) ⟨_, rfl, h⟩
      replace h := h.2 c6
      refine jx_aload_n 0 kd904.2.2.2.2.2.1 rfl rfl ?_
      obtain ⟨hk24, h⟩ := h
      refine jx_geti jc_11 (j := 26) (by decide) rfl jwF_X11_287 kd904.2.2.2.2.2.2.1 hk24 ?_
      refine jx_bipush (v := 8) kd904.2.2.2.2.2.2.2.1 (by decide) ?_
      refine jx_icmp_ge (tgt := 145) kd904.2.2.2.2.2.2.2.2.1 (by decide) (fun c25 => ?_) (fun c25 => ?_)
      · replace h := h.1 c25
        refine jx_aload_n 0 kd907.2.2.2.2.2.2.2.2.1 rfl rfl ?_
        refine jx_bipush (v := 40) kd908.1 (by decide) ?_
        refine jx_callVi (M' := mX11_isSign) (As := [.int 40]) jo_X11_isSign jc_11 rfl jwM_X11_259 jwN_X11_isSign jwX_X11_isSign kd908.2.1 (jRok_m _ _ _) rfl (jle rfl) ⟨jle rfl, jle rfl⟩ hk24 h (fun r27 S26 h => ?_)
        refine jx_if_eq (tgt := 163) kd908.2.2.1 (by decide) (fun c28 => ?_) (fun c28 => ?_)
        · replace h := h.1 c28
          refine jx_iconst (v := 0) kd908.2.2.2.2.2.2.2.1 (by decide) ?_
          exact jx_iret kd908.2.2.2.2.2.2.2.2.1 rfl (by decide) (jle rfl) (jle rfl) ⟨_, rfl, h⟩
        replace h := h.2 c28
        refine jx_aload_n 0 kd908.2.2.2.1 rfl rfl ?_
        obtain ⟨hk29, h⟩ := h
        refine jx_geti jc_11 (j := 25) (by decide) rfl jwF_X11_290 kd908.2.2.2.2.1 hk29 ?_
        refine jx_bipush (v := 8) kd908.2.2.2.2.2.1 (by decide) ?_
        refine jx_icmp_ne (tgt := 165) kd908.2.2.2.2.2.2.1 (by decide) (fun c30 => ?_) (fun c30 => ?_)
        · replace h := h.2 c30
          refine jx_aload_n 0 kd909.1 rfl rfl ?_
          refine jx_dup kd909.2.1 rfl ?_
          refine jx_geti jc_11 (j := 25) (by decide) rfl jwF_X11_290 kd909.2.2.1 hk29 ?_
          refine jx_iconst (v := 1) kd909.2.2.2.1 (by decide) ?_
          refine jx_iadd kd909.2.2.2.2.1 ?_
          refine jx_puti jc_11 (j := 25) (by decide) rfl jwF_X11_290 rfl rfl rfl kd909.2.2.2.2.2.1 hk29 ?_
          refine jx_aload_n 0 kd909.2.2.2.2.2.2.1 rfl rfl ?_
          refine jx_callVv (M' := mX11_nextToken) (As := []) jo_X11_nextToken jc_11 rfl jwM_X11_262 jwN_X11_nextToken jwX_X11_nextToken kd909.2.2.2.2.2.2.2.1 (jRok_m _ _ _) rfl (jle rfl) ⟨jle rfl, jle rfl⟩ hk29 h (fun S31 h => ?_)
          refine jx_aload_n 0 kd909.2.2.2.2.2.2.2.2.1 rfl rfl ?_
          refine jx_iload_n 1 kd910.1 rfl rfl ?_
          obtain ⟨hk32, h⟩ := h
          refine jx_callVi (M' := mX11_either) (As := [.int x1]) jo_X11_either jc_11 rfl jwM_X11_293 jwN_X11_either jwX_X11_either kd910.2.1 (jRok_m _ _ _) rfl (jle rfl) ⟨jle rfl, jle rfl⟩ hk32 h (fun r34 S33 h => ?_)
          refine jx_if_eq (tgt := 196) kd910.2.2.1 (by decide) (fun c35 => ?_) (fun c35 => ?_)
          · replace h := h.1 c35
            refine jx_iconst (v := 0) kd910.2.2.2.2.2.2.2.1 (by decide) ?_
            exact jx_iret kd910.2.2.2.2.2.2.2.2.1 rfl (by decide) (jle rfl) (jle rfl) ⟨_, rfl, h⟩
          replace h := h.2 c35
          refine jx_aload_n 0 kd910.2.2.2.1 rfl rfl ?_
          refine jx_bipush (v := 41) kd910.2.2.2.2.1 (by decide) ?_
          obtain ⟨hk36, h⟩ := h
          refine jx_callVi (M' := mX11_isSign) (As := [.int 41]) jo_X11_isSign jc_11 rfl jwM_X11_259 jwN_X11_isSign jwX_X11_isSign kd910.2.2.2.2.2.1 (jRok_m _ _ _) rfl (jle rfl) ⟨jle rfl, jle rfl⟩ hk36 h (fun r38 S37 h => ?_)
          refine jx_if_ne (tgt := 198) kd910.2.2.2.2.2.2.1 (by decide) (fun c39 => ?_) (fun c39 => ?_)
          · replace h := h.2 c39
            refine jx_aload_n 0 kd911.1 rfl rfl ?_
            refine jx_dup kd911.2.1 rfl ?_
            obtain ⟨hk40, h⟩ := h
            refine jx_geti jc_11 (j := 25) (by decide) rfl jwF_X11_290 kd911.2.2.1 hk40 ?_
            refine jx_iconst (v := 1) kd911.2.2.2.1 (by decide) ?_
            refine jx_isub kd911.2.2.2.2.1 ?_
            refine jx_puti jc_11 (j := 25) (by decide) rfl jwF_X11_290 rfl rfl rfl kd911.2.2.2.2.2.1 hk40 ?_
            refine jx_aload_n 0 kd911.2.2.2.2.2.2.1 rfl rfl ?_
            refine jx_callVv (M' := mX11_nextToken) (As := []) jo_X11_nextToken jc_11 rfl jwM_X11_262 jwN_X11_nextToken jwX_X11_nextToken kd911.2.2.2.2.2.2.2.1 (jRok_m _ _ _) rfl (jle rfl) ⟨jle rfl, jle rfl⟩ hk40 h (fun S41 h => ?_)
            refine jx_iconst (v := 1) kd911.2.2.2.2.2.2.2.2.1 (by decide) ?_
            exact jx_iret kd912.1 rfl (by decide) (jle rfl) (jle rfl) ⟨_, rfl, h⟩
          replace h := h.1 c39
          refine jx_iconst (v := 0) kd910.2.2.2.2.2.2.2.1 (by decide) ?_
          exact jx_iret kd910.2.2.2.2.2.2.2.2.1 rfl (by decide) (jle rfl) (jle rfl) ⟨_, rfl, h⟩
        replace h := h.1 c30
        refine jx_iconst (v := 0) kd908.2.2.2.2.2.2.2.1 (by decide) ?_
        exact jx_iret kd908.2.2.2.2.2.2.2.2.1 rfl (by decide) (jle rfl) (jle rfl) ⟨_, rfl, h⟩
      replace h := h.2 c25
      refine jx_aload_n 0 kd905.1 rfl rfl ?_
      refine jx_dup kd905.2.1 rfl ?_
      refine jx_geti jc_11 (j := 26) (by decide) rfl jwF_X11_287 kd905.2.2.1 hk24 ?_
      refine jx_iconst (v := 1) kd905.2.2.2.1 (by decide) ?_
      refine jx_iadd kd905.2.2.2.2.1 ?_
      refine jx_puti jc_11 (j := 26) (by decide) rfl jwF_X11_287 rfl rfl rfl kd905.2.2.2.2.2.1 hk24 ?_
      refine jx_aload_n 0 kd905.2.2.2.2.2.2.1 rfl rfl ?_
      refine jx_callVv (M' := mX11_nextToken) (As := []) jo_X11_nextToken jc_11 rfl jwM_X11_262 jwN_X11_nextToken jwX_X11_nextToken kd905.2.2.2.2.2.2.2.1 (jRok_m _ _ _) rfl (jle rfl) ⟨jle rfl, jle rfl⟩ hk24 h (fun S42 h => ?_)
      refine jx_aload_n 0 kd905.2.2.2.2.2.2.2.2.1 rfl rfl ?_
      refine jx_iload_n 1 kd906.1 rfl rfl ?_
      obtain ⟨hk43, h⟩ := h
      refine jx_callVi (M' := mX11_part0) (As := [.int x1]) jo_X11_part0 jc_11 rfl jwM_X11_278 jwN_X11_part0 jwX_X11_part0 kd906.2.1 (jRok_m _ _ _) rfl (jle rfl) ⟨jle rfl, jle rfl⟩ hk43 h (fun r45 S44 h => ?_)
      refine jx_if_ne (tgt := 126) kd906.2.2.1 (by decide) (fun c46 => ?_) (fun c46 => ?_)
      · replace h := h.2 c46
        refine jx_aload_n 0 kd906.2.2.2.2.2.1 rfl rfl ?_
        refine jx_dup kd906.2.2.2.2.2.2.1 rfl ?_
        obtain ⟨hk47, h⟩ := h
        refine jx_geti jc_11 (j := 26) (by decide) rfl jwF_X11_287 kd906.2.2.2.2.2.2.2.1 hk47 ?_
        refine jx_iconst (v := 1) kd906.2.2.2.2.2.2.2.2.1 (by decide) ?_
        refine jx_isub kd907.1 ?_
        refine jx_puti jc_11 (j := 26) (by decide) rfl jwF_X11_287 rfl rfl rfl kd907.2.1 hk47 ?_
        refine jx_aload_n 0 kd907.2.2.1 rfl rfl ?_
        refine jx_iconst (v := 2) kd907.2.2.2.1 (by decide) ?_
        refine jx_bipush (v := 33) kd907.2.2.2.2.1 (by decide) ?_
        refine jx_callVv (M' := mX11_step) (As := [.int 2, .int 33]) jo_X11_step jc_11 rfl jwM_X11_265 jwN_X11_step jwX_X11_step kd907.2.2.2.2.2.1 (jRok_m _ _ _) rfl (jle rfl) ⟨jle rfl, jle rfl⟩ hk47 h (fun S48 h => ?_)
        refine jx_iconst (v := 1) kd907.2.2.2.2.2.2.1 (by decide) ?_
        exact jx_iret kd907.2.2.2.2.2.2.2.1 rfl (by decide) (jle rfl) (jle rfl) ⟨_, rfl, h⟩
      replace h := h.1 c46
      refine jx_iconst (v := 0) kd906.2.2.2.1 (by decide) ?_
      exact jx_iret kd906.2.2.2.2.1 rfl (by decide) (jle rfl) (jle rfl) ⟨_, rfl, h⟩
    replace h := h.1 c3
    refine jx_aload_n 0 kd901.2.2.2.2.2.1 rfl rfl ?_
    refine jx_geti jc_11 (j := 24) (by decide) rfl jwF_X11_237 kd901.2.2.2.2.2.2.1 hk1 ?_
    refine jx_if_eq (tgt := 84) kd901.2.2.2.2.2.2.2.1 (by decide) (fun c49 => ?_) (fun c49 => ?_)
    · replace h := h.1 c49
      refine jx_aload_n 0 kd904.2.1 rfl rfl ?_
      refine jx_bipush (v := 33) kd904.2.2.1 (by decide) ?_
      refine jx_callVi (M' := mX11_isSign) (As := [.int 33]) jo_X11_isSign jc_11 rfl jwM_X11_259 jwN_X11_isSign jwX_X11_isSign kd904.2.2.2.1 (jRok_m _ _ _) rfl (jle rfl) ⟨jle rfl, jle rfl⟩ hk1 h (fun r51 S50 h => ?_)
      refine jx_if_eq (tgt := 145) kd904.2.2.2.2.1 (by decide) (fun c52 => ?_) (fun c52 => ?_)
      · replace h := h.1 c52
        refine jx_aload_n 0 kd907.2.2.2.2.2.2.2.2.1 rfl rfl ?_
        refine jx_bipush (v := 40) kd908.1 (by decide) ?_
        obtain ⟨hk53, h⟩ := h
        refine jx_callVi (M' := mX11_isSign) (As := [.int 40]) jo_X11_isSign jc_11 rfl jwM_X11_259 jwN_X11_isSign jwX_X11_isSign kd908.2.1 (jRok_m _ _ _) rfl (jle rfl) ⟨jle rfl, jle rfl⟩ hk53 h (fun r55 S54 h => ?_)
        refine jx_if_eq (tgt := 163) kd908.2.2.1 (by decide) (fun c56 => ?_) (fun c56 => ?_)
        · replace h := h.1 c56
          refine jx_iconst (v := 0) kd908.2.2.2.2.2.2.2.1 (by decide) ?_
          exact jx_iret kd908.2.2.2.2.2.2.2.2.1 rfl (by decide) (jle rfl) (jle rfl) ⟨_, rfl, h⟩
        replace h := h.2 c56
        refine jx_aload_n 0 kd908.2.2.2.1 rfl rfl ?_
        obtain ⟨hk57, h⟩ := h
        refine jx_geti jc_11 (j := 25) (by decide) rfl jwF_X11_290 kd908.2.2.2.2.1 hk57 ?_
        refine jx_bipush (v := 8) kd908.2.2.2.2.2.1 (by decide) ?_
        refine jx_icmp_ne (tgt := 165) kd908.2.2.2.2.2.2.1 (by decide) (fun c58 => ?_) (fun c58 => ?_)
        · replace h := h.2 c58
          refine jx_aload_n 0 kd909.1 rfl rfl ?_
          refine jx_dup kd909.2.1 rfl ?_
          refine jx_geti jc_11 (j := 25) (by decide) rfl jwF_X11_290 kd909.2.2.1 hk57 ?_
          refine jx_iconst (v := 1) kd909.2.2.2.1 (by decide) ?_
          refine jx_iadd kd909.2.2.2.2.1 ?_
          refine jx_puti jc_11 (j := 25) (by decide) rfl jwF_X11_290 rfl rfl rfl kd909.2.2.2.2.2.1 hk57 ?_
          refine jx_aload_n 0 kd909.2.2.2.2.2.2.1 rfl rfl ?_
          refine jx_callVv (M' := mX11_nextToken) (As := []) jo_X11_nextToken jc_11 rfl jwM_X11_262 jwN_X11_nextToken jwX_X11_nextToken kd909.2.2.2.2.2.2.2.1 (jRok_m _ _ _) rfl (jle rfl) ⟨jle rfl, jle rfl⟩ hk57 h (fun S59 h => ?_)
          refine jx_aload_n 0 kd909.2.2.2.2.2.2.2.2.1 rfl rfl ?_
          refine jx_iload_n 1 kd910.1 rfl rfl ?_
          obtain ⟨hk60, h⟩ := h
          refine jx_callVi (M' := mX11_either) (As := [.int x1]) jo_X11_either jc_11 rfl jwM_X11_293 jwN_X11_either jwX_X11_either kd910.2.1 (jRok_m _ _ _) rfl (jle rfl) ⟨jle rfl, jle rfl⟩ hk60 h (fun r62 S61 h => ?_)
          refine jx_if_eq (tgt := 196) kd910.2.2.1 (by decide) (fun c63 => ?_) (fun c63 => ?_)
          · replace h := h.1 c63
            refine jx_iconst (v := 0) kd910.2.2.2.2.2.2.2.1 (by decide) ?_
            exact jx_iret kd910.2.2.2.2.2.2.2.2.1 rfl (by decide) (jle rfl) (jle rfl) ⟨_, rfl, h⟩
          replace h := h.2 c63
          refine jx_aload_n 0 kd910.2.2.2.1 rfl rfl ?_
          refine jx_bipush (v := 41) kd910.2.2.2.2.1 (by decide) ?_
          obtain ⟨hk64, h⟩ := h
          refine jx_callVi (M' := mX11_isSign) (As := [.int 41]) jo_X11_isSign jc_11 rfl jwM_X11_259 jwN_X11_isSign jwX_X11_isSign kd910.2.2.2.2.2.1 (jRok_m _ _ _) rfl (jle rfl) ⟨jle rfl, jle rfl⟩ hk64 h (fun r66 S65 h => ?_)
          refine jx_if_ne (tgt := 198) kd910.2.2.2.2.2.2.1 (by decide) (fun c67 => ?_) (fun c67 => ?_)
          · replace h := h.2 c67
            refine jx_aload_n 0 kd911.1 rfl rfl ?_
            refine jx_dup kd911.2.1 rfl ?_
            obtain ⟨hk68, h⟩ := h
            refine jx_geti jc_11 (j := 25) (by decide) rfl jwF_X11_290 kd911.2.2.1 hk68 ?_
            refine jx_iconst (v := 1) kd911.2.2.2.1 (by decide) ?_
            refine jx_isub kd911.2.2.2.2.1 ?_
            refine jx_puti jc_11 (j := 25) (by decide) rfl jwF_X11_290 rfl rfl rfl kd911.2.2.2.2.2.1 hk68 ?_
            refine jx_aload_n 0 kd911.2.2.2.2.2.2.1 rfl rfl ?_
            refine jx_callVv (M' := mX11_nextToken) (As := []) jo_X11_nextToken jc_11 rfl jwM_X11_262 jwN_X11_nextToken jwX_X11_nextToken kd911.2.2.2.2.2.2.2.1 (jRok_m _ _ _) rfl (jle rfl) ⟨jle rfl, jle rfl⟩ hk68 h (fun S69 h => ?_)
            refine jx_iconst (v := 1) kd911.2.2.2.2.2.2.2.2.1 (by decide) ?_
            exact jx_iret kd912.1 rfl (by decide) (jle rfl) (jle rfl) ⟨_, rfl, h⟩
          replace h := h.1 c67
          refine jx_iconst (v := 0) kd910.2.2.2.2.2.2.2.1 (by decide) ?_
          exact jx_iret kd910.2.2.2.2.2.2.2.2.1 rfl (by decide) (jle rfl) (jle rfl) ⟨_, rfl, h⟩
        replace h := h.1 c58
        refine jx_iconst (v := 0) kd908.2.2.2.2.2.2.2.1 (by decide) ?_
        exact jx_iret kd908.2.2.2.2.2.2.2.2.1 rfl (by decide) (jle rfl) (jle rfl) ⟨_, rfl, h⟩
      replace h := h.2 c52
      refine jx_aload_n 0 kd904.2.2.2.2.2.1 rfl rfl ?_
      obtain ⟨hk70, h⟩ := h
      refine jx_geti jc_11 (j := 26) (by decide) rfl jwF_X11_287 kd904.2.2.2.2.2.2.1 hk70 ?_
      refine jx_bipush (v := 8) kd904.2.2.2.2.2.2.2.1 (by decide) ?_
      refine jx_icmp_ge (tgt := 145) kd904.2.2.2.2.2.2.2.2.1 (by decide) (fun c71 => ?_) (fun c71 => ?_)
      · replace h := h.1 c71
        refine jx_aload_n 0 kd907.2.2.2.2.2.2.2.2.1 rfl rfl ?_
        refine jx_bipush (v := 40) kd908.1 (by decide) ?_
        refine jx_callVi (M' := mX11_isSign) (As := [.int 40]) jo_X11_isSign jc_11 rfl jwM_X11_259 jwN_X11_isSign jwX_X11_isSign kd908.2.1 (jRok_m _ _ _) rfl (jle rfl) ⟨jle rfl, jle rfl⟩ hk70 h (fun r73 S72 h => ?_)
        refine jx_if_eq (tgt := 163) kd908.2.2.1 (by decide) (fun c74 => ?_) (fun c74 => ?_)
        · replace h := h.1 c74
          refine jx_iconst (v := 0) kd908.2.2.2.2.2.2.2.1 (by decide) ?_
          exact jx_iret kd908.2.2.2.2.2.2.2.2.1 rfl (by decide) (jle rfl) (jle rfl) ⟨_, rfl, h⟩
        replace h := h.2 c74
        refine jx_aload_n 0 kd908.2.2.2.1 rfl rfl ?_
        obtain ⟨hk75, h⟩ := h
        refine jx_geti jc_11 (j := 25) (by decide) rfl jwF_X11_290 kd908.2.2.2.2.1 hk75 ?_
        refine jx_bipush (v := 8) kd908.2.2.2.2.2.1 (by decide) ?_
        refine jx_icmp_ne (tgt := 165) kd908.2.2.2.2.2.2.1 (by decide) (fun c76 => ?_) (fun c76 => ?_)
        · replace h := h.2 c76
          refine jx_aload_n 0 kd909.1 rfl rfl ?_
          refine jx_dup kd909.2.1 rfl ?_
          refine jx_geti jc_11 (j := 25) (by decide) rfl jwF_X11_290 kd909.2.2.1 hk75 ?_
          refine jx_iconst (v := 1) kd909.2.2.2.1 (by decide) ?_
          refine jx_iadd kd909.2.2.2.2.1 ?_
          refine jx_puti jc_11 (j := 25) (by decide) rfl jwF_X11_290 rfl rfl rfl kd909.2.2.2.2.2.1 hk75 ?_
          refine jx_aload_n 0 kd909.2.2.2.2.2.2.1 rfl rfl ?_
          refine jx_callVv (M' := mX11_nextToken) (As := []) jo_X11_nextToken jc_11 rfl jwM_X11_262 jwN_X11_nextToken jwX_X11_nextToken kd909.2.2.2.2.2.2.2.1 (jRok_m _ _ _) rfl (jle rfl) ⟨jle rfl, jle rfl⟩ hk75 h (fun S77 h => ?_)
          refine jx_aload_n 0 kd909.2.2.2.2.2.2.2.2.1 rfl rfl ?_
          refine jx_iload_n 1 kd910.1 rfl rfl ?_
          obtain ⟨hk78, h⟩ := h
          refine jx_callVi (M' := mX11_either) (As := [.int x1]) jo_X11_either jc_11 rfl jwM_X11_293 jwN_X11_either jwX_X11_either kd910.2.1 (jRok_m _ _ _) rfl (jle rfl) ⟨jle rfl, jle rfl⟩ hk78 h (fun r80 S79 h => ?_)
          refine jx_if_eq (tgt := 196) kd910.2.2.1 (by decide) (fun c81 => ?_) (fun c81 => ?_)
          · replace h := h.1 c81
            refine jx_iconst (v := 0) kd910.2.2.2.2.2.2.2.1 (by decide) ?_
            exact jx_iret kd910.2.2.2.2.2.2.2.2.1 rfl (by decide) (jle rfl) (jle rfl) ⟨_, rfl, h⟩
          replace h := h.2 c81
          refine jx_aload_n 0 kd910.2.2.2.1 rfl rfl ?_
          refine jx_bipush (v := 41) kd910.2.2.2.2.1 (by decide) ?_
          obtain ⟨hk82, h⟩ := h
          refine jx_callVi (M' := mX11_isSign) (As := [.int 41]) jo_X11_isSign jc_11 rfl jwM_X11_259 jwN_X11_isSign jwX_X11_isSign kd910.2.2.2.2.2.1 (jRok_m _ _ _) rfl (jle rfl) ⟨jle rfl, jle rfl⟩ hk82 h (fun r84 S83 h => ?_)
          refine jx_if_ne (tgt := 198) kd910.2.2.2.2.2.2.1 (by decide) (fun c85 => ?_) (fun c85 => ?_)
          · replace h := h.2 c85
            refine jx_aload_n 0 kd911.1 rfl rfl ?_
            refine jx_dup kd911.2.1 rfl ?_
            obtain ⟨hk86, h⟩ := h
            refine jx_geti jc_11 (j := 25) (by decide) rfl jwF_X11_290 kd911.2.2.1 hk86 ?_
            refine jx_iconst (v := 1) kd911.2.2.2.1 (by decide) ?_
            refine jx_isub kd911.2.2.2.2.1 ?_
            refine jx_puti jc_11 (j := 25) (by decide) rfl jwF_X11_290 rfl rfl rfl kd911.2.2.2.2.2.1 hk86 ?_
            refine jx_aload_n 0 kd911.2.2.2.2.2.2.1 rfl rfl ?_
            refine jx_callVv (M' := mX11_nextToken) (As := []) jo_X11_nextToken jc_11 rfl jwM_X11_262 jwN_X11_nextToken jwX_X11_nextToken kd911.2.2.2.2.2.2.2.1 (jRok_m _ _ _) rfl (jle rfl) ⟨jle rfl, jle rfl⟩ hk86 h (fun S87 h => ?_)
            refine jx_iconst (v := 1) kd911.2.2.2.2.2.2.2.2.1 (by decide) ?_
            exact jx_iret kd912.1 rfl (by decide) (jle rfl) (jle rfl) ⟨_, rfl, h⟩
          replace h := h.1 c85
          refine jx_iconst (v := 0) kd910.2.2.2.2.2.2.2.1 (by decide) ?_
          exact jx_iret kd910.2.2.2.2.2.2.2.2.1 rfl (by decide) (jle rfl) (jle rfl) ⟨_, rfl, h⟩
        replace h := h.1 c76
        refine jx_iconst (v := 0) kd908.2.2.2.2.2.2.2.1 (by decide) ?_
        exact jx_iret kd908.2.2.2.2.2.2.2.2.1 rfl (by decide) (jle rfl) (jle rfl) ⟨_, rfl, h⟩
      replace h := h.2 c71
      refine jx_aload_n 0 kd905.1 rfl rfl ?_
      refine jx_dup kd905.2.1 rfl ?_
      refine jx_geti jc_11 (j := 26) (by decide) rfl jwF_X11_287 kd905.2.2.1 hk70 ?_
      refine jx_iconst (v := 1) kd905.2.2.2.1 (by decide) ?_
      refine jx_iadd kd905.2.2.2.2.1 ?_
      refine jx_puti jc_11 (j := 26) (by decide) rfl jwF_X11_287 rfl rfl rfl kd905.2.2.2.2.2.1 hk70 ?_
      refine jx_aload_n 0 kd905.2.2.2.2.2.2.1 rfl rfl ?_
      refine jx_callVv (M' := mX11_nextToken) (As := []) jo_X11_nextToken jc_11 rfl jwM_X11_262 jwN_X11_nextToken jwX_X11_nextToken kd905.2.2.2.2.2.2.2.1 (jRok_m _ _ _) rfl (jle rfl) ⟨jle rfl, jle rfl⟩ hk70 h (fun S88 h => ?_)
      refine jx_aload_n 0 kd905.2.2.2.2.2.2.2.2.1 rfl rfl ?_
      refine jx_iload_n 1 kd906.1 rfl rfl ?_
      obtain ⟨hk89, h⟩ := h
      refine jx_callVi (M' := mX11_part0) (As := [.int x1]) jo_X11_part0 jc_11 rfl jwM_X11_278 jwN_X11_part0 jwX_X11_part0 kd906.2.1 (jRok_m _ _ _) rfl (jle rfl) ⟨jle rfl, jle rfl⟩ hk89 h (fun r91 S90 h => ?_)
      refine jx_if_ne (tgt := 126) kd906.2.2.1 (by decide) (fun c92 => ?_) (fun c92 => ?_)
      · replace h := h.2 c92
        refine jx_aload_n 0 kd906.2.2.2.2.2.1 rfl rfl ?_
        refine jx_dup kd906.2.2.2.2.2.2.1 rfl ?_
        obtain ⟨hk93, h⟩ := h
        refine jx_geti jc_11 (j := 26) (by decide) rfl jwF_X11_287 kd906.2.2.2.2.2.2.2.1 hk93 ?_
        refine jx_iconst (v := 1) kd906.2.2.2.2.2.2.2.2.1 (by decide) ?_
        refine jx_isub kd907.1 ?_
        refine jx_puti jc_11 (j := 26) (by decide) rfl jwF_X11_287 rfl rfl rfl kd907.2.1 hk93 ?_
        refine jx_aload_n 0 kd907.2.2.1 rfl rfl ?_
        refine jx_iconst (v := 2) kd907.2.2.2.1 (by decide) ?_
        refine jx_bipush (v := 33) kd907.2.2.2.2.1 (by decide) ?_
        refine jx_callVv (M' := mX11_step) (As := [.int 2, .int 33]) jo_X11_step jc_11 rfl jwM_X11_265 jwN_X11_step jwX_X11_step kd907.2.2.2.2.2.1 (jRok_m _ _ _) rfl (jle rfl) ⟨jle rfl, jle rfl⟩ hk93 h (fun S94 h => ?_)
        refine jx_iconst (v := 1) kd907.2.2.2.2.2.2.1 (by decide) ?_
        exact jx_iret kd907.2.2.2.2.2.2.2.1 rfl (by decide) (jle rfl) (jle rfl) ⟨_, rfl, h⟩
      replace h := h.1 c92
      refine jx_iconst (v := 0) kd906.2.2.2.1 (by decide) ?_
      exact jx_iret kd906.2.2.2.2.1 rfl (by decide) (jle rfl) (jle rfl) ⟨_, rfl, h⟩
    replace h := h.2 c49
    refine jx_iload_n 1 kd901.2.2.2.2.2.2.2.2.1 rfl rfl ?_
    refine jx_aload_n 0 kd902.1 rfl rfl ?_
    refine jx_geti jc_11 (j := 24) (by decide) rfl jwF_X11_237 kd902.2.1 hk1 ?_
    refine jx_callSi (M' := mX11_isName) (As := [.int x1, .int (ji S a0 24)]) jo_X11_isName jwM_X11_284 jwS_X11_isName kd902.2.2.1 (jRok_m _ _ _) rfl (jle rfl) ⟨jle rfl, jle rfl⟩ (c_X11_isName (Q := fun v S' => v = (jisname x1 (ji S a0 24)) ∧ S = S') ⟨rfl, rfl⟩) (fun r95 S96 hq97 => ?_)
    obtain ⟨rfl, rfl⟩ := hq97
    refine jx_if_eq (tgt := 84) kd902.2.2.2.1 (by decide) (fun c98 => ?_) (fun c98 => ?_)
    · replace h := h.1 c98
      refine jx_aload_n 0 kd904.2.1 rfl rfl ?_
      refine jx_bipush (v := 33) kd904.2.2.1 (by decide) ?_
      refine jx_callVi (M' := mX11_isSign) (As := [.int 33]) jo_X11_isSign jc_11 rfl jwM_X11_259 jwN_X11_isSign jwX_X11_isSign kd904.2.2.2.1 (jRok_m _ _ _) rfl (jle rfl) ⟨jle rfl, jle rfl⟩ hk1 h (fun r100 S99 h => ?_)
      refine jx_if_eq (tgt := 145) kd904.2.2.2.2.1 (by decide) (fun c101 => ?_) (fun c101 => ?_)
      · replace h := h.1 c101
        refine jx_aload_n 0 kd907.2.2.2.2.2.2.2.2.1 rfl rfl ?_
        refine jx_bipush (v := 40) kd908.1 (by decide) ?_
        obtain ⟨hk102, h⟩ := h
        refine jx_callVi (M' := mX11_isSign) (As := [.int 40]) jo_X11_isSign jc_11 rfl jwM_X11_259 jwN_X11_isSign jwX_X11_isSign kd908.2.1 (jRok_m _ _ _) rfl (jle rfl) ⟨jle rfl, jle rfl⟩ hk102 h (fun r104 S103 h => ?_)
        refine jx_if_eq (tgt := 163) kd908.2.2.1 (by decide) (fun c105 => ?_) (fun c105 => ?_)
        · replace h := h.1 c105
          refine jx_iconst (v := 0) kd908.2.2.2.2.2.2.2.1 (by decide) ?_
          exact jx_iret kd908.2.2.2.2.2.2.2.2.1 rfl (by decide) (jle rfl) (jle rfl) ⟨_, rfl, h⟩
        replace h := h.2 c105
        refine jx_aload_n 0 kd908.2.2.2.1 rfl rfl ?_
        obtain ⟨hk106, h⟩ := h
        refine jx_geti jc_11 (j := 25) (by decide) rfl jwF_X11_290 kd908.2.2.2.2.1 hk106 ?_
        refine jx_bipush (v := 8) kd908.2.2.2.2.2.1 (by decide) ?_
        refine jx_icmp_ne (tgt := 165) kd908.2.2.2.2.2.2.1 (by decide) (fun c107 => ?_) (fun c107 => ?_)
        · replace h := h.2 c107
          refine jx_aload_n 0 kd909.1 rfl rfl ?_
          refine jx_dup kd909.2.1 rfl ?_
          refine jx_geti jc_11 (j := 25) (by decide) rfl jwF_X11_290 kd909.2.2.1 hk106 ?_
          refine jx_iconst (v := 1) kd909.2.2.2.1 (by decide) ?_
          refine jx_iadd kd909.2.2.2.2.1 ?_
          refine jx_puti jc_11 (j := 25) (by decide) rfl jwF_X11_290 rfl rfl rfl kd909.2.2.2.2.2.1 hk106 ?_
          refine jx_aload_n 0 kd909.2.2.2.2.2.2.1 rfl rfl ?_
          refine jx_callVv (M' := mX11_nextToken) (As := []) jo_X11_nextToken jc_11 rfl jwM_X11_262 jwN_X11_nextToken jwX_X11_nextToken kd909.2.2.2.2.2.2.2.1 (jRok_m _ _ _) rfl (jle rfl) ⟨jle rfl, jle rfl⟩ hk106 h (fun S108 h => ?_)
          refine jx_aload_n 0 kd909.2.2.2.2.2.2.2.2.1 rfl rfl ?_
          refine jx_iload_n 1 kd910.1 rfl rfl ?_
          obtain ⟨hk109, h⟩ := h
          refine jx_callVi (M' := mX11_either) (As := [.int x1]) jo_X11_either jc_11 rfl jwM_X11_293 jwN_X11_either jwX_X11_either kd910.2.1 (jRok_m _ _ _) rfl (jle rfl) ⟨jle rfl, jle rfl⟩ hk109 h (fun r111 S110 h => ?_)
          refine jx_if_eq (tgt := 196) kd910.2.2.1 (by decide) (fun c112 => ?_) (fun c112 => ?_)
          · replace h := h.1 c112
            refine jx_iconst (v := 0) kd910.2.2.2.2.2.2.2.1 (by decide) ?_
            exact jx_iret kd910.2.2.2.2.2.2.2.2.1 rfl (by decide) (jle rfl) (jle rfl) ⟨_, rfl, h⟩
          replace h := h.2 c112
          refine jx_aload_n 0 kd910.2.2.2.1 rfl rfl ?_
          refine jx_bipush (v := 41) kd910.2.2.2.2.1 (by decide) ?_
          obtain ⟨hk113, h⟩ := h
          refine jx_callVi (M' := mX11_isSign) (As := [.int 41]) jo_X11_isSign jc_11 rfl jwM_X11_259 jwN_X11_isSign jwX_X11_isSign kd910.2.2.2.2.2.1 (jRok_m _ _ _) rfl (jle rfl) ⟨jle rfl, jle rfl⟩ hk113 h (fun r115 S114 h => ?_)
          refine jx_if_ne (tgt := 198) kd910.2.2.2.2.2.2.1 (by decide) (fun c116 => ?_) (fun c116 => ?_)
          · replace h := h.2 c116
            refine jx_aload_n 0 kd911.1 rfl rfl ?_
            refine jx_dup kd911.2.1 rfl ?_
            obtain ⟨hk117, h⟩ := h
            refine jx_geti jc_11 (j := 25) (by decide) rfl jwF_X11_290 kd911.2.2.1 hk117 ?_
            refine jx_iconst (v := 1) kd911.2.2.2.1 (by decide) ?_
            refine jx_isub kd911.2.2.2.2.1 ?_
            refine jx_puti jc_11 (j := 25) (by decide) rfl jwF_X11_290 rfl rfl rfl kd911.2.2.2.2.2.1 hk117 ?_
            refine jx_aload_n 0 kd911.2.2.2.2.2.2.1 rfl rfl ?_
            refine jx_callVv (M' := mX11_nextToken) (As := []) jo_X11_nextToken jc_11 rfl jwM_X11_262 jwN_X11_nextToken jwX_X11_nextToken kd911.2.2.2.2.2.2.2.1 (jRok_m _ _ _) rfl (jle rfl) ⟨jle rfl, jle rfl⟩ hk117 h (fun S118 h => ?_)
            refine jx_iconst (v := 1) kd911.2.2.2.2.2.2.2.2.1 (by decide) ?_
            exact jx_iret kd912.1 rfl (by decide) (jle rfl) (jle rfl) ⟨_, rfl, h⟩
          replace h := h.1 c116
          refine jx_iconst (v := 0) kd910.2.2.2.2.2.2.2.1 (by decide) ?_
          exact jx_iret kd910.2.2.2.2.2.2.2.2.1 rfl (by decide) (jle rfl) (jle rfl) ⟨_, rfl, h⟩
        replace h := h.1 c107
        refine jx_iconst (v := 0) kd908.2.2.2.2.2.2.2.1 (by decide) ?_
        exact jx_iret kd908.2.2.2.2.2.2.2.2.1 rfl (by decide) (jle rfl) (jle rfl) ⟨_, rfl, h⟩
      replace h := h.2 c101
      refine jx_aload_n 0 kd904.2.2.2.2.2.1 rfl rfl ?_
      obtain ⟨hk119, h⟩ := h
      refine jx_geti jc_11 (j := 26) (by decide) rfl jwF_X11_287 kd904.2.2.2.2.2.2.1 hk119 ?_
      refine jx_bipush (v := 8) kd904.2.2.2.2.2.2.2.1 (by decide) ?_
      refine jx_icmp_ge (tgt := 145) kd904.2.2.2.2.2.2.2.2.1 (by decide) (fun c120 => ?_) (fun c120 => ?_)
      · replace h := h.1 c120
        refine jx_aload_n 0 kd907.2.2.2.2.2.2.2.2.1 rfl rfl ?_
        refine jx_bipush (v := 40) kd908.1 (by decide) ?_
        refine jx_callVi (M' := mX11_isSign) (As := [.int 40]) jo_X11_isSign jc_11 rfl jwM_X11_259 jwN_X11_isSign jwX_X11_isSign kd908.2.1 (jRok_m _ _ _) rfl (jle rfl) ⟨jle rfl, jle rfl⟩ hk119 h (fun r122 S121 h => ?_)
        refine jx_if_eq (tgt := 163) kd908.2.2.1 (by decide) (fun c123 => ?_) (fun c123 => ?_)
        · replace h := h.1 c123
          refine jx_iconst (v := 0) kd908.2.2.2.2.2.2.2.1 (by decide) ?_
          exact jx_iret kd908.2.2.2.2.2.2.2.2.1 rfl (by decide) (jle rfl) (jle rfl) ⟨_, rfl, h⟩
        replace h := h.2 c123
        refine jx_aload_n 0 kd908.2.2.2.1 rfl rfl ?_
        obtain ⟨hk124, h⟩ := h
        refine jx_geti jc_11 (j := 25) (by decide) rfl jwF_X11_290 kd908.2.2.2.2.1 hk124 ?_
        refine jx_bipush (v := 8) kd908.2.2.2.2.2.1 (by decide) ?_
        refine jx_icmp_ne (tgt := 165) kd908.2.2.2.2.2.2.1 (by decide) (fun c125 => ?_) (fun c125 => ?_)
        · replace h := h.2 c125
          refine jx_aload_n 0 kd909.1 rfl rfl ?_
          refine jx_dup kd909.2.1 rfl ?_
          refine jx_geti jc_11 (j := 25) (by decide) rfl jwF_X11_290 kd909.2.2.1 hk124 ?_
          refine jx_iconst (v := 1) kd909.2.2.2.1 (by decide) ?_
          refine jx_iadd kd909.2.2.2.2.1 ?_
          refine jx_puti jc_11 (j := 25) (by decide) rfl jwF_X11_290 rfl rfl rfl kd909.2.2.2.2.2.1 hk124 ?_
          refine jx_aload_n 0 kd909.2.2.2.2.2.2.1 rfl rfl ?_
          refine jx_callVv (M' := mX11_nextToken) (As := []) jo_X11_nextToken jc_11 rfl jwM_X11_262 jwN_X11_nextToken jwX_X11_nextToken kd909.2.2.2.2.2.2.2.1 (jRok_m _ _ _) rfl (jle rfl) ⟨jle rfl, jle rfl⟩ hk124 h (fun S126 h => ?_)
          refine jx_aload_n 0 kd909.2.2.2.2.2.2.2.2.1 rfl rfl ?_
          refine jx_iload_n 1 kd910.1 rfl rfl ?_
          obtain ⟨hk127, h⟩ := h
          refine jx_callVi (M' := mX11_either) (As := [.int x1]) jo_X11_either jc_11 rfl jwM_X11_293 jwN_X11_either jwX_X11_either kd910.2.1 (jRok_m _ _ _) rfl (jle rfl) ⟨jle rfl, jle rfl⟩ hk127 h (fun r129 S128 h => ?_)
          refine jx_if_eq (tgt := 196) kd910.2.2.1 (by decide) (fun c130 => ?_) (fun c130 => ?_)
          · replace h := h.1 c130
            refine jx_iconst (v := 0) kd910.2.2.2.2.2.2.2.1 (by decide) ?_
            exact jx_iret kd910.2.2.2.2.2.2.2.2.1 rfl (by decide) (jle rfl) (jle rfl) ⟨_, rfl, h⟩
          replace h := h.2 c130
          refine jx_aload_n 0 kd910.2.2.2.1 rfl rfl ?_
          refine jx_bipush (v := 41) kd910.2.2.2.2.1 (by decide) ?_
          obtain ⟨hk131, h⟩ := h
          refine jx_callVi (M' := mX11_isSign) (As := [.int 41]) jo_X11_isSign jc_11 rfl jwM_X11_259 jwN_X11_isSign jwX_X11_isSign kd910.2.2.2.2.2.1 (jRok_m _ _ _) rfl (jle rfl) ⟨jle rfl, jle rfl⟩ hk131 h (fun r133 S132 h => ?_)
          refine jx_if_ne (tgt := 198) kd910.2.2.2.2.2.2.1 (by decide) (fun c134 => ?_) (fun c134 => ?_)
          · replace h := h.2 c134
            refine jx_aload_n 0 kd911.1 rfl rfl ?_
            refine jx_dup kd911.2.1 rfl ?_
            obtain ⟨hk135, h⟩ := h
            refine jx_geti jc_11 (j := 25) (by decide) rfl jwF_X11_290 kd911.2.2.1 hk135 ?_
            refine jx_iconst (v := 1) kd911.2.2.2.1 (by decide) ?_
            refine jx_isub kd911.2.2.2.2.1 ?_
            refine jx_puti jc_11 (j := 25) (by decide) rfl jwF_X11_290 rfl rfl rfl kd911.2.2.2.2.2.1 hk135 ?_
            refine jx_aload_n 0 kd911.2.2.2.2.2.2.1 rfl rfl ?_
            refine jx_callVv (M' := mX11_nextToken) (As := []) jo_X11_nextToken jc_11 rfl jwM_X11_262 jwN_X11_nextToken jwX_X11_nextToken kd911.2.2.2.2.2.2.2.1 (jRok_m _ _ _) rfl (jle rfl) ⟨jle rfl, jle rfl⟩ hk135 h (fun S136 h => ?_)
            refine jx_iconst (v := 1) kd911.2.2.2.2.2.2.2.2.1 (by decide) ?_
            exact jx_iret kd912.1 rfl (by decide) (jle rfl) (jle rfl) ⟨_, rfl, h⟩
          replace h := h.1 c134
          refine jx_iconst (v := 0) kd910.2.2.2.2.2.2.2.1 (by decide) ?_
          exact jx_iret kd910.2.2.2.2.2.2.2.2.1 rfl (by decide) (jle rfl) (jle rfl) ⟨_, rfl, h⟩
        replace h := h.1 c125
        refine jx_iconst (v := 0) kd908.2.2.2.2.2.2.2.1 (by decide) ?_
        exact jx_iret kd908.2.2.2.2.2.2.2.2.1 rfl (by decide) (jle rfl) (jle rfl) ⟨_, rfl, h⟩
      replace h := h.2 c120
      refine jx_aload_n 0 kd905.1 rfl rfl ?_
      refine jx_dup kd905.2.1 rfl ?_
      refine jx_geti jc_11 (j := 26) (by decide) rfl jwF_X11_287 kd905.2.2.1 hk119 ?_
      refine jx_iconst (v := 1) kd905.2.2.2.1 (by decide) ?_
      refine jx_iadd kd905.2.2.2.2.1 ?_
      refine jx_puti jc_11 (j := 26) (by decide) rfl jwF_X11_287 rfl rfl rfl kd905.2.2.2.2.2.1 hk119 ?_
      refine jx_aload_n 0 kd905.2.2.2.2.2.2.1 rfl rfl ?_
      refine jx_callVv (M' := mX11_nextToken) (As := []) jo_X11_nextToken jc_11 rfl jwM_X11_262 jwN_X11_nextToken jwX_X11_nextToken kd905.2.2.2.2.2.2.2.1 (jRok_m _ _ _) rfl (jle rfl) ⟨jle rfl, jle rfl⟩ hk119 h (fun S137 h => ?_)
      refine jx_aload_n 0 kd905.2.2.2.2.2.2.2.2.1 rfl rfl ?_
      refine jx_iload_n 1 kd906.1 rfl rfl ?_
      obtain ⟨hk138, h⟩ := h
      refine jx_callVi (M' := mX11_part0) (As := [.int x1]) jo_X11_part0 jc_11 rfl jwM_X11_278 jwN_X11_part0 jwX_X11_part0 kd906.2.1 (jRok_m _ _ _) rfl (jle rfl) ⟨jle rfl, jle rfl⟩ hk138 h (fun r140 S139 h => ?_)
      refine jx_if_ne (tgt := 126) kd906.2.2.1 (by decide) (fun c141 => ?_) (fun c141 => ?_)
      · replace h := h.2 c141
        refine jx_aload_n 0 kd906.2.2.2.2.2.1 rfl rfl ?_
        refine jx_dup kd906.2.2.2.2.2.2.1 rfl ?_
        obtain ⟨hk142, h⟩ := h
        refine jx_geti jc_11 (j := 26) (by decide) rfl jwF_X11_287 kd906.2.2.2.2.2.2.2.1 hk142 ?_
        refine jx_iconst (v := 1) kd906.2.2.2.2.2.2.2.2.1 (by decide) ?_
        refine jx_isub kd907.1 ?_
        refine jx_puti jc_11 (j := 26) (by decide) rfl jwF_X11_287 rfl rfl rfl kd907.2.1 hk142 ?_
        refine jx_aload_n 0 kd907.2.2.1 rfl rfl ?_
        refine jx_iconst (v := 2) kd907.2.2.2.1 (by decide) ?_
        refine jx_bipush (v := 33) kd907.2.2.2.2.1 (by decide) ?_
        refine jx_callVv (M' := mX11_step) (As := [.int 2, .int 33]) jo_X11_step jc_11 rfl jwM_X11_265 jwN_X11_step jwX_X11_step kd907.2.2.2.2.2.1 (jRok_m _ _ _) rfl (jle rfl) ⟨jle rfl, jle rfl⟩ hk142 h (fun S143 h => ?_)
        refine jx_iconst (v := 1) kd907.2.2.2.2.2.2.1 (by decide) ?_
        exact jx_iret kd907.2.2.2.2.2.2.2.1 rfl (by decide) (jle rfl) (jle rfl) ⟨_, rfl, h⟩
      replace h := h.1 c141
      refine jx_iconst (v := 0) kd906.2.2.2.1 (by decide) ?_
      exact jx_iret kd906.2.2.2.2.1 rfl (by decide) (jle rfl) (jle rfl) ⟨_, rfl, h⟩
    replace h := h.2 c98
    refine jx_aload_n 0 kd902.2.2.2.2.1 rfl rfl ?_
    refine jx_iconst (v := 1) kd902.2.2.2.2.2.1 (by decide) ?_
    refine jx_aload_n 0 kd902.2.2.2.2.2.2.1 rfl rfl ?_
    refine jx_geti jc_11 (j := 24) (by decide) rfl jwF_X11_237 kd902.2.2.2.2.2.2.2.1 hk1 ?_
    refine jx_callVv (M' := mX11_step) (As := [.int 1, .int (ji S a0 24)]) jo_X11_step jc_11 rfl jwM_X11_265 jwN_X11_step jwX_X11_step kd902.2.2.2.2.2.2.2.2.1 (jRok_m _ _ _) rfl (jle rfl) ⟨jle rfl, jle rfl⟩ hk1 h (fun S144 h => ?_)
    refine jx_aload_n 0 kd903.1 rfl rfl ?_
    refine jx_dup kd903.2.1 rfl ?_
    obtain ⟨hk145, h⟩ := h
    refine jx_geti jc_11 (j := 29) (by decide) rfl jwF_X11_281 kd903.2.2.1 hk145 ?_
    refine jx_iconst (v := 1) kd903.2.2.2.1 (by decide) ?_
    refine jx_iadd kd903.2.2.2.2.1 ?_
    refine jx_puti jc_11 (j := 29) (by decide) rfl jwF_X11_281 rfl rfl rfl kd903.2.2.2.2.2.1 hk145 ?_
    refine jx_aload_n 0 kd903.2.2.2.2.2.2.1 rfl rfl ?_
    refine jx_callVv (M' := mX11_nextToken) (As := []) jo_X11_nextToken jc_11 rfl jwM_X11_262 jwN_X11_nextToken jwX_X11_nextToken kd903.2.2.2.2.2.2.2.1 (jRok_m _ _ _) rfl (jle rfl) ⟨jle rfl, jle rfl⟩ hk145 h (fun S146 h => ?_)
    refine jx_iconst (v := 1) kd903.2.2.2.2.2.2.2.2.1 (by decide) ?_
    exact jx_iret kd904.1 rfl (by decide) (jle rfl) (jle rfl) ⟨_, rfl, h⟩
  replace h := h.1 c2
  refine jx_aload_n 0 kd899.2.2.2.2.1 rfl rfl ?_
  refine jx_iconst (v := 0) kd899.2.2.2.2.2.1 (by decide) ?_
  refine jx_aload_n 0 kd899.2.2.2.2.2.2.1 rfl rfl ?_
  refine jx_geti jc_11 (j := 23) (by decide) rfl jwF_X11_243 kd899.2.2.2.2.2.2.2.1 hk1 ?_
  refine jx_callVv (M' := mX11_step) (As := [.int 0, .int (ji S a0 23)]) jo_X11_step jc_11 rfl jwM_X11_265 jwN_X11_step jwX_X11_step kd899.2.2.2.2.2.2.2.2.1 (jRok_m _ _ _) rfl (jle rfl) ⟨jle rfl, jle rfl⟩ hk1 h (fun S147 h => ?_)
  refine jx_aload_n 0 kd900.1 rfl rfl ?_
  refine jx_dup kd900.2.1 rfl ?_
  obtain ⟨hk148, h⟩ := h
  refine jx_geti jc_11 (j := 29) (by decide) rfl jwF_X11_281 kd900.2.2.1 hk148 ?_
  refine jx_iconst (v := 1) kd900.2.2.2.1 (by decide) ?_
  refine jx_iadd kd900.2.2.2.2.1 ?_
  refine jx_puti jc_11 (j := 29) (by decide) rfl jwF_X11_281 rfl rfl rfl kd900.2.2.2.2.2.1 hk148 ?_
  refine jx_aload_n 0 kd900.2.2.2.2.2.2.1 rfl rfl ?_
  refine jx_callVv (M' := mX11_nextToken) (As := []) jo_X11_nextToken jc_11 rfl jwM_X11_262 jwN_X11_nextToken jwX_X11_nextToken kd900.2.2.2.2.2.2.2.1 (jRok_m _ _ _) rfl (jle rfl) ⟨jle rfl, jle rfl⟩ hk148 h (fun S149 h => ?_)
  refine jx_iconst (v := 1) kd900.2.2.2.2.2.2.2.2.1 (by decide) ?_
  exact jx_iret kd901.1 rfl (by decide) (jle rfl) (jle rfl) ⟨_, rfl, h⟩
set_option maxRecDepth 100000 in
set_option maxHeartbeats 4000000 in
theorem T_X11_parse {E : jEnv} {d : Nat} {Q : Int32 → jM → Prop} {a0 : Nat} {S : jM} (h : jk S a0 = 11 ∧ ∃ b2, jr S a0 0 = some b2 ∧ (jk S b2 = 12 ∧ vp_in 1 (jl S b2) ∧ ((14 ≤ (ji S b2 (Int32.toNatClampNeg 1)) → jFv E mX11_nextToken d 0 0 [.ref a0] (jput (jput (jput (jput (jput (jput (jput S a0 21 0) a0 22 3) a0 25 0) a0 26 0) a0 27 0) a0 29 0) a0 28 2935) (fun S6 => jk S6 a0 = 11 ∧ jFi E mX11_key d 0 0 [.ref a0] S6 (fun r9 S8 => (r9 < 0 → jk S8 a0 = 11 ∧ Q (-1) (jput S8 a0 19 0)) ∧ (¬ r9 < 0 → jk S8 a0 = 11 ∧ jFv E mX11_nextToken d 0 0 [.ref a0] S8 (fun S13 => jk S13 a0 = 11 ∧ jFi E mX11_either d 0 0 [.ref a0, .int r9] S13 (fun r16 S15 => (r16 = 0 → jk S15 a0 = 11 ∧ Q (-1) (jput S15 a0 19 0)) ∧ (¬ r16 = 0 → jk S15 a0 = 11 ∧ ((ji S15 a0 22) = 0 → Q r9 (jput S15 a0 19 0)) ∧ (¬ (ji S15 a0 22) = 0 → Q (-1) (jput S15 a0 19 0))))))))) ∧ (¬ 14 ≤ (ji S b2 (Int32.toNatClampNeg 1)) → (jFv E mX11_nextToken d 0 0 [.ref a0] (jput (jput (jput (jput (jput (jput (jput S a0 21 0) a0 22 3) a0 25 0) a0 26 0) a0 27 0) a0 29 0) a0 28 ((jtextat (ji S b2 (Int32.toNatClampNeg 1))) + 4)) (fun S24 => jk S24 a0 = 11 ∧ jFi E mX11_key d 0 0 [.ref a0] S24 (fun r27 S26 => (r27 < 0 → jk S26 a0 = 11 ∧ Q (-1) (jput S26 a0 19 0)) ∧ (¬ r27 < 0 → jk S26 a0 = 11 ∧ jFv E mX11_nextToken d 0 0 [.ref a0] S26 (fun S31 => jk S31 a0 = 11 ∧ jFi E mX11_either d 0 0 [.ref a0, .int r27] S31 (fun r34 S33 => (r34 = 0 → jk S33 a0 = 11 ∧ Q (-1) (jput S33 a0 19 0)) ∧ (¬ r34 = 0 → jk S33 a0 = 11 ∧ ((ji S33 a0 22) = 0 → Q r27 (jput S33 a0 19 0)) ∧ (¬ (ji S33 a0 22) = 0 → Q (-1) (jput S33 a0 19 0))))))))))))) : jFi E mX11_parse (d + 1) 0 0 [.ref a0] S Q := by
  refine jF_of (by decide) (jle rfl) ?_
  refine jx_lv (lv1 := [(0, .ref a0)]) [0] rfl ?_
  refine jx_aload_n 0 kd913.1 rfl rfl ?_
  refine jx_iconst (v := 0) kd913.2.1 (by decide) ?_
  obtain ⟨hk1, h⟩ := h
  refine jx_puti jc_11 (j := 21) (by decide) rfl jwF_X11_225 rfl rfl rfl kd913.2.2.1 hk1 ?_
  refine jx_aload_n 0 kd913.2.2.2.1 rfl rfl ?_
  refine jx_iconst (v := 3) kd913.2.2.2.2.1 (by decide) ?_
  refine jx_puti jc_11 (j := 22) (by decide) rfl jwF_X11_228 rfl rfl rfl kd913.2.2.2.2.2.1 hk1 ?_
  refine jx_aload_n 0 kd913.2.2.2.2.2.2.1 rfl rfl ?_
  refine jx_iconst (v := 0) kd913.2.2.2.2.2.2.2.1 (by decide) ?_
  refine jx_puti jc_11 (j := 25) (by decide) rfl jwF_X11_290 rfl rfl rfl kd913.2.2.2.2.2.2.2.2.1 hk1 ?_
  refine jx_aload_n 0 kd914.1 rfl rfl ?_
  refine jx_iconst (v := 0) kd914.2.1 (by decide) ?_
  refine jx_puti jc_11 (j := 26) (by decide) rfl jwF_X11_287 rfl rfl rfl kd914.2.2.1 hk1 ?_
  refine jx_aload_n 0 kd914.2.2.2.1 rfl rfl ?_
  refine jx_iconst (v := 0) kd914.2.2.2.2.1 (by decide) ?_
  refine jx_puti jc_11 (j := 27) (by decide) rfl jwF_X11_253 rfl rfl rfl kd914.2.2.2.2.2.1 hk1 ?_
  refine jx_aload_n 0 kd914.2.2.2.2.2.2.1 rfl rfl ?_
  refine jx_iconst (v := 0) kd914.2.2.2.2.2.2.2.1 (by decide) ?_
  refine jx_puti jc_11 (j := 29) (by decide) rfl jwF_X11_281 rfl rfl rfl kd914.2.2.2.2.2.2.2.2.1 hk1 ?_
  refine jx_aload_n 0 kd915.1 rfl rfl ?_
  refine jx_aload_n 0 kd915.2.1 rfl rfl ?_
  obtain ⟨b2, hb2, h⟩ := h
  refine jx_getr jc_11 (j := 0) (by decide) rfl jwF_X11_7 kd915.2.2.1 hk1 hb2 ?_
  refine jx_iconst (v := 1) kd915.2.2.2.1 (by decide) ?_
  obtain ⟨hk3, h⟩ := h
  obtain ⟨hi4, h⟩ := h
  refine jx_iald kd915.2.2.2.2.1 hk3 hi4 ?_
  refine jx_topi (y := (ji S b2 (Int32.toNatClampNeg 1))) (by simp [ji_put, ji_row, ji_putr, jne hk3 hk1 (by decide), jne hk3 hk1 (by decide), jne hk3 hk1 (by decide), jne hk3 hk1 (by decide), jne hk3 hk1 (by decide), jne hk3 hk1 (by decide)]) ?_
  refine jx_bipush (v := 14) kd915.2.2.2.2.2.1 (by decide) ?_
  refine jx_icmp_ge (tgt := 57) kd915.2.2.2.2.2.2.1 (by decide) (fun c5 => ?_) (fun c5 => ?_)
  · replace h := h.1 c5
    refine jx_sipush (v := 2935) kd916.2.2.2.2.2.2.2.1 (by decide) ?_
    refine jx_puti jc_11 (j := 28) (by decide) rfl jwF_X11_250 rfl rfl rfl kd916.2.2.2.2.2.2.2.2.1 hk1 ?_
    refine jx_aload_n 0 kd917.1 rfl rfl ?_
    refine jx_callVv (M' := mX11_nextToken) (As := []) jo_X11_nextToken jc_11 rfl jwM_X11_262 jwN_X11_nextToken jwX_X11_nextToken kd917.2.1 (jRok_m _ _ _) rfl (jle rfl) ⟨jle rfl, jle rfl⟩ hk1 h (fun S6 h => ?_)
    refine jx_aload_n 0 kd917.2.2.1 rfl rfl ?_
    obtain ⟨hk7, h⟩ := h
    refine jx_callVi (M' := mX11_key) (As := []) jo_X11_key jc_11 rfl jwM_X11_299 jwN_X11_key jwX_X11_key kd917.2.2.2.1 (jRok_m _ _ _) rfl (jle rfl) ⟨jle rfl, jle rfl⟩ hk7 h (fun r9 S8 h => ?_)
    refine jx_istore_n (lv1 := [(1, .int r9), (0, .ref a0)]) kd917.2.2.2.2.1 rfl (by decide) rfl ?_
    refine jx_iload_n 0 kd917.2.2.2.2.2.1 rfl rfl ?_
    refine jx_if_lt (tgt := 80) kd917.2.2.2.2.2.2.1 (by decide) (fun c10 => ?_) (fun c10 => ?_)
    · replace h := h.1 c10
      refine jx_iconst (v := 0) kd918.1 (by decide) ?_
      refine jx_istore_n (lv1 := [(2, .int 0), (1, .int r9), (0, .ref a0)]) kd918.2.1 rfl (by decide) rfl ?_
      refine jx_iload_n 0 kd918.2.2.1 rfl rfl ?_
      refine jx_if_eq (tgt := 111) kd918.2.2.2.1 (by decide) (fun _ => ?_) (fun z9 => absurd z9 (by decide))
      refine jx_aload_n 2 kd919.2.2.2.2.2.2.2.2.1 rfl rfl ?_
      refine jx_iconst (v := 0) kd920.1 (by decide) ?_
      obtain ⟨hk11, h⟩ := h
      refine jx_puti jc_11 (j := 19) (by decide) rfl jwF_X11_214 rfl rfl rfl kd920.2.1 hk11 ?_
      refine jx_iload_n 0 kd920.2.2.1 rfl rfl ?_
      refine jx_if_eq (tgt := 124) kd920.2.2.2.1 (by decide) (fun _ => ?_) (fun z9 => absurd z9 (by decide))
      refine jx_iconst (v := (-1)) kd920.2.2.2.2.2.2.1 (by decide) ?_
      exact jx_iret kd920.2.2.2.2.2.2.2.1 rfl rfl (jle rfl) (jle rfl) ⟨_, rfl, h⟩
    replace h := h.2 c10
    refine jx_iconst (v := 1) kd917.2.2.2.2.2.2.2.1 (by decide) ?_
    refine jx_goto (tgt := 81) kd917.2.2.2.2.2.2.2.2.1 (by decide) ?_
    refine jx_istore_n (lv1 := [(2, .int 1), (1, .int r9), (0, .ref a0)]) kd918.2.1 rfl (by decide) rfl ?_
    refine jx_iload_n 0 kd918.2.2.1 rfl rfl ?_
    refine jx_if_eq (tgt := 111) kd918.2.2.2.1 (by decide) (fun z9 => absurd z9 (by decide)) (fun _ => ?_)
    refine jx_aload_n 2 kd918.2.2.2.2.1 rfl rfl ?_
    obtain ⟨hk12, h⟩ := h
    refine jx_callVv (M' := mX11_nextToken) (As := []) jo_X11_nextToken jc_11 rfl jwM_X11_262 jwN_X11_nextToken jwX_X11_nextToken kd918.2.2.2.2.2.1 (jRok_m _ _ _) rfl (jle rfl) ⟨jle rfl, jle rfl⟩ hk12 h (fun S13 h => ?_)
    refine jx_aload_n 2 kd918.2.2.2.2.2.2.1 rfl rfl ?_
    refine jx_iload_n 1 kd918.2.2.2.2.2.2.2.1 rfl rfl ?_
    obtain ⟨hk14, h⟩ := h
    refine jx_callVi (M' := mX11_either) (As := [.int r9]) jo_X11_either jc_11 rfl jwM_X11_293 jwN_X11_either jwX_X11_either kd918.2.2.2.2.2.2.2.2.1 (jRok_m _ _ _) rfl (jle rfl) ⟨jle rfl, jle rfl⟩ hk14 h (fun r16 S15 h => ?_)
    refine jx_if_eq (tgt := 109) kd919.1 (by decide) (fun c17 => ?_) (fun c17 => ?_)
    · replace h := h.1 c17
      refine jx_iconst (v := 0) kd919.2.2.2.2.2.2.1 (by decide) ?_
      refine jx_istore_n (lv1 := [(2, .int 0), (1, .int r9), (0, .ref a0)]) kd919.2.2.2.2.2.2.2.1 rfl (by decide) rfl ?_
      refine jx_aload_n 2 kd919.2.2.2.2.2.2.2.2.1 rfl rfl ?_
      refine jx_iconst (v := 0) kd920.1 (by decide) ?_
      obtain ⟨hk18, h⟩ := h
      refine jx_puti jc_11 (j := 19) (by decide) rfl jwF_X11_214 rfl rfl rfl kd920.2.1 hk18 ?_
      refine jx_iload_n 0 kd920.2.2.1 rfl rfl ?_
      refine jx_if_eq (tgt := 124) kd920.2.2.2.1 (by decide) (fun _ => ?_) (fun z9 => absurd z9 (by decide))
      refine jx_iconst (v := (-1)) kd920.2.2.2.2.2.2.1 (by decide) ?_
      exact jx_iret kd920.2.2.2.2.2.2.2.1 rfl rfl (jle rfl) (jle rfl) ⟨_, rfl, h⟩
    replace h := h.2 c17
    refine jx_aload_n 2 kd919.2.1 rfl rfl ?_
    obtain ⟨hk19, h⟩ := h
    refine jx_geti jc_11 (j := 22) (by decide) rfl jwF_X11_228 kd919.2.2.1 hk19 ?_
    refine jx_if_ne (tgt := 109) kd919.2.2.2.1 (by decide) (fun c20 => ?_) (fun c20 => ?_)
    · replace h := h.2 c20
      refine jx_iconst (v := 0) kd919.2.2.2.2.2.2.1 (by decide) ?_
      refine jx_istore_n (lv1 := [(2, .int 0), (1, .int r9), (0, .ref a0)]) kd919.2.2.2.2.2.2.2.1 rfl (by decide) rfl ?_
      refine jx_aload_n 2 kd919.2.2.2.2.2.2.2.2.1 rfl rfl ?_
      refine jx_iconst (v := 0) kd920.1 (by decide) ?_
      refine jx_puti jc_11 (j := 19) (by decide) rfl jwF_X11_214 rfl rfl rfl kd920.2.1 hk19 ?_
      refine jx_iload_n 0 kd920.2.2.1 rfl rfl ?_
      refine jx_if_eq (tgt := 124) kd920.2.2.2.1 (by decide) (fun _ => ?_) (fun z9 => absurd z9 (by decide))
      refine jx_iconst (v := (-1)) kd920.2.2.2.2.2.2.1 (by decide) ?_
      exact jx_iret kd920.2.2.2.2.2.2.2.1 rfl rfl (jle rfl) (jle rfl) ⟨_, rfl, h⟩
    replace h := h.1 c20
    refine jx_iconst (v := 1) kd919.2.2.2.2.1 (by decide) ?_
    refine jx_goto (tgt := 110) kd919.2.2.2.2.2.1 (by decide) ?_
    refine jx_istore_n (lv1 := [(2, .int 1), (1, .int r9), (0, .ref a0)]) kd919.2.2.2.2.2.2.2.1 rfl (by decide) rfl ?_
    refine jx_aload_n 2 kd919.2.2.2.2.2.2.2.2.1 rfl rfl ?_
    refine jx_iconst (v := 0) kd920.1 (by decide) ?_
    refine jx_puti jc_11 (j := 19) (by decide) rfl jwF_X11_214 rfl rfl rfl kd920.2.1 hk19 ?_
    refine jx_iload_n 0 kd920.2.2.1 rfl rfl ?_
    refine jx_if_eq (tgt := 124) kd920.2.2.2.1 (by decide) (fun z9 => absurd z9 (by decide)) (fun _ => ?_)
    refine jx_iload_n 1 kd920.2.2.2.2.1 rfl rfl ?_
    refine jx_goto (tgt := 125) kd920.2.2.2.2.2.1 (by decide) ?_
    exact jx_iret kd920.2.2.2.2.2.2.2.1 rfl rfl (jle rfl) (jle rfl) ⟨_, rfl, h⟩
  replace h := h.2 c5
  refine jx_aload_n 0 kd915.2.2.2.2.2.2.2.1 rfl rfl ?_
  refine jx_aload_n 0 kd915.2.2.2.2.2.2.2.2.1 rfl rfl ?_
  refine jx_getr jc_11 (j := 0) (by decide) rfl jwF_X11_7 kd916.1 hk1 hb2 ?_
  refine jx_iconst (v := 1) kd916.2.1 (by decide) ?_
  refine jx_iald kd916.2.2.1 hk3 hi4 ?_
  refine jx_topi (y := (ji S b2 (Int32.toNatClampNeg 1))) (by simp [ji_put, ji_row, ji_putr, jne hk3 hk1 (by decide), jne hk3 hk1 (by decide), jne hk3 hk1 (by decide), jne hk3 hk1 (by decide), jne hk3 hk1 (by decide), jne hk3 hk1 (by decide)]) ?_
  refine jx_callVi (M' := mX11_textAt) (As := [.int (ji S b2 (Int32.toNatClampNeg 1))]) jo_X11_textAt jc_11 rfl jwM_X11_296 jwN_X11_textAt jwX_X11_textAt kd916.2.2.2.1 (jRok_m _ _ _) rfl (jle rfl) ⟨jle rfl, jle rfl⟩ hk1 (c_X11_textAt (Q := fun v S' => v = (jtextat (ji S b2 (Int32.toNatClampNeg 1))) ∧ (jput (jput (jput (jput (jput (jput S a0 21 0) a0 22 3) a0 25 0) a0 26 0) a0 27 0) a0 29 0) = S') ⟨rfl, rfl⟩) (fun r21 S22 hq23 => ?_)
  obtain ⟨rfl, rfl⟩ := hq23
  refine jx_iconst (v := 4) kd916.2.2.2.2.1 (by decide) ?_
  refine jx_iadd kd916.2.2.2.2.2.1 ?_
  refine jx_goto (tgt := 60) kd916.2.2.2.2.2.2.1 (by decide) ?_
  refine jx_puti jc_11 (j := 28) (by decide) rfl jwF_X11_250 rfl rfl rfl kd916.2.2.2.2.2.2.2.2.1 hk1 ?_
  refine jx_aload_n 0 kd917.1 rfl rfl ?_
  refine jx_callVv (M' := mX11_nextToken) (As := []) jo_X11_nextToken jc_11 rfl jwM_X11_262 jwN_X11_nextToken jwX_X11_nextToken kd917.2.1 (jRok_m _ _ _) rfl (jle rfl) ⟨jle rfl, jle rfl⟩ hk1 h (fun S24 h => ?_)
  refine jx_aload_n 0 kd917.2.2.1 rfl rfl ?_
  obtain ⟨hk25, h⟩ := h
  refine jx_callVi (M' := mX11_key) (As := []) jo_X11_key jc_11 rfl jwM_X11_299 jwN_X11_key jwX_X11_key kd917.2.2.2.1 (jRok_m _ _ _) rfl (jle rfl) ⟨jle rfl, jle rfl⟩ hk25 h (fun r27 S26 h => ?_)
  refine jx_istore_n (lv1 := [(1, .int r27), (0, .ref a0)]) kd917.2.2.2.2.1 rfl (by decide) rfl ?_
  refine jx_iload_n 0 kd917.2.2.2.2.2.1 rfl rfl ?_
  refine jx_if_lt (tgt := 80) kd917.2.2.2.2.2.2.1 (by decide) (fun c28 => ?_) (fun c28 => ?_)
  · replace h := h.1 c28
    refine jx_iconst (v := 0) kd918.1 (by decide) ?_
    refine jx_istore_n (lv1 := [(2, .int 0), (1, .int r27), (0, .ref a0)]) kd918.2.1 rfl (by decide) rfl ?_
    refine jx_iload_n 0 kd918.2.2.1 rfl rfl ?_
    refine jx_if_eq (tgt := 111) kd918.2.2.2.1 (by decide) (fun _ => ?_) (fun z9 => absurd z9 (by decide))
    refine jx_aload_n 2 kd919.2.2.2.2.2.2.2.2.1 rfl rfl ?_
    refine jx_iconst (v := 0) kd920.1 (by decide) ?_
    obtain ⟨hk29, h⟩ := h
    refine jx_puti jc_11 (j := 19) (by decide) rfl jwF_X11_214 rfl rfl rfl kd920.2.1 hk29 ?_
    refine jx_iload_n 0 kd920.2.2.1 rfl rfl ?_
    refine jx_if_eq (tgt := 124) kd920.2.2.2.1 (by decide) (fun _ => ?_) (fun z9 => absurd z9 (by decide))
    refine jx_iconst (v := (-1)) kd920.2.2.2.2.2.2.1 (by decide) ?_
    exact jx_iret kd920.2.2.2.2.2.2.2.1 rfl rfl (jle rfl) (jle rfl) ⟨_, rfl, h⟩
  replace h := h.2 c28
  refine jx_iconst (v := 1) kd917.2.2.2.2.2.2.2.1 (by decide) ?_
  refine jx_goto (tgt := 81) kd917.2.2.2.2.2.2.2.2.1 (by decide) ?_
  refine jx_istore_n (lv1 := [(2, .int 1), (1, .int r27), (0, .ref a0)]) kd918.2.1 rfl (by decide) rfl ?_
  refine jx_iload_n 0 kd918.2.2.1 rfl rfl ?_
  refine jx_if_eq (tgt := 111) kd918.2.2.2.1 (by decide) (fun z9 => absurd z9 (by decide)) (fun _ => ?_)
  refine jx_aload_n 2 kd918.2.2.2.2.1 rfl rfl ?_
  obtain ⟨hk30, h⟩ := h
  refine jx_callVv (M' := mX11_nextToken) (As := []) jo_X11_nextToken jc_11 rfl jwM_X11_262 jwN_X11_nextToken jwX_X11_nextToken kd918.2.2.2.2.2.1 (jRok_m _ _ _) rfl (jle rfl) ⟨jle rfl, jle rfl⟩ hk30 h (fun S31 h => ?_)
  refine jx_aload_n 2 kd918.2.2.2.2.2.2.1 rfl rfl ?_
  refine jx_iload_n 1 kd918.2.2.2.2.2.2.2.1 rfl rfl ?_
  obtain ⟨hk32, h⟩ := h
  refine jx_callVi (M' := mX11_either) (As := [.int r27]) jo_X11_either jc_11 rfl jwM_X11_293 jwN_X11_either jwX_X11_either kd918.2.2.2.2.2.2.2.2.1 (jRok_m _ _ _) rfl (jle rfl) ⟨jle rfl, jle rfl⟩ hk32 h (fun r34 S33 h => ?_)
  refine jx_if_eq (tgt := 109) kd919.1 (by decide) (fun c35 => ?_) (fun c35 => ?_)
  · replace h := h.1 c35
    refine jx_iconst (v := 0) kd919.2.2.2.2.2.2.1 (by decide) ?_
    refine jx_istore_n (lv1 := [(2, .int 0), (1, .int r27), (0, .ref a0)]) kd919.2.2.2.2.2.2.2.1 rfl (by decide) rfl ?_
    refine jx_aload_n 2 kd919.2.2.2.2.2.2.2.2.1 rfl rfl ?_
    refine jx_iconst (v := 0) kd920.1 (by decide) ?_
    obtain ⟨hk36, h⟩ := h
    refine jx_puti jc_11 (j := 19) (by decide) rfl jwF_X11_214 rfl rfl rfl kd920.2.1 hk36 ?_
    refine jx_iload_n 0 kd920.2.2.1 rfl rfl ?_
    refine jx_if_eq (tgt := 124) kd920.2.2.2.1 (by decide) (fun _ => ?_) (fun z9 => absurd z9 (by decide))
    refine jx_iconst (v := (-1)) kd920.2.2.2.2.2.2.1 (by decide) ?_
    exact jx_iret kd920.2.2.2.2.2.2.2.1 rfl rfl (jle rfl) (jle rfl) ⟨_, rfl, h⟩
  replace h := h.2 c35
  refine jx_aload_n 2 kd919.2.1 rfl rfl ?_
  obtain ⟨hk37, h⟩ := h
  refine jx_geti jc_11 (j := 22) (by decide) rfl jwF_X11_228 kd919.2.2.1 hk37 ?_
  refine jx_if_ne (tgt := 109) kd919.2.2.2.1 (by decide) (fun c38 => ?_) (fun c38 => ?_)
  · replace h := h.2 c38
    refine jx_iconst (v := 0) kd919.2.2.2.2.2.2.1 (by decide) ?_
    refine jx_istore_n (lv1 := [(2, .int 0), (1, .int r27), (0, .ref a0)]) kd919.2.2.2.2.2.2.2.1 rfl (by decide) rfl ?_
    refine jx_aload_n 2 kd919.2.2.2.2.2.2.2.2.1 rfl rfl ?_
    refine jx_iconst (v := 0) kd920.1 (by decide) ?_
    refine jx_puti jc_11 (j := 19) (by decide) rfl jwF_X11_214 rfl rfl rfl kd920.2.1 hk37 ?_
    refine jx_iload_n 0 kd920.2.2.1 rfl rfl ?_
    refine jx_if_eq (tgt := 124) kd920.2.2.2.1 (by decide) (fun _ => ?_) (fun z9 => absurd z9 (by decide))
    refine jx_iconst (v := (-1)) kd920.2.2.2.2.2.2.1 (by decide) ?_
    exact jx_iret kd920.2.2.2.2.2.2.2.1 rfl rfl (jle rfl) (jle rfl) ⟨_, rfl, h⟩
  replace h := h.1 c38
  refine jx_iconst (v := 1) kd919.2.2.2.2.1 (by decide) ?_
  refine jx_goto (tgt := 110) kd919.2.2.2.2.2.1 (by decide) ?_
  refine jx_istore_n (lv1 := [(2, .int 1), (1, .int r27), (0, .ref a0)]) kd919.2.2.2.2.2.2.2.1 rfl (by decide) rfl ?_
  refine jx_aload_n 2 kd919.2.2.2.2.2.2.2.2.1 rfl rfl ?_
  refine jx_iconst (v := 0) kd920.1 (by decide) ?_
  refine jx_puti jc_11 (j := 19) (by decide) rfl jwF_X11_214 rfl rfl rfl kd920.2.1 hk37 ?_
  refine jx_iload_n 0 kd920.2.2.1 rfl rfl ?_
  refine jx_if_eq (tgt := 124) kd920.2.2.2.1 (by decide) (fun z9 => absurd z9 (by decide)) (fun _ => ?_)
  refine jx_iload_n 1 kd920.2.2.2.2.1 rfl rfl ?_
  refine jx_goto (tgt := 125) kd920.2.2.2.2.2.1 (by decide) ?_
  exact jx_iret kd920.2.2.2.2.2.2.2.1 rfl rfl (jle rfl) (jle rfl) ⟨_, rfl, h⟩
end
section
set_option maxRecDepth 100000 in
set_option maxHeartbeats 4000000 in
theorem T_X11_text {E : jEnv} {d : Nat} {Q : Int32 → jM → Prop} {a0 : Nat} {S : jM} (h : jk S a0 = 11 ∧ jFi E mX11_parse d 0 0 [.ref a0] S (fun r3 S2 => (0 ≤ r3 → jk S2 a0 = 11 ∧ ∃ b6, jr S2 a0 0 = some b6 ∧ (jk S2 b6 = 12 ∧ vp_in 1 (jl S2 b6) ∧ (((ji S2 b6 (Int32.toNatClampNeg 1)) = 14 → Q (-1000000003) S2) ∧ (¬ (ji S2 b6 (Int32.toNatClampNeg 1)) = 14 → (vp_in ((jtextat (ji S2 b6 (Int32.toNatClampNeg 1))) + 0) (jl S2 b6) ∧ (vp_in ((jtextat (ji S2 b6 (Int32.toNatClampNeg 1))) + 1) (jl S2 b6) ∧ (vp_in ((jtextat (ji S2 b6 (Int32.toNatClampNeg 1))) + 2) (jl S2 b6) ∧ ((((Q (((ji (jput (jput (jput S2 b6 (Int32.toNatClampNeg ((jtextat (ji S2 b6 (Int32.toNatClampNeg 1))) + 0)) r3) b6 (Int32.toNatClampNeg ((jtextat (ji S2 b6 (Int32.toNatClampNeg 1))) + 1)) (ji S2 a0 29)) b6 (Int32.toNatClampNeg ((jtextat (ji S2 b6 (Int32.toNatClampNeg 1))) + 2)) (ji S2 a0 27)) b6 (Int32.toNatClampNeg 1)) + 1) - 1) (jput (jput (jput (jput S2 b6 (Int32.toNatClampNeg ((jtextat (ji S2 b6 (Int32.toNatClampNeg 1))) + 0)) r3) b6 (Int32.toNatClampNeg ((jtextat (ji S2 b6 (Int32.toNatClampNeg 1))) + 1)) (ji S2 a0 29)) b6 (Int32.toNatClampNeg ((jtextat (ji S2 b6 (Int32.toNatClampNeg 1))) + 2)) (ji S2 a0 27)) b6 (Int32.toNatClampNeg 1) ((ji (jput (jput (jput S2 b6 (Int32.toNatClampNeg ((jtextat (ji S2 b6 (Int32.toNatClampNeg 1))) + 0)) r3) b6 (Int32.toNatClampNeg ((jtextat (ji S2 b6 (Int32.toNatClampNeg 1))) + 1)) (ji S2 a0 29)) b6 (Int32.toNatClampNeg ((jtextat (ji S2 b6 (Int32.toNatClampNeg 1))) + 2)) (ji S2 a0 27)) b6 (Int32.toNatClampNeg 1)) + 1))))))))))))) ∧ (¬ 0 ≤ r3 → jk S2 a0 = 11 ∧ Q ((-100) - (ji S2 a0 20)) S2))) : jFi E mX11_text (d + 1) 0 0 [.ref a0] S Q := by
  refine jF_of (by decide) (jle rfl) ?_
  refine jx_lv (lv1 := [(0, .ref a0)]) [0] rfl ?_
  refine jx_aload_n 0 kd921.1 rfl rfl ?_
  obtain ⟨hk1, h⟩ := h
  refine jx_callVi (M' := mX11_parse) (As := []) jo_X11_parse jc_11 rfl jwM_X11_302 jwN_X11_parse jwX_X11_parse kd921.2.1 (jRok_m _ _ _) rfl (jle rfl) ⟨jle rfl, jle rfl⟩ hk1 h (fun r3 S2 h => ?_)
  refine jx_istore_n (lv1 := [(1, .int r3), (0, .ref a0)]) kd921.2.2.1 rfl (by decide) rfl ?_
  refine jx_iload_n 0 kd921.2.2.2.1 rfl rfl ?_
  refine jx_if_ge (tgt := 17) kd921.2.2.2.2.1 (by decide) (fun c4 => ?_) (fun c4 => ?_)
  · replace h := h.1 c4
    refine jx_aload_n 1 kd922.2.1 rfl rfl ?_
    obtain ⟨hk5, h⟩ := h
    obtain ⟨b6, hb6, h⟩ := h
    refine jx_getr jc_11 (j := 0) (by decide) rfl jwF_X11_7 kd922.2.2.1 hk5 hb6 ?_
    refine jx_iconst (v := 1) kd922.2.2.2.1 (by decide) ?_
    obtain ⟨hk7, h⟩ := h
    obtain ⟨hi8, h⟩ := h
    refine jx_iald kd922.2.2.2.2.1 hk7 hi8 ?_
    refine jx_bipush (v := 14) kd922.2.2.2.2.2.1 (by decide) ?_
    refine jx_icmp_ne (tgt := 31) kd922.2.2.2.2.2.2.1 (by decide) (fun c9 => ?_) (fun c9 => ?_)
    · replace h := h.2 c9
      refine jx_aload_n 1 kd923.1 rfl rfl ?_
      refine jx_aload_n 1 kd923.2.1 rfl rfl ?_
      refine jx_getr jc_11 (j := 0) (by decide) rfl jwF_X11_7 kd923.2.2.1 hk5 hb6 ?_
      refine jx_iconst (v := 1) kd923.2.2.2.1 (by decide) ?_
      refine jx_iald kd923.2.2.2.2.1 hk7 hi8 ?_
      refine jx_callVi (M' := mX11_textAt) (As := [.int (ji S2 b6 (Int32.toNatClampNeg 1))]) jo_X11_textAt jc_11 rfl jwM_X11_296 jwN_X11_textAt jwX_X11_textAt kd923.2.2.2.2.2.1 (jRok_m _ _ _) rfl (jle rfl) ⟨jle rfl, jle rfl⟩ hk5 (c_X11_textAt (Q := fun v S' => v = (jtextat (ji S2 b6 (Int32.toNatClampNeg 1))) ∧ S2 = S') ⟨rfl, rfl⟩) (fun r10 S11 hq12 => ?_)
      obtain ⟨rfl, rfl⟩ := hq12
      refine jx_istore_n (lv1 := [(2, .int (jtextat (ji S2 b6 (Int32.toNatClampNeg 1)))), (1, .int r3), (0, .ref a0)]) kd923.2.2.2.2.2.2.1 rfl (by decide) rfl ?_
      refine jx_aload_n 2 kd923.2.2.2.2.2.2.2.1 rfl rfl ?_
      refine jx_getr jc_11 (j := 0) (by decide) rfl jwF_X11_7 kd923.2.2.2.2.2.2.2.2.1 hk5 hb6 ?_
      refine jx_iload_n 0 kd924.1 rfl rfl ?_
      refine jx_iconst (v := 0) kd924.2.1 (by decide) ?_
      refine jx_iadd kd924.2.2.1 ?_
      refine jx_iload_n 1 kd924.2.2.2.1 rfl rfl ?_
      obtain ⟨hi13, h⟩ := h
      refine jx_iast kd924.2.2.2.2.1 hk7 hi13 ?_
      refine jx_aload_n 2 kd924.2.2.2.2.2.1 rfl rfl ?_
      refine jx_getr jc_11 (j := 0) (by decide) rfl jwF_X11_7 kd924.2.2.2.2.2.2.1 hk5 hb6 ?_
      refine jx_iload_n 0 kd924.2.2.2.2.2.2.2.1 rfl rfl ?_
      refine jx_iconst (v := 1) kd924.2.2.2.2.2.2.2.2.1 (by decide) ?_
      refine jx_iadd kd925.1 ?_
      refine jx_aload_n 2 kd925.2.1 rfl rfl ?_
      refine jx_geti jc_11 (j := 29) (by decide) rfl jwF_X11_281 kd925.2.2.1 hk5 ?_
      refine jx_topi (y := (ji S2 a0 29)) (by simp [ji_put, ji_row, ji_putr, jne hk5 hk7 (by decide)]) ?_
      obtain ⟨hi14, h⟩ := h
      refine jx_iast kd925.2.2.2.1 hk7 hi14 ?_
      refine jx_aload_n 2 kd925.2.2.2.2.1 rfl rfl ?_
      refine jx_getr jc_11 (j := 0) (by decide) rfl jwF_X11_7 kd925.2.2.2.2.2.1 hk5 hb6 ?_
      refine jx_iload_n 0 kd925.2.2.2.2.2.2.1 rfl rfl ?_
      refine jx_iconst (v := 2) kd925.2.2.2.2.2.2.2.1 (by decide) ?_
      refine jx_iadd kd925.2.2.2.2.2.2.2.2.1 ?_
      refine jx_aload_n 2 kd926.1 rfl rfl ?_
      refine jx_geti jc_11 (j := 27) (by decide) rfl jwF_X11_253 kd926.2.1 hk5 ?_
      refine jx_topi (y := (ji S2 a0 27)) (by simp [ji_put, ji_row, ji_putr, jne hk5 hk7 (by decide), jne hk5 hk7 (by decide)]) ?_
      obtain ⟨hi15, h⟩ := h
      refine jx_iast kd926.2.2.1 hk7 hi15 ?_
      refine jx_aload_n 2 kd926.2.2.2.1 rfl rfl ?_
      refine jx_getr jc_11 (j := 0) (by decide) rfl jwF_X11_7 kd926.2.2.2.2.1 hk5 hb6 ?_
      refine jx_iconst (v := 1) kd926.2.2.2.2.2.1 (by decide) ?_
      refine jx_dup2 kd926.2.2.2.2.2.2.1 rfl rfl ?_
      refine jx_iald kd926.2.2.2.2.2.2.2.1 hk7 hi8 ?_
      refine jx_iconst (v := 1) kd926.2.2.2.2.2.2.2.2.1 (by decide) ?_
      refine jx_iadd kd927.1 ?_
      refine jx_iast kd927.2.1 hk7 hi8 ?_
      refine jx_aload_n 2 kd927.2.2.1 rfl rfl ?_
      refine jx_getr jc_11 (j := 0) (by decide) rfl jwF_X11_7 kd927.2.2.2.1 hk5 hb6 ?_
      refine jx_iconst (v := 1) kd927.2.2.2.2.1 (by decide) ?_
      refine jx_iald kd927.2.2.2.2.2.1 hk7 hi8 ?_
      refine jx_topi (y := ((ji (jput (jput (jput S2 b6 (Int32.toNatClampNeg ((jtextat (ji S2 b6 (Int32.toNatClampNeg 1))) + 0)) r3) b6 (Int32.toNatClampNeg ((jtextat (ji S2 b6 (Int32.toNatClampNeg 1))) + 1)) (ji S2 a0 29)) b6 (Int32.toNatClampNeg ((jtextat (ji S2 b6 (Int32.toNatClampNeg 1))) + 2)) (ji S2 a0 27)) b6 (Int32.toNatClampNeg 1)) + 1)) (by simp [ji_put, ji_row, ji_putr]) ?_
      refine jx_iconst (v := 1) kd927.2.2.2.2.2.2.1 (by decide) ?_
      refine jx_isub kd927.2.2.2.2.2.2.2.1 ?_
      exact jx_iret kd927.2.2.2.2.2.2.2.2.1 rfl rfl (jle rfl) (jle rfl) ⟨_, rfl, h⟩
    replace h := h.1 c9
    refine jx_ldc jwC_X11_88 kd922.2.2.2.2.2.2.2.1 ?_
    exact jx_iret kd922.2.2.2.2.2.2.2.2.1 rfl rfl (jle rfl) (jle rfl) ⟨_, rfl, h⟩
  replace h := h.2 c4
  refine jx_bipush (v := (-100)) kd921.2.2.2.2.2.1 (by decide) ?_
  refine jx_aload_n 1 kd921.2.2.2.2.2.2.1 rfl rfl ?_
  obtain ⟨hk16, h⟩ := h
  refine jx_geti jc_11 (j := 20) (by decide) rfl jwF_X11_231 kd921.2.2.2.2.2.2.2.1 hk16 ?_
  refine jx_isub kd921.2.2.2.2.2.2.2.2.1 ?_
  exact jx_iret kd922.1 rfl rfl (jle rfl) (jle rfl) ⟨_, rfl, h⟩
set_option maxRecDepth 100000 in
set_option maxHeartbeats 4000000 in
theorem T_X11_textTold {E : jEnv} {d : Nat} {Q : Int32 → jM → Prop} {a0 : Nat} {x1 : Int32} {x2 : Int32} {S : jM} (h : jk S a0 = 11 ∧ jFi E mX11_isText d 0 0 [.ref a0, .int x1] S (fun r3 S2 => (r3 = 0 → Q (-1000000001) S2) ∧ (¬ r3 = 0 → ((jisin (Int32.toInt64 x2) 0 1) = 0 → Q (-1000000001) S2) ∧ (¬ (jisin (Int32.toInt64 x2) 0 1) = 0 → jk S2 a0 = 11 ∧ ∃ b10, jr S2 a0 0 = some b10 ∧ (jk S2 b10 = 12 ∧ vp_in ((jtextat x1) + x2) (jl S2 b10) ∧ (Q (ji S2 b10 (Int32.toNatClampNeg ((jtextat x1) + x2))) S2)))))) : jFi E mX11_textTold (d + 1) 0 0 [.ref a0, .int x1, .int x2] S Q := by
  refine jF_of (by decide) (jle rfl) ?_
  refine jx_lv (lv1 := [(0, .ref a0), (1, .int x1), (2, .int x2)]) [0, 1, 2] rfl ?_
  refine jx_aload_n 0 kd928.1 rfl rfl ?_
  refine jx_iload_n 1 kd928.2.1 rfl rfl ?_
  obtain ⟨hk1, h⟩ := h
  refine jx_callVi (M' := mX11_isText) (As := [.int x1]) jo_X11_isText jc_11 rfl jwM_X11_305 jwN_X11_isText jwX_X11_isText kd928.2.2.1 (jRok_m _ _ _) rfl (jle rfl) ⟨jle rfl, jle rfl⟩ hk1 h (fun r3 S2 h => ?_)
  refine jx_if_eq (tgt := 18) kd928.2.2.2.1 (by decide) (fun c4 => ?_) (fun c4 => ?_)
  · replace h := h.1 c4
    refine jx_ldc jwC_X11_87 kd929.2.1 ?_
    exact jx_iret kd929.2.2.1 rfl rfl (jle rfl) (jle rfl) ⟨_, rfl, h⟩
  replace h := h.2 c4
  refine jx_iload_n 2 kd928.2.2.2.2.1 rfl rfl ?_
  refine jx_i2l kd928.2.2.2.2.2.1 ?_
  refine jx_lconst (v := 0) kd928.2.2.2.2.2.2.1 (by decide) ?_
  refine jx_lconst (v := 1) kd928.2.2.2.2.2.2.2.1 (by decide) ?_
  refine jx_callSi (M' := mX11_isIn) (As := [.long (Int32.toInt64 x2), .long 0, .long 1]) jo_X11_isIn jwM_X11_71 jwS_X11_isIn kd928.2.2.2.2.2.2.2.2.1 (jRok_m _ _ _) rfl (jle rfl) ⟨jle rfl, jle rfl⟩ (c_X11_isIn (Q := fun v S' => v = (jisin (Int32.toInt64 x2) 0 1) ∧ S2 = S') ⟨rfl, rfl⟩) (fun r5 S6 hq7 => ?_)
  obtain ⟨rfl, rfl⟩ := hq7
  refine jx_if_ne (tgt := 21) kd929.1 (by decide) (fun c8 => ?_) (fun c8 => ?_)
  · replace h := h.2 c8
    refine jx_aload_n 0 kd929.2.2.2.1 rfl rfl ?_
    obtain ⟨hk9, h⟩ := h
    obtain ⟨b10, hb10, h⟩ := h
    refine jx_getr jc_11 (j := 0) (by decide) rfl jwF_X11_7 kd929.2.2.2.2.1 hk9 hb10 ?_
    refine jx_aload_n 0 kd929.2.2.2.2.2.1 rfl rfl ?_
    refine jx_iload_n 1 kd929.2.2.2.2.2.2.1 rfl rfl ?_
    refine jx_callVi (M' := mX11_textAt) (As := [.int x1]) jo_X11_textAt jc_11 rfl jwM_X11_296 jwN_X11_textAt jwX_X11_textAt kd929.2.2.2.2.2.2.2.1 (jRok_m _ _ _) rfl (jle rfl) ⟨jle rfl, jle rfl⟩ hk9 (c_X11_textAt (Q := fun v S' => v = (jtextat x1) ∧ S2 = S') ⟨rfl, rfl⟩) (fun r11 S12 hq13 => ?_)
    obtain ⟨rfl, rfl⟩ := hq13
    refine jx_iload_n 2 kd929.2.2.2.2.2.2.2.2.1 rfl rfl ?_
    refine jx_iadd kd930.1 ?_
    obtain ⟨hk14, h⟩ := h
    obtain ⟨hi15, h⟩ := h
    refine jx_iald kd930.2.1 hk14 hi15 ?_
    exact jx_iret kd930.2.2.1 rfl rfl (jle rfl) (jle rfl) ⟨_, rfl, h⟩
  replace h := h.1 c8
  refine jx_ldc jwC_X11_87 kd929.2.1 ?_
  exact jx_iret kd929.2.2.1 rfl rfl (jle rfl) (jle rfl) ⟨_, rfl, h⟩
/-- X11_counts at its loop's head 4 -/
abbrev L_X11_counts_4 (E : jEnv) (d : Nat) (Q : Int32 → jM → Prop) (a0 : Nat) (x1 : Int32) (x2 : Int32) (x3 : Int32) (S : jM) : Prop := jX E mX11_counts (jRm (d + 1) 0 0) (jZm E (fun r S' => ∃ v : Int32, r = some (.int v) ∧ Q v S') 0 0) 4 [(0, .ref a0), (1, .int x1), (2, .int x2), (3, .int x3)] [] S 0 0
set_option maxRecDepth 100000 in
set_option maxHeartbeats 4000000 in
theorem T_X11_counts {E : jEnv} {d : Nat} {Q : Int32 → jM → Prop} {a0 : Nat} {x1 : Int32} {S : jM} (h : L_X11_counts_4 E d Q a0 x1 (-1) 0 S) : jFi E mX11_counts (d + 1) 0 0 [.ref a0, .int x1] S Q := by
  refine jF_of (by decide) (jle rfl) ?_
  refine jx_lv (lv1 := [(0, .ref a0), (1, .int x1)]) [0, 1] rfl ?_
  refine jx_iconst (v := (-1)) kd931.1 (by decide) ?_
  refine jx_istore_n (lv1 := [(2, .int (-1)), (0, .ref a0), (1, .int x1)]) kd931.2.1 rfl (by decide) rfl ?_
  refine jx_iconst (v := 0) kd931.2.2.1 (by decide) ?_
  refine jx_istore_n (lv1 := [(3, .int 0), (2, .int (-1)), (0, .ref a0), (1, .int x1)]) kd931.2.2.2.1 rfl (by decide) rfl ?_
  exact jx_lv [2, 3, 1, 0] rfl h
set_option maxRecDepth 100000 in
set_option maxHeartbeats 4000000 in
theorem T_X11_counts_4 {E : jEnv} {d : Nat} {Q : Int32 → jM → Prop} {a0 : Nat} {x1 : Int32} {x2 : Int32} {x3 : Int32} {S : jM} (h : jk S a0 = 11 ∧ ∃ b2, jr S a0 0 = some b2 ∧ (jk S b2 = 12 ∧ vp_in 1 (jl S b2) ∧ (((ji S b2 (Int32.toNatClampNeg 1)) ≤ x3 → Q x2 S) ∧ (¬ (ji S b2 (Int32.toNatClampNeg 1)) ≤ x3 → vp_in (jtextat x3) (jl S b2) ∧ (((ji S b2 (Int32.toNatClampNeg (jtextat x3))) = x1 → L_X11_counts_4 E d Q a0 x1 x3 (x3 + 1) S) ∧ (¬ (ji S b2 (Int32.toNatClampNeg (jtextat x3))) = x1 → L_X11_counts_4 E d Q a0 x1 x2 (x3 + 1) S)))))) : L_X11_counts_4 E d Q a0 x1 x2 x3 S := by
  show jX E mX11_counts (jRm (d + 1) 0 0) (jZm E (fun r S' => ∃ v : Int32, r = some (.int v) ∧ Q v S') 0 0) 4 [(0, .ref a0), (1, .int x1), (2, .int x2), (3, .int x3)] [] S 0 0
  refine jx_iload_n 3 kd931.2.2.2.2.1 rfl rfl ?_
  refine jx_aload_n 0 kd931.2.2.2.2.2.1 rfl rfl ?_
  obtain ⟨hk1, h⟩ := h
  obtain ⟨b2, hb2, h⟩ := h
  refine jx_getr jc_11 (j := 0) (by decide) rfl jwF_X11_7 kd931.2.2.2.2.2.2.1 hk1 hb2 ?_
  refine jx_iconst (v := 1) kd931.2.2.2.2.2.2.2.1 (by decide) ?_
  obtain ⟨hk3, h⟩ := h
  obtain ⟨hi4, h⟩ := h
  refine jx_iald kd931.2.2.2.2.2.2.2.2.1 hk3 hi4 ?_
  refine jx_icmp_ge (tgt := 40) kd932.1 (by decide) (fun c5 => ?_) (fun c5 => ?_)
  · replace h := h.1 c5
    refine jx_iload_n 2 kd933.2.2.2.2.2.2.1 rfl rfl ?_
    exact jx_iret kd933.2.2.2.2.2.2.2.1 rfl rfl (jle rfl) (jle rfl) ⟨_, rfl, h⟩
  replace h := h.2 c5
  refine jx_aload_n 0 kd932.2.1 rfl rfl ?_
  refine jx_getr jc_11 (j := 0) (by decide) rfl jwF_X11_7 kd932.2.2.1 hk1 hb2 ?_
  refine jx_aload_n 0 kd932.2.2.2.1 rfl rfl ?_
  refine jx_iload_n 3 kd932.2.2.2.2.1 rfl rfl ?_
  refine jx_callVi (M' := mX11_textAt) (As := [.int x3]) jo_X11_textAt jc_11 rfl jwM_X11_296 jwN_X11_textAt jwX_X11_textAt kd932.2.2.2.2.2.1 (jRok_m _ _ _) rfl (jle rfl) ⟨jle rfl, jle rfl⟩ hk1 (c_X11_textAt (Q := fun v S' => v = (jtextat x3) ∧ S = S') ⟨rfl, rfl⟩) (fun r6 S7 hq8 => ?_)
  obtain ⟨rfl, rfl⟩ := hq8
  obtain ⟨hi9, h⟩ := h
  refine jx_iald kd932.2.2.2.2.2.2.1 hk3 hi9 ?_
  refine jx_iload_n 1 kd932.2.2.2.2.2.2.2.1 rfl rfl ?_
  refine jx_icmp_ne (tgt := 32) kd932.2.2.2.2.2.2.2.2.1 (by decide) (fun c10 => ?_) (fun c10 => ?_)
  · replace h := h.2 c10
    refine jx_iload_n 2 kd933.2.2.1 rfl rfl ?_
    refine jx_istore_n (lv1 := [(2, .int x2), (0, .ref a0), (1, .int x1), (3, .int x3)]) kd933.2.2.2.1 rfl (by decide) rfl ?_
    refine jx_iinc 3 (v := (x3 + 1)) (lv1 := [(3, .int (x3 + 1)), (2, .int x2), (0, .ref a0), (1, .int x1)]) kd933.2.2.2.2.1 rfl rfl (by decide) rfl ?_
    refine jx_goto (tgt := 4) kd933.2.2.2.2.2.1 (by decide) ?_
    exact jx_lv [2, 3, 1, 0] rfl h
  replace h := h.1 c10
  refine jx_iload_n 3 kd933.1 rfl rfl ?_
  refine jx_goto (tgt := 33) kd933.2.1 (by decide) ?_
  refine jx_istore_n (lv1 := [(2, .int x3), (0, .ref a0), (1, .int x1), (3, .int x3)]) kd933.2.2.2.1 rfl (by decide) rfl ?_
  refine jx_iinc 3 (v := (x3 + 1)) (lv1 := [(3, .int (x3 + 1)), (2, .int x3), (0, .ref a0), (1, .int x1)]) kd933.2.2.2.2.1 rfl rfl (by decide) rfl ?_
  refine jx_goto (tgt := 4) kd933.2.2.2.2.2.1 (by decide) ?_
  exact jx_lv [2, 3, 1, 0] rfl h
set_option maxRecDepth 100000 in
set_option maxHeartbeats 4000000 in
theorem T_X11_why {E : jEnv} {d : Nat} {Q : Int32 → jM → Prop} {a0 : Nat} {x1 : Int32} {S : jM} (h : ((jisin (Int32.toInt64 x1) 0 2) = 0 → Q (-1000000001) S) ∧ (¬ (jisin (Int32.toInt64 x1) 0 2) = 0 → jk S a0 = 11 ∧ jFi E mX11_counts d 0 0 [.ref a0, .int x1] S (fun r7 S6 => Q (jornone r7) S6))) : jFi E mX11_why (d + 1) 0 0 [.ref a0, .int x1] S Q := by
  refine jF_of (by decide) (jle rfl) ?_
  refine jx_lv (lv1 := [(0, .ref a0), (1, .int x1)]) [0, 1] rfl ?_
  refine jx_iload_n 1 kd934.1 rfl rfl ?_
  refine jx_i2l kd934.2.1 ?_
  refine jx_lconst (v := 0) kd934.2.2.1 (by decide) ?_
  refine jx_ldc2 jwL_X11_146 kd934.2.2.2.1 ?_
  refine jx_callSi (M' := mX11_isIn) (As := [.long (Int32.toInt64 x1), .long 0, .long 2]) jo_X11_isIn jwM_X11_71 jwS_X11_isIn kd934.2.2.2.2.1 (jRok_m _ _ _) rfl (jle rfl) ⟨jle rfl, jle rfl⟩ (c_X11_isIn (Q := fun v S' => v = (jisin (Int32.toInt64 x1) 0 2) ∧ S = S') ⟨rfl, rfl⟩) (fun r1 S2 hq3 => ?_)
  obtain ⟨rfl, rfl⟩ := hq3
  refine jx_if_eq (tgt := 23) kd934.2.2.2.2.2.1 (by decide) (fun c4 => ?_) (fun c4 => ?_)
  · replace h := h.1 c4
    refine jx_ldc jwC_X11_87 kd935.2.2.1 ?_
    exact jx_iret kd935.2.2.2.1 rfl rfl (jle rfl) (jle rfl) ⟨_, rfl, h⟩
  replace h := h.2 c4
  refine jx_aload_n 0 kd934.2.2.2.2.2.2.1 rfl rfl ?_
  refine jx_iload_n 1 kd934.2.2.2.2.2.2.2.1 rfl rfl ?_
  obtain ⟨hk5, h⟩ := h
  refine jx_callVi (M' := mX11_counts) (As := [.int x1]) jo_X11_counts jc_11 rfl jwM_X11_93 jwN_X11_counts jwX_X11_counts kd934.2.2.2.2.2.2.2.2.1 (jRok_m _ _ _) rfl (jle rfl) ⟨jle rfl, jle rfl⟩ hk5 h (fun r7 S6 h => ?_)
  refine jx_callSi (M' := mX11_orNone) (As := [.int r7]) jo_X11_orNone jwM_X11_308 jwS_X11_orNone kd935.1 (jRok_m _ _ _) rfl (jle rfl) ⟨jle rfl, jle rfl⟩ (c_X11_orNone (Q := fun v S' => v = (jornone r7) ∧ S6 = S') ⟨rfl, rfl⟩) (fun r8 S9 hq10 => ?_)
  obtain ⟨rfl, rfl⟩ := hq10
  refine jx_goto (tgt := 25) kd935.2.1 (by decide) ?_
  exact jx_iret kd935.2.2.2.1 rfl rfl (jle rfl) (jle rfl) ⟨_, rfl, h⟩
/-- X11_worked at its loop's head 4 -/
abbrev L_X11_worked_4 (E : jEnv) (d : Nat) (Q : Int32 → jM → Prop) (a0 : Nat) (x1 : Int32) (x2 : Int32) (x3 : Int32) (S : jM) : Prop := jX E mX11_worked (jRm (d + 1) 0 0) (jZm E (fun r S' => ∃ v : Int32, r = some (.int v) ∧ Q v S') 0 0) 4 [(0, .ref a0), (1, .int x1), (2, .int x2), (3, .int x3)] [] S 0 0
set_option maxRecDepth 100000 in
set_option maxHeartbeats 4000000 in
theorem T_X11_worked {E : jEnv} {d : Nat} {Q : Int32 → jM → Prop} {a0 : Nat} {x1 : Int32} {S : jM} (h : L_X11_worked_4 E d Q a0 x1 0 0 S) : jFi E mX11_worked (d + 1) 0 0 [.ref a0, .int x1] S Q := by
  refine jF_of (by decide) (jle rfl) ?_
  refine jx_lv (lv1 := [(0, .ref a0), (1, .int x1)]) [0, 1] rfl ?_
  refine jx_iconst (v := 0) kd944.1 (by decide) ?_
  refine jx_istore_n (lv1 := [(2, .int 0), (0, .ref a0), (1, .int x1)]) kd944.2.1 rfl (by decide) rfl ?_
  refine jx_iconst (v := 0) kd944.2.2.1 (by decide) ?_
  refine jx_istore_n (lv1 := [(3, .int 0), (2, .int 0), (0, .ref a0), (1, .int x1)]) kd944.2.2.2.1 rfl (by decide) rfl ?_
  exact jx_lv [2, 3, 1, 0] rfl h
set_option maxRecDepth 100000 in
set_option maxHeartbeats 4000000 in
theorem T_X11_worked_4 {E : jEnv} {d : Nat} {Q : Int32 → jM → Prop} {a0 : Nat} {x1 : Int32} {x2 : Int32} {x3 : Int32} {S : jM} (h : jk S a0 = 11 ∧ ∃ b2, jr S a0 0 = some b2 ∧ (jk S b2 = 12 ∧ vp_in ((jtextat x1) + 2) (jl S b2) ∧ (((ji S b2 (Int32.toNatClampNeg ((jtextat x1) + 2))) ≤ x3 → ∃ b9, jr S a0 31 = some b9 ∧ (jk S b9 = 12 ∧ vp_in 0 (jl S b9) ∧ (Q (ji S b9 (Int32.toNatClampNeg 0)) S))) ∧ (¬ (ji S b2 (Int32.toNatClampNeg ((jtextat x1) + 2))) ≤ x3 → vp_in (((jtextat x1) + 4) + (2 * x3)) (jl S b2) ∧ (vp_in ((((jtextat x1) + 4) + (2 * x3)) + 1) (jl S b2) ∧ (((ji S b2 (Int32.toNatClampNeg (((jtextat x1) + 4) + (2 * x3)))) = 2 → ((ji S b2 (Int32.toNatClampNeg ((((jtextat x1) + 4) + (2 * x3)) + 1))) = 33 → ∃ b29, jr S a0 31 = some b29 ∧ (jk S b29 = 12 ∧ vp_in (x2 - 1) (jl S b29) ∧ (((ji S b29 (Int32.toNatClampNeg (x2 - 1))) = 0 → (L_X11_worked_4 E d Q a0 x1 x2 (x3 + 1) (jput S b29 (Int32.toNatClampNeg (x2 - 1)) 1))) ∧ (¬ (ji S b29 (Int32.toNatClampNeg (x2 - 1))) = 0 → (L_X11_worked_4 E d Q a0 x1 x2 (x3 + 1) (jput S b29 (Int32.toNatClampNeg (x2 - 1)) 0)))))) ∧ (¬ (ji S b2 (Int32.toNatClampNeg ((((jtextat x1) + 4) + (2 * x3)) + 1))) = 33 → ∃ b22, jr S a0 31 = some b22 ∧ (jk S b22 = 12 ∧ vp_in ((x2 + (-1)) - 1) (jl S b22) ∧ (vp_in (x2 + (-1)) (jl S b22) ∧ ((L_X11_worked_4 E d Q a0 x1 (x2 + (-1)) (x3 + 1) (jput S b22 (Int32.toNatClampNeg ((x2 + (-1)) - 1)) (jjoinM (ji S b2 (Int32.toNatClampNeg ((((jtextat x1) + 4) + (2 * x3)) + 1))) (ji S b22 (Int32.toNatClampNeg ((x2 + (-1)) - 1))) (ji S b22 (Int32.toNatClampNeg (x2 + (-1)))))))))))) ∧ (¬ (ji S b2 (Int32.toNatClampNeg (((jtextat x1) + 4) + (2 * x3)))) = 2 → ∃ b33, jr S a0 31 = some b33 ∧ (((ji S b2 (Int32.toNatClampNeg (((jtextat x1) + 4) + (2 * x3)))) = 0 → jk S b33 = 12 ∧ vp_in x2 (jl S b33) ∧ (L_X11_worked_4 E d Q a0 x1 (x2 + 1) (x3 + 1) (jput S b33 (Int32.toNatClampNeg x2) (ji S b2 (Int32.toNatClampNeg ((((jtextat x1) + 4) + (2 * x3)) + 1)))))) ∧ (¬ (ji S b2 (Int32.toNatClampNeg (((jtextat x1) + 4) + (2 * x3)))) = 0 → ∃ b35, jr S a0 30 = some b35 ∧ (jk S b35 = 12 ∧ vp_in (ji S b2 (Int32.toNatClampNeg ((((jtextat x1) + 4) + (2 * x3)) + 1))) (jl S b35) ∧ (jk S b33 = 12 ∧ vp_in x2 (jl S b33) ∧ (L_X11_worked_4 E d Q a0 x1 (x2 + 1) (x3 + 1) (jput S b33 (Int32.toNatClampNeg x2) (ji S b35 (Int32.toNatClampNeg (ji S b2 (Int32.toNatClampNeg ((((jtextat x1) + 4) + (2 * x3)) + 1)))))))))))))))))) : L_X11_worked_4 E d Q a0 x1 x2 x3 S := by
  show jX E mX11_worked (jRm (d + 1) 0 0) (jZm E (fun r S' => ∃ v : Int32, r = some (.int v) ∧ Q v S') 0 0) 4 [(0, .ref a0), (1, .int x1), (2, .int x2), (3, .int x3)] [] S 0 0
  refine jx_iload_n 3 kd944.2.2.2.2.1 rfl rfl ?_
  refine jx_aload_n 0 kd944.2.2.2.2.2.1 rfl rfl ?_
  obtain ⟨hk1, h⟩ := h
  obtain ⟨b2, hb2, h⟩ := h
  refine jx_getr jc_11 (j := 0) (by decide) rfl jwF_X11_7 kd944.2.2.2.2.2.2.1 hk1 hb2 ?_
  refine jx_aload_n 0 kd944.2.2.2.2.2.2.2.1 rfl rfl ?_
  refine jx_iload_n 1 kd944.2.2.2.2.2.2.2.2.1 rfl rfl ?_
  refine jx_callVi (M' := mX11_textAt) (As := [.int x1]) jo_X11_textAt jc_11 rfl jwM_X11_296 jwN_X11_textAt jwX_X11_textAt kd945.1 (jRok_m _ _ _) rfl (jle rfl) ⟨jle rfl, jle rfl⟩ hk1 (c_X11_textAt (Q := fun v S' => v = (jtextat x1) ∧ S = S') ⟨rfl, rfl⟩) (fun r3 S4 hq5 => ?_)
  obtain ⟨rfl, rfl⟩ := hq5
  refine jx_iconst (v := 2) kd945.2.1 (by decide) ?_
  refine jx_iadd kd945.2.2.1 ?_
  obtain ⟨hk6, h⟩ := h
  obtain ⟨hi7, h⟩ := h
  refine jx_iald kd945.2.2.2.1 hk6 hi7 ?_
  refine jx_icmp_ge (tgt := 163) kd945.2.2.2.2.1 (by decide) (fun c8 => ?_) (fun c8 => ?_)
  · replace h := h.1 c8
    refine jx_aload_n 0 kd955.2.1 rfl rfl ?_
    obtain ⟨b9, hb9, h⟩ := h
    refine jx_getr jc_11 (j := 31) (by decide) rfl jwF_X11_58 kd955.2.2.1 hk1 hb9 ?_
    refine jx_iconst (v := 0) kd955.2.2.2.1 (by decide) ?_
    obtain ⟨hk10, h⟩ := h
    obtain ⟨hi11, h⟩ := h
    refine jx_iald kd955.2.2.2.2.1 hk10 hi11 ?_
    exact jx_iret kd955.2.2.2.2.2.1 rfl rfl (jle rfl) (jle rfl) ⟨_, rfl, h⟩
  replace h := h.2 c8
  refine jx_aload_n 0 kd945.2.2.2.2.2.1 rfl rfl ?_
  refine jx_getr jc_11 (j := 0) (by decide) rfl jwF_X11_7 kd945.2.2.2.2.2.2.1 hk1 hb2 ?_
  refine jx_aload_n 0 kd945.2.2.2.2.2.2.2.1 rfl rfl ?_
  refine jx_iload_n 1 kd945.2.2.2.2.2.2.2.2.1 rfl rfl ?_
  refine jx_callVi (M' := mX11_textAt) (As := [.int x1]) jo_X11_textAt jc_11 rfl jwM_X11_296 jwN_X11_textAt jwX_X11_textAt kd946.1 (jRok_m _ _ _) rfl (jle rfl) ⟨jle rfl, jle rfl⟩ hk1 (c_X11_textAt (Q := fun v S' => v = (jtextat x1) ∧ S = S') ⟨rfl, rfl⟩) (fun r12 S13 hq14 => ?_)
  obtain ⟨rfl, rfl⟩ := hq14
  refine jx_iconst (v := 4) kd946.2.1 (by decide) ?_
  refine jx_iadd kd946.2.2.1 ?_
  refine jx_iconst (v := 2) kd946.2.2.2.1 (by decide) ?_
  refine jx_iload_n 3 kd946.2.2.2.2.1 rfl rfl ?_
  refine jx_imul kd946.2.2.2.2.2.1 ?_
  refine jx_iadd kd946.2.2.2.2.2.2.1 ?_
  obtain ⟨hi15, h⟩ := h
  refine jx_iald kd946.2.2.2.2.2.2.2.1 hk6 hi15 ?_
  refine jx_istore (lv1 := [(4, .int (ji S b2 (Int32.toNatClampNeg (((jtextat x1) + 4) + (2 * x3))))), (0, .ref a0), (1, .int x1), (2, .int x2), (3, .int x3)]) kd946.2.2.2.2.2.2.2.2.1 (by decide) rfl ?_
  refine jx_aload_n 1 kd947.1 rfl rfl ?_
  refine jx_getr jc_11 (j := 0) (by decide) rfl jwF_X11_7 kd947.2.1 hk1 hb2 ?_
  refine jx_aload_n 1 kd947.2.2.1 rfl rfl ?_
  refine jx_iload_n 2 kd947.2.2.2.1 rfl rfl ?_
  refine jx_callVi (M' := mX11_textAt) (As := [.int x1]) jo_X11_textAt jc_11 rfl jwM_X11_296 jwN_X11_textAt jwX_X11_textAt kd947.2.2.2.2.1 (jRok_m _ _ _) rfl (jle rfl) ⟨jle rfl, jle rfl⟩ hk1 (c_X11_textAt (Q := fun v S' => v = (jtextat x1) ∧ S = S') ⟨rfl, rfl⟩) (fun r16 S17 hq18 => ?_)
  obtain ⟨rfl, rfl⟩ := hq18
  refine jx_iconst (v := 4) kd947.2.2.2.2.2.1 (by decide) ?_
  refine jx_iadd kd947.2.2.2.2.2.2.1 ?_
  refine jx_iconst (v := 2) kd947.2.2.2.2.2.2.2.1 (by decide) ?_
  refine jx_iload_n 4 kd947.2.2.2.2.2.2.2.2.1 rfl rfl ?_
  refine jx_imul kd948.1 ?_
  refine jx_iadd kd948.2.1 ?_
  refine jx_iconst (v := 1) kd948.2.2.1 (by decide) ?_
  refine jx_iadd kd948.2.2.2.1 ?_
  obtain ⟨hi19, h⟩ := h
  refine jx_iald kd948.2.2.2.2.1 hk6 hi19 ?_
  refine jx_istore (lv1 := [(5, .int (ji S b2 (Int32.toNatClampNeg ((((jtextat x1) + 4) + (2 * x3)) + 1)))), (4, .int (ji S b2 (Int32.toNatClampNeg (((jtextat x1) + 4) + (2 * x3))))), (0, .ref a0), (1, .int x1), (2, .int x2), (3, .int x3)]) kd948.2.2.2.2.2.1 (by decide) rfl ?_
  refine jx_iload 1 kd948.2.2.2.2.2.2.1 rfl ?_
  refine jx_iconst (v := 2) kd948.2.2.2.2.2.2.2.1 (by decide) ?_
  refine jx_icmp_eq (tgt := 93) kd948.2.2.2.2.2.2.2.2.1 (by decide) (fun c20 => ?_) (fun c20 => ?_)
  · replace h := h.1 c20
    refine jx_iload 0 kd950.2.2.2.2.2.1 rfl ?_
    refine jx_bipush (v := 33) kd950.2.2.2.2.2.2.1 (by decide) ?_
    refine jx_icmp_ne (tgt := 127) kd950.2.2.2.2.2.2.2.1 (by decide) (fun c21 => ?_) (fun c21 => ?_)
    · replace h := h.2 c21
      refine jx_iinc 4 (v := (x2 + (-1))) (lv1 := [(2, .int (x2 + (-1))), (5, .int (ji S b2 (Int32.toNatClampNeg ((((jtextat x1) + 4) + (2 * x3)) + 1)))), (4, .int (ji S b2 (Int32.toNatClampNeg (((jtextat x1) + 4) + (2 * x3))))), (0, .ref a0), (1, .int x1), (3, .int x3)]) kd952.2.2.2.2.2.2.2.1 rfl rfl (by decide) rfl ?_
      refine jx_aload_n 3 kd952.2.2.2.2.2.2.2.2.1 rfl rfl ?_
      obtain ⟨b22, hb22, h⟩ := h
      refine jx_getr jc_11 (j := 31) (by decide) rfl jwF_X11_58 kd953.1 hk1 hb22 ?_
      refine jx_iload_n 0 kd953.2.1 rfl rfl ?_
      refine jx_iconst (v := 1) kd953.2.2.1 (by decide) ?_
      refine jx_isub kd953.2.2.2.1 ?_
      refine jx_iload 1 kd953.2.2.2.2.1 rfl ?_
      refine jx_aload_n 3 kd953.2.2.2.2.2.1 rfl rfl ?_
      refine jx_getr jc_11 (j := 31) (by decide) rfl jwF_X11_58 kd953.2.2.2.2.2.2.1 hk1 hb22 ?_
      refine jx_iload_n 0 kd953.2.2.2.2.2.2.2.1 rfl rfl ?_
      refine jx_iconst (v := 1) kd953.2.2.2.2.2.2.2.2.1 (by decide) ?_
      refine jx_isub kd954.1 ?_
      obtain ⟨hk23, h⟩ := h
      obtain ⟨hi24, h⟩ := h
      refine jx_iald kd954.2.1 hk23 hi24 ?_
      refine jx_aload_n 3 kd954.2.2.1 rfl rfl ?_
      refine jx_getr jc_11 (j := 31) (by decide) rfl jwF_X11_58 kd954.2.2.2.1 hk1 hb22 ?_
      refine jx_iload_n 0 kd954.2.2.2.2.1 rfl rfl ?_
      obtain ⟨hi25, h⟩ := h
      refine jx_iald kd954.2.2.2.2.2.1 hk23 hi25 ?_
      refine jx_callSi (M' := mX11_joined) (As := [.int (ji S b2 (Int32.toNatClampNeg ((((jtextat x1) + 4) + (2 * x3)) + 1))), .int (ji S b22 (Int32.toNatClampNeg ((x2 + (-1)) - 1))), .int (ji S b22 (Int32.toNatClampNeg (x2 + (-1))))]) jo_X11_joined jwM_X11_311 jwS_X11_joined kd954.2.2.2.2.2.2.1 (jRok_m _ _ _) rfl (jle rfl) ⟨jle rfl, jle rfl⟩ (c_X11_joined (Q := fun v S' => v = (jjoinM (ji S b2 (Int32.toNatClampNeg ((((jtextat x1) + 4) + (2 * x3)) + 1))) (ji S b22 (Int32.toNatClampNeg ((x2 + (-1)) - 1))) (ji S b22 (Int32.toNatClampNeg (x2 + (-1))))) ∧ S = S') ⟨rfl, rfl⟩) (fun r26 S27 hq28 => ?_)
      obtain ⟨rfl, rfl⟩ := hq28
      refine jx_iast kd954.2.2.2.2.2.2.2.1 hk23 hi24 ?_
      refine jx_iinc 5 (v := (x3 + 1)) (lv1 := [(3, .int (x3 + 1)), (2, .int (x2 + (-1))), (5, .int (ji S b2 (Int32.toNatClampNeg ((((jtextat x1) + 4) + (2 * x3)) + 1)))), (4, .int (ji S b2 (Int32.toNatClampNeg (((jtextat x1) + 4) + (2 * x3))))), (0, .ref a0), (1, .int x1)]) kd954.2.2.2.2.2.2.2.2.1 rfl rfl (by decide) rfl ?_
      refine jx_goto (tgt := 4) kd955.1 (by decide) ?_
      exact jx_lv [4, 5, 1, 0] rfl h
    replace h := h.1 c21
    refine jx_aload_n 2 kd950.2.2.2.2.2.2.2.2.1 rfl rfl ?_
    obtain ⟨b29, hb29, h⟩ := h
    refine jx_getr jc_11 (j := 31) (by decide) rfl jwF_X11_58 kd951.1 hk1 hb29 ?_
    refine jx_iload_n 4 kd951.2.1 rfl rfl ?_
    refine jx_iconst (v := 1) kd951.2.2.1 (by decide) ?_
    refine jx_isub kd951.2.2.2.1 ?_
    refine jx_aload_n 2 kd951.2.2.2.2.1 rfl rfl ?_
    refine jx_getr jc_11 (j := 31) (by decide) rfl jwF_X11_58 kd951.2.2.2.2.2.1 hk1 hb29 ?_
    refine jx_iload_n 4 kd951.2.2.2.2.2.2.1 rfl rfl ?_
    refine jx_iconst (v := 1) kd951.2.2.2.2.2.2.2.1 (by decide) ?_
    refine jx_isub kd951.2.2.2.2.2.2.2.2.1 ?_
    obtain ⟨hk30, h⟩ := h
    obtain ⟨hi31, h⟩ := h
    refine jx_iald kd952.1 hk30 hi31 ?_
    refine jx_if_ne (tgt := 122) kd952.2.1 (by decide) (fun c32 => ?_) (fun c32 => ?_)
    · replace h := h.2 c32
      refine jx_iconst (v := 0) kd952.2.2.2.2.1 (by decide) ?_
      refine jx_iast kd952.2.2.2.2.2.1 hk30 hi31 ?_
      refine jx_goto (tgt := 157) kd952.2.2.2.2.2.2.1 (by decide) ?_
      refine jx_iinc 5 (v := (x3 + 1)) (lv1 := [(3, .int (x3 + 1)), (5, .int (ji S b2 (Int32.toNatClampNeg ((((jtextat x1) + 4) + (2 * x3)) + 1)))), (4, .int (ji S b2 (Int32.toNatClampNeg (((jtextat x1) + 4) + (2 * x3))))), (0, .ref a0), (1, .int x1), (2, .int x2)]) kd954.2.2.2.2.2.2.2.2.1 rfl rfl (by decide) rfl ?_
      refine jx_goto (tgt := 4) kd955.1 (by decide) ?_
      exact jx_lv [3, 4, 5, 0] rfl h
    replace h := h.1 c32
    refine jx_iconst (v := 1) kd952.2.2.1 (by decide) ?_
    refine jx_goto (tgt := 123) kd952.2.2.2.1 (by decide) ?_
    refine jx_iast kd952.2.2.2.2.2.1 hk30 hi31 ?_
    refine jx_goto (tgt := 157) kd952.2.2.2.2.2.2.1 (by decide) ?_
    refine jx_iinc 5 (v := (x3 + 1)) (lv1 := [(3, .int (x3 + 1)), (5, .int (ji S b2 (Int32.toNatClampNeg ((((jtextat x1) + 4) + (2 * x3)) + 1)))), (4, .int (ji S b2 (Int32.toNatClampNeg (((jtextat x1) + 4) + (2 * x3))))), (0, .ref a0), (1, .int x1), (2, .int x2)]) kd954.2.2.2.2.2.2.2.2.1 rfl rfl (by decide) rfl ?_
    refine jx_goto (tgt := 4) kd955.1 (by decide) ?_
    exact jx_lv [3, 4, 5, 0] rfl h
  replace h := h.2 c20
  refine jx_aload_n 2 kd949.1 rfl rfl ?_
  obtain ⟨b33, hb33, h⟩ := h
  refine jx_getr jc_11 (j := 31) (by decide) rfl jwF_X11_58 kd949.2.1 hk1 hb33 ?_
  refine jx_iload_n 4 kd949.2.2.1 rfl rfl ?_
  refine jx_iload 1 kd949.2.2.2.1 rfl ?_
  refine jx_if_ne (tgt := 79) kd949.2.2.2.2.1 (by decide) (fun c34 => ?_) (fun c34 => ?_)
  · replace h := h.2 c34
    refine jx_aload_n 2 kd949.2.2.2.2.2.2.2.1 rfl rfl ?_
    obtain ⟨b35, hb35, h⟩ := h
    refine jx_getr jc_11 (j := 30) (by decide) rfl jwF_X11_55 kd949.2.2.2.2.2.2.2.2.1 hk1 hb35 ?_
    refine jx_iload 0 kd950.1 rfl ?_
    obtain ⟨hk36, h⟩ := h
    obtain ⟨hi37, h⟩ := h
    refine jx_iald kd950.2.1 hk36 hi37 ?_
    obtain ⟨hk38, h⟩ := h
    obtain ⟨hi39, h⟩ := h
    refine jx_iast kd950.2.2.1 hk38 hi39 ?_
    refine jx_iinc 4 (v := (x2 + 1)) (lv1 := [(2, .int (x2 + 1)), (5, .int (ji S b2 (Int32.toNatClampNeg ((((jtextat x1) + 4) + (2 * x3)) + 1)))), (4, .int (ji S b2 (Int32.toNatClampNeg (((jtextat x1) + 4) + (2 * x3))))), (0, .ref a0), (1, .int x1), (3, .int x3)]) kd950.2.2.2.1 rfl rfl (by decide) rfl ?_
    refine jx_goto (tgt := 157) kd950.2.2.2.2.1 (by decide) ?_
    refine jx_iinc 5 (v := (x3 + 1)) (lv1 := [(3, .int (x3 + 1)), (2, .int (x2 + 1)), (5, .int (ji S b2 (Int32.toNatClampNeg ((((jtextat x1) + 4) + (2 * x3)) + 1)))), (4, .int (ji S b2 (Int32.toNatClampNeg (((jtextat x1) + 4) + (2 * x3))))), (0, .ref a0), (1, .int x1)]) kd954.2.2.2.2.2.2.2.2.1 rfl rfl (by decide) rfl ?_
    refine jx_goto (tgt := 4) kd955.1 (by decide) ?_
    exact jx_lv [4, 5, 1, 0] rfl h
  replace h := h.1 c34
  refine jx_iload 0 kd949.2.2.2.2.2.1 rfl ?_
  refine jx_goto (tgt := 86) kd949.2.2.2.2.2.2.1 (by decide) ?_
  obtain ⟨hk40, h⟩ := h
  obtain ⟨hi41, h⟩ := h
  refine jx_iast kd950.2.2.1 hk40 hi41 ?_
  refine jx_iinc 4 (v := (x2 + 1)) (lv1 := [(2, .int (x2 + 1)), (5, .int (ji S b2 (Int32.toNatClampNeg ((((jtextat x1) + 4) + (2 * x3)) + 1)))), (4, .int (ji S b2 (Int32.toNatClampNeg (((jtextat x1) + 4) + (2 * x3))))), (0, .ref a0), (1, .int x1), (3, .int x3)]) kd950.2.2.2.1 rfl rfl (by decide) rfl ?_
  refine jx_goto (tgt := 157) kd950.2.2.2.2.1 (by decide) ?_
  refine jx_iinc 5 (v := (x3 + 1)) (lv1 := [(3, .int (x3 + 1)), (2, .int (x2 + 1)), (5, .int (ji S b2 (Int32.toNatClampNeg ((((jtextat x1) + 4) + (2 * x3)) + 1)))), (4, .int (ji S b2 (Int32.toNatClampNeg (((jtextat x1) + 4) + (2 * x3))))), (0, .ref a0), (1, .int x1)]) kd954.2.2.2.2.2.2.2.2.1 rfl rfl (by decide) rfl ?_
  refine jx_goto (tgt := 4) kd955.1 (by decide) ?_
  exact jx_lv [4, 5, 1, 0] rfl h
/-- X11_sheet at its loop's head 69 -/
abbrev L_X11_sheet_69 (E : jEnv) (d : Nat) (Q : Int32 → jM → Prop) (a0 : Nat) (x1 : Int32) (x4 : Int32) (S : jM) : Prop := jX E mX11_sheet (jRm (d + 2) 0 0) (jZm E (fun r S' => ∃ v : Int32, r = some (.int v) ∧ Q v S') 0 0) 69 [(0, .ref a0), (1, .int x1), (4, .int x4)] [] S 0 0
set_option maxRecDepth 100000 in
set_option maxHeartbeats 4000000 in
theorem T_X11_sheet {E : jEnv} {d : Nat} {Q : Int32 → jM → Prop} {a0 : Nat} {x1 : Int32} {x2 : Int32} {x3 : Int32} {S : jM} (h : ((jissheet x1) = 0 → Q (-1000000001) S) ∧ (¬ (jissheet x1) = 0 → ((jisin (Int32.toInt64 x2) (-1) 1) = 0 → Q (-1000000001) S) ∧ (¬ (jisin (Int32.toInt64 x2) (-1) 1) = 0 → (x2 < 0 → jk S a0 = 11 ∧ ∃ b11, jr S a0 4 = some b11 ∧ (jk S b11 = 12 ∧ vp_in x1 (jl S b11) ∧ (∃ b14, jr S a0 5 = some b14 ∧ ((0 ≤ x2 → jk S b14 = 12 ∧ vp_in x1 (jl S b14) ∧ (L_X11_sheet_69 E d Q a0 x1 0 (jput (jput S b11 (Int32.toNatClampNeg x1) x2) b14 (Int32.toNatClampNeg x1) x3))) ∧ (¬ 0 ≤ x2 → jk S b14 = 12 ∧ vp_in x1 (jl S b14) ∧ (L_X11_sheet_69 E d Q a0 x1 0 (jput (jput S b11 (Int32.toNatClampNeg x1) x2) b14 (Int32.toNatClampNeg x1) 0))))))) ∧ (¬ x2 < 0 → (x3 ≤ 24 → (0 ≤ x3 → jk S a0 = 11 ∧ ∃ b23, jr S a0 4 = some b23 ∧ (jk S b23 = 12 ∧ vp_in x1 (jl S b23) ∧ (∃ b26, jr S a0 5 = some b26 ∧ ((0 ≤ x2 → jk S b26 = 12 ∧ vp_in x1 (jl S b26) ∧ (L_X11_sheet_69 E d Q a0 x1 0 (jput (jput S b23 (Int32.toNatClampNeg x1) x2) b26 (Int32.toNatClampNeg x1) x3))) ∧ (¬ 0 ≤ x2 → jk S b26 = 12 ∧ vp_in x1 (jl S b26) ∧ (L_X11_sheet_69 E d Q a0 x1 0 (jput (jput S b23 (Int32.toNatClampNeg x1) x2) b26 (Int32.toNatClampNeg x1) 0))))))) ∧ (¬ 0 ≤ x3 → Q (-1000000014) S)) ∧ (¬ x3 ≤ 24 → Q (-1000000001) S))))) : jFi E mX11_sheet (d + 2) 0 0 [.ref a0, .int x1, .int x2, .int x3] S Q := by
  refine jF_of (by decide) (jle rfl) ?_
  refine jx_lv (lv1 := [(0, .ref a0), (1, .int x1), (2, .int x2), (3, .int x3)]) [0, 1, 2, 3] rfl ?_
  refine jx_iload_n 1 kd957.1 rfl rfl ?_
  refine jx_callSi (M' := mX11_isSheet) (As := [.int x1]) jo_X11_isSheet jwM_X11_314 jwS_X11_isSheet kd957.2.1 (jRok_m _ _ _) rfl (jle rfl) ⟨jle rfl, jle rfl⟩ (c_X11_isSheet (Q := fun v S' => v = (jissheet x1) ∧ S = S') ⟨rfl, rfl⟩) (fun r1 S2 hq3 => ?_)
  obtain ⟨rfl, rfl⟩ := hq3
  refine jx_if_eq (tgt := 29) kd957.2.2.1 (by decide) (fun c4 => ?_) (fun c4 => ?_)
  · replace h := h.1 c4
    refine jx_ldc jwC_X11_87 kd958.2.2.2.2.2.1 ?_
    exact jx_iret kd958.2.2.2.2.2.2.1 rfl rfl (jle rfl) (jle rfl) ⟨_, rfl, h⟩
  replace h := h.2 c4
  refine jx_iload_n 2 kd957.2.2.2.1 rfl rfl ?_
  refine jx_i2l kd957.2.2.2.2.1 ?_
  refine jx_ldc2 jwL_X11_317 kd957.2.2.2.2.2.1 ?_
  refine jx_lconst (v := 1) kd957.2.2.2.2.2.2.1 (by decide) ?_
  refine jx_callSi (M' := mX11_isIn) (As := [.long (Int32.toInt64 x2), .long (-1), .long 1]) jo_X11_isIn jwM_X11_71 jwS_X11_isIn kd957.2.2.2.2.2.2.2.1 (jRok_m _ _ _) rfl (jle rfl) ⟨jle rfl, jle rfl⟩ (c_X11_isIn (Q := fun v S' => v = (jisin (Int32.toInt64 x2) (-1) 1) ∧ S = S') ⟨rfl, rfl⟩) (fun r5 S6 hq7 => ?_)
  obtain ⟨rfl, rfl⟩ := hq7
  refine jx_if_eq (tgt := 29) kd957.2.2.2.2.2.2.2.2.1 (by decide) (fun c8 => ?_) (fun c8 => ?_)
  · replace h := h.1 c8
    refine jx_ldc jwC_X11_87 kd958.2.2.2.2.2.1 ?_
    exact jx_iret kd958.2.2.2.2.2.2.1 rfl rfl (jle rfl) (jle rfl) ⟨_, rfl, h⟩
  replace h := h.2 c8
  refine jx_iload_n 2 kd958.1 rfl rfl ?_
  refine jx_if_lt (tgt := 32) kd958.2.1 (by decide) (fun c9 => ?_) (fun c9 => ?_)
  · replace h := h.1 c9
    refine jx_iload_n 2 kd958.2.2.2.2.2.2.2.1 rfl rfl ?_
    refine jx_if_lt (tgt := 44) kd958.2.2.2.2.2.2.2.2.1 (by decide) (fun _ => ?_) (fun z9 => absurd c9 z9)
    refine jx_aload_n 0 kd959.2.2.2.2.1 rfl rfl ?_
    obtain ⟨hk10, h⟩ := h
    obtain ⟨b11, hb11, h⟩ := h
    refine jx_getr jc_11 (j := 4) (by decide) rfl jwF_X11_19 kd959.2.2.2.2.2.1 hk10 hb11 ?_
    refine jx_iload_n 1 kd959.2.2.2.2.2.2.1 rfl rfl ?_
    refine jx_iload_n 2 kd959.2.2.2.2.2.2.2.1 rfl rfl ?_
    obtain ⟨hk12, h⟩ := h
    obtain ⟨hi13, h⟩ := h
    refine jx_iast kd959.2.2.2.2.2.2.2.2.1 hk12 hi13 ?_
    refine jx_aload_n 0 kd960.1 rfl rfl ?_
    obtain ⟨b14, hb14, h⟩ := h
    refine jx_getr jc_11 (j := 5) (by decide) rfl jwF_X11_22 kd960.2.1 hk10 hb14 ?_
    refine jx_iload_n 1 kd960.2.2.1 rfl rfl ?_
    refine jx_iload_n 2 kd960.2.2.2.1 rfl rfl ?_
    refine jx_if_ge (tgt := 64) kd960.2.2.2.2.1 (by decide) (fun c15 => ?_) (fun c15 => ?_)
    · replace h := h.1 c15
      refine jx_iload_n 3 kd960.2.2.2.2.2.2.2.1 rfl rfl ?_
      obtain ⟨hk16, h⟩ := h
      obtain ⟨hi17, h⟩ := h
      refine jx_iast kd960.2.2.2.2.2.2.2.2.1 hk16 hi17 ?_
      refine jx_iconst (v := 0) kd961.1 (by decide) ?_
      refine jx_istore (lv1 := [(4, .int 0), (0, .ref a0), (1, .int x1), (2, .int x2), (3, .int x3)]) kd961.2.1 (by decide) rfl ?_
      exact jx_lv [1, 2, 0] rfl h
    replace h := h.2 c15
    refine jx_iconst (v := 0) kd960.2.2.2.2.2.1 (by decide) ?_
    refine jx_goto (tgt := 65) kd960.2.2.2.2.2.2.1 (by decide) ?_
    obtain ⟨hk18, h⟩ := h
    obtain ⟨hi19, h⟩ := h
    refine jx_iast kd960.2.2.2.2.2.2.2.2.1 hk18 hi19 ?_
    refine jx_iconst (v := 0) kd961.1 (by decide) ?_
    refine jx_istore (lv1 := [(4, .int 0), (0, .ref a0), (1, .int x1), (2, .int x2), (3, .int x3)]) kd961.2.1 (by decide) rfl ?_
    exact jx_lv [1, 2, 0] rfl h
  replace h := h.2 c9
  refine jx_iload_n 3 kd958.2.2.1 rfl rfl ?_
  refine jx_bipush (v := 24) kd958.2.2.2.1 (by decide) ?_
  refine jx_icmp_le (tgt := 32) kd958.2.2.2.2.1 (by decide) (fun c20 => ?_) (fun c20 => ?_)
  · replace h := h.1 c20
    refine jx_iload_n 2 kd958.2.2.2.2.2.2.2.1 rfl rfl ?_
    refine jx_if_lt (tgt := 44) kd958.2.2.2.2.2.2.2.2.1 (by decide) (fun z9 => absurd z9 c9) (fun _ => ?_)
    refine jx_iload_n 3 kd959.1 rfl rfl ?_
    refine jx_if_ge (tgt := 44) kd959.2.1 (by decide) (fun c21 => ?_) (fun c21 => ?_)
    · replace h := h.1 c21
      refine jx_aload_n 0 kd959.2.2.2.2.1 rfl rfl ?_
      obtain ⟨hk22, h⟩ := h
      obtain ⟨b23, hb23, h⟩ := h
      refine jx_getr jc_11 (j := 4) (by decide) rfl jwF_X11_19 kd959.2.2.2.2.2.1 hk22 hb23 ?_
      refine jx_iload_n 1 kd959.2.2.2.2.2.2.1 rfl rfl ?_
      refine jx_iload_n 2 kd959.2.2.2.2.2.2.2.1 rfl rfl ?_
      obtain ⟨hk24, h⟩ := h
      obtain ⟨hi25, h⟩ := h
      refine jx_iast kd959.2.2.2.2.2.2.2.2.1 hk24 hi25 ?_
      refine jx_aload_n 0 kd960.1 rfl rfl ?_
      obtain ⟨b26, hb26, h⟩ := h
      refine jx_getr jc_11 (j := 5) (by decide) rfl jwF_X11_22 kd960.2.1 hk22 hb26 ?_
      refine jx_iload_n 1 kd960.2.2.1 rfl rfl ?_
      refine jx_iload_n 2 kd960.2.2.2.1 rfl rfl ?_
      refine jx_if_ge (tgt := 64) kd960.2.2.2.2.1 (by decide) (fun c27 => ?_) (fun c27 => ?_)
      · replace h := h.1 c27
        refine jx_iload_n 3 kd960.2.2.2.2.2.2.2.1 rfl rfl ?_
        obtain ⟨hk28, h⟩ := h
        obtain ⟨hi29, h⟩ := h
        refine jx_iast kd960.2.2.2.2.2.2.2.2.1 hk28 hi29 ?_
        refine jx_iconst (v := 0) kd961.1 (by decide) ?_
        refine jx_istore (lv1 := [(4, .int 0), (0, .ref a0), (1, .int x1), (2, .int x2), (3, .int x3)]) kd961.2.1 (by decide) rfl ?_
        exact jx_lv [1, 2, 0] rfl h
      replace h := h.2 c27
      refine jx_iconst (v := 0) kd960.2.2.2.2.2.1 (by decide) ?_
      refine jx_goto (tgt := 65) kd960.2.2.2.2.2.2.1 (by decide) ?_
      obtain ⟨hk30, h⟩ := h
      obtain ⟨hi31, h⟩ := h
      refine jx_iast kd960.2.2.2.2.2.2.2.2.1 hk30 hi31 ?_
      refine jx_iconst (v := 0) kd961.1 (by decide) ?_
      refine jx_istore (lv1 := [(4, .int 0), (0, .ref a0), (1, .int x1), (2, .int x2), (3, .int x3)]) kd961.2.1 (by decide) rfl ?_
      exact jx_lv [1, 2, 0] rfl h
    replace h := h.2 c21
    refine jx_ldcw jwC_X11_319 kd959.2.2.1 ?_
    exact jx_iret kd959.2.2.2.1 rfl rfl (jle rfl) (jle rfl) ⟨_, rfl, h⟩
  replace h := h.2 c20
  refine jx_ldc jwC_X11_87 kd958.2.2.2.2.2.1 ?_
  exact jx_iret kd958.2.2.2.2.2.2.1 rfl rfl (jle rfl) (jle rfl) ⟨_, rfl, h⟩
set_option maxRecDepth 100000 in
set_option maxHeartbeats 4000000 in
theorem T_X11_sheet_69 {E : jEnv} {d : Nat} {Q : Int32 → jM → Prop} {a0 : Nat} {x1 : Int32} {x4 : Int32} {S : jM} (h : (24 ≤ x4 → jk S a0 = 11 ∧ ∃ b34, jr S a0 5 = some b34 ∧ (jk S b34 = 12 ∧ vp_in x1 (jl S b34) ∧ (Q (ji S b34 (Int32.toNatClampNeg x1)) S))) ∧ (¬ 24 ≤ x4 → jk S a0 = 11 ∧ ∃ b38, jr S a0 6 = some b38 ∧ (jk S b38 = 12 ∧ vp_in ((24 * x1) + x4) (jl S b38) ∧ (L_X11_sheet_69 E d Q a0 x1 (x4 + 1) (jput S b38 (Int32.toNatClampNeg ((24 * x1) + x4)) 0))))) : L_X11_sheet_69 E d Q a0 x1 x4 S := by
  show jX E mX11_sheet (jRm (d + 2) 0 0) (jZm E (fun r S' => ∃ v : Int32, r = some (.int v) ∧ Q v S') 0 0) 69 [(0, .ref a0), (1, .int x1), (4, .int x4)] [] S 0 0
  refine jx_iload 2 kd961.2.2.1 rfl ?_
  refine jx_bipush (v := 24) kd961.2.2.2.1 (by decide) ?_
  refine jx_icmp_ge (tgt := 95) kd961.2.2.2.2.1 (by decide) (fun c32 => ?_) (fun c32 => ?_)
  · replace h := h.1 c32
    refine jx_aload_n 0 kd962.2.2.2.2.2.2.2.1 rfl rfl ?_
    obtain ⟨hk33, h⟩ := h
    obtain ⟨b34, hb34, h⟩ := h
    refine jx_getr jc_11 (j := 5) (by decide) rfl jwF_X11_22 kd962.2.2.2.2.2.2.2.2.1 hk33 hb34 ?_
    refine jx_iload_n 1 kd963.1 rfl rfl ?_
    obtain ⟨hk35, h⟩ := h
    obtain ⟨hi36, h⟩ := h
    refine jx_iald kd963.2.1 hk35 hi36 ?_
    exact jx_iret kd963.2.2.1 rfl rfl (jle rfl) (jle rfl) ⟨_, rfl, h⟩
  replace h := h.2 c32
  refine jx_aload_n 0 kd961.2.2.2.2.2.1 rfl rfl ?_
  obtain ⟨hk37, h⟩ := h
  obtain ⟨b38, hb38, h⟩ := h
  refine jx_getr jc_11 (j := 6) (by decide) rfl jwF_X11_25 kd961.2.2.2.2.2.2.1 hk37 hb38 ?_
  refine jx_bipush (v := 24) kd961.2.2.2.2.2.2.2.1 (by decide) ?_
  refine jx_iload_n 1 kd961.2.2.2.2.2.2.2.2.1 rfl rfl ?_
  refine jx_imul kd962.1 ?_
  refine jx_iload 2 kd962.2.1 rfl ?_
  refine jx_iadd kd962.2.2.1 ?_
  refine jx_iconst (v := 0) kd962.2.2.2.1 (by decide) ?_
  obtain ⟨hk39, h⟩ := h
  obtain ⟨hi40, h⟩ := h
  refine jx_iast kd962.2.2.2.2.1 hk39 hi40 ?_
  refine jx_iinc 2 (v := (x4 + 1)) (lv1 := [(4, .int (x4 + 1)), (0, .ref a0), (1, .int x1)]) kd962.2.2.2.2.2.1 rfl rfl (by decide) rfl ?_
  refine jx_goto (tgt := 69) kd962.2.2.2.2.2.2.1 (by decide) ?_
  exact jx_lv [1, 2, 0] rfl h
set_option maxRecDepth 100000 in
set_option maxHeartbeats 4000000 in
theorem T_X11_mark {E : jEnv} {d : Nat} {Q : Int32 → jM → Prop} {a0 : Nat} {x1 : Int32} {x2 : Int32} {x3 : Int32} {S : jM} (h : ((jissheet x1) = 0 → Q (-1000000001) S) ∧ (¬ (jissheet x1) = 0 → jk S a0 = 11 ∧ ∃ b6, jr S a0 4 = some b6 ∧ (jk S b6 = 12 ∧ vp_in x1 (jl S b6) ∧ ((0 ≤ (ji S b6 (Int32.toNatClampNeg x1)) → ∃ b10, jr S a0 5 = some b10 ∧ (jk S b10 = 12 ∧ vp_in x1 (jl S b10) ∧ (((jisin (Int32.toInt64 x2) 0 (Int32.toInt64 ((ji S b10 (Int32.toNatClampNeg x1)) - 1))) = 0 → Q (-1000000013) S) ∧ (¬ (jisin (Int32.toInt64 x2) 0 (Int32.toInt64 ((ji S b10 (Int32.toNatClampNeg x1)) - 1))) = 0 → (((ji S b6 (Int32.toNatClampNeg x1)) = 0 → (x3 = (-1000000005) → Q (-1000000012) S) ∧ (¬ x3 = (-1000000005) → (((ji S b6 (Int32.toNatClampNeg x1)) = 1 → ((jisin (Int32.toInt64 x3) (-99999) 99999) = 0 → Q (-1000000001) S) ∧ (¬ (jisin (Int32.toInt64 x3) (-99999) 99999) = 0 → ∃ b42, jr S a0 6 = some b42 ∧ ((jk S b42 = 12 ∧ vp_in ((24 * x1) + x2) (jl S b42) ∧ (Q 1 (jput S b42 (Int32.toNatClampNeg ((24 * x1) + x2)) (jshr (jshl x3 16) 16))))))) ∧ (¬ (ji S b6 (Int32.toNatClampNeg x1)) = 1 → ∃ b35, jr S a0 6 = some b35 ∧ ((jk S b35 = 12 ∧ vp_in ((24 * x1) + x2) (jl S b35) ∧ (Q 1 (jput S b35 (Int32.toNatClampNeg ((24 * x1) + x2)) (jshr (jshl x3 16) 16))))))))) ∧ (¬ (ji S b6 (Int32.toNatClampNeg x1)) = 0 → (((ji S b6 (Int32.toNatClampNeg x1)) = 1 → (x3 = (-1000000005) → ∃ b23, jr S a0 6 = some b23 ∧ ((jk S b23 = 12 ∧ vp_in ((24 * x1) + x2) (jl S b23) ∧ (Q 1 (jput S b23 (Int32.toNatClampNeg ((24 * x1) + x2)) x3))))) ∧ (¬ x3 = (-1000000005) → ((jisin (Int32.toInt64 x3) (-99999) 99999) = 0 → Q (-1000000001) S) ∧ (¬ (jisin (Int32.toInt64 x3) (-99999) 99999) = 0 → ∃ b30, jr S a0 6 = some b30 ∧ ((jk S b30 = 12 ∧ vp_in ((24 * x1) + x2) (jl S b30) ∧ (Q 1 (jput S b30 (Int32.toNatClampNeg ((24 * x1) + x2)) x3))))))) ∧ (¬ (ji S b6 (Int32.toNatClampNeg x1)) = 1 → ∃ b19, jr S a0 6 = some b19 ∧ ((jk S b19 = 12 ∧ vp_in ((24 * x1) + x2) (jl S b19) ∧ (Q 1 (jput S b19 (Int32.toNatClampNeg ((24 * x1) + x2)) x3)))))))))))) ∧ (¬ 0 ≤ (ji S b6 (Int32.toNatClampNeg x1)) → Q (-1000000011) S))))) : jFi E mX11_mark (d + 2) 0 0 [.ref a0, .int x1, .int x2, .int x3] S Q := by
  refine jF_of (by decide) (jle rfl) ?_
  refine jx_lv (lv1 := [(0, .ref a0), (1, .int x1), (2, .int x2), (3, .int x3)]) [0, 1, 2, 3] rfl ?_
  refine jx_iload_n 1 kd964.1 rfl rfl ?_
  refine jx_callSi (M' := mX11_isSheet) (As := [.int x1]) jo_X11_isSheet jwM_X11_314 jwS_X11_isSheet kd964.2.1 (jRok_m _ _ _) rfl (jle rfl) ⟨jle rfl, jle rfl⟩ (c_X11_isSheet (Q := fun v S' => v = (jissheet x1) ∧ S = S') ⟨rfl, rfl⟩) (fun r1 S2 hq3 => ?_)
  obtain ⟨rfl, rfl⟩ := hq3
  refine jx_if_ne (tgt := 10) kd964.2.2.1 (by decide) (fun c4 => ?_) (fun c4 => ?_)
  · replace h := h.2 c4
    refine jx_aload_n 0 kd964.2.2.2.2.2.1 rfl rfl ?_
    obtain ⟨hk5, h⟩ := h
    obtain ⟨b6, hb6, h⟩ := h
    refine jx_getr jc_11 (j := 4) (by decide) rfl jwF_X11_19 kd964.2.2.2.2.2.2.1 hk5 hb6 ?_
    refine jx_iload_n 1 kd964.2.2.2.2.2.2.2.1 rfl rfl ?_
    obtain ⟨hk7, h⟩ := h
    obtain ⟨hi8, h⟩ := h
    refine jx_iald kd964.2.2.2.2.2.2.2.2.1 hk7 hi8 ?_
    refine jx_if_ge (tgt := 23) kd965.1 (by decide) (fun c9 => ?_) (fun c9 => ?_)
    · replace h := h.1 c9
      refine jx_iload_n 2 kd965.2.2.2.1 rfl rfl ?_
      refine jx_i2l kd965.2.2.2.2.1 ?_
      refine jx_lconst (v := 0) kd965.2.2.2.2.2.1 (by decide) ?_
      refine jx_aload_n 0 kd965.2.2.2.2.2.2.1 rfl rfl ?_
      obtain ⟨b10, hb10, h⟩ := h
      refine jx_getr jc_11 (j := 5) (by decide) rfl jwF_X11_22 kd965.2.2.2.2.2.2.2.1 hk5 hb10 ?_
      refine jx_iload_n 1 kd965.2.2.2.2.2.2.2.2.1 rfl rfl ?_
      obtain ⟨hk11, h⟩ := h
      obtain ⟨hi12, h⟩ := h
      refine jx_iald kd966.1 hk11 hi12 ?_
      refine jx_iconst (v := 1) kd966.2.1 (by decide) ?_
      refine jx_isub kd966.2.2.1 ?_
      refine jx_i2l kd966.2.2.2.1 ?_
      refine jx_callSi (M' := mX11_isIn) (As := [.long (Int32.toInt64 x2), .long 0, .long (Int32.toInt64 ((ji S b10 (Int32.toNatClampNeg x1)) - 1))]) jo_X11_isIn jwM_X11_71 jwS_X11_isIn kd966.2.2.2.2.1 (jRok_m _ _ _) rfl (jle rfl) ⟨jle rfl, jle rfl⟩ (c_X11_isIn (Q := fun v S' => v = (jisin (Int32.toInt64 x2) 0 (Int32.toInt64 ((ji S b10 (Int32.toNatClampNeg x1)) - 1))) ∧ S = S') ⟨rfl, rfl⟩) (fun r13 S14 hq15 => ?_)
      obtain ⟨rfl, rfl⟩ := hq15
      refine jx_if_ne (tgt := 45) kd966.2.2.2.2.2.1 (by decide) (fun c16 => ?_) (fun c16 => ?_)
      · replace h := h.2 c16
        refine jx_aload_n 0 kd966.2.2.2.2.2.2.2.2.1 rfl rfl ?_
        refine jx_getr jc_11 (j := 4) (by decide) rfl jwF_X11_19 kd967.1 hk5 hb6 ?_
        refine jx_iload_n 1 kd967.2.1 rfl rfl ?_
        refine jx_iald kd967.2.2.1 hk7 hi8 ?_
        refine jx_if_ne (tgt := 63) kd967.2.2.2.1 (by decide) (fun c17 => ?_) (fun c17 => ?_)
        · replace h := h.2 c17
          refine jx_aload_n 0 kd968.1 rfl rfl ?_
          refine jx_getr jc_11 (j := 4) (by decide) rfl jwF_X11_19 kd968.2.1 hk5 hb6 ?_
          refine jx_iload_n 1 kd968.2.2.1 rfl rfl ?_
          refine jx_iald kd968.2.2.2.1 hk7 hi8 ?_
          refine jx_iconst (v := 1) kd968.2.2.2.2.1 (by decide) ?_
          refine jx_icmp_ne (tgt := 96) kd968.2.2.2.2.2.1 (by decide) (fun c18 => ?_) (fun c18 => ?_)
          · replace h := h.2 c18
            refine jx_aload_n 0 kd969.2.2.2.2.2.2.2.2.1 rfl rfl ?_
            obtain ⟨b19, hb19, h⟩ := h
            refine jx_getr jc_11 (j := 6) (by decide) rfl jwF_X11_25 kd970.1 hk5 hb19 ?_
            refine jx_bipush (v := 24) kd970.2.1 (by decide) ?_
            refine jx_iload_n 1 kd970.2.2.1 rfl rfl ?_
            refine jx_imul kd970.2.2.2.1 ?_
            refine jx_iload_n 2 kd970.2.2.2.2.1 rfl rfl ?_
            refine jx_iadd kd970.2.2.2.2.2.1 ?_
            refine jx_aload_n 0 kd970.2.2.2.2.2.2.1 rfl rfl ?_
            refine jx_getr jc_11 (j := 4) (by decide) rfl jwF_X11_19 kd970.2.2.2.2.2.2.2.1 hk5 hb6 ?_
            refine jx_iload_n 1 kd970.2.2.2.2.2.2.2.2.1 rfl rfl ?_
            refine jx_iald kd971.1 hk7 hi8 ?_
            refine jx_if_ne (tgt := 125) kd971.2.1 (by decide) (fun _ => ?_) (fun z9 => absurd z9 c17)
            refine jx_iload_n 3 kd971.2.2.2.2.2.2.2.2.1 rfl rfl ?_
            obtain ⟨hk20, h⟩ := h
            obtain ⟨hi21, h⟩ := h
            refine jx_iast kd972.1 hk20 hi21 ?_
            refine jx_iconst (v := 1) kd972.2.1 (by decide) ?_
            exact jx_iret kd972.2.2.1 rfl rfl (jle rfl) (jle rfl) ⟨_, rfl, h⟩
          replace h := h.1 c18
          refine jx_iload_n 3 kd968.2.2.2.2.2.2.1 rfl rfl ?_
          refine jx_ldc jwC_X11_70 kd968.2.2.2.2.2.2.2.1 ?_
          refine jx_icmp_eq (tgt := 96) kd968.2.2.2.2.2.2.2.2.1 (by decide) (fun c22 => ?_) (fun c22 => ?_)
          · replace h := h.1 c22
            refine jx_aload_n 0 kd969.2.2.2.2.2.2.2.2.1 rfl rfl ?_
            obtain ⟨b23, hb23, h⟩ := h
            refine jx_getr jc_11 (j := 6) (by decide) rfl jwF_X11_25 kd970.1 hk5 hb23 ?_
            refine jx_bipush (v := 24) kd970.2.1 (by decide) ?_
            refine jx_iload_n 1 kd970.2.2.1 rfl rfl ?_
            refine jx_imul kd970.2.2.2.1 ?_
            refine jx_iload_n 2 kd970.2.2.2.2.1 rfl rfl ?_
            refine jx_iadd kd970.2.2.2.2.2.1 ?_
            refine jx_aload_n 0 kd970.2.2.2.2.2.2.1 rfl rfl ?_
            refine jx_getr jc_11 (j := 4) (by decide) rfl jwF_X11_19 kd970.2.2.2.2.2.2.2.1 hk5 hb6 ?_
            refine jx_iload_n 1 kd970.2.2.2.2.2.2.2.2.1 rfl rfl ?_
            refine jx_iald kd971.1 hk7 hi8 ?_
            refine jx_if_ne (tgt := 125) kd971.2.1 (by decide) (fun _ => ?_) (fun z9 => absurd z9 c17)
            refine jx_iload_n 3 kd971.2.2.2.2.2.2.2.2.1 rfl rfl ?_
            obtain ⟨hk24, h⟩ := h
            obtain ⟨hi25, h⟩ := h
            refine jx_iast kd972.1 hk24 hi25 ?_
            refine jx_iconst (v := 1) kd972.2.1 (by decide) ?_
            exact jx_iret kd972.2.2.1 rfl rfl (jle rfl) (jle rfl) ⟨_, rfl, h⟩
          replace h := h.2 c22
          refine jx_iload_n 3 kd969.1 rfl rfl ?_
          refine jx_i2l kd969.2.1 ?_
          refine jx_ldc2 jwL_X11_322 kd969.2.2.1 ?_
          refine jx_ldc2 jwL_X11_324 kd969.2.2.2.1 ?_
          refine jx_callSi (M' := mX11_isIn) (As := [.long (Int32.toInt64 x3), .long (-99999), .long 99999]) jo_X11_isIn jwM_X11_71 jwS_X11_isIn kd969.2.2.2.2.1 (jRok_m _ _ _) rfl (jle rfl) ⟨jle rfl, jle rfl⟩ (c_X11_isIn (Q := fun v S' => v = (jisin (Int32.toInt64 x3) (-99999) 99999) ∧ S = S') ⟨rfl, rfl⟩) (fun r26 S27 hq28 => ?_)
          obtain ⟨rfl, rfl⟩ := hq28
          refine jx_if_ne (tgt := 96) kd969.2.2.2.2.2.1 (by decide) (fun c29 => ?_) (fun c29 => ?_)
          · replace h := h.2 c29
            refine jx_aload_n 0 kd969.2.2.2.2.2.2.2.2.1 rfl rfl ?_
            obtain ⟨b30, hb30, h⟩ := h
            refine jx_getr jc_11 (j := 6) (by decide) rfl jwF_X11_25 kd970.1 hk5 hb30 ?_
            refine jx_bipush (v := 24) kd970.2.1 (by decide) ?_
            refine jx_iload_n 1 kd970.2.2.1 rfl rfl ?_
            refine jx_imul kd970.2.2.2.1 ?_
            refine jx_iload_n 2 kd970.2.2.2.2.1 rfl rfl ?_
            refine jx_iadd kd970.2.2.2.2.2.1 ?_
            refine jx_aload_n 0 kd970.2.2.2.2.2.2.1 rfl rfl ?_
            refine jx_getr jc_11 (j := 4) (by decide) rfl jwF_X11_19 kd970.2.2.2.2.2.2.2.1 hk5 hb6 ?_
            refine jx_iload_n 1 kd970.2.2.2.2.2.2.2.2.1 rfl rfl ?_
            refine jx_iald kd971.1 hk7 hi8 ?_
            refine jx_if_ne (tgt := 125) kd971.2.1 (by decide) (fun _ => ?_) (fun z9 => absurd z9 c17)
            refine jx_iload_n 3 kd971.2.2.2.2.2.2.2.2.1 rfl rfl ?_
            obtain ⟨hk31, h⟩ := h
            obtain ⟨hi32, h⟩ := h
            refine jx_iast kd972.1 hk31 hi32 ?_
            refine jx_iconst (v := 1) kd972.2.1 (by decide) ?_
            exact jx_iret kd972.2.2.1 rfl rfl (jle rfl) (jle rfl) ⟨_, rfl, h⟩
          replace h := h.1 c29
          refine jx_ldc jwC_X11_87 kd969.2.2.2.2.2.2.1 ?_
          exact jx_iret kd969.2.2.2.2.2.2.2.1 rfl rfl (jle rfl) (jle rfl) ⟨_, rfl, h⟩
        replace h := h.1 c17
        refine jx_iload_n 3 kd967.2.2.2.2.1 rfl rfl ?_
        refine jx_ldc jwC_X11_70 kd967.2.2.2.2.2.1 ?_
        refine jx_icmp_ne (tgt := 63) kd967.2.2.2.2.2.2.1 (by decide) (fun c33 => ?_) (fun c33 => ?_)
        · replace h := h.2 c33
          refine jx_aload_n 0 kd968.1 rfl rfl ?_
          refine jx_getr jc_11 (j := 4) (by decide) rfl jwF_X11_19 kd968.2.1 hk5 hb6 ?_
          refine jx_iload_n 1 kd968.2.2.1 rfl rfl ?_
          refine jx_iald kd968.2.2.2.1 hk7 hi8 ?_
          refine jx_iconst (v := 1) kd968.2.2.2.2.1 (by decide) ?_
          refine jx_icmp_ne (tgt := 96) kd968.2.2.2.2.2.1 (by decide) (fun c34 => ?_) (fun c34 => ?_)
          · replace h := h.2 c34
            refine jx_aload_n 0 kd969.2.2.2.2.2.2.2.2.1 rfl rfl ?_
            obtain ⟨b35, hb35, h⟩ := h
            refine jx_getr jc_11 (j := 6) (by decide) rfl jwF_X11_25 kd970.1 hk5 hb35 ?_
            refine jx_bipush (v := 24) kd970.2.1 (by decide) ?_
            refine jx_iload_n 1 kd970.2.2.1 rfl rfl ?_
            refine jx_imul kd970.2.2.2.1 ?_
            refine jx_iload_n 2 kd970.2.2.2.2.1 rfl rfl ?_
            refine jx_iadd kd970.2.2.2.2.2.1 ?_
            refine jx_aload_n 0 kd970.2.2.2.2.2.2.1 rfl rfl ?_
            refine jx_getr jc_11 (j := 4) (by decide) rfl jwF_X11_19 kd970.2.2.2.2.2.2.2.1 hk5 hb6 ?_
            refine jx_iload_n 1 kd970.2.2.2.2.2.2.2.2.1 rfl rfl ?_
            refine jx_iald kd971.1 hk7 hi8 ?_
            refine jx_if_ne (tgt := 125) kd971.2.1 (by decide) (fun z9 => absurd c17 z9) (fun _ => ?_)
            refine jx_iload_n 3 kd971.2.2.1 rfl rfl ?_
            refine jx_bipush (v := 16) kd971.2.2.2.1 (by decide) ?_
            refine jx_ishl kd971.2.2.2.2.1 ?_
            refine jx_bipush (v := 16) kd971.2.2.2.2.2.1 (by decide) ?_
            refine jx_ishr kd971.2.2.2.2.2.2.1 ?_
            refine jx_goto (tgt := 126) kd971.2.2.2.2.2.2.2.1 (by decide) ?_
            obtain ⟨hk36, h⟩ := h
            obtain ⟨hi37, h⟩ := h
            refine jx_iast kd972.1 hk36 hi37 ?_
            refine jx_iconst (v := 1) kd972.2.1 (by decide) ?_
            exact jx_iret kd972.2.2.1 rfl rfl (jle rfl) (jle rfl) ⟨_, rfl, h⟩
          replace h := h.1 c34
          refine jx_iload_n 3 kd968.2.2.2.2.2.2.1 rfl rfl ?_
          refine jx_ldc jwC_X11_70 kd968.2.2.2.2.2.2.2.1 ?_
          refine jx_icmp_eq (tgt := 96) kd968.2.2.2.2.2.2.2.2.1 (by decide) (fun z9 => absurd z9 c33) (fun _ => ?_)
          refine jx_iload_n 3 kd969.1 rfl rfl ?_
          refine jx_i2l kd969.2.1 ?_
          refine jx_ldc2 jwL_X11_322 kd969.2.2.1 ?_
          refine jx_ldc2 jwL_X11_324 kd969.2.2.2.1 ?_
          refine jx_callSi (M' := mX11_isIn) (As := [.long (Int32.toInt64 x3), .long (-99999), .long 99999]) jo_X11_isIn jwM_X11_71 jwS_X11_isIn kd969.2.2.2.2.1 (jRok_m _ _ _) rfl (jle rfl) ⟨jle rfl, jle rfl⟩ (c_X11_isIn (Q := fun v S' => v = (jisin (Int32.toInt64 x3) (-99999) 99999) ∧ S = S') ⟨rfl, rfl⟩) (fun r38 S39 hq40 => ?_)
          obtain ⟨rfl, rfl⟩ := hq40
          refine jx_if_ne (tgt := 96) kd969.2.2.2.2.2.1 (by decide) (fun c41 => ?_) (fun c41 => ?_)
          · replace h := h.2 c41
            refine jx_aload_n 0 kd969.2.2.2.2.2.2.2.2.1 rfl rfl ?_
            obtain ⟨b42, hb42, h⟩ := h
            refine jx_getr jc_11 (j := 6) (by decide) rfl jwF_X11_25 kd970.1 hk5 hb42 ?_
            refine jx_bipush (v := 24) kd970.2.1 (by decide) ?_
            refine jx_iload_n 1 kd970.2.2.1 rfl rfl ?_
            refine jx_imul kd970.2.2.2.1 ?_
            refine jx_iload_n 2 kd970.2.2.2.2.1 rfl rfl ?_
            refine jx_iadd kd970.2.2.2.2.2.1 ?_
            refine jx_aload_n 0 kd970.2.2.2.2.2.2.1 rfl rfl ?_
            refine jx_getr jc_11 (j := 4) (by decide) rfl jwF_X11_19 kd970.2.2.2.2.2.2.2.1 hk5 hb6 ?_
            refine jx_iload_n 1 kd970.2.2.2.2.2.2.2.2.1 rfl rfl ?_
            refine jx_iald kd971.1 hk7 hi8 ?_
            refine jx_if_ne (tgt := 125) kd971.2.1 (by decide) (fun z9 => absurd c17 z9) (fun _ => ?_)
            refine jx_iload_n 3 kd971.2.2.1 rfl rfl ?_
            refine jx_bipush (v := 16) kd971.2.2.2.1 (by decide) ?_
            refine jx_ishl kd971.2.2.2.2.1 ?_
            refine jx_bipush (v := 16) kd971.2.2.2.2.2.1 (by decide) ?_
            refine jx_ishr kd971.2.2.2.2.2.2.1 ?_
            refine jx_goto (tgt := 126) kd971.2.2.2.2.2.2.2.1 (by decide) ?_
            obtain ⟨hk43, h⟩ := h
            obtain ⟨hi44, h⟩ := h
            refine jx_iast kd972.1 hk43 hi44 ?_
            refine jx_iconst (v := 1) kd972.2.1 (by decide) ?_
            exact jx_iret kd972.2.2.1 rfl rfl (jle rfl) (jle rfl) ⟨_, rfl, h⟩
          replace h := h.1 c41
          refine jx_ldc jwC_X11_87 kd969.2.2.2.2.2.2.1 ?_
          exact jx_iret kd969.2.2.2.2.2.2.2.1 rfl rfl (jle rfl) (jle rfl) ⟨_, rfl, h⟩
        replace h := h.1 c33
        refine jx_ldc jwC_X11_129 kd967.2.2.2.2.2.2.2.1 ?_
        exact jx_iret kd967.2.2.2.2.2.2.2.2.1 rfl rfl (jle rfl) (jle rfl) ⟨_, rfl, h⟩
      replace h := h.1 c16
      refine jx_ldcw jwC_X11_321 kd966.2.2.2.2.2.2.1 ?_
      exact jx_iret kd966.2.2.2.2.2.2.2.1 rfl rfl (jle rfl) (jle rfl) ⟨_, rfl, h⟩
    replace h := h.2 c9
    refine jx_ldcw jwC_X11_320 kd965.2.1 ?_
    exact jx_iret kd965.2.2.1 rfl rfl (jle rfl) (jle rfl) ⟨_, rfl, h⟩
  replace h := h.1 c4
  refine jx_ldc jwC_X11_87 kd964.2.2.2.1 ?_
  exact jx_iret kd964.2.2.2.2.1 rfl rfl (jle rfl) (jle rfl) ⟨_, rfl, h⟩
/-- X11_pour at its loop's head 27 -/
abbrev L_X11_pour_27 (E : jEnv) (d : Nat) (Q : Int32 → jM → Prop) (a0 : Nat) (x1 : Int32) (x2 : Int32) (x3 : Int32) (S : jM) : Prop := jX E mX11_pour (jRm (d + 2) 0 0) (jZm E (fun r S' => ∃ v : Int32, r = some (.int v) ∧ Q v S') 0 0) 27 [(0, .ref a0), (1, .int x1), (2, .int x2), (3, .int x3)] [] S 0 0
set_option maxRecDepth 100000 in
set_option maxHeartbeats 4000000 in
theorem T_X11_pour {E : jEnv} {d : Nat} {Q : Int32 → jM → Prop} {a0 : Nat} {x1 : Int32} {S : jM} (h : ((jissheet x1) = 0 → Q (-1000000001) S) ∧ (¬ (jissheet x1) = 0 → jk S a0 = 11 ∧ ∃ b6, jr S a0 4 = some b6 ∧ (jk S b6 = 12 ∧ vp_in x1 (jl S b6) ∧ ((0 ≤ (ji S b6 (Int32.toNatClampNeg x1)) → L_X11_pour_27 E d Q a0 x1 0 0 S) ∧ (¬ 0 ≤ (ji S b6 (Int32.toNatClampNeg x1)) → Q (-1000000011) S))))) : jFi E mX11_pour (d + 2) 0 0 [.ref a0, .int x1] S Q := by
  refine jF_of (by decide) (jle rfl) ?_
  refine jx_lv (lv1 := [(0, .ref a0), (1, .int x1)]) [0, 1] rfl ?_
  refine jx_iload_n 1 kd973.1 rfl rfl ?_
  refine jx_callSi (M' := mX11_isSheet) (As := [.int x1]) jo_X11_isSheet jwM_X11_314 jwS_X11_isSheet kd973.2.1 (jRok_m _ _ _) rfl (jle rfl) ⟨jle rfl, jle rfl⟩ (c_X11_isSheet (Q := fun v S' => v = (jissheet x1) ∧ S = S') ⟨rfl, rfl⟩) (fun r1 S2 hq3 => ?_)
  obtain ⟨rfl, rfl⟩ := hq3
  refine jx_if_ne (tgt := 10) kd973.2.2.1 (by decide) (fun c4 => ?_) (fun c4 => ?_)
  · replace h := h.2 c4
    refine jx_aload_n 0 kd973.2.2.2.2.2.1 rfl rfl ?_
    obtain ⟨hk5, h⟩ := h
    obtain ⟨b6, hb6, h⟩ := h
    refine jx_getr jc_11 (j := 4) (by decide) rfl jwF_X11_19 kd973.2.2.2.2.2.2.1 hk5 hb6 ?_
    refine jx_iload_n 1 kd973.2.2.2.2.2.2.2.1 rfl rfl ?_
    obtain ⟨hk7, h⟩ := h
    obtain ⟨hi8, h⟩ := h
    refine jx_iald kd973.2.2.2.2.2.2.2.2.1 hk7 hi8 ?_
    refine jx_if_ge (tgt := 23) kd974.1 (by decide) (fun c9 => ?_) (fun c9 => ?_)
    · replace h := h.1 c9
      refine jx_iconst (v := 0) kd974.2.2.2.1 (by decide) ?_
      refine jx_istore_n (lv1 := [(2, .int 0), (0, .ref a0), (1, .int x1)]) kd974.2.2.2.2.1 rfl (by decide) rfl ?_
      refine jx_iconst (v := 0) kd974.2.2.2.2.2.1 (by decide) ?_
      refine jx_istore_n (lv1 := [(3, .int 0), (2, .int 0), (0, .ref a0), (1, .int x1)]) kd974.2.2.2.2.2.2.1 rfl (by decide) rfl ?_
      exact jx_lv [2, 3, 1, 0] rfl h
    replace h := h.2 c9
    refine jx_ldcw jwC_X11_320 kd974.2.1 ?_
    exact jx_iret kd974.2.2.1 rfl rfl (jle rfl) (jle rfl) ⟨_, rfl, h⟩
  replace h := h.1 c4
  refine jx_ldc jwC_X11_87 kd973.2.2.2.1 ?_
  exact jx_iret kd973.2.2.2.2.1 rfl rfl (jle rfl) (jle rfl) ⟨_, rfl, h⟩
set_option maxRecDepth 100000 in
set_option maxHeartbeats 4000000 in
theorem T_X11_pour_27 {E : jEnv} {d : Nat} {Q : Int32 → jM → Prop} {a0 : Nat} {x1 : Int32} {x2 : Int32} {x3 : Int32} {S : jM} (h : jk S a0 = 11 ∧ ∃ b11, jr S a0 5 = some b11 ∧ (jk S b11 = 12 ∧ vp_in x1 (jl S b11) ∧ (((ji S b11 (Int32.toNatClampNeg x1)) ≤ x3 → Q x2 S) ∧ (¬ (ji S b11 (Int32.toNatClampNeg x1)) ≤ x3 → ∃ b15, jr S a0 0 = some b15 ∧ (jk S b15 = 12 ∧ vp_in 0 (jl S b15) ∧ (((ji S b15 (Int32.toNatClampNeg 0)) ≤ x3 → Q x2 S) ∧ (¬ (ji S b15 (Int32.toNatClampNeg 0)) ≤ x3 → ∃ b19, jr S a0 6 = some b19 ∧ (jk S b19 = 12 ∧ vp_in ((24 * x1) + x3) (jl S b19) ∧ (((ji S b19 (Int32.toNatClampNeg ((24 * x1) + x3))) = (-1000000005) → jFi E mX11_of (d + 1) 0 0 [.ref a0, .int x3, .int 4] S (fun r30 S29 => jk S29 a0 = 11 ∧ jFi E mX11_becomes (d + 1) 0 0 [.ref a0, .int ((72 + (7 * x3)) + 4), .int r30] S29 (fun r33 S32 => (r30 = r33 → L_X11_pour_27 E d Q a0 x1 (x2 + 0) (x3 + 1) S32) ∧ (¬ r30 = r33 → L_X11_pour_27 E d Q a0 x1 (x2 + 1) (x3 + 1) S32)))) ∧ (¬ (ji S b19 (Int32.toNatClampNeg ((24 * x1) + x3))) = (-1000000005) → jFi E mX11_becomes (d + 1) 0 0 [.ref a0, .int ((72 + (7 * x3)) + 4), .int (jclamp (ji S b19 (Int32.toNatClampNeg ((24 * x1) + x3))) 0 99)] S (fun r27 S26 => ((jclamp (ji S b19 (Int32.toNatClampNeg ((24 * x1) + x3))) 0 99) = r27 → L_X11_pour_27 E d Q a0 x1 (x2 + 0) (x3 + 1) S26) ∧ (¬ (jclamp (ji S b19 (Int32.toNatClampNeg ((24 * x1) + x3))) 0 99) = r27 → L_X11_pour_27 E d Q a0 x1 (x2 + 1) (x3 + 1) S26)))))))))))) : L_X11_pour_27 E d Q a0 x1 x2 x3 S := by
  show jX E mX11_pour (jRm (d + 2) 0 0) (jZm E (fun r S' => ∃ v : Int32, r = some (.int v) ∧ Q v S') 0 0) 27 [(0, .ref a0), (1, .int x1), (2, .int x2), (3, .int x3)] [] S 0 0
  refine jx_iload_n 3 kd974.2.2.2.2.2.2.2.1 rfl rfl ?_
  refine jx_aload_n 0 kd974.2.2.2.2.2.2.2.2.1 rfl rfl ?_
  obtain ⟨hk10, h⟩ := h
  obtain ⟨b11, hb11, h⟩ := h
  refine jx_getr jc_11 (j := 5) (by decide) rfl jwF_X11_22 kd975.1 hk10 hb11 ?_
  refine jx_iload_n 1 kd975.2.1 rfl rfl ?_
  obtain ⟨hk12, h⟩ := h
  obtain ⟨hi13, h⟩ := h
  refine jx_iald kd975.2.2.1 hk12 hi13 ?_
  refine jx_icmp_ge (tgt := 120) kd975.2.2.2.1 (by decide) (fun c14 => ?_) (fun c14 => ?_)
  · replace h := h.1 c14
    refine jx_iload_n 2 kd980.2.2.2.2.2.2.2.1 rfl rfl ?_
    exact jx_iret kd980.2.2.2.2.2.2.2.2.1 rfl rfl (jle rfl) (jle rfl) ⟨_, rfl, h⟩
  replace h := h.2 c14
  refine jx_iload_n 3 kd975.2.2.2.2.1 rfl rfl ?_
  refine jx_aload_n 0 kd975.2.2.2.2.2.1 rfl rfl ?_
  obtain ⟨b15, hb15, h⟩ := h
  refine jx_getr jc_11 (j := 0) (by decide) rfl jwF_X11_7 kd975.2.2.2.2.2.2.1 hk10 hb15 ?_
  refine jx_iconst (v := 0) kd975.2.2.2.2.2.2.2.1 (by decide) ?_
  obtain ⟨hk16, h⟩ := h
  obtain ⟨hi17, h⟩ := h
  refine jx_iald kd975.2.2.2.2.2.2.2.2.1 hk16 hi17 ?_
  refine jx_icmp_ge (tgt := 120) kd976.1 (by decide) (fun c18 => ?_) (fun c18 => ?_)
  · replace h := h.1 c18
    refine jx_iload_n 2 kd980.2.2.2.2.2.2.2.1 rfl rfl ?_
    exact jx_iret kd980.2.2.2.2.2.2.2.2.1 rfl rfl (jle rfl) (jle rfl) ⟨_, rfl, h⟩
  replace h := h.2 c18
  refine jx_aload_n 0 kd976.2.1 rfl rfl ?_
  obtain ⟨b19, hb19, h⟩ := h
  refine jx_getr jc_11 (j := 6) (by decide) rfl jwF_X11_25 kd976.2.2.1 hk10 hb19 ?_
  refine jx_bipush (v := 24) kd976.2.2.2.1 (by decide) ?_
  refine jx_iload_n 1 kd976.2.2.2.2.1 rfl rfl ?_
  refine jx_imul kd976.2.2.2.2.2.1 ?_
  refine jx_iload_n 3 kd976.2.2.2.2.2.2.1 rfl rfl ?_
  refine jx_iadd kd976.2.2.2.2.2.2.2.1 ?_
  obtain ⟨hk20, h⟩ := h
  obtain ⟨hi21, h⟩ := h
  refine jx_iald kd976.2.2.2.2.2.2.2.2.1 hk20 hi21 ?_
  refine jx_istore (lv1 := [(4, .int (ji S b19 (Int32.toNatClampNeg ((24 * x1) + x3)))), (0, .ref a0), (1, .int x1), (2, .int x2), (3, .int x3)]) kd977.1 (by decide) rfl ?_
  refine jx_iload 0 kd977.2.1 rfl ?_
  refine jx_ldc jwC_X11_70 kd977.2.2.1 ?_
  refine jx_icmp_ne (tgt := 76) kd977.2.2.2.1 (by decide) (fun c22 => ?_) (fun c22 => ?_)
  · replace h := h.2 c22
    refine jx_iload 0 kd978.1 rfl ?_
    refine jx_iconst (v := 0) kd978.2.1 (by decide) ?_
    refine jx_bipush (v := 99) kd978.2.2.1 (by decide) ?_
    refine jx_callSi (M' := mX11_within) (As := [.int (ji S b19 (Int32.toNatClampNeg ((24 * x1) + x3))), .int 0, .int 99]) jo_X11_within jwM_X11_104 jwS_X11_within kd978.2.2.2.1 (jRok_m _ _ _) rfl (jle rfl) ⟨jle rfl, jle rfl⟩ (c_X11_within (Q := fun v S' => v = (jclamp (ji S b19 (Int32.toNatClampNeg ((24 * x1) + x3))) 0 99) ∧ S = S') ⟨rfl, rfl⟩) (fun r23 S24 hq25 => ?_)
    obtain ⟨rfl, rfl⟩ := hq25
    refine jx_istore (lv1 := [(5, .int (jclamp (ji S b19 (Int32.toNatClampNeg ((24 * x1) + x3))) 0 99)), (4, .int (ji S b19 (Int32.toNatClampNeg ((24 * x1) + x3)))), (0, .ref a0), (1, .int x1), (2, .int x2), (3, .int x3)]) kd978.2.2.2.2.1 (by decide) rfl ?_
    refine jx_iload_n 4 kd978.2.2.2.2.2.1 rfl rfl ?_
    refine jx_iload 0 kd978.2.2.2.2.2.2.1 rfl ?_
    refine jx_aload_n 2 kd978.2.2.2.2.2.2.2.1 rfl rfl ?_
    refine jx_bipush (v := 72) kd978.2.2.2.2.2.2.2.2.1 (by decide) ?_
    refine jx_bipush (v := 7) kd979.1 (by decide) ?_
    refine jx_iload_n 5 kd979.2.1 rfl rfl ?_
    refine jx_imul kd979.2.2.1 ?_
    refine jx_iadd kd979.2.2.2.1 ?_
    refine jx_iconst (v := 4) kd979.2.2.2.2.1 (by decide) ?_
    refine jx_iadd kd979.2.2.2.2.2.1 ?_
    refine jx_iload 0 kd979.2.2.2.2.2.2.1 rfl ?_
    refine jx_callVi (M' := mX11_becomes) (As := [.int ((72 + (7 * x3)) + 4), .int (jclamp (ji S b19 (Int32.toNatClampNeg ((24 * x1) + x3))) 0 99)]) jo_X11_becomes jc_11 rfl jwM_X11_130 jwN_X11_becomes jwX_X11_becomes kd979.2.2.2.2.2.2.2.1 (jRok_m _ _ _) rfl (jle rfl) ⟨jle rfl, jle rfl⟩ hk10 h (fun r27 S26 h => ?_)
    refine jx_icmp_ne (tgt := 111) kd979.2.2.2.2.2.2.2.2.1 (by decide) (fun c28 => ?_) (fun c28 => ?_)
    · replace h := h.2 c28
      refine jx_iconst (v := 1) kd980.2.2.1 (by decide) ?_
      refine jx_iadd kd980.2.2.2.1 ?_
      refine jx_istore_n (lv1 := [(2, .int (x2 + 1)), (5, .int (jclamp (ji S b19 (Int32.toNatClampNeg ((24 * x1) + x3))) 0 99)), (4, .int (ji S b19 (Int32.toNatClampNeg ((24 * x1) + x3)))), (0, .ref a0), (1, .int x1), (3, .int x3)]) kd980.2.2.2.2.1 rfl (by decide) rfl ?_
      refine jx_iinc 5 (v := (x3 + 1)) (lv1 := [(3, .int (x3 + 1)), (2, .int (x2 + 1)), (5, .int (jclamp (ji S b19 (Int32.toNatClampNeg ((24 * x1) + x3))) 0 99)), (4, .int (ji S b19 (Int32.toNatClampNeg ((24 * x1) + x3)))), (0, .ref a0), (1, .int x1)]) kd980.2.2.2.2.2.1 rfl rfl (by decide) rfl ?_
      refine jx_goto (tgt := 27) kd980.2.2.2.2.2.2.1 (by decide) ?_
      exact jx_lv [4, 5, 1, 0] rfl h
    replace h := h.1 c28
    refine jx_iconst (v := 0) kd980.1 (by decide) ?_
    refine jx_goto (tgt := 112) kd980.2.1 (by decide) ?_
    refine jx_iadd kd980.2.2.2.1 ?_
    refine jx_istore_n (lv1 := [(2, .int (x2 + 0)), (5, .int (jclamp (ji S b19 (Int32.toNatClampNeg ((24 * x1) + x3))) 0 99)), (4, .int (ji S b19 (Int32.toNatClampNeg ((24 * x1) + x3)))), (0, .ref a0), (1, .int x1), (3, .int x3)]) kd980.2.2.2.2.1 rfl (by decide) rfl ?_
    refine jx_iinc 5 (v := (x3 + 1)) (lv1 := [(3, .int (x3 + 1)), (2, .int (x2 + 0)), (5, .int (jclamp (ji S b19 (Int32.toNatClampNeg ((24 * x1) + x3))) 0 99)), (4, .int (ji S b19 (Int32.toNatClampNeg ((24 * x1) + x3)))), (0, .ref a0), (1, .int x1)]) kd980.2.2.2.2.2.1 rfl rfl (by decide) rfl ?_
    refine jx_goto (tgt := 27) kd980.2.2.2.2.2.2.1 (by decide) ?_
    exact jx_lv [4, 5, 1, 0] rfl h
  replace h := h.1 c22
  refine jx_aload_n 1 kd977.2.2.2.2.1 rfl rfl ?_
  refine jx_iload_n 4 kd977.2.2.2.2.2.1 rfl rfl ?_
  refine jx_iconst (v := 4) kd977.2.2.2.2.2.2.1 (by decide) ?_
  refine jx_callVi (M' := mX11_of) (As := [.int x3, .int 4]) jo_X11_of jc_11 rfl jwM_X11_97 jwN_X11_of jwX_X11_of kd977.2.2.2.2.2.2.2.1 (jRok_m _ _ _) rfl (jle rfl) ⟨jle rfl, jle rfl⟩ hk10 h (fun r30 S29 h => ?_)
  refine jx_goto (tgt := 84) kd977.2.2.2.2.2.2.2.2.1 (by decide) ?_
  refine jx_istore (lv1 := [(5, .int r30), (4, .int (ji S b19 (Int32.toNatClampNeg ((24 * x1) + x3)))), (0, .ref a0), (1, .int x1), (2, .int x2), (3, .int x3)]) kd978.2.2.2.2.1 (by decide) rfl ?_
  refine jx_iload_n 4 kd978.2.2.2.2.2.1 rfl rfl ?_
  refine jx_iload 0 kd978.2.2.2.2.2.2.1 rfl ?_
  refine jx_aload_n 2 kd978.2.2.2.2.2.2.2.1 rfl rfl ?_
  refine jx_bipush (v := 72) kd978.2.2.2.2.2.2.2.2.1 (by decide) ?_
  refine jx_bipush (v := 7) kd979.1 (by decide) ?_
  refine jx_iload_n 5 kd979.2.1 rfl rfl ?_
  refine jx_imul kd979.2.2.1 ?_
  refine jx_iadd kd979.2.2.2.1 ?_
  refine jx_iconst (v := 4) kd979.2.2.2.2.1 (by decide) ?_
  refine jx_iadd kd979.2.2.2.2.2.1 ?_
  refine jx_iload 0 kd979.2.2.2.2.2.2.1 rfl ?_
  obtain ⟨hk31, h⟩ := h
  refine jx_callVi (M' := mX11_becomes) (As := [.int ((72 + (7 * x3)) + 4), .int r30]) jo_X11_becomes jc_11 rfl jwM_X11_130 jwN_X11_becomes jwX_X11_becomes kd979.2.2.2.2.2.2.2.1 (jRok_m _ _ _) rfl (jle rfl) ⟨jle rfl, jle rfl⟩ hk31 h (fun r33 S32 h => ?_)
  refine jx_icmp_ne (tgt := 111) kd979.2.2.2.2.2.2.2.2.1 (by decide) (fun c34 => ?_) (fun c34 => ?_)
  · replace h := h.2 c34
    refine jx_iconst (v := 1) kd980.2.2.1 (by decide) ?_
    refine jx_iadd kd980.2.2.2.1 ?_
    refine jx_istore_n (lv1 := [(2, .int (x2 + 1)), (5, .int r30), (4, .int (ji S b19 (Int32.toNatClampNeg ((24 * x1) + x3)))), (0, .ref a0), (1, .int x1), (3, .int x3)]) kd980.2.2.2.2.1 rfl (by decide) rfl ?_
    refine jx_iinc 5 (v := (x3 + 1)) (lv1 := [(3, .int (x3 + 1)), (2, .int (x2 + 1)), (5, .int r30), (4, .int (ji S b19 (Int32.toNatClampNeg ((24 * x1) + x3)))), (0, .ref a0), (1, .int x1)]) kd980.2.2.2.2.2.1 rfl rfl (by decide) rfl ?_
    refine jx_goto (tgt := 27) kd980.2.2.2.2.2.2.1 (by decide) ?_
    exact jx_lv [4, 5, 1, 0] rfl h
  replace h := h.1 c34
  refine jx_iconst (v := 0) kd980.1 (by decide) ?_
  refine jx_goto (tgt := 112) kd980.2.1 (by decide) ?_
  refine jx_iadd kd980.2.2.2.1 ?_
  refine jx_istore_n (lv1 := [(2, .int (x2 + 0)), (5, .int r30), (4, .int (ji S b19 (Int32.toNatClampNeg ((24 * x1) + x3)))), (0, .ref a0), (1, .int x1), (3, .int x3)]) kd980.2.2.2.2.1 rfl (by decide) rfl ?_
  refine jx_iinc 5 (v := (x3 + 1)) (lv1 := [(3, .int (x3 + 1)), (2, .int (x2 + 0)), (5, .int r30), (4, .int (ji S b19 (Int32.toNatClampNeg ((24 * x1) + x3)))), (0, .ref a0), (1, .int x1)]) kd980.2.2.2.2.2.1 rfl rfl (by decide) rfl ?_
  refine jx_goto (tgt := 27) kd980.2.2.2.2.2.2.1 (by decide) ?_
  exact jx_lv [4, 5, 1, 0] rfl h
/-- X11_reads at its loop's head 25 -/
abbrev L_X11_reads_25 (E : jEnv) (d : Nat) (Q : Int32 → jM → Prop) (a0 : Nat) (x1 : Int32) (x2 : Int32) (S : jM) : Prop := jX E mX11_reads (jRm (d + 2) 0 0) (jZm E (fun r S' => ∃ v : Int32, r = some (.int v) ∧ Q v S') 0 0) 25 [(0, .ref a0), (1, .int x1), (2, .int x2)] [] S 0 0
set_option maxRecDepth 100000 in
set_option maxHeartbeats 4000000 in
theorem T_X11_reads {E : jEnv} {d : Nat} {Q : Int32 → jM → Prop} {a0 : Nat} {x1 : Int32} {S : jM} (h : ((jissheet x1) = 0 → Q (-1000000001) S) ∧ (¬ (jissheet x1) = 0 → jk S a0 = 11 ∧ ∃ b6, jr S a0 4 = some b6 ∧ (jk S b6 = 12 ∧ vp_in x1 (jl S b6) ∧ ((0 ≤ (ji S b6 (Int32.toNatClampNeg x1)) → L_X11_reads_25 E d Q a0 x1 0 S) ∧ (¬ 0 ≤ (ji S b6 (Int32.toNatClampNeg x1)) → Q (-1000000011) S))))) : jFi E mX11_reads (d + 2) 0 0 [.ref a0, .int x1] S Q := by
  refine jF_of (by decide) (jle rfl) ?_
  refine jx_lv (lv1 := [(0, .ref a0), (1, .int x1)]) [0, 1] rfl ?_
  refine jx_iload_n 1 kd981.1 rfl rfl ?_
  refine jx_callSi (M' := mX11_isSheet) (As := [.int x1]) jo_X11_isSheet jwM_X11_314 jwS_X11_isSheet kd981.2.1 (jRok_m _ _ _) rfl (jle rfl) ⟨jle rfl, jle rfl⟩ (c_X11_isSheet (Q := fun v S' => v = (jissheet x1) ∧ S = S') ⟨rfl, rfl⟩) (fun r1 S2 hq3 => ?_)
  obtain ⟨rfl, rfl⟩ := hq3
  refine jx_if_ne (tgt := 10) kd981.2.2.1 (by decide) (fun c4 => ?_) (fun c4 => ?_)
  · replace h := h.2 c4
    refine jx_aload_n 0 kd981.2.2.2.2.2.1 rfl rfl ?_
    obtain ⟨hk5, h⟩ := h
    obtain ⟨b6, hb6, h⟩ := h
    refine jx_getr jc_11 (j := 4) (by decide) rfl jwF_X11_19 kd981.2.2.2.2.2.2.1 hk5 hb6 ?_
    refine jx_iload_n 1 kd981.2.2.2.2.2.2.2.1 rfl rfl ?_
    obtain ⟨hk7, h⟩ := h
    obtain ⟨hi8, h⟩ := h
    refine jx_iald kd981.2.2.2.2.2.2.2.2.1 hk7 hi8 ?_
    refine jx_if_ge (tgt := 23) kd982.1 (by decide) (fun c9 => ?_) (fun c9 => ?_)
    · replace h := h.1 c9
      refine jx_iconst (v := 0) kd982.2.2.2.1 (by decide) ?_
      refine jx_istore_n (lv1 := [(2, .int 0), (0, .ref a0), (1, .int x1)]) kd982.2.2.2.2.1 rfl (by decide) rfl ?_
      exact jx_lv [1, 2, 0] rfl h
    replace h := h.2 c9
    refine jx_ldcw jwC_X11_320 kd982.2.1 ?_
    exact jx_iret kd982.2.2.1 rfl rfl (jle rfl) (jle rfl) ⟨_, rfl, h⟩
  replace h := h.1 c4
  refine jx_ldc jwC_X11_87 kd981.2.2.2.1 ?_
  exact jx_iret kd981.2.2.2.2.1 rfl rfl (jle rfl) (jle rfl) ⟨_, rfl, h⟩
set_option maxRecDepth 100000 in
set_option maxHeartbeats 4000000 in
theorem T_X11_reads_25 {E : jEnv} {d : Nat} {Q : Int32 → jM → Prop} {a0 : Nat} {x1 : Int32} {x2 : Int32} {S : jM} (h : jk S a0 = 11 ∧ ∃ b11, jr S a0 5 = some b11 ∧ (jk S b11 = 12 ∧ vp_in x1 (jl S b11) ∧ (((ji S b11 (Int32.toNatClampNeg x1)) ≤ x2 → Q (-1000000005) S) ∧ (¬ (ji S b11 (Int32.toNatClampNeg x1)) ≤ x2 → ∃ b15, jr S a0 6 = some b15 ∧ (jk S b15 = 12 ∧ vp_in ((24 * x1) + x2) (jl S b15) ∧ (((ji S b15 (Int32.toNatClampNeg ((24 * x1) + x2))) = (-1000000005) → L_X11_reads_25 E d Q a0 x1 (x2 + 1) S) ∧ (¬ (ji S b15 (Int32.toNatClampNeg ((24 * x1) + x2))) = (-1000000005) → ∃ b19, jr S a0 0 = some b19 ∧ (jk S b19 = 12 ∧ vp_in 0 (jl S b19) ∧ (((ji S b19 (Int32.toNatClampNeg 0)) ≤ x2 → Q x2 S) ∧ (¬ (ji S b19 (Int32.toNatClampNeg 0)) ≤ x2 → jFi E mX11_of (d + 1) 0 0 [.ref a0, .int x2, .int 5] S (fun r24 S23 => ((ji S b15 (Int32.toNatClampNeg ((24 * x1) + x2))) = r24 → L_X11_reads_25 E d Q a0 x1 (x2 + 1) S23) ∧ (¬ (ji S b15 (Int32.toNatClampNeg ((24 * x1) + x2))) = r24 → Q x2 S23)))))))))))) : L_X11_reads_25 E d Q a0 x1 x2 S := by
  show jX E mX11_reads (jRm (d + 2) 0 0) (jZm E (fun r S' => ∃ v : Int32, r = some (.int v) ∧ Q v S') 0 0) 25 [(0, .ref a0), (1, .int x1), (2, .int x2)] [] S 0 0
  refine jx_iload_n 2 kd982.2.2.2.2.2.1 rfl rfl ?_
  refine jx_aload_n 0 kd982.2.2.2.2.2.2.1 rfl rfl ?_
  obtain ⟨hk10, h⟩ := h
  obtain ⟨b11, hb11, h⟩ := h
  refine jx_getr jc_11 (j := 5) (by decide) rfl jwF_X11_22 kd982.2.2.2.2.2.2.2.1 hk10 hb11 ?_
  refine jx_iload_n 1 kd982.2.2.2.2.2.2.2.2.1 rfl rfl ?_
  obtain ⟨hk12, h⟩ := h
  obtain ⟨hi13, h⟩ := h
  refine jx_iald kd983.1 hk12 hi13 ?_
  refine jx_icmp_ge (tgt := 81) kd983.2.1 (by decide) (fun c14 => ?_) (fun c14 => ?_)
  · replace h := h.1 c14
    refine jx_ldc jwC_X11_70 kd986.2.2.2.1 ?_
    exact jx_iret kd986.2.2.2.2.1 rfl rfl (jle rfl) (jle rfl) ⟨_, rfl, h⟩
  replace h := h.2 c14
  refine jx_aload_n 0 kd983.2.2.1 rfl rfl ?_
  obtain ⟨b15, hb15, h⟩ := h
  refine jx_getr jc_11 (j := 6) (by decide) rfl jwF_X11_25 kd983.2.2.2.1 hk10 hb15 ?_
  refine jx_bipush (v := 24) kd983.2.2.2.2.1 (by decide) ?_
  refine jx_iload_n 1 kd983.2.2.2.2.2.1 rfl rfl ?_
  refine jx_imul kd983.2.2.2.2.2.2.1 ?_
  refine jx_iload_n 2 kd983.2.2.2.2.2.2.2.1 rfl rfl ?_
  refine jx_iadd kd983.2.2.2.2.2.2.2.2.1 ?_
  obtain ⟨hk16, h⟩ := h
  obtain ⟨hi17, h⟩ := h
  refine jx_iald kd984.1 hk16 hi17 ?_
  refine jx_istore_n (lv1 := [(3, .int (ji S b15 (Int32.toNatClampNeg ((24 * x1) + x2)))), (0, .ref a0), (1, .int x1), (2, .int x2)]) kd984.2.1 rfl (by decide) rfl ?_
  refine jx_iload_n 0 kd984.2.2.1 rfl rfl ?_
  refine jx_ldc jwC_X11_70 kd984.2.2.2.1 ?_
  refine jx_icmp_eq (tgt := 75) kd984.2.2.2.2.1 (by decide) (fun c18 => ?_) (fun c18 => ?_)
  · replace h := h.1 c18
    refine jx_iinc 3 (v := (x2 + 1)) (lv1 := [(2, .int (x2 + 1)), (3, .int (ji S b15 (Int32.toNatClampNeg ((24 * x1) + x2)))), (0, .ref a0), (1, .int x1)]) kd986.2.1 rfl rfl (by decide) rfl ?_
    refine jx_goto (tgt := 25) kd986.2.2.1 (by decide) ?_
    exact jx_lv [2, 3, 0] rfl h
  replace h := h.2 c18
  refine jx_iload_n 3 kd984.2.2.2.2.2.1 rfl rfl ?_
  refine jx_aload_n 1 kd984.2.2.2.2.2.2.1 rfl rfl ?_
  obtain ⟨b19, hb19, h⟩ := h
  refine jx_getr jc_11 (j := 0) (by decide) rfl jwF_X11_7 kd984.2.2.2.2.2.2.2.1 hk10 hb19 ?_
  refine jx_iconst (v := 0) kd984.2.2.2.2.2.2.2.2.1 (by decide) ?_
  obtain ⟨hk20, h⟩ := h
  obtain ⟨hi21, h⟩ := h
  refine jx_iald kd985.1 hk20 hi21 ?_
  refine jx_icmp_ge (tgt := 73) kd985.2.1 (by decide) (fun c22 => ?_) (fun c22 => ?_)
  · replace h := h.1 c22
    refine jx_iload_n 3 kd985.2.2.2.2.2.2.2.2.1 rfl rfl ?_
    exact jx_iret kd986.1 rfl rfl (jle rfl) (jle rfl) ⟨_, rfl, h⟩
  replace h := h.2 c22
  refine jx_iload_n 0 kd985.2.2.1 rfl rfl ?_
  refine jx_aload_n 1 kd985.2.2.2.1 rfl rfl ?_
  refine jx_iload_n 3 kd985.2.2.2.2.1 rfl rfl ?_
  refine jx_iconst (v := 5) kd985.2.2.2.2.2.1 (by decide) ?_
  refine jx_callVi (M' := mX11_of) (As := [.int x2, .int 5]) jo_X11_of jc_11 rfl jwM_X11_97 jwN_X11_of jwX_X11_of kd985.2.2.2.2.2.2.1 (jRok_m _ _ _) rfl (jle rfl) ⟨jle rfl, jle rfl⟩ hk10 h (fun r24 S23 h => ?_)
  refine jx_icmp_eq (tgt := 75) kd985.2.2.2.2.2.2.2.1 (by decide) (fun c25 => ?_) (fun c25 => ?_)
  · replace h := h.1 c25
    refine jx_iinc 3 (v := (x2 + 1)) (lv1 := [(2, .int (x2 + 1)), (3, .int (ji S b15 (Int32.toNatClampNeg ((24 * x1) + x2)))), (0, .ref a0), (1, .int x1)]) kd986.2.1 rfl rfl (by decide) rfl ?_
    refine jx_goto (tgt := 25) kd986.2.2.1 (by decide) ?_
    exact jx_lv [2, 3, 0] rfl h
  replace h := h.2 c25
  refine jx_iload_n 3 kd985.2.2.2.2.2.2.2.2.1 rfl rfl ?_
  exact jx_iret kd986.1 rfl rfl (jle rfl) (jle rfl) ⟨_, rfl, h⟩
/-- X11_cut at its loop's head 41 -/
abbrev L_X11_cut_41 (E : jEnv) (d : Nat) (Q : Int32 → jM → Prop) (a0 : Nat) (x1 : Int32) (x2 : Int32) (x3 : Int32) (x4 : Int32) (x5 : Int32) (S : jM) : Prop := jX E mX11_cut (jRm (d + 2) 0 0) (jZm E (fun r S' => ∃ v : Int32, r = some (.int v) ∧ Q v S') 0 0) 41 [(0, .ref a0), (1, .int x1), (2, .int x2), (3, .int x3), (4, .int x4), (5, .int x5)] [] S 0 0
/-- X11_cut at its loop's head 58 -/
abbrev L_X11_cut_58 (E : jEnv) (d : Nat) (Q : Int32 → jM → Prop) (a0 : Nat) (x1 : Int32) (x2 : Int32) (x3 : Int32) (x4 : Int32) (x5 : Int32) (x6 : Int32) (x7 : Int32) (S : jM) : Prop := jX E mX11_cut (jRm (d + 2) 0 0) (jZm E (fun r S' => ∃ v : Int32, r = some (.int v) ∧ Q v S') 0 0) 58 [(0, .ref a0), (1, .int x1), (2, .int x2), (3, .int x3), (4, .int x4), (5, .int x5), (6, .int x6), (7, .int x7)] [] S 0 0
set_option maxRecDepth 100000 in
set_option maxHeartbeats 4000000 in
theorem T_X11_cut {E : jEnv} {d : Nat} {Q : Int32 → jM → Prop} {a0 : Nat} {x1 : Int32} {x2 : Int32} {S : jM} (h : ((jissheet x1) = 0 → Q (-1000000001) S) ∧ (¬ (jissheet x1) = 0 → ((jisin (Int32.toInt64 x2) 0 1) = 0 → Q (-1000000001) S) ∧ (¬ (jisin (Int32.toInt64 x2) 0 1) = 0 → jk S a0 = 11 ∧ ∃ b10, jr S a0 4 = some b10 ∧ (jk S b10 = 12 ∧ vp_in x1 (jl S b10) ∧ ((0 ≤ (ji S b10 (Int32.toNatClampNeg x1)) → L_X11_cut_41 E d Q a0 x1 x2 (-1) 0 0 S) ∧ (¬ 0 ≤ (ji S b10 (Int32.toNatClampNeg x1)) → Q (-1000000011) S)))))) : jFi E mX11_cut (d + 2) 0 0 [.ref a0, .int x1, .int x2] S Q := by
  refine jF_of (by decide) (jle rfl) ?_
  refine jx_lv (lv1 := [(0, .ref a0), (1, .int x1), (2, .int x2)]) [0, 1, 2] rfl ?_
  refine jx_iload_n 1 kd987.1 rfl rfl ?_
  refine jx_callSi (M' := mX11_isSheet) (As := [.int x1]) jo_X11_isSheet jwM_X11_314 jwS_X11_isSheet kd987.2.1 (jRok_m _ _ _) rfl (jle rfl) ⟨jle rfl, jle rfl⟩ (c_X11_isSheet (Q := fun v S' => v = (jissheet x1) ∧ S = S') ⟨rfl, rfl⟩) (fun r1 S2 hq3 => ?_)
  obtain ⟨rfl, rfl⟩ := hq3
  refine jx_if_eq (tgt := 17) kd987.2.2.1 (by decide) (fun c4 => ?_) (fun c4 => ?_)
  · replace h := h.1 c4
    refine jx_ldc jwC_X11_87 kd988.1 ?_
    exact jx_iret kd988.2.1 rfl rfl (jle rfl) (jle rfl) ⟨_, rfl, h⟩
  replace h := h.2 c4
  refine jx_iload_n 2 kd987.2.2.2.1 rfl rfl ?_
  refine jx_i2l kd987.2.2.2.2.1 ?_
  refine jx_lconst (v := 0) kd987.2.2.2.2.2.1 (by decide) ?_
  refine jx_lconst (v := 1) kd987.2.2.2.2.2.2.1 (by decide) ?_
  refine jx_callSi (M' := mX11_isIn) (As := [.long (Int32.toInt64 x2), .long 0, .long 1]) jo_X11_isIn jwM_X11_71 jwS_X11_isIn kd987.2.2.2.2.2.2.2.1 (jRok_m _ _ _) rfl (jle rfl) ⟨jle rfl, jle rfl⟩ (c_X11_isIn (Q := fun v S' => v = (jisin (Int32.toInt64 x2) 0 1) ∧ S = S') ⟨rfl, rfl⟩) (fun r5 S6 hq7 => ?_)
  obtain ⟨rfl, rfl⟩ := hq7
  refine jx_if_ne (tgt := 20) kd987.2.2.2.2.2.2.2.2.1 (by decide) (fun c8 => ?_) (fun c8 => ?_)
  · replace h := h.2 c8
    refine jx_aload_n 0 kd988.2.2.1 rfl rfl ?_
    obtain ⟨hk9, h⟩ := h
    obtain ⟨b10, hb10, h⟩ := h
    refine jx_getr jc_11 (j := 4) (by decide) rfl jwF_X11_19 kd988.2.2.2.1 hk9 hb10 ?_
    refine jx_iload_n 1 kd988.2.2.2.2.1 rfl rfl ?_
    obtain ⟨hk11, h⟩ := h
    obtain ⟨hi12, h⟩ := h
    refine jx_iald kd988.2.2.2.2.2.1 hk11 hi12 ?_
    refine jx_if_ge (tgt := 33) kd988.2.2.2.2.2.2.1 (by decide) (fun c13 => ?_) (fun c13 => ?_)
    · replace h := h.1 c13
      refine jx_iconst (v := (-1)) kd989.1 (by decide) ?_
      refine jx_istore_n (lv1 := [(3, .int (-1)), (0, .ref a0), (1, .int x1), (2, .int x2)]) kd989.2.1 rfl (by decide) rfl ?_
      refine jx_iconst (v := 0) kd989.2.2.1 (by decide) ?_
      refine jx_istore (lv1 := [(4, .int 0), (3, .int (-1)), (0, .ref a0), (1, .int x1), (2, .int x2)]) kd989.2.2.2.1 (by decide) rfl ?_
      refine jx_iconst (v := 0) kd989.2.2.2.2.1 (by decide) ?_
      refine jx_istore (lv1 := [(5, .int 0), (4, .int 0), (3, .int (-1)), (0, .ref a0), (1, .int x1), (2, .int x2)]) kd989.2.2.2.2.2.1 (by decide) rfl ?_
      exact jx_lv [3, 4, 5, 2, 1, 0] rfl h
    replace h := h.2 c13
    refine jx_ldcw jwC_X11_320 kd988.2.2.2.2.2.2.2.1 ?_
    exact jx_iret kd988.2.2.2.2.2.2.2.2.1 rfl rfl (jle rfl) (jle rfl) ⟨_, rfl, h⟩
  replace h := h.1 c8
  refine jx_ldc jwC_X11_87 kd988.1 ?_
  exact jx_iret kd988.2.1 rfl rfl (jle rfl) (jle rfl) ⟨_, rfl, h⟩
set_option maxRecDepth 100000 in
set_option maxHeartbeats 4000000 in
theorem T_X11_cut_41 {E : jEnv} {d : Nat} {Q : Int32 → jM → Prop} {a0 : Nat} {x1 : Int32} {x2 : Int32} {x3 : Int32} {x4 : Int32} {x5 : Int32} {S : jM} (h : jk S a0 = 11 ∧ ∃ b15, jr S a0 0 = some b15 ∧ (jk S b15 = 12 ∧ vp_in 0 (jl S b15) ∧ (((ji S b15 (Int32.toNatClampNeg 0)) ≤ x5 → (0 ≤ x3 → (x2 = 0 → Q x3 S) ∧ (¬ x2 = 0 → Q x4 S)) ∧ (¬ 0 ≤ x3 → Q (-1000000005) S)) ∧ (¬ (ji S b15 (Int32.toNatClampNeg 0)) ≤ x5 → L_X11_cut_58 E d Q a0 x1 x2 x3 x4 x5 0 0 S)))) : L_X11_cut_41 E d Q a0 x1 x2 x3 x4 x5 S := by
  show jX E mX11_cut (jRm (d + 2) 0 0) (jZm E (fun r S' => ∃ v : Int32, r = some (.int v) ∧ Q v S') 0 0) 41 [(0, .ref a0), (1, .int x1), (2, .int x2), (3, .int x3), (4, .int x4), (5, .int x5)] [] S 0 0
  refine jx_iload 5 kd989.2.2.2.2.2.2.1 rfl ?_
  refine jx_aload_n 0 kd989.2.2.2.2.2.2.2.1 rfl rfl ?_
  obtain ⟨hk14, h⟩ := h
  obtain ⟨b15, hb15, h⟩ := h
  refine jx_getr jc_11 (j := 0) (by decide) rfl jwF_X11_7 kd989.2.2.2.2.2.2.2.2.1 hk14 hb15 ?_
  refine jx_iconst (v := 0) kd990.1 (by decide) ?_
  obtain ⟨hk16, h⟩ := h
  obtain ⟨hi17, h⟩ := h
  refine jx_iald kd990.2.1 hk16 hi17 ?_
  refine jx_icmp_ge (tgt := 142) kd990.2.2.1 (by decide) (fun c18 => ?_) (fun c18 => ?_)
  · replace h := h.1 c18
    refine jx_iload_n 3 kd995.2.2.2.2.1 rfl rfl ?_
    refine jx_if_ge (tgt := 151) kd995.2.2.2.2.2.1 (by decide) (fun c19 => ?_) (fun c19 => ?_)
    · replace h := h.1 c19
      refine jx_iload_n 2 kd995.2.2.2.2.2.2.2.2.1 rfl rfl ?_
      refine jx_if_ne (tgt := 159) kd996.1 (by decide) (fun c20 => ?_) (fun c20 => ?_)
      · replace h := h.2 c20
        refine jx_iload 4 kd996.2.2.2.1 rfl ?_
        exact jx_iret kd996.2.2.2.2.1 rfl rfl (jle rfl) (jle rfl) ⟨_, rfl, h⟩
      replace h := h.1 c20
      refine jx_iload_n 3 kd996.2.1 rfl rfl ?_
      refine jx_goto (tgt := 161) kd996.2.2.1 (by decide) ?_
      exact jx_iret kd996.2.2.2.2.1 rfl rfl (jle rfl) (jle rfl) ⟨_, rfl, h⟩
    replace h := h.2 c19
    refine jx_ldc jwC_X11_70 kd995.2.2.2.2.2.2.1 ?_
    refine jx_goto (tgt := 161) kd995.2.2.2.2.2.2.2.1 (by decide) ?_
    exact jx_iret kd996.2.2.2.2.1 rfl rfl (jle rfl) (jle rfl) ⟨_, rfl, h⟩
  replace h := h.2 c18
  refine jx_iconst (v := 0) kd990.2.2.2.1 (by decide) ?_
  refine jx_istore (lv1 := [(6, .int 0), (0, .ref a0), (1, .int x1), (2, .int x2), (3, .int x3), (4, .int x4), (5, .int x5)]) kd990.2.2.2.2.1 (by decide) rfl ?_
  refine jx_iconst (v := 0) kd990.2.2.2.2.2.1 (by decide) ?_
  refine jx_istore (lv1 := [(7, .int 0), (6, .int 0), (0, .ref a0), (1, .int x1), (2, .int x2), (3, .int x3), (4, .int x4), (5, .int x5)]) kd990.2.2.2.2.2.2.1 (by decide) rfl ?_
  exact jx_lv [2, 3, 4, 5, 6, 7, 1, 0] rfl h
set_option maxRecDepth 100000 in
set_option maxHeartbeats 4000000 in
theorem T_X11_cut_58 {E : jEnv} {d : Nat} {Q : Int32 → jM → Prop} {a0 : Nat} {x1 : Int32} {x2 : Int32} {x3 : Int32} {x4 : Int32} {x5 : Int32} {x6 : Int32} {x7 : Int32} {S : jM} (h : jk S a0 = 11 ∧ ∃ b22, jr S a0 5 = some b22 ∧ (jk S b22 = 12 ∧ vp_in x1 (jl S b22) ∧ (((ji S b22 (Int32.toNatClampNeg x1)) ≤ x7 → (x3 < 0 → L_X11_cut_41 E d Q a0 x1 x2 x5 x6 (x5 + 1) S) ∧ (¬ x3 < 0 → (x4 ≤ x6 → L_X11_cut_41 E d Q a0 x1 x2 x3 x4 (x5 + 1) S) ∧ (¬ x4 ≤ x6 → L_X11_cut_41 E d Q a0 x1 x2 x5 x6 (x5 + 1) S))) ∧ (¬ (ji S b22 (Int32.toNatClampNeg x1)) ≤ x7 → ∃ b28, jr S a0 6 = some b28 ∧ (jk S b28 = 12 ∧ vp_in ((24 * x1) + x7) (jl S b28) ∧ (((ji S b28 (Int32.toNatClampNeg ((24 * x1) + x7))) = (-1000000005) → L_X11_cut_58 E d Q a0 x1 x2 x3 x4 x5 (x6 + 0) (x7 + 1) S) ∧ (¬ (ji S b28 (Int32.toNatClampNeg ((24 * x1) + x7))) = (-1000000005) → jFi E mX11_takes (d + 1) 0 0 [.ref a0, .int x5, .int x7] S (fun r33 S32 => L_X11_cut_58 E d Q a0 x1 x2 x3 x4 x5 (x6 + (joff (ji S b28 (Int32.toNatClampNeg ((24 * x1) + x7))) r33)) (x7 + 1) S32)))))))) : L_X11_cut_58 E d Q a0 x1 x2 x3 x4 x5 x6 x7 S := by
  show jX E mX11_cut (jRm (d + 2) 0 0) (jZm E (fun r S' => ∃ v : Int32, r = some (.int v) ∧ Q v S') 0 0) 58 [(0, .ref a0), (1, .int x1), (2, .int x2), (3, .int x3), (4, .int x4), (5, .int x5), (6, .int x6), (7, .int x7)] [] S 0 0
  refine jx_iload 7 kd990.2.2.2.2.2.2.2.1 rfl ?_
  refine jx_aload_n 0 kd990.2.2.2.2.2.2.2.2.1 rfl rfl ?_
  obtain ⟨hk21, h⟩ := h
  obtain ⟨b22, hb22, h⟩ := h
  refine jx_getr jc_11 (j := 5) (by decide) rfl jwF_X11_22 kd991.1 hk21 hb22 ?_
  refine jx_iload_n 1 kd991.2.1 rfl rfl ?_
  obtain ⟨hk23, h⟩ := h
  obtain ⟨hi24, h⟩ := h
  refine jx_iald kd991.2.2.1 hk23 hi24 ?_
  refine jx_icmp_ge (tgt := 118) kd991.2.2.2.1 (by decide) (fun c25 => ?_) (fun c25 => ?_)
  · replace h := h.1 c25
    refine jx_iload_n 3 kd994.2.2.1 rfl rfl ?_
    refine jx_if_lt (tgt := 129) kd994.2.2.2.1 (by decide) (fun c26 => ?_) (fun c26 => ?_)
    · replace h := h.1 c26
      refine jx_iload 5 kd994.2.2.2.2.2.2.2.1 rfl ?_
      refine jx_istore_n (lv1 := [(3, .int x5), (0, .ref a0), (1, .int x1), (2, .int x2), (4, .int x4), (5, .int x5), (6, .int x6), (7, .int x7)]) kd994.2.2.2.2.2.2.2.2.1 rfl (by decide) rfl ?_
      refine jx_iload 6 kd995.1 rfl ?_
      refine jx_istore (lv1 := [(4, .int x6), (3, .int x5), (0, .ref a0), (1, .int x1), (2, .int x2), (5, .int x5), (6, .int x6), (7, .int x7)]) kd995.2.1 (by decide) rfl ?_
      refine jx_iinc 5 (v := (x5 + 1)) (lv1 := [(5, .int (x5 + 1)), (4, .int x6), (3, .int x5), (0, .ref a0), (1, .int x1), (2, .int x2), (6, .int x6), (7, .int x7)]) kd995.2.2.1 rfl rfl (by decide) rfl ?_
      refine jx_goto (tgt := 41) kd995.2.2.2.1 (by decide) ?_
      exact jx_lv [3, 4, 5, 2, 1, 0] rfl h
    replace h := h.2 c26
    refine jx_iload 6 kd994.2.2.2.2.1 rfl ?_
    refine jx_iload 4 kd994.2.2.2.2.2.1 rfl ?_
    refine jx_icmp_ge (tgt := 136) kd994.2.2.2.2.2.2.1 (by decide) (fun c27 => ?_) (fun c27 => ?_)
    · replace h := h.1 c27
      refine jx_iinc 5 (v := (x5 + 1)) (lv1 := [(5, .int (x5 + 1)), (0, .ref a0), (1, .int x1), (2, .int x2), (3, .int x3), (4, .int x4), (6, .int x6), (7, .int x7)]) kd995.2.2.1 rfl rfl (by decide) rfl ?_
      refine jx_goto (tgt := 41) kd995.2.2.2.1 (by decide) ?_
      exact jx_lv [1, 2, 3, 4, 5, 0] rfl h
    replace h := h.2 c27
    refine jx_iload 5 kd994.2.2.2.2.2.2.2.1 rfl ?_
    refine jx_istore_n (lv1 := [(3, .int x5), (0, .ref a0), (1, .int x1), (2, .int x2), (4, .int x4), (5, .int x5), (6, .int x6), (7, .int x7)]) kd994.2.2.2.2.2.2.2.2.1 rfl (by decide) rfl ?_
    refine jx_iload 6 kd995.1 rfl ?_
    refine jx_istore (lv1 := [(4, .int x6), (3, .int x5), (0, .ref a0), (1, .int x1), (2, .int x2), (5, .int x5), (6, .int x6), (7, .int x7)]) kd995.2.1 (by decide) rfl ?_
    refine jx_iinc 5 (v := (x5 + 1)) (lv1 := [(5, .int (x5 + 1)), (4, .int x6), (3, .int x5), (0, .ref a0), (1, .int x1), (2, .int x2), (6, .int x6), (7, .int x7)]) kd995.2.2.1 rfl rfl (by decide) rfl ?_
    refine jx_goto (tgt := 41) kd995.2.2.2.1 (by decide) ?_
    exact jx_lv [3, 4, 5, 2, 1, 0] rfl h
  replace h := h.2 c25
  refine jx_aload_n 0 kd991.2.2.2.2.1 rfl rfl ?_
  obtain ⟨b28, hb28, h⟩ := h
  refine jx_getr jc_11 (j := 6) (by decide) rfl jwF_X11_25 kd991.2.2.2.2.2.1 hk21 hb28 ?_
  refine jx_bipush (v := 24) kd991.2.2.2.2.2.2.1 (by decide) ?_
  refine jx_iload_n 1 kd991.2.2.2.2.2.2.2.1 rfl rfl ?_
  refine jx_imul kd991.2.2.2.2.2.2.2.2.1 ?_
  refine jx_iload 7 kd992.1 rfl ?_
  refine jx_iadd kd992.2.1 ?_
  obtain ⟨hk29, h⟩ := h
  obtain ⟨hi30, h⟩ := h
  refine jx_iald kd992.2.2.1 hk29 hi30 ?_
  refine jx_istore (lv1 := [(8, .int (ji S b28 (Int32.toNatClampNeg ((24 * x1) + x7)))), (0, .ref a0), (1, .int x1), (2, .int x2), (3, .int x3), (4, .int x4), (5, .int x5), (6, .int x6), (7, .int x7)]) kd992.2.2.2.1 (by decide) rfl ?_
  refine jx_iload 7 kd992.2.2.2.2.1 rfl ?_
  refine jx_iload 0 kd992.2.2.2.2.2.1 rfl ?_
  refine jx_ldc jwC_X11_70 kd992.2.2.2.2.2.2.1 ?_
  refine jx_icmp_ne (tgt := 96) kd992.2.2.2.2.2.2.2.1 (by decide) (fun c31 => ?_) (fun c31 => ?_)
  · replace h := h.2 c31
    refine jx_iload 0 kd993.2.1 rfl ?_
    refine jx_aload_n 1 kd993.2.2.1 rfl rfl ?_
    refine jx_iload 6 kd993.2.2.2.1 rfl ?_
    refine jx_iload 8 kd993.2.2.2.2.1 rfl ?_
    refine jx_callVi (M' := mX11_takes) (As := [.int x5, .int x7]) jo_X11_takes jc_11 rfl jwM_X11_116 jwN_X11_takes jwX_X11_takes kd993.2.2.2.2.2.1 (jRok_m _ _ _) rfl (jle rfl) ⟨jle rfl, jle rfl⟩ hk21 h (fun r33 S32 h => ?_)
    refine jx_callSi (M' := mX11_off) (As := [.int (ji S b28 (Int32.toNatClampNeg ((24 * x1) + x7))), .int r33]) jo_X11_off jwM_X11_326 jwS_X11_off kd993.2.2.2.2.2.2.1 (jRok_m _ _ _) rfl (jle rfl) ⟨jle rfl, jle rfl⟩ (c_X11_off (Q := fun v S' => v = (joff (ji S b28 (Int32.toNatClampNeg ((24 * x1) + x7))) r33) ∧ S32 = S') ⟨rfl, rfl⟩) (fun r34 S35 hq36 => ?_)
    obtain ⟨rfl, rfl⟩ := hq36
    refine jx_iadd kd993.2.2.2.2.2.2.2.1 ?_
    refine jx_istore (lv1 := [(6, .int (x6 + (joff (ji S b28 (Int32.toNatClampNeg ((24 * x1) + x7))) r33))), (8, .int (ji S b28 (Int32.toNatClampNeg ((24 * x1) + x7)))), (0, .ref a0), (1, .int x1), (2, .int x2), (3, .int x3), (4, .int x4), (5, .int x5), (7, .int x7)]) kd993.2.2.2.2.2.2.2.2.1 (by decide) rfl ?_
    refine jx_iinc 8 (v := (x7 + 1)) (lv1 := [(7, .int (x7 + 1)), (6, .int (x6 + (joff (ji S b28 (Int32.toNatClampNeg ((24 * x1) + x7))) r33))), (8, .int (ji S b28 (Int32.toNatClampNeg ((24 * x1) + x7)))), (0, .ref a0), (1, .int x1), (2, .int x2), (3, .int x3), (4, .int x4), (5, .int x5)]) kd994.1 rfl rfl (by decide) rfl ?_
    refine jx_goto (tgt := 58) kd994.2.1 (by decide) ?_
    exact jx_lv [3, 4, 5, 6, 7, 8, 1, 0] rfl h
  replace h := h.1 c31
  refine jx_iconst (v := 0) kd992.2.2.2.2.2.2.2.2.1 (by decide) ?_
  refine jx_goto (tgt := 109) kd993.1 (by decide) ?_
  refine jx_iadd kd993.2.2.2.2.2.2.2.1 ?_
  refine jx_istore (lv1 := [(6, .int (x6 + 0)), (8, .int (ji S b28 (Int32.toNatClampNeg ((24 * x1) + x7)))), (0, .ref a0), (1, .int x1), (2, .int x2), (3, .int x3), (4, .int x4), (5, .int x5), (7, .int x7)]) kd993.2.2.2.2.2.2.2.2.1 (by decide) rfl ?_
  refine jx_iinc 8 (v := (x7 + 1)) (lv1 := [(7, .int (x7 + 1)), (6, .int (x6 + 0)), (8, .int (ji S b28 (Int32.toNatClampNeg ((24 * x1) + x7)))), (0, .ref a0), (1, .int x1), (2, .int x2), (3, .int x3), (4, .int x4), (5, .int x5)]) kd994.1 rfl rfl (by decide) rfl ?_
  refine jx_goto (tgt := 58) kd994.2.1 (by decide) ?_
  exact jx_lv [3, 4, 5, 6, 7, 8, 1, 0] rfl h
/-- X11_copy at its loop's head 113 -/
abbrev L_X11_copy_113 (E : jEnv) (d : Nat) (Q : Int32 → jM → Prop) (a0 : Nat) (x1 : Int32) (x2 : Int32) (x3 : Int32) (x4 : Int32) (x5 : Int32) (x6 : Int32) (S : jM) : Prop := jX E mX11_copy (jRm (d + 2) 0 0) (jZm E (fun r S' => ∃ v : Int32, r = some (.int v) ∧ Q v S') 0 0) 113 [(0, .ref a0), (1, .int x1), (2, .int x2), (3, .int x3), (4, .int x4), (5, .int x5), (6, .int x6)] [] S 0 0
/-- X11_copy at its loop's head 150 -/
abbrev L_X11_copy_150 (E : jEnv) (d : Nat) (Q : Int32 → jM → Prop) (a0 : Nat) (x3 : Int32) (x4 : Int32) (x5 : Int32) (x6 : Int32) (S : jM) : Prop := jX E mX11_copy (jRm (d + 2) 0 0) (jZm E (fun r S' => ∃ v : Int32, r = some (.int v) ∧ Q v S') 0 0) 150 [(0, .ref a0), (3, .int x3), (4, .int x4), (5, .int x5), (6, .int x6)] [] S 0 0
set_option maxRecDepth 100000 in
set_option maxHeartbeats 4000000 in
theorem T_X11_copy {E : jEnv} {d : Nat} {Q : Int32 → jM → Prop} {a0 : Nat} {x1 : Int32} {x2 : Int32} {x3 : Int32} {x4 : Int32} {x5 : Int32} {S : jM} (h : ((jissheet x1) = 0 → Q (-1000000001) S) ∧ (¬ (jissheet x1) = 0 → ((jissheet x3) = 0 → Q (-1000000001) S) ∧ (¬ (jissheet x3) = 0 → jk S a0 = 11 ∧ ∃ b10, jr S a0 4 = some b10 ∧ (jk S b10 = 12 ∧ vp_in x1 (jl S b10) ∧ (((ji S b10 (Int32.toNatClampNeg x1)) < 0 → Q (-1000000011) S) ∧ (¬ (ji S b10 (Int32.toNatClampNeg x1)) < 0 → vp_in x3 (jl S b10) ∧ ((0 ≤ (ji S b10 (Int32.toNatClampNeg x3)) → ((((ji S b10 (Int32.toNatClampNeg x1)) = (ji S b10 (Int32.toNatClampNeg x3)) → (x2 < 0 → Q (-1000000013) S) ∧ (¬ x2 < 0 → (x4 < 0 → Q (-1000000013) S) ∧ (¬ x4 < 0 → (x5 < 0 → Q (-1000000013) S) ∧ (¬ x5 < 0 → ∃ b20, jr S a0 5 = some b20 ∧ (jk S b20 = 12 ∧ vp_in x1 (jl S b20) ∧ ((0 < (lg_cmp ((Int32.toInt64 x2) + (Int32.toInt64 x5)) (Int32.toInt64 (ji S b20 (Int32.toNatClampNeg x1)))) → Q (-1000000013) S) ∧ (¬ 0 < (lg_cmp ((Int32.toInt64 x2) + (Int32.toInt64 x5)) (Int32.toInt64 (ji S b20 (Int32.toNatClampNeg x1)))) → vp_in x3 (jl S b20) ∧ (((lg_cmp ((Int32.toInt64 x4) + (Int32.toInt64 x5)) (Int32.toInt64 (ji S b20 (Int32.toNatClampNeg x3)))) ≤ 0 → L_X11_copy_113 E d Q a0 x1 x2 x3 x4 x5 0 S) ∧ (¬ (lg_cmp ((Int32.toInt64 x4) + (Int32.toInt64 x5)) (Int32.toInt64 (ji S b20 (Int32.toNatClampNeg x3)))) ≤ 0 → Q (-1000000013) S))))))))) ∧ (¬ (ji S b10 (Int32.toNatClampNeg x1)) = (ji S b10 (Int32.toNatClampNeg x3)) → Q (-1000000012) S)))) ∧ (¬ 0 ≤ (ji S b10 (Int32.toNatClampNeg x3)) → Q (-1000000011) S)))))))) : jFi E mX11_copy (d + 2) 0 0 [.ref a0, .int x1, .int x2, .int x3, .int x4, .int x5] S Q := by
  refine jF_of (by decide) (jle rfl) ?_
  refine jx_lv (lv1 := [(0, .ref a0), (1, .int x1), (2, .int x2), (3, .int x3), (4, .int x4), (5, .int x5)]) [0, 1, 2, 3, 4, 5] rfl ?_
  refine jx_iload_n 1 kd997.1 rfl rfl ?_
  refine jx_callSi (M' := mX11_isSheet) (As := [.int x1]) jo_X11_isSheet jwM_X11_314 jwS_X11_isSheet kd997.2.1 (jRok_m _ _ _) rfl (jle rfl) ⟨jle rfl, jle rfl⟩ (c_X11_isSheet (Q := fun v S' => v = (jissheet x1) ∧ S = S') ⟨rfl, rfl⟩) (fun r1 S2 hq3 => ?_)
  obtain ⟨rfl, rfl⟩ := hq3
  refine jx_if_eq (tgt := 14) kd997.2.2.1 (by decide) (fun c4 => ?_) (fun c4 => ?_)
  · replace h := h.1 c4
    refine jx_ldc jwC_X11_87 kd997.2.2.2.2.2.2.1 ?_
    exact jx_iret kd997.2.2.2.2.2.2.2.1 rfl rfl (jle rfl) (jle rfl) ⟨_, rfl, h⟩
  replace h := h.2 c4
  refine jx_iload_n 3 kd997.2.2.2.1 rfl rfl ?_
  refine jx_callSi (M' := mX11_isSheet) (As := [.int x3]) jo_X11_isSheet jwM_X11_314 jwS_X11_isSheet kd997.2.2.2.2.1 (jRok_m _ _ _) rfl (jle rfl) ⟨jle rfl, jle rfl⟩ (c_X11_isSheet (Q := fun v S' => v = (jissheet x3) ∧ S = S') ⟨rfl, rfl⟩) (fun r5 S6 hq7 => ?_)
  obtain ⟨rfl, rfl⟩ := hq7
  refine jx_if_ne (tgt := 17) kd997.2.2.2.2.2.1 (by decide) (fun c8 => ?_) (fun c8 => ?_)
  · replace h := h.2 c8
    refine jx_aload_n 0 kd997.2.2.2.2.2.2.2.2.1 rfl rfl ?_
    obtain ⟨hk9, h⟩ := h
    obtain ⟨b10, hb10, h⟩ := h
    refine jx_getr jc_11 (j := 4) (by decide) rfl jwF_X11_19 kd998.1 hk9 hb10 ?_
    refine jx_iload_n 1 kd998.2.1 rfl rfl ?_
    obtain ⟨hk11, h⟩ := h
    obtain ⟨hi12, h⟩ := h
    refine jx_iald kd998.2.2.1 hk11 hi12 ?_
    refine jx_if_lt (tgt := 35) kd998.2.2.2.1 (by decide) (fun c13 => ?_) (fun c13 => ?_)
    · replace h := h.1 c13
      refine jx_ldcw jwC_X11_320 kd999.1 ?_
      exact jx_iret kd999.2.1 rfl rfl (jle rfl) (jle rfl) ⟨_, rfl, h⟩
    replace h := h.2 c13
    refine jx_aload_n 0 kd998.2.2.2.2.1 rfl rfl ?_
    refine jx_getr jc_11 (j := 4) (by decide) rfl jwF_X11_19 kd998.2.2.2.2.2.1 hk9 hb10 ?_
    refine jx_iload_n 3 kd998.2.2.2.2.2.2.1 rfl rfl ?_
    obtain ⟨hi14, h⟩ := h
    refine jx_iald kd998.2.2.2.2.2.2.2.1 hk11 hi14 ?_
    refine jx_if_ge (tgt := 39) kd998.2.2.2.2.2.2.2.2.1 (by decide) (fun c15 => ?_) (fun c15 => ?_)
    · replace h := h.1 c15
      refine jx_aload_n 0 kd999.2.2.1 rfl rfl ?_
      refine jx_getr jc_11 (j := 4) (by decide) rfl jwF_X11_19 kd999.2.2.2.1 hk9 hb10 ?_
      refine jx_iload_n 1 kd999.2.2.2.2.1 rfl rfl ?_
      refine jx_iald kd999.2.2.2.2.2.1 hk11 hi12 ?_
      refine jx_aload_n 0 kd999.2.2.2.2.2.2.1 rfl rfl ?_
      refine jx_getr jc_11 (j := 4) (by decide) rfl jwF_X11_19 kd999.2.2.2.2.2.2.2.1 hk9 hb10 ?_
      refine jx_iload_n 3 kd999.2.2.2.2.2.2.2.2.1 rfl rfl ?_
      refine jx_iald kd1000.1 hk11 hi14 ?_
      refine jx_icmp_eq (tgt := 57) kd1000.2.1 (by decide) (fun c16 => ?_) (fun c16 => ?_)
      · replace h := h.1 c16
        refine jx_iload_n 2 kd1000.2.2.2.2.1 rfl rfl ?_
        refine jx_if_lt (tgt := 106) kd1000.2.2.2.2.2.1 (by decide) (fun c17 => ?_) (fun c17 => ?_)
        · replace h := h.1 c17
          refine jx_ldcw jwC_X11_321 kd1003.2.2.2.2.2.2.2.1 ?_
          exact jx_iret kd1003.2.2.2.2.2.2.2.2.1 rfl rfl (jle rfl) (jle rfl) ⟨_, rfl, h⟩
        replace h := h.2 c17
        refine jx_iload 4 kd1000.2.2.2.2.2.2.1 rfl ?_
        refine jx_if_lt (tgt := 106) kd1000.2.2.2.2.2.2.2.1 (by decide) (fun c18 => ?_) (fun c18 => ?_)
        · replace h := h.1 c18
          refine jx_ldcw jwC_X11_321 kd1003.2.2.2.2.2.2.2.1 ?_
          exact jx_iret kd1003.2.2.2.2.2.2.2.2.1 rfl rfl (jle rfl) (jle rfl) ⟨_, rfl, h⟩
        replace h := h.2 c18
        refine jx_iload 5 kd1000.2.2.2.2.2.2.2.2.1 rfl ?_
        refine jx_if_lt (tgt := 106) kd1001.1 (by decide) (fun c19 => ?_) (fun c19 => ?_)
        · replace h := h.1 c19
          refine jx_ldcw jwC_X11_321 kd1003.2.2.2.2.2.2.2.1 ?_
          exact jx_iret kd1003.2.2.2.2.2.2.2.2.1 rfl rfl (jle rfl) (jle rfl) ⟨_, rfl, h⟩
        replace h := h.2 c19
        refine jx_iload_n 2 kd1001.2.1 rfl rfl ?_
        refine jx_i2l kd1001.2.2.1 ?_
        refine jx_iload 5 kd1001.2.2.2.1 rfl ?_
        refine jx_i2l kd1001.2.2.2.2.1 ?_
        refine jx_ladd kd1001.2.2.2.2.2.1 ?_
        refine jx_aload_n 0 kd1001.2.2.2.2.2.2.1 rfl rfl ?_
        obtain ⟨b20, hb20, h⟩ := h
        refine jx_getr jc_11 (j := 5) (by decide) rfl jwF_X11_22 kd1001.2.2.2.2.2.2.2.1 hk9 hb20 ?_
        refine jx_iload_n 1 kd1001.2.2.2.2.2.2.2.2.1 rfl rfl ?_
        obtain ⟨hk21, h⟩ := h
        obtain ⟨hi22, h⟩ := h
        refine jx_iald kd1002.1 hk21 hi22 ?_
        refine jx_i2l kd1002.2.1 ?_
        refine jx_lcmp kd1002.2.2.1 ?_
        refine jx_if_gt (tgt := 106) kd1002.2.2.2.1 (by decide) (fun c23 => ?_) (fun c23 => ?_)
        · replace h := h.1 c23
          refine jx_ldcw jwC_X11_321 kd1003.2.2.2.2.2.2.2.1 ?_
          exact jx_iret kd1003.2.2.2.2.2.2.2.2.1 rfl rfl (jle rfl) (jle rfl) ⟨_, rfl, h⟩
        replace h := h.2 c23
        refine jx_iload 4 kd1002.2.2.2.2.1 rfl ?_
        refine jx_i2l kd1002.2.2.2.2.2.1 ?_
        refine jx_iload 5 kd1002.2.2.2.2.2.2.1 rfl ?_
        refine jx_i2l kd1002.2.2.2.2.2.2.2.1 ?_
        refine jx_ladd kd1002.2.2.2.2.2.2.2.2.1 ?_
        refine jx_aload_n 0 kd1003.1 rfl rfl ?_
        refine jx_getr jc_11 (j := 5) (by decide) rfl jwF_X11_22 kd1003.2.1 hk9 hb20 ?_
        refine jx_iload_n 3 kd1003.2.2.1 rfl rfl ?_
        obtain ⟨hi24, h⟩ := h
        refine jx_iald kd1003.2.2.2.1 hk21 hi24 ?_
        refine jx_i2l kd1003.2.2.2.2.1 ?_
        refine jx_lcmp kd1003.2.2.2.2.2.1 ?_
        refine jx_if_le (tgt := 110) kd1003.2.2.2.2.2.2.1 (by decide) (fun c25 => ?_) (fun c25 => ?_)
        · replace h := h.1 c25
          refine jx_iconst (v := 0) kd1004.1 (by decide) ?_
          refine jx_istore (lv1 := [(6, .int 0), (0, .ref a0), (1, .int x1), (2, .int x2), (3, .int x3), (4, .int x4), (5, .int x5)]) kd1004.2.1 (by decide) rfl ?_
          exact jx_lv [1, 2, 3, 4, 5, 6, 0] rfl h
        replace h := h.2 c25
        refine jx_ldcw jwC_X11_321 kd1003.2.2.2.2.2.2.2.1 ?_
        exact jx_iret kd1003.2.2.2.2.2.2.2.2.1 rfl rfl (jle rfl) (jle rfl) ⟨_, rfl, h⟩
      replace h := h.2 c16
      refine jx_ldc jwC_X11_129 kd1000.2.2.1 ?_
      exact jx_iret kd1000.2.2.2.1 rfl rfl (jle rfl) (jle rfl) ⟨_, rfl, h⟩
    replace h := h.2 c15
    refine jx_ldcw jwC_X11_320 kd999.1 ?_
    exact jx_iret kd999.2.1 rfl rfl (jle rfl) (jle rfl) ⟨_, rfl, h⟩
  replace h := h.1 c8
  refine jx_ldc jwC_X11_87 kd997.2.2.2.2.2.2.1 ?_
  exact jx_iret kd997.2.2.2.2.2.2.2.1 rfl rfl (jle rfl) (jle rfl) ⟨_, rfl, h⟩
set_option maxRecDepth 100000 in
set_option maxHeartbeats 4000000 in
theorem T_X11_copy_113 {E : jEnv} {d : Nat} {Q : Int32 → jM → Prop} {a0 : Nat} {x1 : Int32} {x2 : Int32} {x3 : Int32} {x4 : Int32} {x5 : Int32} {x6 : Int32} {S : jM} (h : (x5 ≤ x6 → L_X11_copy_150 E d Q a0 x3 x4 x5 0 S) ∧ (¬ x5 ≤ x6 → jk S a0 = 11 ∧ ∃ b28, jr S a0 32 = some b28 ∧ (∃ b29, jr S a0 6 = some b29 ∧ (jk S b29 = 12 ∧ vp_in (((24 * x1) + x2) + x6) (jl S b29) ∧ (jk S b28 = 12 ∧ vp_in x6 (jl S b28) ∧ (L_X11_copy_113 E d Q a0 x1 x2 x3 x4 x5 (x6 + 1) (jput S b28 (Int32.toNatClampNeg x6) (ji S b29 (Int32.toNatClampNeg (((24 * x1) + x2) + x6)))))))))) : L_X11_copy_113 E d Q a0 x1 x2 x3 x4 x5 x6 S := by
  show jX E mX11_copy (jRm (d + 2) 0 0) (jZm E (fun r S' => ∃ v : Int32, r = some (.int v) ∧ Q v S') 0 0) 113 [(0, .ref a0), (1, .int x1), (2, .int x2), (3, .int x3), (4, .int x4), (5, .int x5), (6, .int x6)] [] S 0 0
  refine jx_iload 6 kd1004.2.2.1 rfl ?_
  refine jx_iload 5 kd1004.2.2.2.1 rfl ?_
  refine jx_icmp_ge (tgt := 147) kd1004.2.2.2.2.1 (by decide) (fun c26 => ?_) (fun c26 => ?_)
  · replace h := h.1 c26
    refine jx_iconst (v := 0) kd1006.2.2.2.1 (by decide) ?_
    refine jx_istore (lv1 := [(6, .int 0), (0, .ref a0), (1, .int x1), (2, .int x2), (3, .int x3), (4, .int x4), (5, .int x5)]) kd1006.2.2.2.2.1 (by decide) rfl ?_
    exact jx_lv [1, 4, 5, 6, 0] rfl h
  replace h := h.2 c26
  refine jx_aload_n 0 kd1004.2.2.2.2.2.1 rfl rfl ?_
  obtain ⟨hk27, h⟩ := h
  obtain ⟨b28, hb28, h⟩ := h
  refine jx_getr jc_11 (j := 32) (by decide) rfl jwF_X11_61 kd1004.2.2.2.2.2.2.1 hk27 hb28 ?_
  refine jx_iload 6 kd1004.2.2.2.2.2.2.2.1 rfl ?_
  refine jx_aload_n 0 kd1004.2.2.2.2.2.2.2.2.1 rfl rfl ?_
  obtain ⟨b29, hb29, h⟩ := h
  refine jx_getr jc_11 (j := 6) (by decide) rfl jwF_X11_25 kd1005.1 hk27 hb29 ?_
  refine jx_bipush (v := 24) kd1005.2.1 (by decide) ?_
  refine jx_iload_n 1 kd1005.2.2.1 rfl rfl ?_
  refine jx_imul kd1005.2.2.2.1 ?_
  refine jx_iload_n 2 kd1005.2.2.2.2.1 rfl rfl ?_
  refine jx_iadd kd1005.2.2.2.2.2.1 ?_
  refine jx_iload 6 kd1005.2.2.2.2.2.2.1 rfl ?_
  refine jx_iadd kd1005.2.2.2.2.2.2.2.1 ?_
  obtain ⟨hk30, h⟩ := h
  obtain ⟨hi31, h⟩ := h
  refine jx_iald kd1005.2.2.2.2.2.2.2.2.1 hk30 hi31 ?_
  obtain ⟨hk32, h⟩ := h
  obtain ⟨hi33, h⟩ := h
  refine jx_iast kd1006.1 hk32 hi33 ?_
  refine jx_iinc 6 (v := (x6 + 1)) (lv1 := [(6, .int (x6 + 1)), (0, .ref a0), (1, .int x1), (2, .int x2), (3, .int x3), (4, .int x4), (5, .int x5)]) kd1006.2.1 rfl rfl (by decide) rfl ?_
  refine jx_goto (tgt := 113) kd1006.2.2.1 (by decide) ?_
  exact jx_lv [1, 2, 3, 4, 5, 6, 0] rfl h
set_option maxRecDepth 100000 in
set_option maxHeartbeats 4000000 in
theorem T_X11_copy_150 {E : jEnv} {d : Nat} {Q : Int32 → jM → Prop} {a0 : Nat} {x3 : Int32} {x4 : Int32} {x5 : Int32} {x6 : Int32} {S : jM} (h : (x5 ≤ x6 → Q x5 S) ∧ (¬ x5 ≤ x6 → jk S a0 = 11 ∧ ∃ b36, jr S a0 6 = some b36 ∧ (∃ b37, jr S a0 32 = some b37 ∧ (jk S b37 = 12 ∧ vp_in x6 (jl S b37) ∧ (jk S b36 = 12 ∧ vp_in (((24 * x3) + x4) + x6) (jl S b36) ∧ (L_X11_copy_150 E d Q a0 x3 x4 x5 (x6 + 1) (jput S b36 (Int32.toNatClampNeg (((24 * x3) + x4) + x6)) (ji S b37 (Int32.toNatClampNeg x6))))))))) : L_X11_copy_150 E d Q a0 x3 x4 x5 x6 S := by
  show jX E mX11_copy (jRm (d + 2) 0 0) (jZm E (fun r S' => ∃ v : Int32, r = some (.int v) ∧ Q v S') 0 0) 150 [(0, .ref a0), (3, .int x3), (4, .int x4), (5, .int x5), (6, .int x6)] [] S 0 0
  refine jx_iload 4 kd1006.2.2.2.2.2.1 rfl ?_
  refine jx_iload 3 kd1006.2.2.2.2.2.2.1 rfl ?_
  refine jx_icmp_ge (tgt := 185) kd1006.2.2.2.2.2.2.2.1 (by decide) (fun c34 => ?_) (fun c34 => ?_)
  · replace h := h.1 c34
    refine jx_iload 3 kd1008.2.2.2.2.2.2.1 rfl ?_
    exact jx_iret kd1008.2.2.2.2.2.2.2.1 rfl rfl (jle rfl) (jle rfl) ⟨_, rfl, h⟩
  replace h := h.2 c34
  refine jx_aload_n 0 kd1006.2.2.2.2.2.2.2.2.1 rfl rfl ?_
  obtain ⟨hk35, h⟩ := h
  obtain ⟨b36, hb36, h⟩ := h
  refine jx_getr jc_11 (j := 6) (by decide) rfl jwF_X11_25 kd1007.1 hk35 hb36 ?_
  refine jx_bipush (v := 24) kd1007.2.1 (by decide) ?_
  refine jx_iload_n 1 kd1007.2.2.1 rfl rfl ?_
  refine jx_imul kd1007.2.2.2.1 ?_
  refine jx_iload 2 kd1007.2.2.2.2.1 rfl ?_
  refine jx_iadd kd1007.2.2.2.2.2.1 ?_
  refine jx_iload 4 kd1007.2.2.2.2.2.2.1 rfl ?_
  refine jx_iadd kd1007.2.2.2.2.2.2.2.1 ?_
  refine jx_aload_n 0 kd1007.2.2.2.2.2.2.2.2.1 rfl rfl ?_
  obtain ⟨b37, hb37, h⟩ := h
  refine jx_getr jc_11 (j := 32) (by decide) rfl jwF_X11_61 kd1008.1 hk35 hb37 ?_
  refine jx_iload 4 kd1008.2.1 rfl ?_
  obtain ⟨hk38, h⟩ := h
  obtain ⟨hi39, h⟩ := h
  refine jx_iald kd1008.2.2.1 hk38 hi39 ?_
  obtain ⟨hk40, h⟩ := h
  obtain ⟨hi41, h⟩ := h
  refine jx_iast kd1008.2.2.2.1 hk40 hi41 ?_
  refine jx_iinc 4 (v := (x6 + 1)) (lv1 := [(6, .int (x6 + 1)), (0, .ref a0), (3, .int x3), (4, .int x4), (5, .int x5)]) kd1008.2.2.2.2.1 rfl rfl (by decide) rfl ?_
  refine jx_goto (tgt := 150) kd1008.2.2.2.2.2.1 (by decide) ?_
  exact jx_lv [1, 2, 3, 4, 0] rfl h
/-- X11_lay at its loop's head 150 -/
abbrev L_X11_lay_150 (E : jEnv) (d : Nat) (Q : Int32 → jM → Prop) (a0 : Nat) (x1 : Int32) (x3 : Int32) (x5 : Int32) (x6 : Int32) (S : jM) : Prop := jX E mX11_lay (jRm (d + 2) 0 0) (jZm E (fun r S' => ∃ v : Int32, r = some (.int v) ∧ Q v S') 0 0) 150 [(0, .ref a0), (1, .int x1), (3, .int x3), (5, .int x5), (6, .int x6)] [] S 0 0
set_option maxRecDepth 100000 in
set_option maxHeartbeats 4000000 in
theorem T_X11_lay {E : jEnv} {d : Nat} {Q : Int32 → jM → Prop} {a0 : Nat} {x1 : Int32} {x2 : Int32} {x3 : Int32} {S : jM} (h : (x2 = 0 → ((jisslot x1) = 0 → Q (-1000000001) S) ∧ (¬ (jisslot x1) = 0 → (x2 = 2 → jk S a0 = 11 ∧ ∃ b29, jr S a0 4 = some b29 ∧ (jk S b29 = 12 ∧ vp_in x3 (jl S b29) ∧ ((0 ≤ (ji S b29 (Int32.toNatClampNeg x3)) → ∃ b33, jr S a0 7 = some b33 ∧ (jk S b33 = 12 ∧ vp_in x1 (jl S b33) ∧ ((∃ b36, jr S a0 8 = some b36 ∧ ((x2 = 1 → jFi E mX11_of (d + 1) 0 0 [.ref a0, .int x3, .int 0] (jput S b33 (Int32.toNatClampNeg x1) x2) (fun r50 S49 => jk S49 b36 = 12 ∧ vp_in x1 (jl S49 b36) ∧ (jk S49 a0 = 11 ∧ ∃ b54, jr S49 a0 9 = some b54 ∧ (jFi E mX11_worth (d + 1) 0 0 [.ref a0, .int x3] (jput S49 b36 (Int32.toNatClampNeg x1) r50) (fun r56 S55 => jk S55 b54 = 12 ∧ vp_in x1 (jl S55 b54) ∧ (jk S55 a0 = 11 ∧ ∃ b60, jr S55 a0 10 = some b60 ∧ (∃ b61, jr S55 a0 5 = some b61 ∧ (jk S55 b61 = 12 ∧ vp_in x3 (jl S55 b61) ∧ (jk S55 b60 = 12 ∧ vp_in x1 (jl S55 b60) ∧ (L_X11_lay_150 E d Q a0 x1 x3 (ji S b33 (Int32.toNatClampNeg x1)) 0 (jput (jput S55 b54 (Int32.toNatClampNeg x1) r56) b60 (Int32.toNatClampNeg x1) (ji (jput S55 b54 (Int32.toNatClampNeg x1) r56) b61 (Int32.toNatClampNeg x3))))))))))))) ∧ (¬ x2 = 1 → jk S b36 = 12 ∧ vp_in x1 (jl S b36) ∧ (∃ b40, jr S a0 9 = some b40 ∧ (jk S b40 = 12 ∧ vp_in x1 (jl S b40) ∧ (∃ b43, jr S a0 10 = some b43 ∧ (∃ b44, jr S a0 5 = some b44 ∧ (jk S b44 = 12 ∧ vp_in x3 (jl S b44) ∧ (jk S b43 = 12 ∧ vp_in x1 (jl S b43) ∧ (L_X11_lay_150 E d Q a0 x1 x3 (ji S b33 (Int32.toNatClampNeg x1)) 0 (jput (jput (jput (jput S b33 (Int32.toNatClampNeg x1) x2) b36 (Int32.toNatClampNeg x1) x3) b40 (Int32.toNatClampNeg x1) 0) b43 (Int32.toNatClampNeg x1) (ji (jput (jput (jput S b33 (Int32.toNatClampNeg x1) x2) b36 (Int32.toNatClampNeg x1) x3) b40 (Int32.toNatClampNeg x1) 0) b44 (Int32.toNatClampNeg x3)))))))))))))))) ∧ (¬ 0 ≤ (ji S b29 (Int32.toNatClampNeg x3)) → Q (-1000000011) S)))) ∧ (¬ x2 = 2 → jk S a0 = 11 ∧ ∃ b8, jr S a0 7 = some b8 ∧ (jk S b8 = 12 ∧ vp_in x1 (jl S b8) ∧ ((∃ b11, jr S a0 8 = some b11 ∧ ((x2 = 1 → jFi E mX11_of (d + 1) 0 0 [.ref a0, .int x3, .int 0] (jput S b8 (Int32.toNatClampNeg x1) x2) (fun r19 S18 => jk S18 b11 = 12 ∧ vp_in x1 (jl S18 b11) ∧ (jk S18 a0 = 11 ∧ ∃ b23, jr S18 a0 9 = some b23 ∧ (jFi E mX11_worth (d + 1) 0 0 [.ref a0, .int x3] (jput S18 b11 (Int32.toNatClampNeg x1) r19) (fun r25 S24 => jk S24 b23 = 12 ∧ vp_in x1 (jl S24 b23) ∧ (Q (ji S b8 (Int32.toNatClampNeg x1)) (jput S24 b23 (Int32.toNatClampNeg x1) r25))))))) ∧ (¬ x2 = 1 → jk S b11 = 12 ∧ vp_in x1 (jl S b11) ∧ (∃ b15, jr S a0 9 = some b15 ∧ (jk S b15 = 12 ∧ vp_in x1 (jl S b15) ∧ (Q (ji S b8 (Int32.toNatClampNeg x1)) (jput (jput (jput S b8 (Int32.toNatClampNeg x1) x2) b11 (Int32.toNatClampNeg x1) x3) b15 (Int32.toNatClampNeg x1) 0)))))))))))) ∧ (¬ x2 = 0 → (x2 = 3 → ((jisslot x1) = 0 → Q (-1000000001) S) ∧ (¬ (jisslot x1) = 0 → (x2 = 2 → jk S a0 = 11 ∧ ∃ b94, jr S a0 4 = some b94 ∧ (jk S b94 = 12 ∧ vp_in x3 (jl S b94) ∧ ((0 ≤ (ji S b94 (Int32.toNatClampNeg x3)) → ∃ b98, jr S a0 7 = some b98 ∧ (jk S b98 = 12 ∧ vp_in x1 (jl S b98) ∧ ((∃ b101, jr S a0 8 = some b101 ∧ ((x2 = 1 → jFi E mX11_of (d + 1) 0 0 [.ref a0, .int x3, .int 0] (jput S b98 (Int32.toNatClampNeg x1) x2) (fun r115 S114 => jk S114 b101 = 12 ∧ vp_in x1 (jl S114 b101) ∧ (jk S114 a0 = 11 ∧ ∃ b119, jr S114 a0 9 = some b119 ∧ (jFi E mX11_worth (d + 1) 0 0 [.ref a0, .int x3] (jput S114 b101 (Int32.toNatClampNeg x1) r115) (fun r121 S120 => jk S120 b119 = 12 ∧ vp_in x1 (jl S120 b119) ∧ (jk S120 a0 = 11 ∧ ∃ b125, jr S120 a0 10 = some b125 ∧ (∃ b126, jr S120 a0 5 = some b126 ∧ (jk S120 b126 = 12 ∧ vp_in x3 (jl S120 b126) ∧ (jk S120 b125 = 12 ∧ vp_in x1 (jl S120 b125) ∧ (L_X11_lay_150 E d Q a0 x1 x3 (ji S b98 (Int32.toNatClampNeg x1)) 0 (jput (jput S120 b119 (Int32.toNatClampNeg x1) r121) b125 (Int32.toNatClampNeg x1) (ji (jput S120 b119 (Int32.toNatClampNeg x1) r121) b126 (Int32.toNatClampNeg x3))))))))))))) ∧ (¬ x2 = 1 → jk S b101 = 12 ∧ vp_in x1 (jl S b101) ∧ (∃ b105, jr S a0 9 = some b105 ∧ (jk S b105 = 12 ∧ vp_in x1 (jl S b105) ∧ (∃ b108, jr S a0 10 = some b108 ∧ (∃ b109, jr S a0 5 = some b109 ∧ (jk S b109 = 12 ∧ vp_in x3 (jl S b109) ∧ (jk S b108 = 12 ∧ vp_in x1 (jl S b108) ∧ (L_X11_lay_150 E d Q a0 x1 x3 (ji S b98 (Int32.toNatClampNeg x1)) 0 (jput (jput (jput (jput S b98 (Int32.toNatClampNeg x1) x2) b101 (Int32.toNatClampNeg x1) x3) b105 (Int32.toNatClampNeg x1) 0) b108 (Int32.toNatClampNeg x1) (ji (jput (jput (jput S b98 (Int32.toNatClampNeg x1) x2) b101 (Int32.toNatClampNeg x1) x3) b105 (Int32.toNatClampNeg x1) 0) b109 (Int32.toNatClampNeg x3)))))))))))))))) ∧ (¬ 0 ≤ (ji S b94 (Int32.toNatClampNeg x3)) → Q (-1000000011) S)))) ∧ (¬ x2 = 2 → jk S a0 = 11 ∧ ∃ b73, jr S a0 7 = some b73 ∧ (jk S b73 = 12 ∧ vp_in x1 (jl S b73) ∧ ((∃ b76, jr S a0 8 = some b76 ∧ ((x2 = 1 → jFi E mX11_of (d + 1) 0 0 [.ref a0, .int x3, .int 0] (jput S b73 (Int32.toNatClampNeg x1) x2) (fun r84 S83 => jk S83 b76 = 12 ∧ vp_in x1 (jl S83 b76) ∧ (jk S83 a0 = 11 ∧ ∃ b88, jr S83 a0 9 = some b88 ∧ (jFi E mX11_worth (d + 1) 0 0 [.ref a0, .int x3] (jput S83 b76 (Int32.toNatClampNeg x1) r84) (fun r90 S89 => jk S89 b88 = 12 ∧ vp_in x1 (jl S89 b88) ∧ (Q (ji S b73 (Int32.toNatClampNeg x1)) (jput S89 b88 (Int32.toNatClampNeg x1) r90))))))) ∧ (¬ x2 = 1 → jk S b76 = 12 ∧ vp_in x1 (jl S b76) ∧ (∃ b80, jr S a0 9 = some b80 ∧ (jk S b80 = 12 ∧ vp_in x1 (jl S b80) ∧ (Q (ji S b73 (Int32.toNatClampNeg x1)) (jput (jput (jput S b73 (Int32.toNatClampNeg x1) x2) b76 (Int32.toNatClampNeg x1) x3) b80 (Int32.toNatClampNeg x1) 0)))))))))))) ∧ (¬ x2 = 3 → (x2 = 1 → jk S a0 = 11 ∧ jFi E mX11_isMaster (d + 1) 0 0 [.ref a0, .int x3] S (fun r171 S170 => (r171 = 0 → (x2 = 2 → ((jissheet x3) = 0 → ((jisslot x1) = 0 → Q (-1000000001) S170) ∧ (¬ (jisslot x1) = 0 → Q (-1000000001) S170)) ∧ (¬ (jissheet x3) = 0 → ((jisslot x1) = 0 → Q (-1000000001) S170) ∧ (¬ (jisslot x1) = 0 → jk S170 a0 = 11 ∧ ∃ b237, jr S170 a0 4 = some b237 ∧ (jk S170 b237 = 12 ∧ vp_in x3 (jl S170 b237) ∧ ((0 ≤ (ji S170 b237 (Int32.toNatClampNeg x3)) → ∃ b241, jr S170 a0 7 = some b241 ∧ (jk S170 b241 = 12 ∧ vp_in x1 (jl S170 b241) ∧ ((∃ b244, jr S170 a0 8 = some b244 ∧ (jFi E mX11_of (d + 1) 0 0 [.ref a0, .int x3, .int 0] (jput S170 b241 (Int32.toNatClampNeg x1) x2) (fun r246 S245 => jk S245 b244 = 12 ∧ vp_in x1 (jl S245 b244) ∧ (jk S245 a0 = 11 ∧ ∃ b250, jr S245 a0 9 = some b250 ∧ (jFi E mX11_worth (d + 1) 0 0 [.ref a0, .int x3] (jput S245 b244 (Int32.toNatClampNeg x1) r246) (fun r252 S251 => jk S251 b250 = 12 ∧ vp_in x1 (jl S251 b250) ∧ (jk S251 a0 = 11 ∧ ∃ b256, jr S251 a0 10 = some b256 ∧ (∃ b257, jr S251 a0 5 = some b257 ∧ (jk S251 b257 = 12 ∧ vp_in x3 (jl S251 b257) ∧ (jk S251 b256 = 12 ∧ vp_in x1 (jl S251 b256) ∧ (L_X11_lay_150 E d Q a0 x1 x3 (ji S170 b241 (Int32.toNatClampNeg x1)) 0 (jput (jput S251 b250 (Int32.toNatClampNeg x1) r252) b256 (Int32.toNatClampNeg x1) (ji (jput S251 b250 (Int32.toNatClampNeg x1) r252) b257 (Int32.toNatClampNeg x3))))))))))))))))) ∧ (¬ 0 ≤ (ji S170 b237 (Int32.toNatClampNeg x3)) → Q (-1000000011) S170)))))) ∧ (¬ x2 = 2 → ((jisslot x1) = 0 → Q (-1000000001) S170) ∧ (¬ (jisslot x1) = 0 → Q (-1000000001) S170))) ∧ (¬ r171 = 0 → ((jisslot x1) = 0 → Q (-1000000001) S170) ∧ (¬ (jisslot x1) = 0 → (x2 = 2 → jk S170 a0 = 11 ∧ ∃ b194, jr S170 a0 4 = some b194 ∧ (jk S170 b194 = 12 ∧ vp_in x3 (jl S170 b194) ∧ ((0 ≤ (ji S170 b194 (Int32.toNatClampNeg x3)) → ∃ b198, jr S170 a0 7 = some b198 ∧ (jk S170 b198 = 12 ∧ vp_in x1 (jl S170 b198) ∧ ((∃ b201, jr S170 a0 8 = some b201 ∧ (jFi E mX11_of (d + 1) 0 0 [.ref a0, .int x3, .int 0] (jput S170 b198 (Int32.toNatClampNeg x1) x2) (fun r203 S202 => jk S202 b201 = 12 ∧ vp_in x1 (jl S202 b201) ∧ (jk S202 a0 = 11 ∧ ∃ b207, jr S202 a0 9 = some b207 ∧ (jFi E mX11_worth (d + 1) 0 0 [.ref a0, .int x3] (jput S202 b201 (Int32.toNatClampNeg x1) r203) (fun r209 S208 => jk S208 b207 = 12 ∧ vp_in x1 (jl S208 b207) ∧ (jk S208 a0 = 11 ∧ ∃ b213, jr S208 a0 10 = some b213 ∧ (∃ b214, jr S208 a0 5 = some b214 ∧ (jk S208 b214 = 12 ∧ vp_in x3 (jl S208 b214) ∧ (jk S208 b213 = 12 ∧ vp_in x1 (jl S208 b213) ∧ (L_X11_lay_150 E d Q a0 x1 x3 (ji S170 b198 (Int32.toNatClampNeg x1)) 0 (jput (jput S208 b207 (Int32.toNatClampNeg x1) r209) b213 (Int32.toNatClampNeg x1) (ji (jput S208 b207 (Int32.toNatClampNeg x1) r209) b214 (Int32.toNatClampNeg x3))))))))))))))))) ∧ (¬ 0 ≤ (ji S170 b194 (Int32.toNatClampNeg x3)) → Q (-1000000011) S170)))) ∧ (¬ x2 = 2 → jk S170 a0 = 11 ∧ ∃ b179, jr S170 a0 7 = some b179 ∧ (jk S170 b179 = 12 ∧ vp_in x1 (jl S170 b179) ∧ ((∃ b182, jr S170 a0 8 = some b182 ∧ (jFi E mX11_of (d + 1) 0 0 [.ref a0, .int x3, .int 0] (jput S170 b179 (Int32.toNatClampNeg x1) x2) (fun r184 S183 => jk S183 b182 = 12 ∧ vp_in x1 (jl S183 b182) ∧ (jk S183 a0 = 11 ∧ ∃ b188, jr S183 a0 9 = some b188 ∧ (jFi E mX11_worth (d + 1) 0 0 [.ref a0, .int x3] (jput S183 b182 (Int32.toNatClampNeg x1) r184) (fun r190 S189 => jk S189 b188 = 12 ∧ vp_in x1 (jl S189 b188) ∧ (Q (ji S170 b179 (Int32.toNatClampNeg x1)) (jput S189 b188 (Int32.toNatClampNeg x1) r190))))))))))))))) ∧ (¬ x2 = 1 → (x2 = 2 → ((jissheet x3) = 0 → ((jisslot x1) = 0 → Q (-1000000001) S) ∧ (¬ (jisslot x1) = 0 → Q (-1000000001) S)) ∧ (¬ (jissheet x3) = 0 → ((jisslot x1) = 0 → Q (-1000000001) S) ∧ (¬ (jisslot x1) = 0 → jk S a0 = 11 ∧ ∃ b150, jr S a0 4 = some b150 ∧ (jk S b150 = 12 ∧ vp_in x3 (jl S b150) ∧ ((0 ≤ (ji S b150 (Int32.toNatClampNeg x3)) → ∃ b154, jr S a0 7 = some b154 ∧ (jk S b154 = 12 ∧ vp_in x1 (jl S b154) ∧ ((∃ b157, jr S a0 8 = some b157 ∧ (jk S b157 = 12 ∧ vp_in x1 (jl S b157) ∧ (∃ b160, jr S a0 9 = some b160 ∧ (jk S b160 = 12 ∧ vp_in x1 (jl S b160) ∧ (∃ b163, jr S a0 10 = some b163 ∧ (∃ b164, jr S a0 5 = some b164 ∧ (jk S b164 = 12 ∧ vp_in x3 (jl S b164) ∧ (jk S b163 = 12 ∧ vp_in x1 (jl S b163) ∧ (L_X11_lay_150 E d Q a0 x1 x3 (ji S b154 (Int32.toNatClampNeg x1)) 0 (jput (jput (jput (jput S b154 (Int32.toNatClampNeg x1) x2) b157 (Int32.toNatClampNeg x1) x3) b160 (Int32.toNatClampNeg x1) 0) b163 (Int32.toNatClampNeg x1) (ji (jput (jput (jput S b154 (Int32.toNatClampNeg x1) x2) b157 (Int32.toNatClampNeg x1) x3) b160 (Int32.toNatClampNeg x1) 0) b164 (Int32.toNatClampNeg x3))))))))))))))) ∧ (¬ 0 ≤ (ji S b150 (Int32.toNatClampNeg x3)) → Q (-1000000011) S)))))) ∧ (¬ x2 = 2 → ((jisslot x1) = 0 → Q (-1000000001) S) ∧ (¬ (jisslot x1) = 0 → Q (-1000000001) S)))))) : jFi E mX11_lay (d + 2) 0 0 [.ref a0, .int x1, .int x2, .int x3] S Q := by
  refine jF_of (by decide) (jle rfl) ?_
  refine jx_lv (lv1 := [(0, .ref a0), (1, .int x1), (2, .int x2), (3, .int x3)]) [0, 1, 2, 3] rfl ?_
  refine jx_iload_n 2 kd1010.1 rfl rfl ?_
  refine jx_if_eq (tgt := 34) kd1010.2.1 (by decide) (fun c1 => ?_) (fun c1 => ?_)
  · replace h := h.1 c1
    refine jx_iconst (v := 1) kd1012.1 (by decide) ?_
    refine jx_goto (tgt := 39) kd1012.2.1 (by decide) ?_
    refine jx_istore (lv1 := [(4, .int 1), (0, .ref a0), (1, .int x1), (2, .int x2), (3, .int x3)]) kd1012.2.2.2.1 (by decide) rfl ?_
    refine jx_iload_n 2 kd1012.2.2.2.2.1 rfl rfl ?_
    refine jx_callSi (M' := mX11_isSlot) (As := [.int x1]) jo_X11_isSlot jwM_X11_329 jwS_X11_isSlot kd1012.2.2.2.2.2.1 (jRok_m _ _ _) rfl (jle rfl) ⟨jle rfl, jle rfl⟩ (c_X11_isSlot (Q := fun v S' => v = (jisslot x1) ∧ S = S') ⟨rfl, rfl⟩) (fun r2 S3 hq4 => ?_)
    obtain ⟨rfl, rfl⟩ := hq4
    refine jx_if_eq (tgt := 53) kd1012.2.2.2.2.2.2.1 (by decide) (fun c5 => ?_) (fun c5 => ?_)
    · replace h := h.1 c5
      refine jx_ldc jwC_X11_87 kd1013.1 ?_
      exact jx_iret kd1013.2.1 rfl rfl (jle rfl) (jle rfl) ⟨_, rfl, h⟩
    replace h := h.2 c5
    refine jx_iload 0 kd1012.2.2.2.2.2.2.2.1 rfl ?_
    refine jx_if_ne (tgt := 56) kd1012.2.2.2.2.2.2.2.2.1 (by decide) (fun _ => ?_) (fun z9 => absurd z9 (by decide))
    refine jx_iload_n 3 kd1013.2.2.1 rfl rfl ?_
    refine jx_iconst (v := 2) kd1013.2.2.2.1 (by decide) ?_
    refine jx_icmp_ne (tgt := 74) kd1013.2.2.2.2.1 (by decide) (fun c6 => ?_) (fun c6 => ?_)
    · replace h := h.2 c6
      refine jx_aload_n 1 kd1014.2.2.2.1 rfl rfl ?_
      obtain ⟨hk7, h⟩ := h
      obtain ⟨b8, hb8, h⟩ := h
      refine jx_getr jc_11 (j := 7) (by decide) rfl jwF_X11_28 kd1014.2.2.2.2.1 hk7 hb8 ?_
      refine jx_iload_n 2 kd1014.2.2.2.2.2.1 rfl rfl ?_
      obtain ⟨hk9, h⟩ := h
      obtain ⟨hi10, h⟩ := h
      refine jx_iald kd1014.2.2.2.2.2.2.1 hk9 hi10 ?_
      refine jx_istore (lv1 := [(5, .int (ji S b8 (Int32.toNatClampNeg x1))), (4, .int 1), (0, .ref a0), (1, .int x1), (2, .int x2), (3, .int x3)]) kd1014.2.2.2.2.2.2.2.1 (by decide) rfl ?_
      refine jx_aload_n 2 kd1014.2.2.2.2.2.2.2.2.1 rfl rfl ?_
      refine jx_getr jc_11 (j := 7) (by decide) rfl jwF_X11_28 kd1015.1 hk7 hb8 ?_
      refine jx_iload_n 3 kd1015.2.1 rfl rfl ?_
      refine jx_iload_n 4 kd1015.2.2.1 rfl rfl ?_
      refine jx_iast kd1015.2.2.2.1 hk9 hi10 ?_
      refine jx_aload_n 2 kd1015.2.2.2.2.1 rfl rfl ?_
      obtain ⟨b11, hb11, h⟩ := h
      refine jx_getr jc_11 (j := 8) (by decide) rfl jwF_X11_31 kd1015.2.2.2.2.2.1 hk7 hb11 ?_
      refine jx_iload_n 3 kd1015.2.2.2.2.2.2.1 rfl rfl ?_
      refine jx_iload_n 4 kd1015.2.2.2.2.2.2.2.1 rfl rfl ?_
      refine jx_iconst (v := 1) kd1015.2.2.2.2.2.2.2.2.1 (by decide) ?_
      refine jx_icmp_ne (tgt := 108) kd1016.1 (by decide) (fun c12 => ?_) (fun c12 => ?_)
      · replace h := h.2 c12
        refine jx_iload_n 5 kd1016.2.2.2.2.2.2.1 rfl rfl ?_
        obtain ⟨hk13, h⟩ := h
        obtain ⟨hi14, h⟩ := h
        refine jx_iast kd1016.2.2.2.2.2.2.2.1 hk13 hi14 ?_
        refine jx_aload_n 2 kd1016.2.2.2.2.2.2.2.2.1 rfl rfl ?_
        obtain ⟨b15, hb15, h⟩ := h
        refine jx_getr jc_11 (j := 9) (by decide) rfl jwF_X11_34 kd1017.1 hk7 hb15 ?_
        refine jx_iload_n 3 kd1017.2.1 rfl rfl ?_
        refine jx_iload_n 4 kd1017.2.2.1 rfl rfl ?_
        refine jx_iconst (v := 1) kd1017.2.2.2.1 (by decide) ?_
        refine jx_icmp_ne (tgt := 128) kd1017.2.2.2.2.1 (by decide) (fun _ => ?_) (fun z9 => absurd z9 c12)
        refine jx_iconst (v := 0) kd1018.1 (by decide) ?_
        obtain ⟨hk16, h⟩ := h
        obtain ⟨hi17, h⟩ := h
        refine jx_iast kd1018.2.1 hk16 hi17 ?_
        refine jx_iload_n 4 kd1018.2.2.1 rfl rfl ?_
        refine jx_iconst (v := 2) kd1018.2.2.2.1 (by decide) ?_
        refine jx_icmp_ne (tgt := 187) kd1018.2.2.2.2.1 (by decide) (fun _ => ?_) (fun z9 => absurd z9 c6)
        refine jx_iload 0 kd1022.1 rfl ?_
        exact jx_iret kd1022.2.1 rfl rfl (jle rfl) (jle rfl) ⟨_, rfl, h⟩
      replace h := h.1 c12
      refine jx_aload_n 2 kd1016.2.1 rfl rfl ?_
      refine jx_iload_n 5 kd1016.2.2.1 rfl rfl ?_
      refine jx_iconst (v := 0) kd1016.2.2.2.1 (by decide) ?_
      refine jx_callVi (M' := mX11_of) (As := [.int x3, .int 0]) jo_X11_of jc_11 rfl jwM_X11_97 jwN_X11_of jwX_X11_of kd1016.2.2.2.2.1 (jRok_m _ _ _) rfl (jle rfl) ⟨jle rfl, jle rfl⟩ hk7 h (fun r19 S18 h => ?_)
      refine jx_goto (tgt := 109) kd1016.2.2.2.2.2.1 (by decide) ?_
      obtain ⟨hk20, h⟩ := h
      obtain ⟨hi21, h⟩ := h
      refine jx_iast kd1016.2.2.2.2.2.2.2.1 hk20 hi21 ?_
      refine jx_aload_n 2 kd1016.2.2.2.2.2.2.2.2.1 rfl rfl ?_
      obtain ⟨hk22, h⟩ := h
      obtain ⟨b23, hb23, h⟩ := h
      refine jx_getr jc_11 (j := 9) (by decide) rfl jwF_X11_34 kd1017.1 hk22 hb23 ?_
      refine jx_iload_n 3 kd1017.2.1 rfl rfl ?_
      refine jx_iload_n 4 kd1017.2.2.1 rfl rfl ?_
      refine jx_iconst (v := 1) kd1017.2.2.2.1 (by decide) ?_
      refine jx_icmp_ne (tgt := 128) kd1017.2.2.2.2.1 (by decide) (fun z9 => absurd c12 z9) (fun _ => ?_)
      refine jx_aload_n 2 kd1017.2.2.2.2.2.1 rfl rfl ?_
      refine jx_iload_n 5 kd1017.2.2.2.2.2.2.1 rfl rfl ?_
      refine jx_callVi (M' := mX11_worth) (As := [.int x3]) jo_X11_worth jc_11 rfl jwM_X11_119 jwN_X11_worth jwX_X11_worth kd1017.2.2.2.2.2.2.2.1 (jRok_m _ _ _) rfl (jle rfl) ⟨jle rfl, jle rfl⟩ hk22 h (fun r25 S24 h => ?_)
      refine jx_goto (tgt := 129) kd1017.2.2.2.2.2.2.2.2.1 (by decide) ?_
      obtain ⟨hk26, h⟩ := h
      obtain ⟨hi27, h⟩ := h
      refine jx_iast kd1018.2.1 hk26 hi27 ?_
      refine jx_iload_n 4 kd1018.2.2.1 rfl rfl ?_
      refine jx_iconst (v := 2) kd1018.2.2.2.1 (by decide) ?_
      refine jx_icmp_ne (tgt := 187) kd1018.2.2.2.2.1 (by decide) (fun _ => ?_) (fun z9 => absurd z9 c6)
      refine jx_iload 0 kd1022.1 rfl ?_
      exact jx_iret kd1022.2.1 rfl rfl (jle rfl) (jle rfl) ⟨_, rfl, h⟩
    replace h := h.1 c6
    refine jx_aload_n 1 kd1013.2.2.2.2.2.1 rfl rfl ?_
    obtain ⟨hk28, h⟩ := h
    obtain ⟨b29, hb29, h⟩ := h
    refine jx_getr jc_11 (j := 4) (by decide) rfl jwF_X11_19 kd1013.2.2.2.2.2.2.1 hk28 hb29 ?_
    refine jx_iload_n 4 kd1013.2.2.2.2.2.2.2.1 rfl rfl ?_
    obtain ⟨hk30, h⟩ := h
    obtain ⟨hi31, h⟩ := h
    refine jx_iald kd1013.2.2.2.2.2.2.2.2.1 hk30 hi31 ?_
    refine jx_if_ge (tgt := 74) kd1014.1 (by decide) (fun c32 => ?_) (fun c32 => ?_)
    · replace h := h.1 c32
      refine jx_aload_n 1 kd1014.2.2.2.1 rfl rfl ?_
      obtain ⟨b33, hb33, h⟩ := h
      refine jx_getr jc_11 (j := 7) (by decide) rfl jwF_X11_28 kd1014.2.2.2.2.1 hk28 hb33 ?_
      refine jx_iload_n 2 kd1014.2.2.2.2.2.1 rfl rfl ?_
      obtain ⟨hk34, h⟩ := h
      obtain ⟨hi35, h⟩ := h
      refine jx_iald kd1014.2.2.2.2.2.2.1 hk34 hi35 ?_
      refine jx_istore (lv1 := [(5, .int (ji S b33 (Int32.toNatClampNeg x1))), (4, .int 1), (0, .ref a0), (1, .int x1), (2, .int x2), (3, .int x3)]) kd1014.2.2.2.2.2.2.2.1 (by decide) rfl ?_
      refine jx_aload_n 2 kd1014.2.2.2.2.2.2.2.2.1 rfl rfl ?_
      refine jx_getr jc_11 (j := 7) (by decide) rfl jwF_X11_28 kd1015.1 hk28 hb33 ?_
      refine jx_iload_n 3 kd1015.2.1 rfl rfl ?_
      refine jx_iload_n 4 kd1015.2.2.1 rfl rfl ?_
      refine jx_iast kd1015.2.2.2.1 hk34 hi35 ?_
      refine jx_aload_n 2 kd1015.2.2.2.2.1 rfl rfl ?_
      obtain ⟨b36, hb36, h⟩ := h
      refine jx_getr jc_11 (j := 8) (by decide) rfl jwF_X11_31 kd1015.2.2.2.2.2.1 hk28 hb36 ?_
      refine jx_iload_n 3 kd1015.2.2.2.2.2.2.1 rfl rfl ?_
      refine jx_iload_n 4 kd1015.2.2.2.2.2.2.2.1 rfl rfl ?_
      refine jx_iconst (v := 1) kd1015.2.2.2.2.2.2.2.2.1 (by decide) ?_
      refine jx_icmp_ne (tgt := 108) kd1016.1 (by decide) (fun c37 => ?_) (fun c37 => ?_)
      · replace h := h.2 c37
        refine jx_iload_n 5 kd1016.2.2.2.2.2.2.1 rfl rfl ?_
        obtain ⟨hk38, h⟩ := h
        obtain ⟨hi39, h⟩ := h
        refine jx_iast kd1016.2.2.2.2.2.2.2.1 hk38 hi39 ?_
        refine jx_aload_n 2 kd1016.2.2.2.2.2.2.2.2.1 rfl rfl ?_
        obtain ⟨b40, hb40, h⟩ := h
        refine jx_getr jc_11 (j := 9) (by decide) rfl jwF_X11_34 kd1017.1 hk28 hb40 ?_
        refine jx_iload_n 3 kd1017.2.1 rfl rfl ?_
        refine jx_iload_n 4 kd1017.2.2.1 rfl rfl ?_
        refine jx_iconst (v := 1) kd1017.2.2.2.1 (by decide) ?_
        refine jx_icmp_ne (tgt := 128) kd1017.2.2.2.2.1 (by decide) (fun _ => ?_) (fun z9 => absurd z9 c37)
        refine jx_iconst (v := 0) kd1018.1 (by decide) ?_
        obtain ⟨hk41, h⟩ := h
        obtain ⟨hi42, h⟩ := h
        refine jx_iast kd1018.2.1 hk41 hi42 ?_
        refine jx_iload_n 4 kd1018.2.2.1 rfl rfl ?_
        refine jx_iconst (v := 2) kd1018.2.2.2.1 (by decide) ?_
        refine jx_icmp_ne (tgt := 187) kd1018.2.2.2.2.1 (by decide) (fun z9 => absurd c6 z9) (fun _ => ?_)
        refine jx_aload_n 2 kd1018.2.2.2.2.2.1 rfl rfl ?_
        obtain ⟨b43, hb43, h⟩ := h
        refine jx_getr jc_11 (j := 10) (by decide) rfl jwF_X11_37 kd1018.2.2.2.2.2.2.1 hk28 hb43 ?_
        refine jx_iload_n 3 kd1018.2.2.2.2.2.2.2.1 rfl rfl ?_
        refine jx_aload_n 2 kd1018.2.2.2.2.2.2.2.2.1 rfl rfl ?_
        obtain ⟨b44, hb44, h⟩ := h
        refine jx_getr jc_11 (j := 5) (by decide) rfl jwF_X11_22 kd1019.1 hk28 hb44 ?_
        refine jx_iload_n 5 kd1019.2.1 rfl rfl ?_
        obtain ⟨hk45, h⟩ := h
        obtain ⟨hi46, h⟩ := h
        refine jx_iald kd1019.2.2.1 hk45 hi46 ?_
        obtain ⟨hk47, h⟩ := h
        obtain ⟨hi48, h⟩ := h
        refine jx_iast kd1019.2.2.2.1 hk47 hi48 ?_
        refine jx_iconst (v := 0) kd1019.2.2.2.2.1 (by decide) ?_
        refine jx_istore (lv1 := [(6, .int 0), (5, .int (ji S b33 (Int32.toNatClampNeg x1))), (4, .int 1), (0, .ref a0), (1, .int x1), (2, .int x2), (3, .int x3)]) kd1019.2.2.2.2.2.1 (by decide) rfl ?_
        exact jx_lv [3, 4, 6, 1, 0] rfl h
      replace h := h.1 c37
      refine jx_aload_n 2 kd1016.2.1 rfl rfl ?_
      refine jx_iload_n 5 kd1016.2.2.1 rfl rfl ?_
      refine jx_iconst (v := 0) kd1016.2.2.2.1 (by decide) ?_
      refine jx_callVi (M' := mX11_of) (As := [.int x3, .int 0]) jo_X11_of jc_11 rfl jwM_X11_97 jwN_X11_of jwX_X11_of kd1016.2.2.2.2.1 (jRok_m _ _ _) rfl (jle rfl) ⟨jle rfl, jle rfl⟩ hk28 h (fun r50 S49 h => ?_)
      refine jx_goto (tgt := 109) kd1016.2.2.2.2.2.1 (by decide) ?_
      obtain ⟨hk51, h⟩ := h
      obtain ⟨hi52, h⟩ := h
      refine jx_iast kd1016.2.2.2.2.2.2.2.1 hk51 hi52 ?_
      refine jx_aload_n 2 kd1016.2.2.2.2.2.2.2.2.1 rfl rfl ?_
      obtain ⟨hk53, h⟩ := h
      obtain ⟨b54, hb54, h⟩ := h
      refine jx_getr jc_11 (j := 9) (by decide) rfl jwF_X11_34 kd1017.1 hk53 hb54 ?_
      refine jx_iload_n 3 kd1017.2.1 rfl rfl ?_
      refine jx_iload_n 4 kd1017.2.2.1 rfl rfl ?_
      refine jx_iconst (v := 1) kd1017.2.2.2.1 (by decide) ?_
      refine jx_icmp_ne (tgt := 128) kd1017.2.2.2.2.1 (by decide) (fun z9 => absurd c37 z9) (fun _ => ?_)
      refine jx_aload_n 2 kd1017.2.2.2.2.2.1 rfl rfl ?_
      refine jx_iload_n 5 kd1017.2.2.2.2.2.2.1 rfl rfl ?_
      refine jx_callVi (M' := mX11_worth) (As := [.int x3]) jo_X11_worth jc_11 rfl jwM_X11_119 jwN_X11_worth jwX_X11_worth kd1017.2.2.2.2.2.2.2.1 (jRok_m _ _ _) rfl (jle rfl) ⟨jle rfl, jle rfl⟩ hk53 h (fun r56 S55 h => ?_)
      refine jx_goto (tgt := 129) kd1017.2.2.2.2.2.2.2.2.1 (by decide) ?_
      obtain ⟨hk57, h⟩ := h
      obtain ⟨hi58, h⟩ := h
      refine jx_iast kd1018.2.1 hk57 hi58 ?_
      refine jx_iload_n 4 kd1018.2.2.1 rfl rfl ?_
      refine jx_iconst (v := 2) kd1018.2.2.2.1 (by decide) ?_
      refine jx_icmp_ne (tgt := 187) kd1018.2.2.2.2.1 (by decide) (fun z9 => absurd c6 z9) (fun _ => ?_)
      refine jx_aload_n 2 kd1018.2.2.2.2.2.1 rfl rfl ?_
      obtain ⟨hk59, h⟩ := h
      obtain ⟨b60, hb60, h⟩ := h
      refine jx_getr jc_11 (j := 10) (by decide) rfl jwF_X11_37 kd1018.2.2.2.2.2.2.1 hk59 hb60 ?_
      refine jx_iload_n 3 kd1018.2.2.2.2.2.2.2.1 rfl rfl ?_
      refine jx_aload_n 2 kd1018.2.2.2.2.2.2.2.2.1 rfl rfl ?_
      obtain ⟨b61, hb61, h⟩ := h
      refine jx_getr jc_11 (j := 5) (by decide) rfl jwF_X11_22 kd1019.1 hk59 hb61 ?_
      refine jx_iload_n 5 kd1019.2.1 rfl rfl ?_
      obtain ⟨hk62, h⟩ := h
      obtain ⟨hi63, h⟩ := h
      refine jx_iald kd1019.2.2.1 hk62 hi63 ?_
      obtain ⟨hk64, h⟩ := h
      obtain ⟨hi65, h⟩ := h
      refine jx_iast kd1019.2.2.2.1 hk64 hi65 ?_
      refine jx_iconst (v := 0) kd1019.2.2.2.2.1 (by decide) ?_
      refine jx_istore (lv1 := [(6, .int 0), (5, .int (ji S b33 (Int32.toNatClampNeg x1))), (4, .int 1), (0, .ref a0), (1, .int x1), (2, .int x2), (3, .int x3)]) kd1019.2.2.2.2.2.1 (by decide) rfl ?_
      exact jx_lv [3, 4, 6, 1, 0] rfl h
    replace h := h.2 c32
    refine jx_ldcw jwC_X11_320 kd1014.2.1 ?_
    exact jx_iret kd1014.2.2.1 rfl rfl (jle rfl) (jle rfl) ⟨_, rfl, h⟩
  replace h := h.2 c1
  refine jx_iload_n 2 kd1010.2.2.1 rfl rfl ?_
  refine jx_iconst (v := 3) kd1010.2.2.2.1 (by decide) ?_
  refine jx_icmp_eq (tgt := 34) kd1010.2.2.2.2.1 (by decide) (fun c66 => ?_) (fun c66 => ?_)
  · replace h := h.1 c66
    refine jx_iconst (v := 1) kd1012.1 (by decide) ?_
    refine jx_goto (tgt := 39) kd1012.2.1 (by decide) ?_
    refine jx_istore (lv1 := [(4, .int 1), (0, .ref a0), (1, .int x1), (2, .int x2), (3, .int x3)]) kd1012.2.2.2.1 (by decide) rfl ?_
    refine jx_iload_n 2 kd1012.2.2.2.2.1 rfl rfl ?_
    refine jx_callSi (M' := mX11_isSlot) (As := [.int x1]) jo_X11_isSlot jwM_X11_329 jwS_X11_isSlot kd1012.2.2.2.2.2.1 (jRok_m _ _ _) rfl (jle rfl) ⟨jle rfl, jle rfl⟩ (c_X11_isSlot (Q := fun v S' => v = (jisslot x1) ∧ S = S') ⟨rfl, rfl⟩) (fun r67 S68 hq69 => ?_)
    obtain ⟨rfl, rfl⟩ := hq69
    refine jx_if_eq (tgt := 53) kd1012.2.2.2.2.2.2.1 (by decide) (fun c70 => ?_) (fun c70 => ?_)
    · replace h := h.1 c70
      refine jx_ldc jwC_X11_87 kd1013.1 ?_
      exact jx_iret kd1013.2.1 rfl rfl (jle rfl) (jle rfl) ⟨_, rfl, h⟩
    replace h := h.2 c70
    refine jx_iload 0 kd1012.2.2.2.2.2.2.2.1 rfl ?_
    refine jx_if_ne (tgt := 56) kd1012.2.2.2.2.2.2.2.2.1 (by decide) (fun _ => ?_) (fun z9 => absurd z9 (by decide))
    refine jx_iload_n 3 kd1013.2.2.1 rfl rfl ?_
    refine jx_iconst (v := 2) kd1013.2.2.2.1 (by decide) ?_
    refine jx_icmp_ne (tgt := 74) kd1013.2.2.2.2.1 (by decide) (fun c71 => ?_) (fun c71 => ?_)
    · replace h := h.2 c71
      refine jx_aload_n 1 kd1014.2.2.2.1 rfl rfl ?_
      obtain ⟨hk72, h⟩ := h
      obtain ⟨b73, hb73, h⟩ := h
      refine jx_getr jc_11 (j := 7) (by decide) rfl jwF_X11_28 kd1014.2.2.2.2.1 hk72 hb73 ?_
      refine jx_iload_n 2 kd1014.2.2.2.2.2.1 rfl rfl ?_
      obtain ⟨hk74, h⟩ := h
      obtain ⟨hi75, h⟩ := h
      refine jx_iald kd1014.2.2.2.2.2.2.1 hk74 hi75 ?_
      refine jx_istore (lv1 := [(5, .int (ji S b73 (Int32.toNatClampNeg x1))), (4, .int 1), (0, .ref a0), (1, .int x1), (2, .int x2), (3, .int x3)]) kd1014.2.2.2.2.2.2.2.1 (by decide) rfl ?_
      refine jx_aload_n 2 kd1014.2.2.2.2.2.2.2.2.1 rfl rfl ?_
      refine jx_getr jc_11 (j := 7) (by decide) rfl jwF_X11_28 kd1015.1 hk72 hb73 ?_
      refine jx_iload_n 3 kd1015.2.1 rfl rfl ?_
      refine jx_iload_n 4 kd1015.2.2.1 rfl rfl ?_
      refine jx_iast kd1015.2.2.2.1 hk74 hi75 ?_
      refine jx_aload_n 2 kd1015.2.2.2.2.1 rfl rfl ?_
      obtain ⟨b76, hb76, h⟩ := h
      refine jx_getr jc_11 (j := 8) (by decide) rfl jwF_X11_31 kd1015.2.2.2.2.2.1 hk72 hb76 ?_
      refine jx_iload_n 3 kd1015.2.2.2.2.2.2.1 rfl rfl ?_
      refine jx_iload_n 4 kd1015.2.2.2.2.2.2.2.1 rfl rfl ?_
      refine jx_iconst (v := 1) kd1015.2.2.2.2.2.2.2.2.1 (by decide) ?_
      refine jx_icmp_ne (tgt := 108) kd1016.1 (by decide) (fun c77 => ?_) (fun c77 => ?_)
      · replace h := h.2 c77
        refine jx_iload_n 5 kd1016.2.2.2.2.2.2.1 rfl rfl ?_
        obtain ⟨hk78, h⟩ := h
        obtain ⟨hi79, h⟩ := h
        refine jx_iast kd1016.2.2.2.2.2.2.2.1 hk78 hi79 ?_
        refine jx_aload_n 2 kd1016.2.2.2.2.2.2.2.2.1 rfl rfl ?_
        obtain ⟨b80, hb80, h⟩ := h
        refine jx_getr jc_11 (j := 9) (by decide) rfl jwF_X11_34 kd1017.1 hk72 hb80 ?_
        refine jx_iload_n 3 kd1017.2.1 rfl rfl ?_
        refine jx_iload_n 4 kd1017.2.2.1 rfl rfl ?_
        refine jx_iconst (v := 1) kd1017.2.2.2.1 (by decide) ?_
        refine jx_icmp_ne (tgt := 128) kd1017.2.2.2.2.1 (by decide) (fun _ => ?_) (fun z9 => absurd z9 c77)
        refine jx_iconst (v := 0) kd1018.1 (by decide) ?_
        obtain ⟨hk81, h⟩ := h
        obtain ⟨hi82, h⟩ := h
        refine jx_iast kd1018.2.1 hk81 hi82 ?_
        refine jx_iload_n 4 kd1018.2.2.1 rfl rfl ?_
        refine jx_iconst (v := 2) kd1018.2.2.2.1 (by decide) ?_
        refine jx_icmp_ne (tgt := 187) kd1018.2.2.2.2.1 (by decide) (fun _ => ?_) (fun z9 => absurd z9 c71)
        refine jx_iload 0 kd1022.1 rfl ?_
        exact jx_iret kd1022.2.1 rfl rfl (jle rfl) (jle rfl) ⟨_, rfl, h⟩
      replace h := h.1 c77
      refine jx_aload_n 2 kd1016.2.1 rfl rfl ?_
      refine jx_iload_n 5 kd1016.2.2.1 rfl rfl ?_
      refine jx_iconst (v := 0) kd1016.2.2.2.1 (by decide) ?_
      refine jx_callVi (M' := mX11_of) (As := [.int x3, .int 0]) jo_X11_of jc_11 rfl jwM_X11_97 jwN_X11_of jwX_X11_of kd1016.2.2.2.2.1 (jRok_m _ _ _) rfl (jle rfl) ⟨jle rfl, jle rfl⟩ hk72 h (fun r84 S83 h => ?_)
      refine jx_goto (tgt := 109) kd1016.2.2.2.2.2.1 (by decide) ?_
      obtain ⟨hk85, h⟩ := h
      obtain ⟨hi86, h⟩ := h
      refine jx_iast kd1016.2.2.2.2.2.2.2.1 hk85 hi86 ?_
      refine jx_aload_n 2 kd1016.2.2.2.2.2.2.2.2.1 rfl rfl ?_
      obtain ⟨hk87, h⟩ := h
      obtain ⟨b88, hb88, h⟩ := h
      refine jx_getr jc_11 (j := 9) (by decide) rfl jwF_X11_34 kd1017.1 hk87 hb88 ?_
      refine jx_iload_n 3 kd1017.2.1 rfl rfl ?_
      refine jx_iload_n 4 kd1017.2.2.1 rfl rfl ?_
      refine jx_iconst (v := 1) kd1017.2.2.2.1 (by decide) ?_
      refine jx_icmp_ne (tgt := 128) kd1017.2.2.2.2.1 (by decide) (fun z9 => absurd c77 z9) (fun _ => ?_)
      refine jx_aload_n 2 kd1017.2.2.2.2.2.1 rfl rfl ?_
      refine jx_iload_n 5 kd1017.2.2.2.2.2.2.1 rfl rfl ?_
      refine jx_callVi (M' := mX11_worth) (As := [.int x3]) jo_X11_worth jc_11 rfl jwM_X11_119 jwN_X11_worth jwX_X11_worth kd1017.2.2.2.2.2.2.2.1 (jRok_m _ _ _) rfl (jle rfl) ⟨jle rfl, jle rfl⟩ hk87 h (fun r90 S89 h => ?_)
      refine jx_goto (tgt := 129) kd1017.2.2.2.2.2.2.2.2.1 (by decide) ?_
      obtain ⟨hk91, h⟩ := h
      obtain ⟨hi92, h⟩ := h
      refine jx_iast kd1018.2.1 hk91 hi92 ?_
      refine jx_iload_n 4 kd1018.2.2.1 rfl rfl ?_
      refine jx_iconst (v := 2) kd1018.2.2.2.1 (by decide) ?_
      refine jx_icmp_ne (tgt := 187) kd1018.2.2.2.2.1 (by decide) (fun _ => ?_) (fun z9 => absurd z9 c71)
      refine jx_iload 0 kd1022.1 rfl ?_
      exact jx_iret kd1022.2.1 rfl rfl (jle rfl) (jle rfl) ⟨_, rfl, h⟩
    replace h := h.1 c71
    refine jx_aload_n 1 kd1013.2.2.2.2.2.1 rfl rfl ?_
    obtain ⟨hk93, h⟩ := h
    obtain ⟨b94, hb94, h⟩ := h
    refine jx_getr jc_11 (j := 4) (by decide) rfl jwF_X11_19 kd1013.2.2.2.2.2.2.1 hk93 hb94 ?_
    refine jx_iload_n 4 kd1013.2.2.2.2.2.2.2.1 rfl rfl ?_
    obtain ⟨hk95, h⟩ := h
    obtain ⟨hi96, h⟩ := h
    refine jx_iald kd1013.2.2.2.2.2.2.2.2.1 hk95 hi96 ?_
    refine jx_if_ge (tgt := 74) kd1014.1 (by decide) (fun c97 => ?_) (fun c97 => ?_)
    · replace h := h.1 c97
      refine jx_aload_n 1 kd1014.2.2.2.1 rfl rfl ?_
      obtain ⟨b98, hb98, h⟩ := h
      refine jx_getr jc_11 (j := 7) (by decide) rfl jwF_X11_28 kd1014.2.2.2.2.1 hk93 hb98 ?_
      refine jx_iload_n 2 kd1014.2.2.2.2.2.1 rfl rfl ?_
      obtain ⟨hk99, h⟩ := h
      obtain ⟨hi100, h⟩ := h
      refine jx_iald kd1014.2.2.2.2.2.2.1 hk99 hi100 ?_
      refine jx_istore (lv1 := [(5, .int (ji S b98 (Int32.toNatClampNeg x1))), (4, .int 1), (0, .ref a0), (1, .int x1), (2, .int x2), (3, .int x3)]) kd1014.2.2.2.2.2.2.2.1 (by decide) rfl ?_
      refine jx_aload_n 2 kd1014.2.2.2.2.2.2.2.2.1 rfl rfl ?_
      refine jx_getr jc_11 (j := 7) (by decide) rfl jwF_X11_28 kd1015.1 hk93 hb98 ?_
      refine jx_iload_n 3 kd1015.2.1 rfl rfl ?_
      refine jx_iload_n 4 kd1015.2.2.1 rfl rfl ?_
      refine jx_iast kd1015.2.2.2.1 hk99 hi100 ?_
      refine jx_aload_n 2 kd1015.2.2.2.2.1 rfl rfl ?_
      obtain ⟨b101, hb101, h⟩ := h
      refine jx_getr jc_11 (j := 8) (by decide) rfl jwF_X11_31 kd1015.2.2.2.2.2.1 hk93 hb101 ?_
      refine jx_iload_n 3 kd1015.2.2.2.2.2.2.1 rfl rfl ?_
      refine jx_iload_n 4 kd1015.2.2.2.2.2.2.2.1 rfl rfl ?_
      refine jx_iconst (v := 1) kd1015.2.2.2.2.2.2.2.2.1 (by decide) ?_
      refine jx_icmp_ne (tgt := 108) kd1016.1 (by decide) (fun c102 => ?_) (fun c102 => ?_)
      · replace h := h.2 c102
        refine jx_iload_n 5 kd1016.2.2.2.2.2.2.1 rfl rfl ?_
        obtain ⟨hk103, h⟩ := h
        obtain ⟨hi104, h⟩ := h
        refine jx_iast kd1016.2.2.2.2.2.2.2.1 hk103 hi104 ?_
        refine jx_aload_n 2 kd1016.2.2.2.2.2.2.2.2.1 rfl rfl ?_
        obtain ⟨b105, hb105, h⟩ := h
        refine jx_getr jc_11 (j := 9) (by decide) rfl jwF_X11_34 kd1017.1 hk93 hb105 ?_
        refine jx_iload_n 3 kd1017.2.1 rfl rfl ?_
        refine jx_iload_n 4 kd1017.2.2.1 rfl rfl ?_
        refine jx_iconst (v := 1) kd1017.2.2.2.1 (by decide) ?_
        refine jx_icmp_ne (tgt := 128) kd1017.2.2.2.2.1 (by decide) (fun _ => ?_) (fun z9 => absurd z9 c102)
        refine jx_iconst (v := 0) kd1018.1 (by decide) ?_
        obtain ⟨hk106, h⟩ := h
        obtain ⟨hi107, h⟩ := h
        refine jx_iast kd1018.2.1 hk106 hi107 ?_
        refine jx_iload_n 4 kd1018.2.2.1 rfl rfl ?_
        refine jx_iconst (v := 2) kd1018.2.2.2.1 (by decide) ?_
        refine jx_icmp_ne (tgt := 187) kd1018.2.2.2.2.1 (by decide) (fun z9 => absurd c71 z9) (fun _ => ?_)
        refine jx_aload_n 2 kd1018.2.2.2.2.2.1 rfl rfl ?_
        obtain ⟨b108, hb108, h⟩ := h
        refine jx_getr jc_11 (j := 10) (by decide) rfl jwF_X11_37 kd1018.2.2.2.2.2.2.1 hk93 hb108 ?_
        refine jx_iload_n 3 kd1018.2.2.2.2.2.2.2.1 rfl rfl ?_
        refine jx_aload_n 2 kd1018.2.2.2.2.2.2.2.2.1 rfl rfl ?_
        obtain ⟨b109, hb109, h⟩ := h
        refine jx_getr jc_11 (j := 5) (by decide) rfl jwF_X11_22 kd1019.1 hk93 hb109 ?_
        refine jx_iload_n 5 kd1019.2.1 rfl rfl ?_
        obtain ⟨hk110, h⟩ := h
        obtain ⟨hi111, h⟩ := h
        refine jx_iald kd1019.2.2.1 hk110 hi111 ?_
        obtain ⟨hk112, h⟩ := h
        obtain ⟨hi113, h⟩ := h
        refine jx_iast kd1019.2.2.2.1 hk112 hi113 ?_
        refine jx_iconst (v := 0) kd1019.2.2.2.2.1 (by decide) ?_
        refine jx_istore (lv1 := [(6, .int 0), (5, .int (ji S b98 (Int32.toNatClampNeg x1))), (4, .int 1), (0, .ref a0), (1, .int x1), (2, .int x2), (3, .int x3)]) kd1019.2.2.2.2.2.1 (by decide) rfl ?_
        exact jx_lv [3, 4, 6, 1, 0] rfl h
      replace h := h.1 c102
      refine jx_aload_n 2 kd1016.2.1 rfl rfl ?_
      refine jx_iload_n 5 kd1016.2.2.1 rfl rfl ?_
      refine jx_iconst (v := 0) kd1016.2.2.2.1 (by decide) ?_
      refine jx_callVi (M' := mX11_of) (As := [.int x3, .int 0]) jo_X11_of jc_11 rfl jwM_X11_97 jwN_X11_of jwX_X11_of kd1016.2.2.2.2.1 (jRok_m _ _ _) rfl (jle rfl) ⟨jle rfl, jle rfl⟩ hk93 h (fun r115 S114 h => ?_)
      refine jx_goto (tgt := 109) kd1016.2.2.2.2.2.1 (by decide) ?_
      obtain ⟨hk116, h⟩ := h
      obtain ⟨hi117, h⟩ := h
      refine jx_iast kd1016.2.2.2.2.2.2.2.1 hk116 hi117 ?_
      refine jx_aload_n 2 kd1016.2.2.2.2.2.2.2.2.1 rfl rfl ?_
      obtain ⟨hk118, h⟩ := h
      obtain ⟨b119, hb119, h⟩ := h
      refine jx_getr jc_11 (j := 9) (by decide) rfl jwF_X11_34 kd1017.1 hk118 hb119 ?_
      refine jx_iload_n 3 kd1017.2.1 rfl rfl ?_
      refine jx_iload_n 4 kd1017.2.2.1 rfl rfl ?_
      refine jx_iconst (v := 1) kd1017.2.2.2.1 (by decide) ?_
      refine jx_icmp_ne (tgt := 128) kd1017.2.2.2.2.1 (by decide) (fun z9 => absurd c102 z9) (fun _ => ?_)
      refine jx_aload_n 2 kd1017.2.2.2.2.2.1 rfl rfl ?_
      refine jx_iload_n 5 kd1017.2.2.2.2.2.2.1 rfl rfl ?_
      refine jx_callVi (M' := mX11_worth) (As := [.int x3]) jo_X11_worth jc_11 rfl jwM_X11_119 jwN_X11_worth jwX_X11_worth kd1017.2.2.2.2.2.2.2.1 (jRok_m _ _ _) rfl (jle rfl) ⟨jle rfl, jle rfl⟩ hk118 h (fun r121 S120 h => ?_)
      refine jx_goto (tgt := 129) kd1017.2.2.2.2.2.2.2.2.1 (by decide) ?_
      obtain ⟨hk122, h⟩ := h
      obtain ⟨hi123, h⟩ := h
      refine jx_iast kd1018.2.1 hk122 hi123 ?_
      refine jx_iload_n 4 kd1018.2.2.1 rfl rfl ?_
      refine jx_iconst (v := 2) kd1018.2.2.2.1 (by decide) ?_
      refine jx_icmp_ne (tgt := 187) kd1018.2.2.2.2.1 (by decide) (fun z9 => absurd c71 z9) (fun _ => ?_)
      refine jx_aload_n 2 kd1018.2.2.2.2.2.1 rfl rfl ?_
      obtain ⟨hk124, h⟩ := h
      obtain ⟨b125, hb125, h⟩ := h
      refine jx_getr jc_11 (j := 10) (by decide) rfl jwF_X11_37 kd1018.2.2.2.2.2.2.1 hk124 hb125 ?_
      refine jx_iload_n 3 kd1018.2.2.2.2.2.2.2.1 rfl rfl ?_
      refine jx_aload_n 2 kd1018.2.2.2.2.2.2.2.2.1 rfl rfl ?_
      obtain ⟨b126, hb126, h⟩ := h
      refine jx_getr jc_11 (j := 5) (by decide) rfl jwF_X11_22 kd1019.1 hk124 hb126 ?_
      refine jx_iload_n 5 kd1019.2.1 rfl rfl ?_
      obtain ⟨hk127, h⟩ := h
      obtain ⟨hi128, h⟩ := h
      refine jx_iald kd1019.2.2.1 hk127 hi128 ?_
      obtain ⟨hk129, h⟩ := h
      obtain ⟨hi130, h⟩ := h
      refine jx_iast kd1019.2.2.2.1 hk129 hi130 ?_
      refine jx_iconst (v := 0) kd1019.2.2.2.2.1 (by decide) ?_
      refine jx_istore (lv1 := [(6, .int 0), (5, .int (ji S b98 (Int32.toNatClampNeg x1))), (4, .int 1), (0, .ref a0), (1, .int x1), (2, .int x2), (3, .int x3)]) kd1019.2.2.2.2.2.1 (by decide) rfl ?_
      exact jx_lv [3, 4, 6, 1, 0] rfl h
    replace h := h.2 c97
    refine jx_ldcw jwC_X11_320 kd1014.2.1 ?_
    exact jx_iret kd1014.2.2.1 rfl rfl (jle rfl) (jle rfl) ⟨_, rfl, h⟩
  replace h := h.2 c66
  refine jx_iload_n 2 kd1010.2.2.2.2.2.1 rfl rfl ?_
  refine jx_iconst (v := 1) kd1010.2.2.2.2.2.2.1 (by decide) ?_
  refine jx_icmp_ne (tgt := 22) kd1010.2.2.2.2.2.2.2.1 (by decide) (fun c131 => ?_) (fun c131 => ?_)
  · replace h := h.2 c131
    refine jx_iload_n 2 kd1011.2.2.2.1 rfl rfl ?_
    refine jx_iconst (v := 2) kd1011.2.2.2.2.1 (by decide) ?_
    refine jx_icmp_ne (tgt := 38) kd1011.2.2.2.2.2.1 (by decide) (fun c132 => ?_) (fun c132 => ?_)
    · replace h := h.2 c132
      refine jx_iconst (v := 0) kd1012.2.2.1 (by decide) ?_
      refine jx_istore (lv1 := [(4, .int 0), (0, .ref a0), (1, .int x1), (2, .int x2), (3, .int x3)]) kd1012.2.2.2.1 (by decide) rfl ?_
      refine jx_iload_n 2 kd1012.2.2.2.2.1 rfl rfl ?_
      refine jx_callSi (M' := mX11_isSlot) (As := [.int x1]) jo_X11_isSlot jwM_X11_329 jwS_X11_isSlot kd1012.2.2.2.2.2.1 (jRok_m _ _ _) rfl (jle rfl) ⟨jle rfl, jle rfl⟩ (c_X11_isSlot (Q := fun v S' => v = (jisslot x1) ∧ S = S') ⟨rfl, rfl⟩) (fun r133 S134 hq135 => ?_)
      obtain ⟨rfl, rfl⟩ := hq135
      refine jx_if_eq (tgt := 53) kd1012.2.2.2.2.2.2.1 (by decide) (fun c136 => ?_) (fun c136 => ?_)
      · replace h := h.1 c136
        refine jx_ldc jwC_X11_87 kd1013.1 ?_
        exact jx_iret kd1013.2.1 rfl rfl (jle rfl) (jle rfl) ⟨_, rfl, h⟩
      replace h := h.2 c136
      refine jx_iload 0 kd1012.2.2.2.2.2.2.2.1 rfl ?_
      refine jx_if_ne (tgt := 56) kd1012.2.2.2.2.2.2.2.2.1 (by decide) (fun z9 => absurd z9 (by decide)) (fun _ => ?_)
      refine jx_ldc jwC_X11_87 kd1013.1 ?_
      exact jx_iret kd1013.2.1 rfl rfl (jle rfl) (jle rfl) ⟨_, rfl, h⟩
    replace h := h.1 c132
    refine jx_iload_n 3 kd1011.2.2.2.2.2.2.1 rfl rfl ?_
    refine jx_callSi (M' := mX11_isSheet) (As := [.int x3]) jo_X11_isSheet jwM_X11_314 jwS_X11_isSheet kd1011.2.2.2.2.2.2.2.1 (jRok_m _ _ _) rfl (jle rfl) ⟨jle rfl, jle rfl⟩ (c_X11_isSheet (Q := fun v S' => v = (jissheet x3) ∧ S = S') ⟨rfl, rfl⟩) (fun r137 S138 hq139 => ?_)
    obtain ⟨rfl, rfl⟩ := hq139
    refine jx_if_eq (tgt := 38) kd1011.2.2.2.2.2.2.2.2.1 (by decide) (fun c140 => ?_) (fun c140 => ?_)
    · replace h := h.1 c140
      refine jx_iconst (v := 0) kd1012.2.2.1 (by decide) ?_
      refine jx_istore (lv1 := [(4, .int 0), (0, .ref a0), (1, .int x1), (2, .int x2), (3, .int x3)]) kd1012.2.2.2.1 (by decide) rfl ?_
      refine jx_iload_n 2 kd1012.2.2.2.2.1 rfl rfl ?_
      refine jx_callSi (M' := mX11_isSlot) (As := [.int x1]) jo_X11_isSlot jwM_X11_329 jwS_X11_isSlot kd1012.2.2.2.2.2.1 (jRok_m _ _ _) rfl (jle rfl) ⟨jle rfl, jle rfl⟩ (c_X11_isSlot (Q := fun v S' => v = (jisslot x1) ∧ S = S') ⟨rfl, rfl⟩) (fun r141 S142 hq143 => ?_)
      obtain ⟨rfl, rfl⟩ := hq143
      refine jx_if_eq (tgt := 53) kd1012.2.2.2.2.2.2.1 (by decide) (fun c144 => ?_) (fun c144 => ?_)
      · replace h := h.1 c144
        refine jx_ldc jwC_X11_87 kd1013.1 ?_
        exact jx_iret kd1013.2.1 rfl rfl (jle rfl) (jle rfl) ⟨_, rfl, h⟩
      replace h := h.2 c144
      refine jx_iload 0 kd1012.2.2.2.2.2.2.2.1 rfl ?_
      refine jx_if_ne (tgt := 56) kd1012.2.2.2.2.2.2.2.2.1 (by decide) (fun z9 => absurd z9 (by decide)) (fun _ => ?_)
      refine jx_ldc jwC_X11_87 kd1013.1 ?_
      exact jx_iret kd1013.2.1 rfl rfl (jle rfl) (jle rfl) ⟨_, rfl, h⟩
    replace h := h.2 c140
    refine jx_iconst (v := 1) kd1012.1 (by decide) ?_
    refine jx_goto (tgt := 39) kd1012.2.1 (by decide) ?_
    refine jx_istore (lv1 := [(4, .int 1), (0, .ref a0), (1, .int x1), (2, .int x2), (3, .int x3)]) kd1012.2.2.2.1 (by decide) rfl ?_
    refine jx_iload_n 2 kd1012.2.2.2.2.1 rfl rfl ?_
    refine jx_callSi (M' := mX11_isSlot) (As := [.int x1]) jo_X11_isSlot jwM_X11_329 jwS_X11_isSlot kd1012.2.2.2.2.2.1 (jRok_m _ _ _) rfl (jle rfl) ⟨jle rfl, jle rfl⟩ (c_X11_isSlot (Q := fun v S' => v = (jisslot x1) ∧ S = S') ⟨rfl, rfl⟩) (fun r145 S146 hq147 => ?_)
    obtain ⟨rfl, rfl⟩ := hq147
    refine jx_if_eq (tgt := 53) kd1012.2.2.2.2.2.2.1 (by decide) (fun c148 => ?_) (fun c148 => ?_)
    · replace h := h.1 c148
      refine jx_ldc jwC_X11_87 kd1013.1 ?_
      exact jx_iret kd1013.2.1 rfl rfl (jle rfl) (jle rfl) ⟨_, rfl, h⟩
    replace h := h.2 c148
    refine jx_iload 0 kd1012.2.2.2.2.2.2.2.1 rfl ?_
    refine jx_if_ne (tgt := 56) kd1012.2.2.2.2.2.2.2.2.1 (by decide) (fun _ => ?_) (fun z9 => absurd z9 (by decide))
    refine jx_iload_n 3 kd1013.2.2.1 rfl rfl ?_
    refine jx_iconst (v := 2) kd1013.2.2.2.1 (by decide) ?_
    refine jx_icmp_ne (tgt := 74) kd1013.2.2.2.2.1 (by decide) (fun z9 => absurd c132 z9) (fun _ => ?_)
    refine jx_aload_n 1 kd1013.2.2.2.2.2.1 rfl rfl ?_
    obtain ⟨hk149, h⟩ := h
    obtain ⟨b150, hb150, h⟩ := h
    refine jx_getr jc_11 (j := 4) (by decide) rfl jwF_X11_19 kd1013.2.2.2.2.2.2.1 hk149 hb150 ?_
    refine jx_iload_n 4 kd1013.2.2.2.2.2.2.2.1 rfl rfl ?_
    obtain ⟨hk151, h⟩ := h
    obtain ⟨hi152, h⟩ := h
    refine jx_iald kd1013.2.2.2.2.2.2.2.2.1 hk151 hi152 ?_
    refine jx_if_ge (tgt := 74) kd1014.1 (by decide) (fun c153 => ?_) (fun c153 => ?_)
    · replace h := h.1 c153
      refine jx_aload_n 1 kd1014.2.2.2.1 rfl rfl ?_
      obtain ⟨b154, hb154, h⟩ := h
      refine jx_getr jc_11 (j := 7) (by decide) rfl jwF_X11_28 kd1014.2.2.2.2.1 hk149 hb154 ?_
      refine jx_iload_n 2 kd1014.2.2.2.2.2.1 rfl rfl ?_
      obtain ⟨hk155, h⟩ := h
      obtain ⟨hi156, h⟩ := h
      refine jx_iald kd1014.2.2.2.2.2.2.1 hk155 hi156 ?_
      refine jx_istore (lv1 := [(5, .int (ji S b154 (Int32.toNatClampNeg x1))), (4, .int 1), (0, .ref a0), (1, .int x1), (2, .int x2), (3, .int x3)]) kd1014.2.2.2.2.2.2.2.1 (by decide) rfl ?_
      refine jx_aload_n 2 kd1014.2.2.2.2.2.2.2.2.1 rfl rfl ?_
      refine jx_getr jc_11 (j := 7) (by decide) rfl jwF_X11_28 kd1015.1 hk149 hb154 ?_
      refine jx_iload_n 3 kd1015.2.1 rfl rfl ?_
      refine jx_iload_n 4 kd1015.2.2.1 rfl rfl ?_
      refine jx_iast kd1015.2.2.2.1 hk155 hi156 ?_
      refine jx_aload_n 2 kd1015.2.2.2.2.1 rfl rfl ?_
      obtain ⟨b157, hb157, h⟩ := h
      refine jx_getr jc_11 (j := 8) (by decide) rfl jwF_X11_31 kd1015.2.2.2.2.2.1 hk149 hb157 ?_
      refine jx_iload_n 3 kd1015.2.2.2.2.2.2.1 rfl rfl ?_
      refine jx_iload_n 4 kd1015.2.2.2.2.2.2.2.1 rfl rfl ?_
      refine jx_iconst (v := 1) kd1015.2.2.2.2.2.2.2.2.1 (by decide) ?_
      refine jx_icmp_ne (tgt := 108) kd1016.1 (by decide) (fun _ => ?_) (fun z9 => absurd z9 c131)
      refine jx_iload_n 5 kd1016.2.2.2.2.2.2.1 rfl rfl ?_
      obtain ⟨hk158, h⟩ := h
      obtain ⟨hi159, h⟩ := h
      refine jx_iast kd1016.2.2.2.2.2.2.2.1 hk158 hi159 ?_
      refine jx_aload_n 2 kd1016.2.2.2.2.2.2.2.2.1 rfl rfl ?_
      obtain ⟨b160, hb160, h⟩ := h
      refine jx_getr jc_11 (j := 9) (by decide) rfl jwF_X11_34 kd1017.1 hk149 hb160 ?_
      refine jx_iload_n 3 kd1017.2.1 rfl rfl ?_
      refine jx_iload_n 4 kd1017.2.2.1 rfl rfl ?_
      refine jx_iconst (v := 1) kd1017.2.2.2.1 (by decide) ?_
      refine jx_icmp_ne (tgt := 128) kd1017.2.2.2.2.1 (by decide) (fun _ => ?_) (fun z9 => absurd z9 c131)
      refine jx_iconst (v := 0) kd1018.1 (by decide) ?_
      obtain ⟨hk161, h⟩ := h
      obtain ⟨hi162, h⟩ := h
      refine jx_iast kd1018.2.1 hk161 hi162 ?_
      refine jx_iload_n 4 kd1018.2.2.1 rfl rfl ?_
      refine jx_iconst (v := 2) kd1018.2.2.2.1 (by decide) ?_
      refine jx_icmp_ne (tgt := 187) kd1018.2.2.2.2.1 (by decide) (fun z9 => absurd c132 z9) (fun _ => ?_)
      refine jx_aload_n 2 kd1018.2.2.2.2.2.1 rfl rfl ?_
      obtain ⟨b163, hb163, h⟩ := h
      refine jx_getr jc_11 (j := 10) (by decide) rfl jwF_X11_37 kd1018.2.2.2.2.2.2.1 hk149 hb163 ?_
      refine jx_iload_n 3 kd1018.2.2.2.2.2.2.2.1 rfl rfl ?_
      refine jx_aload_n 2 kd1018.2.2.2.2.2.2.2.2.1 rfl rfl ?_
      obtain ⟨b164, hb164, h⟩ := h
      refine jx_getr jc_11 (j := 5) (by decide) rfl jwF_X11_22 kd1019.1 hk149 hb164 ?_
      refine jx_iload_n 5 kd1019.2.1 rfl rfl ?_
      obtain ⟨hk165, h⟩ := h
      obtain ⟨hi166, h⟩ := h
      refine jx_iald kd1019.2.2.1 hk165 hi166 ?_
      obtain ⟨hk167, h⟩ := h
      obtain ⟨hi168, h⟩ := h
      refine jx_iast kd1019.2.2.2.1 hk167 hi168 ?_
      refine jx_iconst (v := 0) kd1019.2.2.2.2.1 (by decide) ?_
      refine jx_istore (lv1 := [(6, .int 0), (5, .int (ji S b154 (Int32.toNatClampNeg x1))), (4, .int 1), (0, .ref a0), (1, .int x1), (2, .int x2), (3, .int x3)]) kd1019.2.2.2.2.2.1 (by decide) rfl ?_
      exact jx_lv [3, 4, 6, 1, 0] rfl h
    replace h := h.2 c153
    refine jx_ldcw jwC_X11_320 kd1014.2.1 ?_
    exact jx_iret kd1014.2.2.1 rfl rfl (jle rfl) (jle rfl) ⟨_, rfl, h⟩
  replace h := h.1 c131
  refine jx_aload_n 0 kd1010.2.2.2.2.2.2.2.2.1 rfl rfl ?_
  refine jx_iload_n 3 kd1011.1 rfl rfl ?_
  obtain ⟨hk169, h⟩ := h
  refine jx_callVi (M' := mX11_isMaster) (As := [.int x3]) jo_X11_isMaster jc_11 rfl jwM_X11_111 jwN_X11_isMaster jwX_X11_isMaster kd1011.2.1 (jRok_m _ _ _) rfl (jle rfl) ⟨jle rfl, jle rfl⟩ hk169 h (fun r171 S170 h => ?_)
  refine jx_if_ne (tgt := 34) kd1011.2.2.1 (by decide) (fun c172 => ?_) (fun c172 => ?_)
  · replace h := h.2 c172
    refine jx_iconst (v := 1) kd1012.1 (by decide) ?_
    refine jx_goto (tgt := 39) kd1012.2.1 (by decide) ?_
    refine jx_istore (lv1 := [(4, .int 1), (0, .ref a0), (1, .int x1), (2, .int x2), (3, .int x3)]) kd1012.2.2.2.1 (by decide) rfl ?_
    refine jx_iload_n 2 kd1012.2.2.2.2.1 rfl rfl ?_
    refine jx_callSi (M' := mX11_isSlot) (As := [.int x1]) jo_X11_isSlot jwM_X11_329 jwS_X11_isSlot kd1012.2.2.2.2.2.1 (jRok_m _ _ _) rfl (jle rfl) ⟨jle rfl, jle rfl⟩ (c_X11_isSlot (Q := fun v S' => v = (jisslot x1) ∧ S170 = S') ⟨rfl, rfl⟩) (fun r173 S174 hq175 => ?_)
    obtain ⟨rfl, rfl⟩ := hq175
    refine jx_if_eq (tgt := 53) kd1012.2.2.2.2.2.2.1 (by decide) (fun c176 => ?_) (fun c176 => ?_)
    · replace h := h.1 c176
      refine jx_ldc jwC_X11_87 kd1013.1 ?_
      exact jx_iret kd1013.2.1 rfl rfl (jle rfl) (jle rfl) ⟨_, rfl, h⟩
    replace h := h.2 c176
    refine jx_iload 0 kd1012.2.2.2.2.2.2.2.1 rfl ?_
    refine jx_if_ne (tgt := 56) kd1012.2.2.2.2.2.2.2.2.1 (by decide) (fun _ => ?_) (fun z9 => absurd z9 (by decide))
    refine jx_iload_n 3 kd1013.2.2.1 rfl rfl ?_
    refine jx_iconst (v := 2) kd1013.2.2.2.1 (by decide) ?_
    refine jx_icmp_ne (tgt := 74) kd1013.2.2.2.2.1 (by decide) (fun c177 => ?_) (fun c177 => ?_)
    · replace h := h.2 c177
      refine jx_aload_n 1 kd1014.2.2.2.1 rfl rfl ?_
      obtain ⟨hk178, h⟩ := h
      obtain ⟨b179, hb179, h⟩ := h
      refine jx_getr jc_11 (j := 7) (by decide) rfl jwF_X11_28 kd1014.2.2.2.2.1 hk178 hb179 ?_
      refine jx_iload_n 2 kd1014.2.2.2.2.2.1 rfl rfl ?_
      obtain ⟨hk180, h⟩ := h
      obtain ⟨hi181, h⟩ := h
      refine jx_iald kd1014.2.2.2.2.2.2.1 hk180 hi181 ?_
      refine jx_istore (lv1 := [(5, .int (ji S170 b179 (Int32.toNatClampNeg x1))), (4, .int 1), (0, .ref a0), (1, .int x1), (2, .int x2), (3, .int x3)]) kd1014.2.2.2.2.2.2.2.1 (by decide) rfl ?_
      refine jx_aload_n 2 kd1014.2.2.2.2.2.2.2.2.1 rfl rfl ?_
      refine jx_getr jc_11 (j := 7) (by decide) rfl jwF_X11_28 kd1015.1 hk178 hb179 ?_
      refine jx_iload_n 3 kd1015.2.1 rfl rfl ?_
      refine jx_iload_n 4 kd1015.2.2.1 rfl rfl ?_
      refine jx_iast kd1015.2.2.2.1 hk180 hi181 ?_
      refine jx_aload_n 2 kd1015.2.2.2.2.1 rfl rfl ?_
      obtain ⟨b182, hb182, h⟩ := h
      refine jx_getr jc_11 (j := 8) (by decide) rfl jwF_X11_31 kd1015.2.2.2.2.2.1 hk178 hb182 ?_
      refine jx_iload_n 3 kd1015.2.2.2.2.2.2.1 rfl rfl ?_
      refine jx_iload_n 4 kd1015.2.2.2.2.2.2.2.1 rfl rfl ?_
      refine jx_iconst (v := 1) kd1015.2.2.2.2.2.2.2.2.1 (by decide) ?_
      refine jx_icmp_ne (tgt := 108) kd1016.1 (by decide) (fun z9 => absurd c131 z9) (fun _ => ?_)
      refine jx_aload_n 2 kd1016.2.1 rfl rfl ?_
      refine jx_iload_n 5 kd1016.2.2.1 rfl rfl ?_
      refine jx_iconst (v := 0) kd1016.2.2.2.1 (by decide) ?_
      refine jx_callVi (M' := mX11_of) (As := [.int x3, .int 0]) jo_X11_of jc_11 rfl jwM_X11_97 jwN_X11_of jwX_X11_of kd1016.2.2.2.2.1 (jRok_m _ _ _) rfl (jle rfl) ⟨jle rfl, jle rfl⟩ hk178 h (fun r184 S183 h => ?_)
      refine jx_goto (tgt := 109) kd1016.2.2.2.2.2.1 (by decide) ?_
      obtain ⟨hk185, h⟩ := h
      obtain ⟨hi186, h⟩ := h
      refine jx_iast kd1016.2.2.2.2.2.2.2.1 hk185 hi186 ?_
      refine jx_aload_n 2 kd1016.2.2.2.2.2.2.2.2.1 rfl rfl ?_
      obtain ⟨hk187, h⟩ := h
      obtain ⟨b188, hb188, h⟩ := h
      refine jx_getr jc_11 (j := 9) (by decide) rfl jwF_X11_34 kd1017.1 hk187 hb188 ?_
      refine jx_iload_n 3 kd1017.2.1 rfl rfl ?_
      refine jx_iload_n 4 kd1017.2.2.1 rfl rfl ?_
      refine jx_iconst (v := 1) kd1017.2.2.2.1 (by decide) ?_
      refine jx_icmp_ne (tgt := 128) kd1017.2.2.2.2.1 (by decide) (fun z9 => absurd c131 z9) (fun _ => ?_)
      refine jx_aload_n 2 kd1017.2.2.2.2.2.1 rfl rfl ?_
      refine jx_iload_n 5 kd1017.2.2.2.2.2.2.1 rfl rfl ?_
      refine jx_callVi (M' := mX11_worth) (As := [.int x3]) jo_X11_worth jc_11 rfl jwM_X11_119 jwN_X11_worth jwX_X11_worth kd1017.2.2.2.2.2.2.2.1 (jRok_m _ _ _) rfl (jle rfl) ⟨jle rfl, jle rfl⟩ hk187 h (fun r190 S189 h => ?_)
      refine jx_goto (tgt := 129) kd1017.2.2.2.2.2.2.2.2.1 (by decide) ?_
      obtain ⟨hk191, h⟩ := h
      obtain ⟨hi192, h⟩ := h
      refine jx_iast kd1018.2.1 hk191 hi192 ?_
      refine jx_iload_n 4 kd1018.2.2.1 rfl rfl ?_
      refine jx_iconst (v := 2) kd1018.2.2.2.1 (by decide) ?_
      refine jx_icmp_ne (tgt := 187) kd1018.2.2.2.2.1 (by decide) (fun _ => ?_) (fun z9 => absurd z9 c177)
      refine jx_iload 0 kd1022.1 rfl ?_
      exact jx_iret kd1022.2.1 rfl rfl (jle rfl) (jle rfl) ⟨_, rfl, h⟩
    replace h := h.1 c177
    refine jx_aload_n 1 kd1013.2.2.2.2.2.1 rfl rfl ?_
    obtain ⟨hk193, h⟩ := h
    obtain ⟨b194, hb194, h⟩ := h
    refine jx_getr jc_11 (j := 4) (by decide) rfl jwF_X11_19 kd1013.2.2.2.2.2.2.1 hk193 hb194 ?_
    refine jx_iload_n 4 kd1013.2.2.2.2.2.2.2.1 rfl rfl ?_
    obtain ⟨hk195, h⟩ := h
    obtain ⟨hi196, h⟩ := h
    refine jx_iald kd1013.2.2.2.2.2.2.2.2.1 hk195 hi196 ?_
    refine jx_if_ge (tgt := 74) kd1014.1 (by decide) (fun c197 => ?_) (fun c197 => ?_)
    · replace h := h.1 c197
      refine jx_aload_n 1 kd1014.2.2.2.1 rfl rfl ?_
      obtain ⟨b198, hb198, h⟩ := h
      refine jx_getr jc_11 (j := 7) (by decide) rfl jwF_X11_28 kd1014.2.2.2.2.1 hk193 hb198 ?_
      refine jx_iload_n 2 kd1014.2.2.2.2.2.1 rfl rfl ?_
      obtain ⟨hk199, h⟩ := h
      obtain ⟨hi200, h⟩ := h
      refine jx_iald kd1014.2.2.2.2.2.2.1 hk199 hi200 ?_
      refine jx_istore (lv1 := [(5, .int (ji S170 b198 (Int32.toNatClampNeg x1))), (4, .int 1), (0, .ref a0), (1, .int x1), (2, .int x2), (3, .int x3)]) kd1014.2.2.2.2.2.2.2.1 (by decide) rfl ?_
      refine jx_aload_n 2 kd1014.2.2.2.2.2.2.2.2.1 rfl rfl ?_
      refine jx_getr jc_11 (j := 7) (by decide) rfl jwF_X11_28 kd1015.1 hk193 hb198 ?_
      refine jx_iload_n 3 kd1015.2.1 rfl rfl ?_
      refine jx_iload_n 4 kd1015.2.2.1 rfl rfl ?_
      refine jx_iast kd1015.2.2.2.1 hk199 hi200 ?_
      refine jx_aload_n 2 kd1015.2.2.2.2.1 rfl rfl ?_
      obtain ⟨b201, hb201, h⟩ := h
      refine jx_getr jc_11 (j := 8) (by decide) rfl jwF_X11_31 kd1015.2.2.2.2.2.1 hk193 hb201 ?_
      refine jx_iload_n 3 kd1015.2.2.2.2.2.2.1 rfl rfl ?_
      refine jx_iload_n 4 kd1015.2.2.2.2.2.2.2.1 rfl rfl ?_
      refine jx_iconst (v := 1) kd1015.2.2.2.2.2.2.2.2.1 (by decide) ?_
      refine jx_icmp_ne (tgt := 108) kd1016.1 (by decide) (fun z9 => absurd c131 z9) (fun _ => ?_)
      refine jx_aload_n 2 kd1016.2.1 rfl rfl ?_
      refine jx_iload_n 5 kd1016.2.2.1 rfl rfl ?_
      refine jx_iconst (v := 0) kd1016.2.2.2.1 (by decide) ?_
      refine jx_callVi (M' := mX11_of) (As := [.int x3, .int 0]) jo_X11_of jc_11 rfl jwM_X11_97 jwN_X11_of jwX_X11_of kd1016.2.2.2.2.1 (jRok_m _ _ _) rfl (jle rfl) ⟨jle rfl, jle rfl⟩ hk193 h (fun r203 S202 h => ?_)
      refine jx_goto (tgt := 109) kd1016.2.2.2.2.2.1 (by decide) ?_
      obtain ⟨hk204, h⟩ := h
      obtain ⟨hi205, h⟩ := h
      refine jx_iast kd1016.2.2.2.2.2.2.2.1 hk204 hi205 ?_
      refine jx_aload_n 2 kd1016.2.2.2.2.2.2.2.2.1 rfl rfl ?_
      obtain ⟨hk206, h⟩ := h
      obtain ⟨b207, hb207, h⟩ := h
      refine jx_getr jc_11 (j := 9) (by decide) rfl jwF_X11_34 kd1017.1 hk206 hb207 ?_
      refine jx_iload_n 3 kd1017.2.1 rfl rfl ?_
      refine jx_iload_n 4 kd1017.2.2.1 rfl rfl ?_
      refine jx_iconst (v := 1) kd1017.2.2.2.1 (by decide) ?_
      refine jx_icmp_ne (tgt := 128) kd1017.2.2.2.2.1 (by decide) (fun z9 => absurd c131 z9) (fun _ => ?_)
      refine jx_aload_n 2 kd1017.2.2.2.2.2.1 rfl rfl ?_
      refine jx_iload_n 5 kd1017.2.2.2.2.2.2.1 rfl rfl ?_
      refine jx_callVi (M' := mX11_worth) (As := [.int x3]) jo_X11_worth jc_11 rfl jwM_X11_119 jwN_X11_worth jwX_X11_worth kd1017.2.2.2.2.2.2.2.1 (jRok_m _ _ _) rfl (jle rfl) ⟨jle rfl, jle rfl⟩ hk206 h (fun r209 S208 h => ?_)
      refine jx_goto (tgt := 129) kd1017.2.2.2.2.2.2.2.2.1 (by decide) ?_
      obtain ⟨hk210, h⟩ := h
      obtain ⟨hi211, h⟩ := h
      refine jx_iast kd1018.2.1 hk210 hi211 ?_
      refine jx_iload_n 4 kd1018.2.2.1 rfl rfl ?_
      refine jx_iconst (v := 2) kd1018.2.2.2.1 (by decide) ?_
      refine jx_icmp_ne (tgt := 187) kd1018.2.2.2.2.1 (by decide) (fun z9 => absurd c177 z9) (fun _ => ?_)
      refine jx_aload_n 2 kd1018.2.2.2.2.2.1 rfl rfl ?_
      obtain ⟨hk212, h⟩ := h
      obtain ⟨b213, hb213, h⟩ := h
      refine jx_getr jc_11 (j := 10) (by decide) rfl jwF_X11_37 kd1018.2.2.2.2.2.2.1 hk212 hb213 ?_
      refine jx_iload_n 3 kd1018.2.2.2.2.2.2.2.1 rfl rfl ?_
      refine jx_aload_n 2 kd1018.2.2.2.2.2.2.2.2.1 rfl rfl ?_
      obtain ⟨b214, hb214, h⟩ := h
      refine jx_getr jc_11 (j := 5) (by decide) rfl jwF_X11_22 kd1019.1 hk212 hb214 ?_
      refine jx_iload_n 5 kd1019.2.1 rfl rfl ?_
      obtain ⟨hk215, h⟩ := h
      obtain ⟨hi216, h⟩ := h
      refine jx_iald kd1019.2.2.1 hk215 hi216 ?_
      obtain ⟨hk217, h⟩ := h
      obtain ⟨hi218, h⟩ := h
      refine jx_iast kd1019.2.2.2.1 hk217 hi218 ?_
      refine jx_iconst (v := 0) kd1019.2.2.2.2.1 (by decide) ?_
      refine jx_istore (lv1 := [(6, .int 0), (5, .int (ji S170 b198 (Int32.toNatClampNeg x1))), (4, .int 1), (0, .ref a0), (1, .int x1), (2, .int x2), (3, .int x3)]) kd1019.2.2.2.2.2.1 (by decide) rfl ?_
      exact jx_lv [3, 4, 6, 1, 0] rfl h
    replace h := h.2 c197
    refine jx_ldcw jwC_X11_320 kd1014.2.1 ?_
    exact jx_iret kd1014.2.2.1 rfl rfl (jle rfl) (jle rfl) ⟨_, rfl, h⟩
  replace h := h.1 c172
  refine jx_iload_n 2 kd1011.2.2.2.1 rfl rfl ?_
  refine jx_iconst (v := 2) kd1011.2.2.2.2.1 (by decide) ?_
  refine jx_icmp_ne (tgt := 38) kd1011.2.2.2.2.2.1 (by decide) (fun c219 => ?_) (fun c219 => ?_)
  · replace h := h.2 c219
    refine jx_iconst (v := 0) kd1012.2.2.1 (by decide) ?_
    refine jx_istore (lv1 := [(4, .int 0), (0, .ref a0), (1, .int x1), (2, .int x2), (3, .int x3)]) kd1012.2.2.2.1 (by decide) rfl ?_
    refine jx_iload_n 2 kd1012.2.2.2.2.1 rfl rfl ?_
    refine jx_callSi (M' := mX11_isSlot) (As := [.int x1]) jo_X11_isSlot jwM_X11_329 jwS_X11_isSlot kd1012.2.2.2.2.2.1 (jRok_m _ _ _) rfl (jle rfl) ⟨jle rfl, jle rfl⟩ (c_X11_isSlot (Q := fun v S' => v = (jisslot x1) ∧ S170 = S') ⟨rfl, rfl⟩) (fun r220 S221 hq222 => ?_)
    obtain ⟨rfl, rfl⟩ := hq222
    refine jx_if_eq (tgt := 53) kd1012.2.2.2.2.2.2.1 (by decide) (fun c223 => ?_) (fun c223 => ?_)
    · replace h := h.1 c223
      refine jx_ldc jwC_X11_87 kd1013.1 ?_
      exact jx_iret kd1013.2.1 rfl rfl (jle rfl) (jle rfl) ⟨_, rfl, h⟩
    replace h := h.2 c223
    refine jx_iload 0 kd1012.2.2.2.2.2.2.2.1 rfl ?_
    refine jx_if_ne (tgt := 56) kd1012.2.2.2.2.2.2.2.2.1 (by decide) (fun z9 => absurd z9 (by decide)) (fun _ => ?_)
    refine jx_ldc jwC_X11_87 kd1013.1 ?_
    exact jx_iret kd1013.2.1 rfl rfl (jle rfl) (jle rfl) ⟨_, rfl, h⟩
  replace h := h.1 c219
  refine jx_iload_n 3 kd1011.2.2.2.2.2.2.1 rfl rfl ?_
  refine jx_callSi (M' := mX11_isSheet) (As := [.int x3]) jo_X11_isSheet jwM_X11_314 jwS_X11_isSheet kd1011.2.2.2.2.2.2.2.1 (jRok_m _ _ _) rfl (jle rfl) ⟨jle rfl, jle rfl⟩ (c_X11_isSheet (Q := fun v S' => v = (jissheet x3) ∧ S170 = S') ⟨rfl, rfl⟩) (fun r224 S225 hq226 => ?_)
  obtain ⟨rfl, rfl⟩ := hq226
  refine jx_if_eq (tgt := 38) kd1011.2.2.2.2.2.2.2.2.1 (by decide) (fun c227 => ?_) (fun c227 => ?_)
  · replace h := h.1 c227
    refine jx_iconst (v := 0) kd1012.2.2.1 (by decide) ?_
    refine jx_istore (lv1 := [(4, .int 0), (0, .ref a0), (1, .int x1), (2, .int x2), (3, .int x3)]) kd1012.2.2.2.1 (by decide) rfl ?_
    refine jx_iload_n 2 kd1012.2.2.2.2.1 rfl rfl ?_
    refine jx_callSi (M' := mX11_isSlot) (As := [.int x1]) jo_X11_isSlot jwM_X11_329 jwS_X11_isSlot kd1012.2.2.2.2.2.1 (jRok_m _ _ _) rfl (jle rfl) ⟨jle rfl, jle rfl⟩ (c_X11_isSlot (Q := fun v S' => v = (jisslot x1) ∧ S170 = S') ⟨rfl, rfl⟩) (fun r228 S229 hq230 => ?_)
    obtain ⟨rfl, rfl⟩ := hq230
    refine jx_if_eq (tgt := 53) kd1012.2.2.2.2.2.2.1 (by decide) (fun c231 => ?_) (fun c231 => ?_)
    · replace h := h.1 c231
      refine jx_ldc jwC_X11_87 kd1013.1 ?_
      exact jx_iret kd1013.2.1 rfl rfl (jle rfl) (jle rfl) ⟨_, rfl, h⟩
    replace h := h.2 c231
    refine jx_iload 0 kd1012.2.2.2.2.2.2.2.1 rfl ?_
    refine jx_if_ne (tgt := 56) kd1012.2.2.2.2.2.2.2.2.1 (by decide) (fun z9 => absurd z9 (by decide)) (fun _ => ?_)
    refine jx_ldc jwC_X11_87 kd1013.1 ?_
    exact jx_iret kd1013.2.1 rfl rfl (jle rfl) (jle rfl) ⟨_, rfl, h⟩
  replace h := h.2 c227
  refine jx_iconst (v := 1) kd1012.1 (by decide) ?_
  refine jx_goto (tgt := 39) kd1012.2.1 (by decide) ?_
  refine jx_istore (lv1 := [(4, .int 1), (0, .ref a0), (1, .int x1), (2, .int x2), (3, .int x3)]) kd1012.2.2.2.1 (by decide) rfl ?_
  refine jx_iload_n 2 kd1012.2.2.2.2.1 rfl rfl ?_
  refine jx_callSi (M' := mX11_isSlot) (As := [.int x1]) jo_X11_isSlot jwM_X11_329 jwS_X11_isSlot kd1012.2.2.2.2.2.1 (jRok_m _ _ _) rfl (jle rfl) ⟨jle rfl, jle rfl⟩ (c_X11_isSlot (Q := fun v S' => v = (jisslot x1) ∧ S170 = S') ⟨rfl, rfl⟩) (fun r232 S233 hq234 => ?_)
  obtain ⟨rfl, rfl⟩ := hq234
  refine jx_if_eq (tgt := 53) kd1012.2.2.2.2.2.2.1 (by decide) (fun c235 => ?_) (fun c235 => ?_)
  · replace h := h.1 c235
    refine jx_ldc jwC_X11_87 kd1013.1 ?_
    exact jx_iret kd1013.2.1 rfl rfl (jle rfl) (jle rfl) ⟨_, rfl, h⟩
  replace h := h.2 c235
  refine jx_iload 0 kd1012.2.2.2.2.2.2.2.1 rfl ?_
  refine jx_if_ne (tgt := 56) kd1012.2.2.2.2.2.2.2.2.1 (by decide) (fun _ => ?_) (fun z9 => absurd z9 (by decide))
  refine jx_iload_n 3 kd1013.2.2.1 rfl rfl ?_
  refine jx_iconst (v := 2) kd1013.2.2.2.1 (by decide) ?_
  refine jx_icmp_ne (tgt := 74) kd1013.2.2.2.2.1 (by decide) (fun z9 => absurd c219 z9) (fun _ => ?_)
  refine jx_aload_n 1 kd1013.2.2.2.2.2.1 rfl rfl ?_
  obtain ⟨hk236, h⟩ := h
  obtain ⟨b237, hb237, h⟩ := h
  refine jx_getr jc_11 (j := 4) (by decide) rfl jwF_X11_19 kd1013.2.2.2.2.2.2.1 hk236 hb237 ?_
  refine jx_iload_n 4 kd1013.2.2.2.2.2.2.2.1 rfl rfl ?_
  obtain ⟨hk238, h⟩ := h
  obtain ⟨hi239, h⟩ := h
  refine jx_iald kd1013.2.2.2.2.2.2.2.2.1 hk238 hi239 ?_
  refine jx_if_ge (tgt := 74) kd1014.1 (by decide) (fun c240 => ?_) (fun c240 => ?_)
  · replace h := h.1 c240
    refine jx_aload_n 1 kd1014.2.2.2.1 rfl rfl ?_
    obtain ⟨b241, hb241, h⟩ := h
    refine jx_getr jc_11 (j := 7) (by decide) rfl jwF_X11_28 kd1014.2.2.2.2.1 hk236 hb241 ?_
    refine jx_iload_n 2 kd1014.2.2.2.2.2.1 rfl rfl ?_
    obtain ⟨hk242, h⟩ := h
    obtain ⟨hi243, h⟩ := h
    refine jx_iald kd1014.2.2.2.2.2.2.1 hk242 hi243 ?_
    refine jx_istore (lv1 := [(5, .int (ji S170 b241 (Int32.toNatClampNeg x1))), (4, .int 1), (0, .ref a0), (1, .int x1), (2, .int x2), (3, .int x3)]) kd1014.2.2.2.2.2.2.2.1 (by decide) rfl ?_
    refine jx_aload_n 2 kd1014.2.2.2.2.2.2.2.2.1 rfl rfl ?_
    refine jx_getr jc_11 (j := 7) (by decide) rfl jwF_X11_28 kd1015.1 hk236 hb241 ?_
    refine jx_iload_n 3 kd1015.2.1 rfl rfl ?_
    refine jx_iload_n 4 kd1015.2.2.1 rfl rfl ?_
    refine jx_iast kd1015.2.2.2.1 hk242 hi243 ?_
    refine jx_aload_n 2 kd1015.2.2.2.2.1 rfl rfl ?_
    obtain ⟨b244, hb244, h⟩ := h
    refine jx_getr jc_11 (j := 8) (by decide) rfl jwF_X11_31 kd1015.2.2.2.2.2.1 hk236 hb244 ?_
    refine jx_iload_n 3 kd1015.2.2.2.2.2.2.1 rfl rfl ?_
    refine jx_iload_n 4 kd1015.2.2.2.2.2.2.2.1 rfl rfl ?_
    refine jx_iconst (v := 1) kd1015.2.2.2.2.2.2.2.2.1 (by decide) ?_
    refine jx_icmp_ne (tgt := 108) kd1016.1 (by decide) (fun z9 => absurd c131 z9) (fun _ => ?_)
    refine jx_aload_n 2 kd1016.2.1 rfl rfl ?_
    refine jx_iload_n 5 kd1016.2.2.1 rfl rfl ?_
    refine jx_iconst (v := 0) kd1016.2.2.2.1 (by decide) ?_
    refine jx_callVi (M' := mX11_of) (As := [.int x3, .int 0]) jo_X11_of jc_11 rfl jwM_X11_97 jwN_X11_of jwX_X11_of kd1016.2.2.2.2.1 (jRok_m _ _ _) rfl (jle rfl) ⟨jle rfl, jle rfl⟩ hk236 h (fun r246 S245 h => ?_)
    refine jx_goto (tgt := 109) kd1016.2.2.2.2.2.1 (by decide) ?_
    obtain ⟨hk247, h⟩ := h
    obtain ⟨hi248, h⟩ := h
    refine jx_iast kd1016.2.2.2.2.2.2.2.1 hk247 hi248 ?_
    refine jx_aload_n 2 kd1016.2.2.2.2.2.2.2.2.1 rfl rfl ?_
    obtain ⟨hk249, h⟩ := h
    obtain ⟨b250, hb250, h⟩ := h
    refine jx_getr jc_11 (j := 9) (by decide) rfl jwF_X11_34 kd1017.1 hk249 hb250 ?_
    refine jx_iload_n 3 kd1017.2.1 rfl rfl ?_
    refine jx_iload_n 4 kd1017.2.2.1 rfl rfl ?_
    refine jx_iconst (v := 1) kd1017.2.2.2.1 (by decide) ?_
    refine jx_icmp_ne (tgt := 128) kd1017.2.2.2.2.1 (by decide) (fun z9 => absurd c131 z9) (fun _ => ?_)
    refine jx_aload_n 2 kd1017.2.2.2.2.2.1 rfl rfl ?_
    refine jx_iload_n 5 kd1017.2.2.2.2.2.2.1 rfl rfl ?_
    refine jx_callVi (M' := mX11_worth) (As := [.int x3]) jo_X11_worth jc_11 rfl jwM_X11_119 jwN_X11_worth jwX_X11_worth kd1017.2.2.2.2.2.2.2.1 (jRok_m _ _ _) rfl (jle rfl) ⟨jle rfl, jle rfl⟩ hk249 h (fun r252 S251 h => ?_)
    refine jx_goto (tgt := 129) kd1017.2.2.2.2.2.2.2.2.1 (by decide) ?_
    obtain ⟨hk253, h⟩ := h
    obtain ⟨hi254, h⟩ := h
    refine jx_iast kd1018.2.1 hk253 hi254 ?_
    refine jx_iload_n 4 kd1018.2.2.1 rfl rfl ?_
    refine jx_iconst (v := 2) kd1018.2.2.2.1 (by decide) ?_
    refine jx_icmp_ne (tgt := 187) kd1018.2.2.2.2.1 (by decide) (fun z9 => absurd c219 z9) (fun _ => ?_)
    refine jx_aload_n 2 kd1018.2.2.2.2.2.1 rfl rfl ?_
    obtain ⟨hk255, h⟩ := h
    obtain ⟨b256, hb256, h⟩ := h
    refine jx_getr jc_11 (j := 10) (by decide) rfl jwF_X11_37 kd1018.2.2.2.2.2.2.1 hk255 hb256 ?_
    refine jx_iload_n 3 kd1018.2.2.2.2.2.2.2.1 rfl rfl ?_
    refine jx_aload_n 2 kd1018.2.2.2.2.2.2.2.2.1 rfl rfl ?_
    obtain ⟨b257, hb257, h⟩ := h
    refine jx_getr jc_11 (j := 5) (by decide) rfl jwF_X11_22 kd1019.1 hk255 hb257 ?_
    refine jx_iload_n 5 kd1019.2.1 rfl rfl ?_
    obtain ⟨hk258, h⟩ := h
    obtain ⟨hi259, h⟩ := h
    refine jx_iald kd1019.2.2.1 hk258 hi259 ?_
    obtain ⟨hk260, h⟩ := h
    obtain ⟨hi261, h⟩ := h
    refine jx_iast kd1019.2.2.2.1 hk260 hi261 ?_
    refine jx_iconst (v := 0) kd1019.2.2.2.2.1 (by decide) ?_
    refine jx_istore (lv1 := [(6, .int 0), (5, .int (ji S170 b241 (Int32.toNatClampNeg x1))), (4, .int 1), (0, .ref a0), (1, .int x1), (2, .int x2), (3, .int x3)]) kd1019.2.2.2.2.2.1 (by decide) rfl ?_
    exact jx_lv [3, 4, 6, 1, 0] rfl h
  replace h := h.2 c240
  refine jx_ldcw jwC_X11_320 kd1014.2.1 ?_
  exact jx_iret kd1014.2.2.1 rfl rfl (jle rfl) (jle rfl) ⟨_, rfl, h⟩
set_option maxRecDepth 100000 in
set_option maxHeartbeats 4000000 in
theorem T_X11_lay_150 {E : jEnv} {d : Nat} {Q : Int32 → jM → Prop} {a0 : Nat} {x1 : Int32} {x3 : Int32} {x5 : Int32} {x6 : Int32} {S : jM} (h : (24 ≤ x6 → Q x5 S) ∧ (¬ 24 ≤ x6 → jk S a0 = 11 ∧ ∃ b264, jr S a0 11 = some b264 ∧ (∃ b265, jr S a0 6 = some b265 ∧ (jk S b265 = 12 ∧ vp_in ((24 * x3) + x6) (jl S b265) ∧ (jk S b264 = 12 ∧ vp_in ((24 * x1) + x6) (jl S b264) ∧ (L_X11_lay_150 E d Q a0 x1 x3 x5 (x6 + 1) (jput S b264 (Int32.toNatClampNeg ((24 * x1) + x6)) (ji S b265 (Int32.toNatClampNeg ((24 * x3) + x6)))))))))) : L_X11_lay_150 E d Q a0 x1 x3 x5 x6 S := by
  show jX E mX11_lay (jRm (d + 2) 0 0) (jZm E (fun r S' => ∃ v : Int32, r = some (.int v) ∧ Q v S') 0 0) 150 [(0, .ref a0), (1, .int x1), (3, .int x3), (5, .int x5), (6, .int x6)] [] S 0 0
  refine jx_iload 4 kd1019.2.2.2.2.2.2.1 rfl ?_
  refine jx_bipush (v := 24) kd1019.2.2.2.2.2.2.2.1 (by decide) ?_
  refine jx_icmp_ge (tgt := 187) kd1019.2.2.2.2.2.2.2.2.1 (by decide) (fun c262 => ?_) (fun c262 => ?_)
  · replace h := h.1 c262
    refine jx_iload 3 kd1022.1 rfl ?_
    exact jx_iret kd1022.2.1 rfl rfl (jle rfl) (jle rfl) ⟨_, rfl, h⟩
  replace h := h.2 c262
  refine jx_aload_n 0 kd1020.1 rfl rfl ?_
  obtain ⟨hk263, h⟩ := h
  obtain ⟨b264, hb264, h⟩ := h
  refine jx_getr jc_11 (j := 11) (by decide) rfl jwF_X11_40 kd1020.2.1 hk263 hb264 ?_
  refine jx_bipush (v := 24) kd1020.2.2.1 (by decide) ?_
  refine jx_iload_n 1 kd1020.2.2.2.1 rfl rfl ?_
  refine jx_imul kd1020.2.2.2.2.1 ?_
  refine jx_iload 4 kd1020.2.2.2.2.2.1 rfl ?_
  refine jx_iadd kd1020.2.2.2.2.2.2.1 ?_
  refine jx_aload_n 0 kd1020.2.2.2.2.2.2.2.1 rfl rfl ?_
  obtain ⟨b265, hb265, h⟩ := h
  refine jx_getr jc_11 (j := 6) (by decide) rfl jwF_X11_25 kd1020.2.2.2.2.2.2.2.2.1 hk263 hb265 ?_
  refine jx_bipush (v := 24) kd1021.1 (by decide) ?_
  refine jx_iload_n 2 kd1021.2.1 rfl rfl ?_
  refine jx_imul kd1021.2.2.1 ?_
  refine jx_iload 4 kd1021.2.2.2.1 rfl ?_
  refine jx_iadd kd1021.2.2.2.2.1 ?_
  obtain ⟨hk266, h⟩ := h
  obtain ⟨hi267, h⟩ := h
  refine jx_iald kd1021.2.2.2.2.2.1 hk266 hi267 ?_
  obtain ⟨hk268, h⟩ := h
  obtain ⟨hi269, h⟩ := h
  refine jx_iast kd1021.2.2.2.2.2.2.1 hk268 hi269 ?_
  refine jx_iinc 4 (v := (x6 + 1)) (lv1 := [(6, .int (x6 + 1)), (0, .ref a0), (1, .int x1), (3, .int x3), (5, .int x5)]) kd1021.2.2.2.2.2.2.2.1 rfl rfl (by decide) rfl ?_
  refine jx_goto (tgt := 150) kd1021.2.2.2.2.2.2.2.2.1 (by decide) ?_
  exact jx_lv [1, 2, 3, 4, 0] rfl h
set_option maxRecDepth 100000 in
set_option maxHeartbeats 4000000 in
theorem T_X11_ask {E : jEnv} {d : Nat} {Q : Int32 → jM → Prop} {a0 : Nat} {x1 : Int32} {x2 : Int32} {S : jM} (h : ((jisslot x1) = 0 → Q (-1000000001) S) ∧ (¬ (jisslot x1) = 0 → ((jisin (Int32.toInt64 x2) 0 5) = 0 → Q (-1000000001) S) ∧ (¬ (jisin (Int32.toInt64 x2) 0 5) = 0 → jk S a0 = 11 ∧ ∃ b10, jr S a0 7 = some b10 ∧ (jk S b10 = 12 ∧ vp_in x1 (jl S b10) ∧ (((ji S b10 (Int32.toNatClampNeg x1)) = 0 → Q (-1000000011) S) ∧ (¬ (ji S b10 (Int32.toNatClampNeg x1)) = 0 → (((ji S b10 (Int32.toNatClampNeg x1)) = 1 → ∃ b15, jr S a0 8 = some b15 ∧ (jk S b15 = 12 ∧ vp_in x1 (jl S b15) ∧ (((jisof (ji S b15 (Int32.toNatClampNeg x1)) x2) = 0 → Q (-1000000012) S) ∧ (¬ (jisof (ji S b15 (Int32.toNatClampNeg x1)) x2) = 0 → ∃ b22, jr S a0 9 = some b22 ∧ (jk S b22 = 12 ∧ vp_in x1 (jl S b22) ∧ (Q (ji S b22 (Int32.toNatClampNeg x1)) S)))))) ∧ (¬ (ji S b10 (Int32.toNatClampNeg x1)) = 1 → Q (-1000000012) S)))))))) : jFi E mX11_ask (d + 2) 0 0 [.ref a0, .int x1, .int x2] S Q := by
  refine jF_of (by decide) (jle rfl) ?_
  refine jx_lv (lv1 := [(0, .ref a0), (1, .int x1), (2, .int x2)]) [0, 1, 2] rfl ?_
  refine jx_iload_n 1 kd1023.1 rfl rfl ?_
  refine jx_callSi (M' := mX11_isSlot) (As := [.int x1]) jo_X11_isSlot jwM_X11_329 jwS_X11_isSlot kd1023.2.1 (jRok_m _ _ _) rfl (jle rfl) ⟨jle rfl, jle rfl⟩ (c_X11_isSlot (Q := fun v S' => v = (jisslot x1) ∧ S = S') ⟨rfl, rfl⟩) (fun r1 S2 hq3 => ?_)
  obtain ⟨rfl, rfl⟩ := hq3
  refine jx_if_eq (tgt := 19) kd1023.2.2.1 (by decide) (fun c4 => ?_) (fun c4 => ?_)
  · replace h := h.1 c4
    refine jx_ldc jwC_X11_87 kd1024.1 ?_
    exact jx_iret kd1024.2.1 rfl rfl (jle rfl) (jle rfl) ⟨_, rfl, h⟩
  replace h := h.2 c4
  refine jx_iload_n 2 kd1023.2.2.2.1 rfl rfl ?_
  refine jx_i2l kd1023.2.2.2.2.1 ?_
  refine jx_lconst (v := 0) kd1023.2.2.2.2.2.1 (by decide) ?_
  refine jx_ldc2 jwL_X11_76 kd1023.2.2.2.2.2.2.1 ?_
  refine jx_callSi (M' := mX11_isIn) (As := [.long (Int32.toInt64 x2), .long 0, .long 5]) jo_X11_isIn jwM_X11_71 jwS_X11_isIn kd1023.2.2.2.2.2.2.2.1 (jRok_m _ _ _) rfl (jle rfl) ⟨jle rfl, jle rfl⟩ (c_X11_isIn (Q := fun v S' => v = (jisin (Int32.toInt64 x2) 0 5) ∧ S = S') ⟨rfl, rfl⟩) (fun r5 S6 hq7 => ?_)
  obtain ⟨rfl, rfl⟩ := hq7
  refine jx_if_ne (tgt := 22) kd1023.2.2.2.2.2.2.2.2.1 (by decide) (fun c8 => ?_) (fun c8 => ?_)
  · replace h := h.2 c8
    refine jx_aload_n 0 kd1024.2.2.1 rfl rfl ?_
    obtain ⟨hk9, h⟩ := h
    obtain ⟨b10, hb10, h⟩ := h
    refine jx_getr jc_11 (j := 7) (by decide) rfl jwF_X11_28 kd1024.2.2.2.1 hk9 hb10 ?_
    refine jx_iload_n 1 kd1024.2.2.2.2.1 rfl rfl ?_
    obtain ⟨hk11, h⟩ := h
    obtain ⟨hi12, h⟩ := h
    refine jx_iald kd1024.2.2.2.2.2.1 hk11 hi12 ?_
    refine jx_if_ne (tgt := 35) kd1024.2.2.2.2.2.2.1 (by decide) (fun c13 => ?_) (fun c13 => ?_)
    · replace h := h.2 c13
      refine jx_aload_n 0 kd1025.1 rfl rfl ?_
      refine jx_getr jc_11 (j := 7) (by decide) rfl jwF_X11_28 kd1025.2.1 hk9 hb10 ?_
      refine jx_iload_n 1 kd1025.2.2.1 rfl rfl ?_
      refine jx_iald kd1025.2.2.2.1 hk11 hi12 ?_
      refine jx_iconst (v := 1) kd1025.2.2.2.2.1 (by decide) ?_
      refine jx_icmp_ne (tgt := 67) kd1025.2.2.2.2.2.1 (by decide) (fun c14 => ?_) (fun c14 => ?_)
      · replace h := h.2 c14
        refine jx_ldc jwC_X11_129 kd1027.1 ?_
        exact jx_iret kd1027.2.1 rfl rfl (jle rfl) (jle rfl) ⟨_, rfl, h⟩
      replace h := h.1 c14
      refine jx_aload_n 0 kd1025.2.2.2.2.2.2.1 rfl rfl ?_
      obtain ⟨b15, hb15, h⟩ := h
      refine jx_getr jc_11 (j := 8) (by decide) rfl jwF_X11_31 kd1025.2.2.2.2.2.2.2.1 hk9 hb15 ?_
      refine jx_iload_n 1 kd1025.2.2.2.2.2.2.2.2.1 rfl rfl ?_
      obtain ⟨hk16, h⟩ := h
      obtain ⟨hi17, h⟩ := h
      refine jx_iald kd1026.1 hk16 hi17 ?_
      refine jx_iload_n 2 kd1026.2.1 rfl rfl ?_
      refine jx_callSi (M' := mX11_isOf) (As := [.int (ji S b15 (Int32.toNatClampNeg x1)), .int x2]) jo_X11_isOf jwM_X11_126 jwS_X11_isOf kd1026.2.2.1 (jRok_m _ _ _) rfl (jle rfl) ⟨jle rfl, jle rfl⟩ (c_X11_isOf (Q := fun v S' => v = (jisof (ji S b15 (Int32.toNatClampNeg x1)) x2) ∧ S = S') ⟨rfl, rfl⟩) (fun r18 S19 hq20 => ?_)
      obtain ⟨rfl, rfl⟩ := hq20
      refine jx_if_eq (tgt := 67) kd1026.2.2.2.1 (by decide) (fun c21 => ?_) (fun c21 => ?_)
      · replace h := h.1 c21
        refine jx_ldc jwC_X11_129 kd1027.1 ?_
        exact jx_iret kd1027.2.1 rfl rfl (jle rfl) (jle rfl) ⟨_, rfl, h⟩
      replace h := h.2 c21
      refine jx_aload_n 0 kd1026.2.2.2.2.1 rfl rfl ?_
      obtain ⟨b22, hb22, h⟩ := h
      refine jx_getr jc_11 (j := 9) (by decide) rfl jwF_X11_34 kd1026.2.2.2.2.2.1 hk9 hb22 ?_
      refine jx_iload_n 1 kd1026.2.2.2.2.2.2.1 rfl rfl ?_
      obtain ⟨hk23, h⟩ := h
      obtain ⟨hi24, h⟩ := h
      refine jx_iald kd1026.2.2.2.2.2.2.2.1 hk23 hi24 ?_
      refine jx_goto (tgt := 69) kd1026.2.2.2.2.2.2.2.2.1 (by decide) ?_
      exact jx_iret kd1027.2.1 rfl rfl (jle rfl) (jle rfl) ⟨_, rfl, h⟩
    replace h := h.1 c13
    refine jx_ldcw jwC_X11_320 kd1024.2.2.2.2.2.2.2.1 ?_
    exact jx_iret kd1024.2.2.2.2.2.2.2.2.1 rfl rfl (jle rfl) (jle rfl) ⟨_, rfl, h⟩
  replace h := h.1 c8
  refine jx_ldc jwC_X11_87 kd1024.1 ?_
  exact jx_iret kd1024.2.1 rfl rfl (jle rfl) (jle rfl) ⟨_, rfl, h⟩
set_option maxRecDepth 100000 in
set_option maxHeartbeats 4000000 in
theorem T_X11_item {E : jEnv} {d : Nat} {Q : Int32 → jM → Prop} {a0 : Nat} {x1 : Int32} {x2 : Int32} {S : jM} (h : ((jisslot x1) = 0 → Q (-1000000001) S) ∧ (¬ (jisslot x1) = 0 → jk S a0 = 11 ∧ ∃ b6, jr S a0 7 = some b6 ∧ (jk S b6 = 12 ∧ vp_in x1 (jl S b6) ∧ (((ji S b6 (Int32.toNatClampNeg x1)) = 2 → ∃ b10, jr S a0 10 = some b10 ∧ (jk S b10 = 12 ∧ vp_in x1 (jl S b10) ∧ (((jisin (Int32.toInt64 x2) 0 (Int32.toInt64 ((ji S b10 (Int32.toNatClampNeg x1)) - 1))) = 0 → Q (-1000000013) S) ∧ (¬ (jisin (Int32.toInt64 x2) 0 (Int32.toInt64 ((ji S b10 (Int32.toNatClampNeg x1)) - 1))) = 0 → ∃ b17, jr S a0 11 = some b17 ∧ (jk S b17 = 12 ∧ vp_in ((24 * x1) + x2) (jl S b17) ∧ (((ji S b17 (Int32.toNatClampNeg ((24 * x1) + x2))) = (-1000000005) → Q (-1000000012) S) ∧ (¬ (ji S b17 (Int32.toNatClampNeg ((24 * x1) + x2))) = (-1000000005) → Q (ji S b17 (Int32.toNatClampNeg ((24 * x1) + x2))) S))))))) ∧ (¬ (ji S b6 (Int32.toNatClampNeg x1)) = 2 → (((ji S b6 (Int32.toNatClampNeg x1)) = 0 → Q (-1000000011) S) ∧ (¬ (ji S b6 (Int32.toNatClampNeg x1)) = 0 → Q (-1000000012) S))))))) : jFi E mX11_item (d + 2) 0 0 [.ref a0, .int x1, .int x2] S Q := by
  refine jF_of (by decide) (jle rfl) ?_
  refine jx_lv (lv1 := [(0, .ref a0), (1, .int x1), (2, .int x2)]) [0, 1, 2] rfl ?_
  refine jx_iload_n 1 kd1028.1 rfl rfl ?_
  refine jx_callSi (M' := mX11_isSlot) (As := [.int x1]) jo_X11_isSlot jwM_X11_329 jwS_X11_isSlot kd1028.2.1 (jRok_m _ _ _) rfl (jle rfl) ⟨jle rfl, jle rfl⟩ (c_X11_isSlot (Q := fun v S' => v = (jisslot x1) ∧ S = S') ⟨rfl, rfl⟩) (fun r1 S2 hq3 => ?_)
  obtain ⟨rfl, rfl⟩ := hq3
  refine jx_if_ne (tgt := 10) kd1028.2.2.1 (by decide) (fun c4 => ?_) (fun c4 => ?_)
  · replace h := h.2 c4
    refine jx_aload_n 0 kd1028.2.2.2.2.2.1 rfl rfl ?_
    obtain ⟨hk5, h⟩ := h
    obtain ⟨b6, hb6, h⟩ := h
    refine jx_getr jc_11 (j := 7) (by decide) rfl jwF_X11_28 kd1028.2.2.2.2.2.2.1 hk5 hb6 ?_
    refine jx_iload_n 1 kd1028.2.2.2.2.2.2.2.1 rfl rfl ?_
    obtain ⟨hk7, h⟩ := h
    obtain ⟨hi8, h⟩ := h
    refine jx_iald kd1028.2.2.2.2.2.2.2.2.1 hk7 hi8 ?_
    refine jx_iconst (v := 2) kd1029.1 (by decide) ?_
    refine jx_icmp_eq (tgt := 38) kd1029.2.1 (by decide) (fun c9 => ?_) (fun c9 => ?_)
    · replace h := h.1 c9
      refine jx_iload_n 2 kd1030.2.2.1 rfl rfl ?_
      refine jx_i2l kd1030.2.2.2.1 ?_
      refine jx_lconst (v := 0) kd1030.2.2.2.2.1 (by decide) ?_
      refine jx_aload_n 0 kd1030.2.2.2.2.2.1 rfl rfl ?_
      obtain ⟨b10, hb10, h⟩ := h
      refine jx_getr jc_11 (j := 10) (by decide) rfl jwF_X11_37 kd1030.2.2.2.2.2.2.1 hk5 hb10 ?_
      refine jx_iload_n 1 kd1030.2.2.2.2.2.2.2.1 rfl rfl ?_
      obtain ⟨hk11, h⟩ := h
      obtain ⟨hi12, h⟩ := h
      refine jx_iald kd1030.2.2.2.2.2.2.2.2.1 hk11 hi12 ?_
      refine jx_iconst (v := 1) kd1031.1 (by decide) ?_
      refine jx_isub kd1031.2.1 ?_
      refine jx_i2l kd1031.2.2.1 ?_
      refine jx_callSi (M' := mX11_isIn) (As := [.long (Int32.toInt64 x2), .long 0, .long (Int32.toInt64 ((ji S b10 (Int32.toNatClampNeg x1)) - 1))]) jo_X11_isIn jwM_X11_71 jwS_X11_isIn kd1031.2.2.2.1 (jRok_m _ _ _) rfl (jle rfl) ⟨jle rfl, jle rfl⟩ (c_X11_isIn (Q := fun v S' => v = (jisin (Int32.toInt64 x2) 0 (Int32.toInt64 ((ji S b10 (Int32.toNatClampNeg x1)) - 1))) ∧ S = S') ⟨rfl, rfl⟩) (fun r13 S14 hq15 => ?_)
      obtain ⟨rfl, rfl⟩ := hq15
      refine jx_if_ne (tgt := 60) kd1031.2.2.2.2.1 (by decide) (fun c16 => ?_) (fun c16 => ?_)
      · replace h := h.2 c16
        refine jx_aload_n 0 kd1031.2.2.2.2.2.2.2.1 rfl rfl ?_
        obtain ⟨b17, hb17, h⟩ := h
        refine jx_getr jc_11 (j := 11) (by decide) rfl jwF_X11_40 kd1031.2.2.2.2.2.2.2.2.1 hk5 hb17 ?_
        refine jx_bipush (v := 24) kd1032.1 (by decide) ?_
        refine jx_iload_n 1 kd1032.2.1 rfl rfl ?_
        refine jx_imul kd1032.2.2.1 ?_
        refine jx_iload_n 2 kd1032.2.2.2.1 rfl rfl ?_
        refine jx_iadd kd1032.2.2.2.2.1 ?_
        obtain ⟨hk18, h⟩ := h
        obtain ⟨hi19, h⟩ := h
        refine jx_iald kd1032.2.2.2.2.2.1 hk18 hi19 ?_
        refine jx_istore_n (lv1 := [(3, .int (ji S b17 (Int32.toNatClampNeg ((24 * x1) + x2)))), (0, .ref a0), (1, .int x1), (2, .int x2)]) kd1032.2.2.2.2.2.2.1 rfl (by decide) rfl ?_
        refine jx_iload_n 0 kd1032.2.2.2.2.2.2.2.1 rfl rfl ?_
        refine jx_ldc jwC_X11_70 kd1032.2.2.2.2.2.2.2.2.1 ?_
        refine jx_icmp_ne (tgt := 83) kd1033.1 (by decide) (fun c20 => ?_) (fun c20 => ?_)
        · replace h := h.2 c20
          refine jx_iload_n 0 kd1033.2.2.2.1 rfl rfl ?_
          exact jx_iret kd1033.2.2.2.2.1 rfl rfl (jle rfl) (jle rfl) ⟨_, rfl, h⟩
        replace h := h.1 c20
        refine jx_ldc jwC_X11_129 kd1033.2.1 ?_
        refine jx_goto (tgt := 84) kd1033.2.2.1 (by decide) ?_
        exact jx_iret kd1033.2.2.2.2.1 rfl rfl (jle rfl) (jle rfl) ⟨_, rfl, h⟩
      replace h := h.1 c16
      refine jx_ldcw jwC_X11_321 kd1031.2.2.2.2.2.1 ?_
      exact jx_iret kd1031.2.2.2.2.2.2.1 rfl rfl (jle rfl) (jle rfl) ⟨_, rfl, h⟩
    replace h := h.2 c9
    refine jx_aload_n 0 kd1029.2.2.1 rfl rfl ?_
    refine jx_getr jc_11 (j := 7) (by decide) rfl jwF_X11_28 kd1029.2.2.2.1 hk5 hb6 ?_
    refine jx_iload_n 1 kd1029.2.2.2.2.1 rfl rfl ?_
    refine jx_iald kd1029.2.2.2.2.2.1 hk7 hi8 ?_
    refine jx_if_ne (tgt := 35) kd1029.2.2.2.2.2.2.1 (by decide) (fun c21 => ?_) (fun c21 => ?_)
    · replace h := h.2 c21
      refine jx_ldc jwC_X11_129 kd1030.1 ?_
      exact jx_iret kd1030.2.1 rfl rfl (jle rfl) (jle rfl) ⟨_, rfl, h⟩
    replace h := h.1 c21
    refine jx_ldcw jwC_X11_320 kd1029.2.2.2.2.2.2.2.1 ?_
    refine jx_goto (tgt := 37) kd1029.2.2.2.2.2.2.2.2.1 (by decide) ?_
    exact jx_iret kd1030.2.1 rfl rfl (jle rfl) (jle rfl) ⟨_, rfl, h⟩
  replace h := h.1 c4
  refine jx_ldc jwC_X11_87 kd1028.2.2.2.1 ?_
  exact jx_iret kd1028.2.2.2.2.1 rfl rfl (jle rfl) (jle rfl) ⟨_, rfl, h⟩
set_option maxRecDepth 100000 in
set_option maxHeartbeats 4000000 in
theorem T_X11_rest {E : jEnv} {d : Nat} {Q : Int32 → jM → Prop} {a0 : Nat} {x1 : Int32} {x2 : Int32} {S : jM} (h : ((jisslot x1) = 0 → Q (-1000000001) S) ∧ (¬ (jisslot x1) = 0 → jk S a0 = 11 ∧ ∃ b6, jr S a0 7 = some b6 ∧ (jk S b6 = 12 ∧ vp_in x1 (jl S b6) ∧ (((ji S b6 (Int32.toNatClampNeg x1)) = 3 → (x2 = 0 → Q (-1000000002) S) ∧ (¬ x2 = 0 → ∃ b11, jr S a0 8 = some b11 ∧ (jk S b11 = 12 ∧ vp_in x1 (jl S b11) ∧ ((¬ x2 = 0) ∧ (Q (jrem (ji S b11 (Int32.toNatClampNeg x1)) x2) S))))) ∧ (¬ (ji S b6 (Int32.toNatClampNeg x1)) = 3 → (((ji S b6 (Int32.toNatClampNeg x1)) = 0 → Q (-1000000011) S) ∧ (¬ (ji S b6 (Int32.toNatClampNeg x1)) = 0 → Q (-1000000012) S))))))) : jFi E mX11_rest (d + 2) 0 0 [.ref a0, .int x1, .int x2] S Q := by
  refine jF_of (by decide) (jle rfl) ?_
  refine jx_lv (lv1 := [(0, .ref a0), (1, .int x1), (2, .int x2)]) [0, 1, 2] rfl ?_
  refine jx_iload_n 1 kd1034.1 rfl rfl ?_
  refine jx_callSi (M' := mX11_isSlot) (As := [.int x1]) jo_X11_isSlot jwM_X11_329 jwS_X11_isSlot kd1034.2.1 (jRok_m _ _ _) rfl (jle rfl) ⟨jle rfl, jle rfl⟩ (c_X11_isSlot (Q := fun v S' => v = (jisslot x1) ∧ S = S') ⟨rfl, rfl⟩) (fun r1 S2 hq3 => ?_)
  obtain ⟨rfl, rfl⟩ := hq3
  refine jx_if_ne (tgt := 10) kd1034.2.2.1 (by decide) (fun c4 => ?_) (fun c4 => ?_)
  · replace h := h.2 c4
    refine jx_aload_n 0 kd1034.2.2.2.2.2.1 rfl rfl ?_
    obtain ⟨hk5, h⟩ := h
    obtain ⟨b6, hb6, h⟩ := h
    refine jx_getr jc_11 (j := 7) (by decide) rfl jwF_X11_28 kd1034.2.2.2.2.2.2.1 hk5 hb6 ?_
    refine jx_iload_n 1 kd1034.2.2.2.2.2.2.2.1 rfl rfl ?_
    obtain ⟨hk7, h⟩ := h
    obtain ⟨hi8, h⟩ := h
    refine jx_iald kd1034.2.2.2.2.2.2.2.2.1 hk7 hi8 ?_
    refine jx_iconst (v := 3) kd1035.1 (by decide) ?_
    refine jx_icmp_eq (tgt := 38) kd1035.2.1 (by decide) (fun c9 => ?_) (fun c9 => ?_)
    · replace h := h.1 c9
      refine jx_iload_n 2 kd1036.2.2.1 rfl rfl ?_
      refine jx_if_ne (tgt := 47) kd1036.2.2.2.1 (by decide) (fun c10 => ?_) (fun c10 => ?_)
      · replace h := h.2 c10
        refine jx_aload_n 0 kd1036.2.2.2.2.2.2.1 rfl rfl ?_
        obtain ⟨b11, hb11, h⟩ := h
        refine jx_getr jc_11 (j := 8) (by decide) rfl jwF_X11_31 kd1036.2.2.2.2.2.2.2.1 hk5 hb11 ?_
        refine jx_iload_n 1 kd1036.2.2.2.2.2.2.2.2.1 rfl rfl ?_
        obtain ⟨hk12, h⟩ := h
        obtain ⟨hi13, h⟩ := h
        refine jx_iald kd1037.1 hk12 hi13 ?_
        refine jx_iload_n 2 kd1037.2.1 rfl rfl ?_
        obtain ⟨hz14, h⟩ := h
        refine jx_irem kd1037.2.2.1 hz14 ?_
        exact jx_iret kd1037.2.2.2.1 rfl rfl (jle rfl) (jle rfl) ⟨_, rfl, h⟩
      replace h := h.1 c10
      refine jx_ldc jwC_X11_153 kd1036.2.2.2.2.1 ?_
      refine jx_goto (tgt := 55) kd1036.2.2.2.2.2.1 (by decide) ?_
      exact jx_iret kd1037.2.2.2.1 rfl rfl (jle rfl) (jle rfl) ⟨_, rfl, h⟩
    replace h := h.2 c9
    refine jx_aload_n 0 kd1035.2.2.1 rfl rfl ?_
    refine jx_getr jc_11 (j := 7) (by decide) rfl jwF_X11_28 kd1035.2.2.2.1 hk5 hb6 ?_
    refine jx_iload_n 1 kd1035.2.2.2.2.1 rfl rfl ?_
    refine jx_iald kd1035.2.2.2.2.2.1 hk7 hi8 ?_
    refine jx_if_ne (tgt := 35) kd1035.2.2.2.2.2.2.1 (by decide) (fun c15 => ?_) (fun c15 => ?_)
    · replace h := h.2 c15
      refine jx_ldc jwC_X11_129 kd1036.1 ?_
      exact jx_iret kd1036.2.1 rfl rfl (jle rfl) (jle rfl) ⟨_, rfl, h⟩
    replace h := h.1 c15
    refine jx_ldcw jwC_X11_320 kd1035.2.2.2.2.2.2.2.1 ?_
    refine jx_goto (tgt := 37) kd1035.2.2.2.2.2.2.2.2.1 (by decide) ?_
    exact jx_iret kd1036.2.1 rfl rfl (jle rfl) (jle rfl) ⟨_, rfl, h⟩
  replace h := h.1 c4
  refine jx_ldc jwC_X11_87 kd1034.2.2.2.1 ?_
  exact jx_iret kd1034.2.2.2.2.1 rfl rfl (jle rfl) (jle rfl) ⟨_, rfl, h⟩
set_option maxRecDepth 100000 in
set_option maxHeartbeats 4000000 in
theorem T_X11_tell {E : jEnv} {d : Nat} {Q : Int32 → jM → Prop} {a0 : Nat} {x1 : Int32} {S : jM} (h : jk S a0 = 11 ∧ ((ji S a0 34) = 60 → Q (-1000000003) S) ∧ (¬ (ji S a0 34) = 60 → ∃ b3, jr S a0 33 = some b3 ∧ (jk S b3 = 12 ∧ vp_in (ji S a0 34) (jl S b3) ∧ (Q ((ji S a0 34) + 1) (jput (jput S b3 (Int32.toNatClampNeg (ji S a0 34)) x1) a0 34 ((ji S a0 34) + 1)))))) : jFi E mX11_tell d 0 0 [.ref a0, .int x1] S Q := by
  refine jF_of (by decide) (jle rfl) ?_
  refine jx_lv (lv1 := [(0, .ref a0), (1, .int x1)]) [0, 1] rfl ?_
  refine jx_aload_n 0 kd1038.1 rfl rfl ?_
  obtain ⟨hk1, h⟩ := h
  refine jx_geti jc_11 (j := 34) (by decide) rfl jwF_X11_332 kd1038.2.1 hk1 ?_
  refine jx_bipush (v := 60) kd1038.2.2.1 (by decide) ?_
  refine jx_icmp_ne (tgt := 12) kd1038.2.2.2.1 (by decide) (fun c2 => ?_) (fun c2 => ?_)
  · replace h := h.2 c2
    refine jx_aload_n 0 kd1038.2.2.2.2.2.2.1 rfl rfl ?_
    obtain ⟨b3, hb3, h⟩ := h
    refine jx_getr jc_11 (j := 33) (by decide) rfl jwF_X11_64 kd1038.2.2.2.2.2.2.2.1 hk1 hb3 ?_
    refine jx_aload_n 0 kd1038.2.2.2.2.2.2.2.2.1 rfl rfl ?_
    refine jx_geti jc_11 (j := 34) (by decide) rfl jwF_X11_332 kd1039.1 hk1 ?_
    refine jx_iload_n 1 kd1039.2.1 rfl rfl ?_
    obtain ⟨hk4, h⟩ := h
    obtain ⟨hi5, h⟩ := h
    refine jx_iast kd1039.2.2.1 hk4 hi5 ?_
    refine jx_aload_n 0 kd1039.2.2.2.1 rfl rfl ?_
    refine jx_dup kd1039.2.2.2.2.1 rfl ?_
    refine jx_geti jc_11 (j := 34) (by decide) rfl jwF_X11_332 kd1039.2.2.2.2.2.1 hk1 ?_
    refine jx_topi (y := (ji S a0 34)) (by simp [ji_put, ji_row, ji_putr, jne hk1 hk4 (by decide)]) ?_
    refine jx_iconst (v := 1) kd1039.2.2.2.2.2.2.1 (by decide) ?_
    refine jx_iadd kd1039.2.2.2.2.2.2.2.1 ?_
    refine jx_puti jc_11 (j := 34) (by decide) rfl jwF_X11_332 rfl rfl rfl kd1039.2.2.2.2.2.2.2.2.1 hk1 ?_
    refine jx_aload_n 0 kd1040.1 rfl rfl ?_
    refine jx_geti jc_11 (j := 34) (by decide) rfl jwF_X11_332 kd1040.2.1 hk1 ?_
    refine jx_topi (y := ((ji S a0 34) + 1)) (by simp [ji_put, ji_row, ji_putr]) ?_
    exact jx_iret kd1040.2.2.1 rfl rfl (jle rfl) (jle rfl) ⟨_, rfl, h⟩
  replace h := h.1 c2
  refine jx_ldc jwC_X11_88 kd1038.2.2.2.2.1 ?_
  exact jx_iret kd1038.2.2.2.2.2.1 rfl rfl (jle rfl) (jle rfl) ⟨_, rfl, h⟩
/-- X11_setAside at its loop's head 2 -/
abbrev L_X11_setAside_2 (E : jEnv) (d : Nat) (Q : jM → Prop) (a1 : Nat) (a2 : Nat) (x3 : Int32) (S : jM) : Prop := jX E mX11_setAside (jRm d 0 0) (jZm E (fun r S' => r = none ∧ Q S') 0 0) 2 [(1, .ref a1), (2, .ref a2), (3, .int x3)] [] S 0 0
set_option maxRecDepth 100000 in
set_option maxHeartbeats 4000000 in
theorem T_X11_setAside {E : jEnv} {d : Nat} {Q : jM → Prop} {a0 : Nat} {a1 : Nat} {a2 : Nat} {S : jM} (h : L_X11_setAside_2 E d Q a1 a2 0 S) : jFv E mX11_setAside d 0 0 [.ref a0, .ref a1, .ref a2] S Q := by
  refine jF_of (by decide) (jle rfl) ?_
  refine jx_lv (lv1 := [(0, .ref a0), (1, .ref a1), (2, .ref a2)]) [0, 1, 2] rfl ?_
  refine jx_iconst (v := 0) kd1041.1 (by decide) ?_
  refine jx_istore_n (lv1 := [(3, .int 0), (0, .ref a0), (1, .ref a1), (2, .ref a2)]) kd1041.2.1 rfl (by decide) rfl ?_
  exact jx_lv [2, 3, 0] rfl h
set_option maxRecDepth 100000 in
set_option maxHeartbeats 4000000 in
theorem T_X11_setAside_2 {E : jEnv} {d : Nat} {Q : jM → Prop} {a1 : Nat} {a2 : Nat} {x3 : Int32} {S : jM} (h : (2935 ≤ x3 → Q S) ∧ (¬ 2935 ≤ x3 → jk S a1 = 12 ∧ vp_in x3 (jl S a1) ∧ (jk S a2 = 12 ∧ vp_in x3 (jl S a2) ∧ (L_X11_setAside_2 E d Q a1 a2 (x3 + 1) (jput S a2 (Int32.toNatClampNeg x3) (ji S a1 (Int32.toNatClampNeg x3))))))) : L_X11_setAside_2 E d Q a1 a2 x3 S := by
  show jX E mX11_setAside (jRm d 0 0) (jZm E (fun r S' => r = none ∧ Q S') 0 0) 2 [(1, .ref a1), (2, .ref a2), (3, .int x3)] [] S 0 0
  refine jx_iload_n 2 kd1041.2.2.1 rfl rfl ?_
  refine jx_sipush (v := 2935) kd1041.2.2.2.1 (by decide) ?_
  refine jx_icmp_ge (tgt := 21) kd1041.2.2.2.2.1 (by decide) (fun c1 => ?_) (fun c1 => ?_)
  · replace h := h.1 c1
    exact jx_vret kd1042.2.2.2.2.1 rfl (jle rfl) (jle rfl) ⟨rfl, h⟩
  replace h := h.2 c1
  refine jx_aload_n 1 kd1041.2.2.2.2.2.1 rfl rfl ?_
  refine jx_iload_n 2 kd1041.2.2.2.2.2.2.1 rfl rfl ?_
  refine jx_aload_n 0 kd1041.2.2.2.2.2.2.2.1 rfl rfl ?_
  refine jx_iload_n 2 kd1041.2.2.2.2.2.2.2.2.1 rfl rfl ?_
  obtain ⟨hk2, h⟩ := h
  obtain ⟨hi3, h⟩ := h
  refine jx_iald kd1042.1 hk2 hi3 ?_
  obtain ⟨hk4, h⟩ := h
  obtain ⟨hi5, h⟩ := h
  refine jx_iast kd1042.2.1 hk4 hi5 ?_
  refine jx_iinc 2 (v := (x3 + 1)) (lv1 := [(3, .int (x3 + 1)), (1, .ref a1), (2, .ref a2)]) kd1042.2.2.1 rfl rfl (by decide) rfl ?_
  refine jx_goto (tgt := 2) kd1042.2.2.2.1 (by decide) ?_
  exact jx_lv [1, 2, 0] rfl h
/-- X11_allOf at its loop's head 4 -/
abbrev L_X11_allOf_4 (E : jEnv) (d : Nat) (Q : Int32 → jM → Prop) (a0 : Nat) (x1 : Int32) (x2 : Int32) (x3 : Int32) (S : jM) : Prop := jX E mX11_allOf (jRm (d + 1) 0 0) (jZm E (fun r S' => ∃ v : Int32, r = some (.int v) ∧ Q v S') 0 0) 4 [(0, .ref a0), (1, .int x1), (2, .int x2), (3, .int x3)] [] S 0 0
set_option maxRecDepth 100000 in
set_option maxHeartbeats 4000000 in
theorem T_X11_allOf {E : jEnv} {d : Nat} {Q : Int32 → jM → Prop} {a0 : Nat} {x1 : Int32} {S : jM} (h : L_X11_allOf_4 E d Q a0 x1 0 0 S) : jFi E mX11_allOf (d + 1) 0 0 [.ref a0, .int x1] S Q := by
  refine jF_of (by decide) (jle rfl) ?_
  refine jx_lv (lv1 := [(0, .ref a0), (1, .int x1)]) [0, 1] rfl ?_
  refine jx_iconst (v := 0) kd1043.1 (by decide) ?_
  refine jx_istore_n (lv1 := [(2, .int 0), (0, .ref a0), (1, .int x1)]) kd1043.2.1 rfl (by decide) rfl ?_
  refine jx_iconst (v := 0) kd1043.2.2.1 (by decide) ?_
  refine jx_istore_n (lv1 := [(3, .int 0), (2, .int 0), (0, .ref a0), (1, .int x1)]) kd1043.2.2.2.1 rfl (by decide) rfl ?_
  exact jx_lv [2, 3, 1, 0] rfl h
set_option maxRecDepth 100000 in
set_option maxHeartbeats 4000000 in
theorem T_X11_allOf_4 {E : jEnv} {d : Nat} {Q : Int32 → jM → Prop} {a0 : Nat} {x1 : Int32} {x2 : Int32} {x3 : Int32} {S : jM} (h : jk S a0 = 11 ∧ ∃ b2, jr S a0 0 = some b2 ∧ (jk S b2 = 12 ∧ vp_in 0 (jl S b2) ∧ (((ji S b2 (Int32.toNatClampNeg 0)) ≤ x3 → Q x2 S) ∧ (¬ (ji S b2 (Int32.toNatClampNeg 0)) ≤ x3 → jFi E mX11_of d 0 0 [.ref a0, .int x3, .int x1] S (fun r7 S6 => L_X11_allOf_4 E d Q a0 x1 (x2 + r7) (x3 + 1) S6))))) : L_X11_allOf_4 E d Q a0 x1 x2 x3 S := by
  show jX E mX11_allOf (jRm (d + 1) 0 0) (jZm E (fun r S' => ∃ v : Int32, r = some (.int v) ∧ Q v S') 0 0) 4 [(0, .ref a0), (1, .int x1), (2, .int x2), (3, .int x3)] [] S 0 0
  refine jx_iload_n 3 kd1043.2.2.2.2.1 rfl rfl ?_
  refine jx_aload_n 0 kd1043.2.2.2.2.2.1 rfl rfl ?_
  obtain ⟨hk1, h⟩ := h
  obtain ⟨b2, hb2, h⟩ := h
  refine jx_getr jc_11 (j := 0) (by decide) rfl jwF_X11_7 kd1043.2.2.2.2.2.2.1 hk1 hb2 ?_
  refine jx_iconst (v := 0) kd1043.2.2.2.2.2.2.2.1 (by decide) ?_
  obtain ⟨hk3, h⟩ := h
  obtain ⟨hi4, h⟩ := h
  refine jx_iald kd1043.2.2.2.2.2.2.2.2.1 hk3 hi4 ?_
  refine jx_icmp_ge (tgt := 29) kd1044.1 (by decide) (fun c5 => ?_) (fun c5 => ?_)
  · replace h := h.1 c5
    refine jx_iload_n 2 kd1045.2.1 rfl rfl ?_
    exact jx_iret kd1045.2.2.1 rfl rfl (jle rfl) (jle rfl) ⟨_, rfl, h⟩
  replace h := h.2 c5
  refine jx_iload_n 2 kd1044.2.1 rfl rfl ?_
  refine jx_aload_n 0 kd1044.2.2.1 rfl rfl ?_
  refine jx_iload_n 3 kd1044.2.2.2.1 rfl rfl ?_
  refine jx_iload_n 1 kd1044.2.2.2.2.1 rfl rfl ?_
  refine jx_callVi (M' := mX11_of) (As := [.int x3, .int x1]) jo_X11_of jc_11 rfl jwM_X11_97 jwN_X11_of jwX_X11_of kd1044.2.2.2.2.2.1 (jRok_m _ _ _) rfl (jle rfl) ⟨jle rfl, jle rfl⟩ hk1 h (fun r7 S6 h => ?_)
  refine jx_iadd kd1044.2.2.2.2.2.2.1 ?_
  refine jx_istore_n (lv1 := [(2, .int (x2 + r7)), (0, .ref a0), (1, .int x1), (3, .int x3)]) kd1044.2.2.2.2.2.2.2.1 rfl (by decide) rfl ?_
  refine jx_iinc 3 (v := (x3 + 1)) (lv1 := [(3, .int (x3 + 1)), (2, .int (x2 + r7)), (0, .ref a0), (1, .int x1)]) kd1044.2.2.2.2.2.2.2.2.1 rfl rfl (by decide) rfl ?_
  refine jx_goto (tgt := 4) kd1045.1 (by decide) ?_
  exact jx_lv [2, 3, 1, 0] rfl h
/-- X11_check at its loop's head 64 -/
abbrev L_X11_check_64 (E : jEnv) (d : Nat) (Q : Int32 → jM → Prop) (a0 : Nat) (x1 : Int32) (x2 : Int32) (x3 : Int32) (x4 : Int32) (S : jM) : Prop := jX E mX11_check (jRm (d + 1) 0 0) (jZm E (fun r S' => ∃ v : Int32, r = some (.int v) ∧ Q v S') 0 0) 64 [(0, .ref a0), (1, .int x1), (2, .int x2), (3, .int x3), (4, .int x4)] [] S 0 0
/-- X11_check at its loop's head 125 -/
abbrev L_X11_check_125 (E : jEnv) (d : Nat) (Q : Int32 → jM → Prop) (a0 : Nat) (x2 : Int32) (x3 : Int32) (x4 : Int32) (S : jM) : Prop := jX E mX11_check (jRm (d + 1) 0 0) (jZm E (fun r S' => ∃ v : Int32, r = some (.int v) ∧ Q v S') 0 0) 125 [(0, .ref a0), (2, .int x2), (3, .int x3), (4, .int x4)] [] S 0 0
set_option maxRecDepth 100000 in
set_option maxHeartbeats 4000000 in
theorem T_X11_check {E : jEnv} {d : Nat} {Q : Int32 → jM → Prop} {a0 : Nat} {x1 : Int32} {S : jM} (h : jk S a0 = 11 ∧ ((jisin (Int32.toInt64 x1) 1 30) = 0 → Q (-1000000001) (jput S a0 34 0)) ∧ (¬ (jisin (Int32.toInt64 x1) 1 30) = 0 → ((ji S a0 3) = 0 → Q (-1000000002) (jput S a0 34 0)) ∧ (¬ (ji S a0 3) = 0 → ∃ b7, jr S a0 0 = some b7 ∧ (∃ b8, jr S a0 2 = some b8 ∧ (jFv E mX11_setAside d 0 0 [.ref a0, .ref b7, .ref b8] (jput S a0 34 0) (fun S9 => jk S9 a0 = 11 ∧ ∃ b11, jr S9 a0 1 = some b11 ∧ (∃ b12, jr S9 a0 0 = some b12 ∧ (jFv E mX11_setAside d 0 0 [.ref a0, .ref b11, .ref b12] S9 (fun S13 => L_X11_check_64 E d Q a0 x1 (ji S a0 34) 0 0 S13))))))))) : jFi E mX11_check (d + 1) 0 0 [.ref a0, .int x1] S Q := by
  refine jF_of (by decide) (jle rfl) ?_
  refine jx_lv (lv1 := [(0, .ref a0), (1, .int x1)]) [0, 1] rfl ?_
  refine jx_aload_n 0 kd1046.1 rfl rfl ?_
  obtain ⟨hk1, h⟩ := h
  refine jx_geti jc_11 (j := 34) (by decide) rfl jwF_X11_332 kd1046.2.1 hk1 ?_
  refine jx_istore_n (lv1 := [(2, .int (ji S a0 34)), (0, .ref a0), (1, .int x1)]) kd1046.2.2.1 rfl (by decide) rfl ?_
  refine jx_aload_n 1 kd1046.2.2.2.1 rfl rfl ?_
  refine jx_iconst (v := 0) kd1046.2.2.2.2.1 (by decide) ?_
  refine jx_puti jc_11 (j := 34) (by decide) rfl jwF_X11_332 rfl rfl rfl kd1046.2.2.2.2.2.1 hk1 ?_
  refine jx_iload_n 2 kd1046.2.2.2.2.2.2.1 rfl rfl ?_
  refine jx_i2l kd1046.2.2.2.2.2.2.2.1 ?_
  refine jx_lconst (v := 1) kd1046.2.2.2.2.2.2.2.2.1 (by decide) ?_
  refine jx_ldc2 jwL_X11_335 kd1047.1 ?_
  refine jx_callSi (M' := mX11_isIn) (As := [.long (Int32.toInt64 x1), .long 1, .long 30]) jo_X11_isIn jwM_X11_71 jwS_X11_isIn kd1047.2.1 (jRok_m _ _ _) rfl (jle rfl) ⟨jle rfl, jle rfl⟩ (c_X11_isIn (Q := fun v S' => v = (jisin (Int32.toInt64 x1) 1 30) ∧ (jput S a0 34 0) = S') ⟨rfl, rfl⟩) (fun r2 S3 hq4 => ?_)
  obtain ⟨rfl, rfl⟩ := hq4
  refine jx_if_ne (tgt := 25) kd1047.2.2.1 (by decide) (fun c5 => ?_) (fun c5 => ?_)
  · replace h := h.2 c5
    refine jx_aload_n 1 kd1047.2.2.2.2.2.1 rfl rfl ?_
    refine jx_geti jc_11 (j := 3) (by decide) rfl jwF_X11_337 kd1047.2.2.2.2.2.2.1 hk1 ?_
    refine jx_topi (y := (ji S a0 3)) (by simp [ji_put, ji_row, ji_putr]) ?_
    refine jx_if_ne (tgt := 35) kd1047.2.2.2.2.2.2.2.1 (by decide) (fun c6 => ?_) (fun c6 => ?_)
    · replace h := h.2 c6
      refine jx_aload_n 1 kd1048.2.1 rfl rfl ?_
      refine jx_aload_n 1 kd1048.2.2.1 rfl rfl ?_
      obtain ⟨b7, hb7, h⟩ := h
      refine jx_getr jc_11 (j := 0) (by decide) rfl jwF_X11_7 kd1048.2.2.2.1 hk1 hb7 ?_
      refine jx_aload_n 1 kd1048.2.2.2.2.1 rfl rfl ?_
      obtain ⟨b8, hb8, h⟩ := h
      refine jx_getr jc_11 (j := 2) (by decide) rfl jwF_X11_16 kd1048.2.2.2.2.2.1 hk1 hb8 ?_
      refine jx_callVv (M' := mX11_setAside) (As := [.ref b7, .ref b8]) jo_X11_setAside jc_11 rfl jwM_X11_341 jwN_X11_setAside jwX_X11_setAside kd1048.2.2.2.2.2.2.1 (jRok_m _ _ _) rfl (jle rfl) ⟨jle rfl, jle rfl⟩ hk1 h (fun S9 h => ?_)
      refine jx_aload_n 1 kd1048.2.2.2.2.2.2.2.1 rfl rfl ?_
      refine jx_aload_n 1 kd1048.2.2.2.2.2.2.2.2.1 rfl rfl ?_
      obtain ⟨hk10, h⟩ := h
      obtain ⟨b11, hb11, h⟩ := h
      refine jx_getr jc_11 (j := 1) (by decide) rfl jwF_X11_13 kd1049.1 hk10 hb11 ?_
      refine jx_aload_n 1 kd1049.2.1 rfl rfl ?_
      obtain ⟨b12, hb12, h⟩ := h
      refine jx_getr jc_11 (j := 0) (by decide) rfl jwF_X11_7 kd1049.2.2.1 hk10 hb12 ?_
      refine jx_callVv (M' := mX11_setAside) (As := [.ref b11, .ref b12]) jo_X11_setAside jc_11 rfl jwM_X11_341 jwN_X11_setAside jwX_X11_setAside kd1049.2.2.2.1 (jRok_m _ _ _) rfl (jle rfl) ⟨jle rfl, jle rfl⟩ hk10 h (fun S13 h => ?_)
      refine jx_iconst (v := 0) kd1049.2.2.2.2.1 (by decide) ?_
      refine jx_istore_n (lv1 := [(3, .int 0), (2, .int (ji S a0 34)), (0, .ref a0), (1, .int x1)]) kd1049.2.2.2.2.2.1 rfl (by decide) rfl ?_
      refine jx_iconst (v := 0) kd1049.2.2.2.2.2.2.1 (by decide) ?_
      refine jx_istore (lv1 := [(4, .int 0), (3, .int 0), (2, .int (ji S a0 34)), (0, .ref a0), (1, .int x1)]) kd1049.2.2.2.2.2.2.2.1 (by decide) rfl ?_
      exact jx_lv [3, 4, 2, 1, 0] rfl h
    replace h := h.1 c6
    refine jx_ldc jwC_X11_153 kd1047.2.2.2.2.2.2.2.2.1 ?_
    exact jx_iret kd1048.1 rfl rfl (jle rfl) (jle rfl) ⟨_, rfl, h⟩
  replace h := h.1 c5
  refine jx_ldc jwC_X11_87 kd1047.2.2.2.1 ?_
  exact jx_iret kd1047.2.2.2.2.1 rfl rfl (jle rfl) (jle rfl) ⟨_, rfl, h⟩
set_option maxRecDepth 100000 in
set_option maxHeartbeats 4000000 in
theorem T_X11_check_64 {E : jEnv} {d : Nat} {Q : Int32 → jM → Prop} {a0 : Nat} {x1 : Int32} {x2 : Int32} {x3 : Int32} {x4 : Int32} {S : jM} (h : (x1 ≤ x4 → jk S a0 = 11 ∧ ∃ b16, jr S a0 2 = some b16 ∧ (∃ b17, jr S a0 0 = some b17 ∧ (jFv E mX11_setAside d 0 0 [.ref a0, .ref b16, .ref b17] S (fun S18 => L_X11_check_125 E d Q a0 x2 x3 0 S18)))) ∧ (¬ x1 ≤ x4 → jk S a0 = 11 ∧ jFi E mX11_year d 0 0 [.ref a0] S (fun r21 S20 => jk S20 a0 = 11 ∧ ∃ b23, jr S20 a0 35 = some b23 ∧ (jFi E mX11_allOf d 0 0 [.ref a0, .int 6] S20 (fun r25 S24 => jk S24 b23 = 12 ∧ vp_in x3 (jl S24 b23) ∧ (jk S24 a0 = 11 ∧ ∃ b29, jr S24 a0 35 = some b29 ∧ (jFi E mX11_allOf d 0 0 [.ref a0, .int 5] (jput S24 b23 (Int32.toNatClampNeg x3) r25) (fun r31 S30 => jk S30 b29 = 12 ∧ vp_in (x3 + 1) (jl S30 b29) ∧ (L_X11_check_64 E d Q a0 x1 x2 (x3 + 2) (x4 + 1) (jput S30 b29 (Int32.toNatClampNeg (x3 + 1)) r31)))))))))) : L_X11_check_64 E d Q a0 x1 x2 x3 x4 S := by
  show jX E mX11_check (jRm (d + 1) 0 0) (jZm E (fun r S' => ∃ v : Int32, r = some (.int v) ∧ Q v S') 0 0) 64 [(0, .ref a0), (1, .int x1), (2, .int x2), (3, .int x3), (4, .int x4)] [] S 0 0
  refine jx_iload 4 kd1049.2.2.2.2.2.2.2.2.1 rfl ?_
  refine jx_iload_n 1 kd1050.1 rfl rfl ?_
  refine jx_icmp_ge (tgt := 110) kd1050.2.1 (by decide) (fun c14 => ?_) (fun c14 => ?_)
  · replace h := h.1 c14
    refine jx_aload_n 0 kd1052.2.2.2.2.2.2.1 rfl rfl ?_
    refine jx_aload_n 0 kd1052.2.2.2.2.2.2.2.1 rfl rfl ?_
    obtain ⟨hk15, h⟩ := h
    obtain ⟨b16, hb16, h⟩ := h
    refine jx_getr jc_11 (j := 2) (by decide) rfl jwF_X11_16 kd1052.2.2.2.2.2.2.2.2.1 hk15 hb16 ?_
    refine jx_aload_n 0 kd1053.1 rfl rfl ?_
    obtain ⟨b17, hb17, h⟩ := h
    refine jx_getr jc_11 (j := 0) (by decide) rfl jwF_X11_7 kd1053.2.1 hk15 hb17 ?_
    refine jx_callVv (M' := mX11_setAside) (As := [.ref b16, .ref b17]) jo_X11_setAside jc_11 rfl jwM_X11_341 jwN_X11_setAside jwX_X11_setAside kd1053.2.2.1 (jRok_m _ _ _) rfl (jle rfl) ⟨jle rfl, jle rfl⟩ hk15 h (fun S18 h => ?_)
    refine jx_iconst (v := 0) kd1053.2.2.2.1 (by decide) ?_
    refine jx_istore (lv1 := [(4, .int 0), (0, .ref a0), (1, .int x1), (2, .int x2), (3, .int x3)]) kd1053.2.2.2.2.1 (by decide) rfl ?_
    exact jx_lv [1, 3, 4, 0] rfl h
  replace h := h.2 c14
  refine jx_aload_n 0 kd1050.2.2.1 rfl rfl ?_
  obtain ⟨hk19, h⟩ := h
  refine jx_callVi (M' := mX11_year) (As := []) jo_X11_year jc_11 rfl jwM_X11_208 jwN_X11_year jwX_X11_year kd1050.2.2.2.1 (jRok_m _ _ _) rfl (jle rfl) ⟨jle rfl, jle rfl⟩ hk19 h (fun r21 S20 h => ?_)
  refine jx_istore (lv1 := [(5, .int r21), (0, .ref a0), (1, .int x1), (2, .int x2), (3, .int x3), (4, .int x4)]) kd1050.2.2.2.2.1 (by decide) rfl ?_
  refine jx_aload_n 1 kd1050.2.2.2.2.2.1 rfl rfl ?_
  obtain ⟨hk22, h⟩ := h
  obtain ⟨b23, hb23, h⟩ := h
  refine jx_getr jc_11 (j := 35) (by decide) rfl jwF_X11_67 kd1050.2.2.2.2.2.2.1 hk22 hb23 ?_
  refine jx_iload_n 4 kd1050.2.2.2.2.2.2.2.1 rfl rfl ?_
  refine jx_aload_n 1 kd1050.2.2.2.2.2.2.2.2.1 rfl rfl ?_
  refine jx_bipush (v := 6) kd1051.1 (by decide) ?_
  refine jx_callVi (M' := mX11_allOf) (As := [.int 6]) jo_X11_allOf jc_11 rfl jwM_X11_345 jwN_X11_allOf jwX_X11_allOf kd1051.2.1 (jRok_m _ _ _) rfl (jle rfl) ⟨jle rfl, jle rfl⟩ hk22 h (fun r25 S24 h => ?_)
  obtain ⟨hk26, h⟩ := h
  obtain ⟨hi27, h⟩ := h
  refine jx_iast kd1051.2.2.1 hk26 hi27 ?_
  refine jx_aload_n 1 kd1051.2.2.2.1 rfl rfl ?_
  obtain ⟨hk28, h⟩ := h
  obtain ⟨b29, hb29, h⟩ := h
  refine jx_getr jc_11 (j := 35) (by decide) rfl jwF_X11_67 kd1051.2.2.2.2.1 hk28 hb29 ?_
  refine jx_iload_n 4 kd1051.2.2.2.2.2.1 rfl rfl ?_
  refine jx_iconst (v := 1) kd1051.2.2.2.2.2.2.1 (by decide) ?_
  refine jx_iadd kd1051.2.2.2.2.2.2.2.1 ?_
  refine jx_aload_n 1 kd1051.2.2.2.2.2.2.2.2.1 rfl rfl ?_
  refine jx_iconst (v := 5) kd1052.1 (by decide) ?_
  refine jx_callVi (M' := mX11_allOf) (As := [.int 5]) jo_X11_allOf jc_11 rfl jwM_X11_345 jwN_X11_allOf jwX_X11_allOf kd1052.2.1 (jRok_m _ _ _) rfl (jle rfl) ⟨jle rfl, jle rfl⟩ hk28 h (fun r31 S30 h => ?_)
  obtain ⟨hk32, h⟩ := h
  obtain ⟨hi33, h⟩ := h
  refine jx_iast kd1052.2.2.1 hk32 hi33 ?_
  refine jx_iinc 4 (v := (x3 + 2)) (lv1 := [(3, .int (x3 + 2)), (5, .int r21), (0, .ref a0), (1, .int x1), (2, .int x2), (4, .int x4)]) kd1052.2.2.2.1 rfl rfl (by decide) rfl ?_
  refine jx_iinc 5 (v := (x4 + 1)) (lv1 := [(4, .int (x4 + 1)), (3, .int (x3 + 2)), (5, .int r21), (0, .ref a0), (1, .int x1), (2, .int x2)]) kd1052.2.2.2.2.1 rfl rfl (by decide) rfl ?_
  refine jx_goto (tgt := 64) kd1052.2.2.2.2.2.1 (by decide) ?_
  exact jx_lv [3, 4, 5, 1, 0] rfl h
set_option maxRecDepth 100000 in
set_option maxHeartbeats 4000000 in
theorem T_X11_check_125 {E : jEnv} {d : Nat} {Q : Int32 → jM → Prop} {a0 : Nat} {x2 : Int32} {x3 : Int32} {x4 : Int32} {S : jM} (h : (x2 ≤ x4 → (x4 = x2 → (x4 = x3 → Q 0 S) ∧ (¬ x4 = x3 → Q (1 + x4) S)) ∧ (¬ x4 = x2 → Q (1 + x4) S)) ∧ (¬ x2 ≤ x4 → (x3 ≤ x4 → (x4 = x2 → (x4 = x3 → Q 0 S) ∧ (¬ x4 = x3 → Q (1 + x4) S)) ∧ (¬ x4 = x2 → Q (1 + x4) S)) ∧ (¬ x3 ≤ x4 → jk S a0 = 11 ∧ ∃ b41, jr S a0 33 = some b41 ∧ (jk S b41 = 12 ∧ vp_in x4 (jl S b41) ∧ (∃ b44, jr S a0 35 = some b44 ∧ (jk S b44 = 12 ∧ vp_in x4 (jl S b44) ∧ (((ji S b41 (Int32.toNatClampNeg x4)) = (ji S b44 (Int32.toNatClampNeg x4)) → L_X11_check_125 E d Q a0 x2 x3 (x4 + 1) S) ∧ (¬ (ji S b41 (Int32.toNatClampNeg x4)) = (ji S b44 (Int32.toNatClampNeg x4)) → (x4 = x2 → (x4 = x3 → Q 0 S) ∧ (¬ x4 = x3 → Q (1 + x4) S)) ∧ (¬ x4 = x2 → Q (1 + x4) S))))))))) : L_X11_check_125 E d Q a0 x2 x3 x4 S := by
  show jX E mX11_check (jRm (d + 1) 0 0) (jZm E (fun r S' => ∃ v : Int32, r = some (.int v) ∧ Q v S') 0 0) 125 [(0, .ref a0), (2, .int x2), (3, .int x3), (4, .int x4)] [] S 0 0
  refine jx_iload 3 kd1053.2.2.2.2.2.1 rfl ?_
  refine jx_iload_n 1 kd1053.2.2.2.2.2.2.1 rfl rfl ?_
  refine jx_icmp_ge (tgt := 160) kd1053.2.2.2.2.2.2.2.1 (by decide) (fun c34 => ?_) (fun c34 => ?_)
  · replace h := h.1 c34
    refine jx_iload 3 kd1055.2.2.2.2.1 rfl ?_
    refine jx_iload_n 1 kd1055.2.2.2.2.2.1 rfl rfl ?_
    refine jx_icmp_ne (tgt := 176) kd1055.2.2.2.2.2.2.1 (by decide) (fun c35 => ?_) (fun c35 => ?_)
    · replace h := h.2 c35
      refine jx_iconst (v := 1) kd1056.2.2.2.1 (by decide) ?_
      refine jx_iload 3 kd1056.2.2.2.2.1 rfl ?_
      refine jx_iadd kd1056.2.2.2.2.2.1 ?_
      exact jx_iret kd1056.2.2.2.2.2.2.1 rfl rfl (jle rfl) (jle rfl) ⟨_, rfl, h⟩
    replace h := h.1 c35
    refine jx_iload 3 kd1055.2.2.2.2.2.2.2.1 rfl ?_
    refine jx_iload_n 2 kd1055.2.2.2.2.2.2.2.2.1 rfl rfl ?_
    refine jx_icmp_ne (tgt := 176) kd1056.1 (by decide) (fun c36 => ?_) (fun c36 => ?_)
    · replace h := h.2 c36
      refine jx_iconst (v := 1) kd1056.2.2.2.1 (by decide) ?_
      refine jx_iload 3 kd1056.2.2.2.2.1 rfl ?_
      refine jx_iadd kd1056.2.2.2.2.2.1 ?_
      exact jx_iret kd1056.2.2.2.2.2.2.1 rfl rfl (jle rfl) (jle rfl) ⟨_, rfl, h⟩
    replace h := h.1 c36
    refine jx_iconst (v := 0) kd1056.2.1 (by decide) ?_
    refine jx_goto (tgt := 180) kd1056.2.2.1 (by decide) ?_
    exact jx_iret kd1056.2.2.2.2.2.2.1 rfl rfl (jle rfl) (jle rfl) ⟨_, rfl, h⟩
  replace h := h.2 c34
  refine jx_iload 3 kd1053.2.2.2.2.2.2.2.2.1 rfl ?_
  refine jx_iload_n 2 kd1054.1 rfl rfl ?_
  refine jx_icmp_ge (tgt := 160) kd1054.2.1 (by decide) (fun c37 => ?_) (fun c37 => ?_)
  · replace h := h.1 c37
    refine jx_iload 3 kd1055.2.2.2.2.1 rfl ?_
    refine jx_iload_n 1 kd1055.2.2.2.2.2.1 rfl rfl ?_
    refine jx_icmp_ne (tgt := 176) kd1055.2.2.2.2.2.2.1 (by decide) (fun c38 => ?_) (fun c38 => ?_)
    · replace h := h.2 c38
      refine jx_iconst (v := 1) kd1056.2.2.2.1 (by decide) ?_
      refine jx_iload 3 kd1056.2.2.2.2.1 rfl ?_
      refine jx_iadd kd1056.2.2.2.2.2.1 ?_
      exact jx_iret kd1056.2.2.2.2.2.2.1 rfl rfl (jle rfl) (jle rfl) ⟨_, rfl, h⟩
    replace h := h.1 c38
    refine jx_iload 3 kd1055.2.2.2.2.2.2.2.1 rfl ?_
    refine jx_iload_n 2 kd1055.2.2.2.2.2.2.2.2.1 rfl rfl ?_
    refine jx_icmp_ne (tgt := 176) kd1056.1 (by decide) (fun c39 => ?_) (fun c39 => ?_)
    · replace h := h.2 c39
      refine jx_iconst (v := 1) kd1056.2.2.2.1 (by decide) ?_
      refine jx_iload 3 kd1056.2.2.2.2.1 rfl ?_
      refine jx_iadd kd1056.2.2.2.2.2.1 ?_
      exact jx_iret kd1056.2.2.2.2.2.2.1 rfl rfl (jle rfl) (jle rfl) ⟨_, rfl, h⟩
    replace h := h.1 c39
    refine jx_iconst (v := 0) kd1056.2.1 (by decide) ?_
    refine jx_goto (tgt := 180) kd1056.2.2.1 (by decide) ?_
    exact jx_iret kd1056.2.2.2.2.2.2.1 rfl rfl (jle rfl) (jle rfl) ⟨_, rfl, h⟩
  replace h := h.2 c37
  refine jx_aload_n 0 kd1054.2.2.1 rfl rfl ?_
  obtain ⟨hk40, h⟩ := h
  obtain ⟨b41, hb41, h⟩ := h
  refine jx_getr jc_11 (j := 33) (by decide) rfl jwF_X11_64 kd1054.2.2.2.1 hk40 hb41 ?_
  refine jx_iload 3 kd1054.2.2.2.2.1 rfl ?_
  obtain ⟨hk42, h⟩ := h
  obtain ⟨hi43, h⟩ := h
  refine jx_iald kd1054.2.2.2.2.2.1 hk42 hi43 ?_
  refine jx_aload_n 0 kd1054.2.2.2.2.2.2.1 rfl rfl ?_
  obtain ⟨b44, hb44, h⟩ := h
  refine jx_getr jc_11 (j := 35) (by decide) rfl jwF_X11_67 kd1054.2.2.2.2.2.2.2.1 hk40 hb44 ?_
  refine jx_iload 3 kd1054.2.2.2.2.2.2.2.2.1 rfl ?_
  obtain ⟨hk45, h⟩ := h
  obtain ⟨hi46, h⟩ := h
  refine jx_iald kd1055.1 hk45 hi46 ?_
  refine jx_icmp_ne (tgt := 160) kd1055.2.1 (by decide) (fun c47 => ?_) (fun c47 => ?_)
  · replace h := h.2 c47
    refine jx_iload 3 kd1055.2.2.2.2.1 rfl ?_
    refine jx_iload_n 1 kd1055.2.2.2.2.2.1 rfl rfl ?_
    refine jx_icmp_ne (tgt := 176) kd1055.2.2.2.2.2.2.1 (by decide) (fun c48 => ?_) (fun c48 => ?_)
    · replace h := h.2 c48
      refine jx_iconst (v := 1) kd1056.2.2.2.1 (by decide) ?_
      refine jx_iload 3 kd1056.2.2.2.2.1 rfl ?_
      refine jx_iadd kd1056.2.2.2.2.2.1 ?_
      exact jx_iret kd1056.2.2.2.2.2.2.1 rfl rfl (jle rfl) (jle rfl) ⟨_, rfl, h⟩
    replace h := h.1 c48
    refine jx_iload 3 kd1055.2.2.2.2.2.2.2.1 rfl ?_
    refine jx_iload_n 2 kd1055.2.2.2.2.2.2.2.2.1 rfl rfl ?_
    refine jx_icmp_ne (tgt := 176) kd1056.1 (by decide) (fun c49 => ?_) (fun c49 => ?_)
    · replace h := h.2 c49
      refine jx_iconst (v := 1) kd1056.2.2.2.1 (by decide) ?_
      refine jx_iload 3 kd1056.2.2.2.2.1 rfl ?_
      refine jx_iadd kd1056.2.2.2.2.2.1 ?_
      exact jx_iret kd1056.2.2.2.2.2.2.1 rfl rfl (jle rfl) (jle rfl) ⟨_, rfl, h⟩
    replace h := h.1 c49
    refine jx_iconst (v := 0) kd1056.2.1 (by decide) ?_
    refine jx_goto (tgt := 180) kd1056.2.2.1 (by decide) ?_
    exact jx_iret kd1056.2.2.2.2.2.2.1 rfl rfl (jle rfl) (jle rfl) ⟨_, rfl, h⟩
  replace h := h.1 c47
  refine jx_iinc 3 (v := (x4 + 1)) (lv1 := [(4, .int (x4 + 1)), (0, .ref a0), (2, .int x2), (3, .int x3)]) kd1055.2.2.1 rfl rfl (by decide) rfl ?_
  refine jx_goto (tgt := 125) kd1055.2.2.2.1 (by decide) ?_
  exact jx_lv [1, 2, 3, 0] rfl h
set_option maxRecDepth 100000 in
set_option maxHeartbeats 4000000 in
theorem T_X11_keep {E : jEnv} {d : Nat} {Q : Int32 → jM → Prop} {a0 : Nat} {S : jM} (h : jk S a0 = 11 ∧ ∃ b2, jr S a0 0 = some b2 ∧ (∃ b3, jr S a0 1 = some b3 ∧ (jFv E mX11_setAside d 0 0 [.ref a0, .ref b2, .ref b3] (jput S a0 3 1) (fun S4 => jk S4 a0 = 11 ∧ ∃ b6, jr S4 a0 0 = some b6 ∧ (jk S4 b6 = 12 ∧ vp_in 0 (jl S4 b6) ∧ (Q (ji S4 b6 (Int32.toNatClampNeg 0)) S4)))))) : jFi E mX11_keep (d + 1) 0 0 [.ref a0] S Q := by
  refine jF_of (by decide) (jle rfl) ?_
  refine jx_lv (lv1 := [(0, .ref a0)]) [0] rfl ?_
  refine jx_aload_n 0 kd1057.1 rfl rfl ?_
  refine jx_iconst (v := 1) kd1057.2.1 (by decide) ?_
  obtain ⟨hk1, h⟩ := h
  refine jx_puti jc_11 (j := 3) (by decide) rfl jwF_X11_337 rfl (by decide) (by decide) kd1057.2.2.1 hk1 ?_
  refine jx_aload_n 0 kd1057.2.2.2.1 rfl rfl ?_
  refine jx_aload_n 0 kd1057.2.2.2.2.1 rfl rfl ?_
  obtain ⟨b2, hb2, h⟩ := h
  refine jx_getr jc_11 (j := 0) (by decide) rfl jwF_X11_7 kd1057.2.2.2.2.2.1 hk1 hb2 ?_
  refine jx_aload_n 0 kd1057.2.2.2.2.2.2.1 rfl rfl ?_
  obtain ⟨b3, hb3, h⟩ := h
  refine jx_getr jc_11 (j := 1) (by decide) rfl jwF_X11_13 kd1057.2.2.2.2.2.2.2.1 hk1 hb3 ?_
  refine jx_callVv (M' := mX11_setAside) (As := [.ref b2, .ref b3]) jo_X11_setAside jc_11 rfl jwM_X11_341 jwN_X11_setAside jwX_X11_setAside kd1057.2.2.2.2.2.2.2.2.1 (jRok_m _ _ _) rfl (jle rfl) ⟨jle rfl, jle rfl⟩ hk1 h (fun S4 h => ?_)
  refine jx_aload_n 0 kd1058.1 rfl rfl ?_
  obtain ⟨hk5, h⟩ := h
  obtain ⟨b6, hb6, h⟩ := h
  refine jx_getr jc_11 (j := 0) (by decide) rfl jwF_X11_7 kd1058.2.1 hk5 hb6 ?_
  refine jx_iconst (v := 0) kd1058.2.2.1 (by decide) ?_
  obtain ⟨hk7, h⟩ := h
  obtain ⟨hi8, h⟩ := h
  refine jx_iald kd1058.2.2.2.1 hk7 hi8 ?_
  exact jx_iret kd1058.2.2.2.2.1 rfl rfl (jle rfl) (jle rfl) ⟨_, rfl, h⟩
set_option maxRecDepth 100000 in
set_option maxHeartbeats 4000000 in
theorem T_X11_back {E : jEnv} {d : Nat} {Q : Int32 → jM → Prop} {a0 : Nat} {S : jM} (h : jk S a0 = 11 ∧ ((ji S a0 3) = 0 → Q (-1000000002) S) ∧ (¬ (ji S a0 3) = 0 → ∃ b3, jr S a0 1 = some b3 ∧ (∃ b4, jr S a0 0 = some b4 ∧ (jFv E mX11_setAside d 0 0 [.ref a0, .ref b3, .ref b4] S (fun S5 => jk S5 a0 = 11 ∧ ∃ b7, jr S5 a0 0 = some b7 ∧ (jk S5 b7 = 12 ∧ vp_in 0 (jl S5 b7) ∧ (Q (ji S5 b7 (Int32.toNatClampNeg 0)) S5))))))) : jFi E mX11_back (d + 1) 0 0 [.ref a0] S Q := by
  refine jF_of (by decide) (jle rfl) ?_
  refine jx_lv (lv1 := [(0, .ref a0)]) [0] rfl ?_
  refine jx_aload_n 0 kd1059.1 rfl rfl ?_
  obtain ⟨hk1, h⟩ := h
  refine jx_geti jc_11 (j := 3) (by decide) rfl jwF_X11_337 kd1059.2.1 hk1 ?_
  refine jx_if_ne (tgt := 10) kd1059.2.2.1 (by decide) (fun c2 => ?_) (fun c2 => ?_)
  · replace h := h.2 c2
    refine jx_aload_n 0 kd1059.2.2.2.2.2.1 rfl rfl ?_
    refine jx_aload_n 0 kd1059.2.2.2.2.2.2.1 rfl rfl ?_
    obtain ⟨b3, hb3, h⟩ := h
    refine jx_getr jc_11 (j := 1) (by decide) rfl jwF_X11_13 kd1059.2.2.2.2.2.2.2.1 hk1 hb3 ?_
    refine jx_aload_n 0 kd1059.2.2.2.2.2.2.2.2.1 rfl rfl ?_
    obtain ⟨b4, hb4, h⟩ := h
    refine jx_getr jc_11 (j := 0) (by decide) rfl jwF_X11_7 kd1060.1 hk1 hb4 ?_
    refine jx_callVv (M' := mX11_setAside) (As := [.ref b3, .ref b4]) jo_X11_setAside jc_11 rfl jwM_X11_341 jwN_X11_setAside jwX_X11_setAside kd1060.2.1 (jRok_m _ _ _) rfl (jle rfl) ⟨jle rfl, jle rfl⟩ hk1 h (fun S5 h => ?_)
    refine jx_aload_n 0 kd1060.2.2.1 rfl rfl ?_
    obtain ⟨hk6, h⟩ := h
    obtain ⟨b7, hb7, h⟩ := h
    refine jx_getr jc_11 (j := 0) (by decide) rfl jwF_X11_7 kd1060.2.2.2.1 hk6 hb7 ?_
    refine jx_iconst (v := 0) kd1060.2.2.2.2.1 (by decide) ?_
    obtain ⟨hk8, h⟩ := h
    obtain ⟨hi9, h⟩ := h
    refine jx_iald kd1060.2.2.2.2.2.1 hk8 hi9 ?_
    exact jx_iret kd1060.2.2.2.2.2.2.1 rfl rfl (jle rfl) (jle rfl) ⟨_, rfl, h⟩
  replace h := h.1 c2
  refine jx_ldc jwC_X11_153 kd1059.2.2.2.1 ?_
  exact jx_iret kd1059.2.2.2.2.1 rfl rfl (jle rfl) (jle rfl) ⟨_, rfl, h⟩
set_option maxRecDepth 100000 in
set_option maxHeartbeats 4000000 in
theorem T_X11_count {E : jEnv} {d : Nat} {Q : Int32 → jM → Prop} {a0 : Nat} {x1 : Int32} {S : jM} (h : (x1 = 0 → jk S a0 = 11 ∧ ∃ b3, jr S a0 0 = some b3 ∧ (jk S b3 = 12 ∧ vp_in 0 (jl S b3) ∧ (Q (ji S b3 (Int32.toNatClampNeg 0)) S))) ∧ (x1 = 1 → jk S a0 = 11 ∧ jFi E mX11_allOf d 0 0 [.ref a0, .int 6] S (fun r9 S8 => Q r9 S8)) ∧ (x1 = 2 → jk S a0 = 11 ∧ ∃ b12, jr S a0 0 = some b12 ∧ (jk S b12 = 12 ∧ vp_in 2 (jl S b12) ∧ (Q (ji S b12 (Int32.toNatClampNeg 2)) S))) ∧ (x1 = 3 → jk S a0 = 11 ∧ ∃ b17, jr S a0 0 = some b17 ∧ (jk S b17 = 12 ∧ vp_in 4 (jl S b17) ∧ (Q (jmany (ji S b17 (Int32.toNatClampNeg 4))) S))) ∧ (x1 = 4 → jk S a0 = 11 ∧ ∃ b25, jr S a0 0 = some b25 ∧ (jk S b25 = 12 ∧ vp_in 7 (jl S b25) ∧ (Q (ji S b25 (Int32.toNatClampNeg 7)) S))) ∧ (x1 = 5 → jk S a0 = 11 ∧ jFi E mX11_can d 0 0 [.ref a0] S (fun r31 S30 => (r31 = 0 → Q 0 S30) ∧ (¬ r31 = 0 → Q 1 S30))) ∧ (x1 = 6 → jk S a0 = 11 ∧ ∃ b35, jr S a0 0 = some b35 ∧ (jk S b35 = 12 ∧ vp_in 1 (jl S b35) ∧ (Q (ji S b35 (Int32.toNatClampNeg 1)) S))) ∧ (x1 = 7 → jk S a0 = 11 ∧ Q (ji S a0 34) S) ∧ (x1 = 8 → jk S a0 = 11 ∧ Q (ji S a0 19) S) ∧ (x1 = 9 → jk S a0 = 11 ∧ ∃ b44, jr S a0 0 = some b44 ∧ (jk S b44 = 12 ∧ vp_in 8 (jl S b44) ∧ (Q (ji S b44 (Int32.toNatClampNeg 8)) S))) ∧ (¬ x1 = 0 → ¬ x1 = 1 → ¬ x1 = 2 → ¬ x1 = 3 → ¬ x1 = 4 → ¬ x1 = 5 → ¬ x1 = 6 → ¬ x1 = 7 → ¬ x1 = 8 → ¬ x1 = 9 → Q (-1000000001) S)) : jFi E mX11_count (d + 1) 0 0 [.ref a0, .int x1] S Q := by
  refine jF_of (by decide) (jle rfl) ?_
  refine jx_lv (lv1 := [(0, .ref a0), (1, .int x1)]) [0, 1] rfl ?_
  refine jx_iload_n 1 kd1061.1 rfl rfl ?_
  by_cases c1 : x1 = 0
  · replace h := h.1 c1
    refine jx_tableIn (v := 0) (tgt := 56) (off := 55) kd1061.2.1 c1 (by decide) (by decide) (by decide) (by decide) ?_
    refine jx_aload_n 0 kd1061.2.2.1 rfl rfl ?_
    obtain ⟨hk2, h⟩ := h
    obtain ⟨b3, hb3, h⟩ := h
    refine jx_getr jc_11 (j := 0) (by decide) rfl jwF_X11_7 kd1061.2.2.2.1 hk2 hb3 ?_
    refine jx_iconst (v := 0) kd1061.2.2.2.2.1 (by decide) ?_
    obtain ⟨hk4, h⟩ := h
    obtain ⟨hi5, h⟩ := h
    refine jx_iald kd1061.2.2.2.2.2.1 hk4 hi5 ?_
    exact jx_iret kd1061.2.2.2.2.2.2.1 rfl rfl (jle rfl) (jle rfl) ⟨_, rfl, h⟩
  replace h := h.2
  by_cases c6 : x1 = 1
  · replace h := h.1 c6
    refine jx_tableIn (v := 1) (tgt := 63) (off := 62) kd1061.2.1 c6 (by decide) (by decide) (by decide) (by decide) ?_
    refine jx_aload_n 0 kd1061.2.2.2.2.2.2.2.1 rfl rfl ?_
    refine jx_bipush (v := 6) kd1061.2.2.2.2.2.2.2.2.1 (by decide) ?_
    obtain ⟨hk7, h⟩ := h
    refine jx_callVi (M' := mX11_allOf) (As := [.int 6]) jo_X11_allOf jc_11 rfl jwM_X11_345 jwN_X11_allOf jwX_X11_allOf kd1062.1 (jRok_m _ _ _) rfl (jle rfl) ⟨jle rfl, jle rfl⟩ hk7 h (fun r9 S8 h => ?_)
    exact jx_iret kd1062.2.1 rfl rfl (jle rfl) (jle rfl) ⟨_, rfl, h⟩
  replace h := h.2
  by_cases c10 : x1 = 2
  · replace h := h.1 c10
    refine jx_tableIn (v := 2) (tgt := 70) (off := 69) kd1061.2.1 c10 (by decide) (by decide) (by decide) (by decide) ?_
    refine jx_aload_n 0 kd1062.2.2.1 rfl rfl ?_
    obtain ⟨hk11, h⟩ := h
    obtain ⟨b12, hb12, h⟩ := h
    refine jx_getr jc_11 (j := 0) (by decide) rfl jwF_X11_7 kd1062.2.2.2.1 hk11 hb12 ?_
    refine jx_iconst (v := 2) kd1062.2.2.2.2.1 (by decide) ?_
    obtain ⟨hk13, h⟩ := h
    obtain ⟨hi14, h⟩ := h
    refine jx_iald kd1062.2.2.2.2.2.1 hk13 hi14 ?_
    exact jx_iret kd1062.2.2.2.2.2.2.1 rfl rfl (jle rfl) (jle rfl) ⟨_, rfl, h⟩
  replace h := h.2
  by_cases c15 : x1 = 3
  · replace h := h.1 c15
    refine jx_tableIn (v := 3) (tgt := 77) (off := 76) kd1061.2.1 c15 (by decide) (by decide) (by decide) (by decide) ?_
    refine jx_aload_n 0 kd1062.2.2.2.2.2.2.2.1 rfl rfl ?_
    obtain ⟨hk16, h⟩ := h
    obtain ⟨b17, hb17, h⟩ := h
    refine jx_getr jc_11 (j := 0) (by decide) rfl jwF_X11_7 kd1062.2.2.2.2.2.2.2.2.1 hk16 hb17 ?_
    refine jx_iconst (v := 4) kd1063.1 (by decide) ?_
    obtain ⟨hk18, h⟩ := h
    obtain ⟨hi19, h⟩ := h
    refine jx_iald kd1063.2.1 hk18 hi19 ?_
    refine jx_callSi (M' := mX11_manyIn) (As := [.int (ji S b17 (Int32.toNatClampNeg 4))]) jo_X11_manyIn jwM_X11_108 jwS_X11_manyIn kd1063.2.2.1 (jRok_m _ _ _) rfl (jle rfl) ⟨jle rfl, jle rfl⟩ (c_X11_manyIn (Q := fun v S' => v = (jmany (ji S b17 (Int32.toNatClampNeg 4))) ∧ S = S') ⟨rfl, rfl⟩) (fun r20 S21 hq22 => ?_)
    obtain ⟨rfl, rfl⟩ := hq22
    exact jx_iret kd1063.2.2.2.1 rfl rfl (jle rfl) (jle rfl) ⟨_, rfl, h⟩
  replace h := h.2
  by_cases c23 : x1 = 4
  · replace h := h.1 c23
    refine jx_tableIn (v := 4) (tgt := 87) (off := 86) kd1061.2.1 c23 (by decide) (by decide) (by decide) (by decide) ?_
    refine jx_aload_n 0 kd1063.2.2.2.2.1 rfl rfl ?_
    obtain ⟨hk24, h⟩ := h
    obtain ⟨b25, hb25, h⟩ := h
    refine jx_getr jc_11 (j := 0) (by decide) rfl jwF_X11_7 kd1063.2.2.2.2.2.1 hk24 hb25 ?_
    refine jx_bipush (v := 7) kd1063.2.2.2.2.2.2.1 (by decide) ?_
    obtain ⟨hk26, h⟩ := h
    obtain ⟨hi27, h⟩ := h
    refine jx_iald kd1063.2.2.2.2.2.2.2.1 hk26 hi27 ?_
    exact jx_iret kd1063.2.2.2.2.2.2.2.2.1 rfl rfl (jle rfl) (jle rfl) ⟨_, rfl, h⟩
  replace h := h.2
  by_cases c28 : x1 = 5
  · replace h := h.1 c28
    refine jx_tableIn (v := 5) (tgt := 95) (off := 94) kd1061.2.1 c28 (by decide) (by decide) (by decide) (by decide) ?_
    refine jx_aload_n 0 kd1064.1 rfl rfl ?_
    obtain ⟨hk29, h⟩ := h
    refine jx_callVi (M' := mX11_can) (As := []) jo_X11_can jc_11 rfl jwM_X11_172 jwN_X11_can jwX_X11_can kd1064.2.1 (jRok_m _ _ _) rfl (jle rfl) ⟨jle rfl, jle rfl⟩ hk29 h (fun r31 S30 h => ?_)
    refine jx_if_eq (tgt := 106) kd1064.2.2.1 (by decide) (fun c32 => ?_) (fun c32 => ?_)
    · replace h := h.1 c32
      refine jx_iconst (v := 0) kd1064.2.2.2.2.2.1 (by decide) ?_
      exact jx_iret kd1064.2.2.2.2.2.2.1 rfl rfl (jle rfl) (jle rfl) ⟨_, rfl, h⟩
    replace h := h.2 c32
    refine jx_iconst (v := 1) kd1064.2.2.2.1 (by decide) ?_
    refine jx_goto (tgt := 107) kd1064.2.2.2.2.1 (by decide) ?_
    exact jx_iret kd1064.2.2.2.2.2.2.1 rfl rfl (jle rfl) (jle rfl) ⟨_, rfl, h⟩
  replace h := h.2
  by_cases c33 : x1 = 6
  · replace h := h.1 c33
    refine jx_tableIn (v := 6) (tgt := 108) (off := 107) kd1061.2.1 c33 (by decide) (by decide) (by decide) (by decide) ?_
    refine jx_aload_n 0 kd1064.2.2.2.2.2.2.2.1 rfl rfl ?_
    obtain ⟨hk34, h⟩ := h
    obtain ⟨b35, hb35, h⟩ := h
    refine jx_getr jc_11 (j := 0) (by decide) rfl jwF_X11_7 kd1064.2.2.2.2.2.2.2.2.1 hk34 hb35 ?_
    refine jx_iconst (v := 1) kd1065.1 (by decide) ?_
    obtain ⟨hk36, h⟩ := h
    obtain ⟨hi37, h⟩ := h
    refine jx_iald kd1065.2.1 hk36 hi37 ?_
    exact jx_iret kd1065.2.2.1 rfl rfl (jle rfl) (jle rfl) ⟨_, rfl, h⟩
  replace h := h.2
  by_cases c38 : x1 = 7
  · replace h := h.1 c38
    refine jx_tableIn (v := 7) (tgt := 115) (off := 114) kd1061.2.1 c38 (by decide) (by decide) (by decide) (by decide) ?_
    refine jx_aload_n 0 kd1065.2.2.2.1 rfl rfl ?_
    obtain ⟨hk39, h⟩ := h
    refine jx_geti jc_11 (j := 34) (by decide) rfl jwF_X11_332 kd1065.2.2.2.2.1 hk39 ?_
    exact jx_iret kd1065.2.2.2.2.2.1 rfl rfl (jle rfl) (jle rfl) ⟨_, rfl, h⟩
  replace h := h.2
  by_cases c40 : x1 = 8
  · replace h := h.1 c40
    refine jx_tableIn (v := 8) (tgt := 120) (off := 119) kd1061.2.1 c40 (by decide) (by decide) (by decide) (by decide) ?_
    refine jx_aload_n 0 kd1065.2.2.2.2.2.2.1 rfl rfl ?_
    obtain ⟨hk41, h⟩ := h
    refine jx_geti jc_11 (j := 19) (by decide) rfl jwF_X11_214 kd1065.2.2.2.2.2.2.2.1 hk41 ?_
    exact jx_iret kd1065.2.2.2.2.2.2.2.2.1 rfl rfl (jle rfl) (jle rfl) ⟨_, rfl, h⟩
  replace h := h.2
  by_cases c42 : x1 = 9
  · replace h := h.1 c42
    refine jx_tableIn (v := 9) (tgt := 125) (off := 124) kd1061.2.1 c42 (by decide) (by decide) (by decide) (by decide) ?_
    refine jx_aload_n 0 kd1066.1 rfl rfl ?_
    obtain ⟨hk43, h⟩ := h
    obtain ⟨b44, hb44, h⟩ := h
    refine jx_getr jc_11 (j := 0) (by decide) rfl jwF_X11_7 kd1066.2.1 hk43 hb44 ?_
    refine jx_bipush (v := 8) kd1066.2.2.1 (by decide) ?_
    obtain ⟨hk45, h⟩ := h
    obtain ⟨hi46, h⟩ := h
    refine jx_iald kd1066.2.2.2.1 hk45 hi46 ?_
    exact jx_iret kd1066.2.2.2.2.1 rfl rfl (jle rfl) (jle rfl) ⟨_, rfl, h⟩
  replace h := h.2
  replace h := h c1 c6 c10 c15 c23 c28 c33 c38 c40 c42
  refine jx_tableD (tgt := 133) ([0, 1, 2, 3, 4, 5, 6, 7, 8, 9] : List Int) kd1061.2.1 (by simp only [List.mem_cons, List.not_mem_nil, or_false, forall_eq_or_imp, forall_eq]; exact ⟨lv_neT c1 (by decide), lv_neT c6 (by decide), lv_neT c10 (by decide), lv_neT c15 (by decide), lv_neT c23 (by decide), lv_neT c28 (by decide), lv_neT c33 (by decide), lv_neT c38 (by decide), lv_neT c40 (by decide), lv_neT c42 (by decide)⟩) (by decide) (by decide) (by decide) ?_
  refine jx_ldc jwC_X11_87 kd1066.2.2.2.2.2.1 ?_
  exact jx_iret kd1066.2.2.2.2.2.2.1 rfl rfl (jle rfl) (jle rfl) ⟨_, rfl, h⟩
end
