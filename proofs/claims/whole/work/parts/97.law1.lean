/-! THE LAW'S CASES -/
theorem vP_type : zCv m_P_type "SpooledPost" 1 := ⟨by decide +kernel, by decide +kernel, by decide +kernel, by decide +kernel, by decide +kernel, by decide⟩
theorem vM_type : zCv m_M_type "SpooledPostModel" 1 := ⟨by decide +kernel, by decide +kernel, by decide +kernel, by decide +kernel, by decide +kernel, by decide⟩
theorem lo_type {p : Program} {l : Launch} {e : Env} {s : State} {m : MethodId} {below : List Frame} {meth : Method} {c : Code} {b L : Nat} {xs : Nat → Int32} {G : ZG} {i : Nat} {h : ZH} {S : ZS} (X : lCx p s m meth c b L xs G) (hi : i + 3 < L) (a : Inv h S) (hb : bnd S) (K : ∀ h' S', Inv h' S' → stp S S' → LAt p l e s m below meth c b G i 530 [] h') : LAt p l e s m below meth c b G i 112 [] h := by
  obtain ⟨up, now, given, wr, line, gr, bg, tk, snd, rcs, tx, L0⟩ := S
  refine la_aload (k := 1) X 1 (by decide +kernel) rfl rfl ?_
  refine la_arg (j := 1) (jn := 1) X (by decide +kernel) (by decide +kernel) (by decide +kernel) (by decide +kernel) (by decide +kernel) rfl (by omega) ?_
  refine la_i2l X (by decide +kernel) ?_
  refine la_bipush (n := 32) (v := 32) X (by decide +kernel) rfl ?_
  refine la_lshl X (by decide +kernel) ?_
  refine la_arg (j := 2) (jn := 2) X (by decide +kernel) (by decide +kernel) (by decide +kernel) (by decide +kernel) (by decide +kernel) rfl (by omega) ?_
  refine la_i2l X (by decide +kernel) ?_
  refine la_ldc2 (idx := 13) (v := 4294967295) X (by decide +kernel) (by decide +kernel) ?_
  refine la_land X (by decide +kernel) ?_
  refine la_lor X (by decide +kernel) ?_
  refine la_call (N := m_P_type) (as := [vL _]) (idx := 15) 0 0 X (by decide) rfl rfl vP_type (by decide +kernel) rfl rfl (Nat.le_of_ble_eq_true rfl) (by decide +kernel) (by omega) (tie_type a hb) ?_
  rintro _ h1 ⟨y1, rfl, hq⟩
  refine la_aload (k := 2) X 2 (by decide +kernel) rfl rfl ?_
  refine la_arg (j := 1) (jn := 1) X (by decide +kernel) (by decide +kernel) (by decide +kernel) (by decide +kernel) (by decide +kernel) rfl (by omega) ?_
  refine la_i2l X (by decide +kernel) ?_
  refine la_bipush (n := 32) (v := 32) X (by decide +kernel) rfl ?_
  refine la_lshl X (by decide +kernel) ?_
  refine la_arg (j := 2) (jn := 2) X (by decide +kernel) (by decide +kernel) (by decide +kernel) (by decide +kernel) (by decide +kernel) rfl (by omega) ?_
  refine la_i2l X (by decide +kernel) ?_
  refine la_ldc2 (idx := 13) (v := 4294967295) X (by decide +kernel) (by decide +kernel) ?_
  refine la_land X (by decide +kernel) ?_
  refine la_lor X (by decide +kernel) ?_
  refine la_call (N := m_M_type) (as := [vL _]) (idx := 19) (st := [.int y1]) 12 0 X (by decide) rfl rfl vM_type (by decide +kernel) rfl rfl (Nat.le_of_ble_eq_true rfl) (by decide +kernel) (by omega) hq ?_
  rintro _ h2 ⟨y2, rfl, ey, S', iv, t⟩
  exact la_eq (off := 370) 530 X (by decide +kernel) rfl ey (K h2 S' iv t)
theorem vP_enter : zCv m_P_enter "SpooledPost" 0 := ⟨by decide +kernel, by decide +kernel, by decide +kernel, by decide +kernel, by decide +kernel, by decide⟩
theorem vM_enter : zCv m_M_enter "SpooledPostModel" 0 := ⟨by decide +kernel, by decide +kernel, by decide +kernel, by decide +kernel, by decide +kernel, by decide⟩
theorem lo_enter {p : Program} {l : Launch} {e : Env} {s : State} {m : MethodId} {below : List Frame} {meth : Method} {c : Code} {b L : Nat} {xs : Nat → Int32} {G : ZG} {i : Nat} {h : ZH} {S : ZS} (X : lCx p s m meth c b L xs G) (hi : i + 3 < L) (a : Inv h S) (hb : bnd S) (K : ∀ h' S', Inv h' S' → stp S S' → LAt p l e s m below meth c b G i 530 [] h') : LAt p l e s m below meth c b G i 165 [] h := by
  obtain ⟨up, now, given, wr, line, gr, bg, tk, snd, rcs, tx, L0⟩ := S
  refine la_aload (k := 1) X 1 (by decide +kernel) rfl rfl ?_
  refine la_call (N := m_P_enter) (as := []) (idx := 20) 0 0 X (by decide) rfl rfl vP_enter (by decide +kernel) rfl rfl (Nat.le_of_ble_eq_true rfl) (by decide +kernel) (by omega) (tie_enter a hb) ?_
  rintro _ h1 ⟨y1, rfl, hq⟩
  refine la_aload (k := 2) X 2 (by decide +kernel) rfl rfl ?_
  refine la_call (N := m_M_enter) (as := []) (idx := 24) (st := [.int y1]) 12 0 X (by decide) rfl rfl vM_enter (by decide +kernel) rfl rfl (Nat.le_of_ble_eq_true rfl) (by decide +kernel) (by omega) hq ?_
  rintro _ h2 ⟨y2, rfl, ey, S', iv, t⟩
  exact la_eq (off := 357) 530 X (by decide +kernel) rfl ey (K h2 S' iv t)
theorem vP_breakAfter : zCv m_P_breakAfter "SpooledPost" 1 := ⟨by decide +kernel, by decide +kernel, by decide +kernel, by decide +kernel, by decide +kernel, by decide⟩
theorem vM_breakAfter : zCv m_M_breakAfter "SpooledPostModel" 1 := ⟨by decide +kernel, by decide +kernel, by decide +kernel, by decide +kernel, by decide +kernel, by decide⟩
theorem lo_breakAfter {p : Program} {l : Launch} {e : Env} {s : State} {m : MethodId} {below : List Frame} {meth : Method} {c : Code} {b L : Nat} {xs : Nat → Int32} {G : ZG} {i : Nat} {h : ZH} {S : ZS} (X : lCx p s m meth c b L xs G) (hi : i + 3 < L) (a : Inv h S) (hb : bnd S) (K : ∀ h' S', Inv h' S' → stp S S' → LAt p l e s m below meth c b G i 530 [] h') : LAt p l e s m below meth c b G i 178 [] h := by
  obtain ⟨up, now, given, wr, line, gr, bg, tk, snd, rcs, tx, L0⟩ := S
  refine la_aload (k := 1) X 1 (by decide +kernel) rfl rfl ?_
  refine la_arg (j := 1) (jn := 1) X (by decide +kernel) (by decide +kernel) (by decide +kernel) (by decide +kernel) (by decide +kernel) rfl (by omega) ?_
  refine la_call (N := m_P_breakAfter) (as := [vI (xs (i + 1))]) (idx := 25) 0 0 X (by decide) rfl rfl vP_breakAfter (by decide +kernel) rfl rfl (Nat.le_of_ble_eq_true rfl) (by decide +kernel) (by omega) (tie_breakAfter a hb) ?_
  rintro _ h1 ⟨y1, rfl, hq⟩
  refine la_aload (k := 2) X 2 (by decide +kernel) rfl rfl ?_
  refine la_arg (j := 1) (jn := 1) X (by decide +kernel) (by decide +kernel) (by decide +kernel) (by decide +kernel) (by decide +kernel) rfl (by omega) ?_
  refine la_call (N := m_M_breakAfter) (as := [vI (xs (i + 1))]) (idx := 29) (st := [.int y1]) 12 0 X (by decide) rfl rfl vM_breakAfter (by decide +kernel) rfl rfl (Nat.le_of_ble_eq_true rfl) (by decide +kernel) (by omega) hq ?_
  rintro _ h2 ⟨y2, rfl, ey, S', iv, t⟩
  exact la_eq (off := 334) 530 X (by decide +kernel) rfl ey (K h2 S' iv t)
theorem vP_restart : zCv m_P_restart "SpooledPost" 0 := ⟨by decide +kernel, by decide +kernel, by decide +kernel, by decide +kernel, by decide +kernel, by decide⟩
theorem vM_restart : zCv m_M_restart "SpooledPostModel" 0 := ⟨by decide +kernel, by decide +kernel, by decide +kernel, by decide +kernel, by decide +kernel, by decide⟩
theorem lo_restart {p : Program} {l : Launch} {e : Env} {s : State} {m : MethodId} {below : List Frame} {meth : Method} {c : Code} {b L : Nat} {xs : Nat → Int32} {G : ZG} {i : Nat} {h : ZH} {S : ZS} (X : lCx p s m meth c b L xs G) (hi : i + 3 < L) (a : Inv h S) (hb : bnd S) (K : ∀ h' S', Inv h' S' → stp S S' → LAt p l e s m below meth c b G i 530 [] h') : LAt p l e s m below meth c b G i 201 [] h := by
  obtain ⟨up, now, given, wr, line, gr, bg, tk, snd, rcs, tx, L0⟩ := S
  refine la_aload (k := 1) X 1 (by decide +kernel) rfl rfl ?_
  refine la_call (N := m_P_restart) (as := []) (idx := 30) 0 0 X (by decide) rfl rfl vP_restart (by decide +kernel) rfl rfl (Nat.le_of_ble_eq_true rfl) (by decide +kernel) (by omega) (tie_restart a hb) ?_
  rintro _ h1 ⟨y1, rfl, hq⟩
  refine la_aload (k := 2) X 2 (by decide +kernel) rfl rfl ?_
  refine la_call (N := m_M_restart) (as := []) (idx := 33) (st := [.int y1]) 12 0 X (by decide) rfl rfl vM_restart (by decide +kernel) rfl rfl (Nat.le_of_ble_eq_true rfl) (by decide +kernel) (by omega) hq ?_
  rintro _ h2 ⟨y2, rfl, ey, S', iv, t⟩
  exact la_eq (off := 321) 530 X (by decide +kernel) rfl ey (K h2 S' iv t)
theorem vP_pass : zCv m_P_pass "SpooledPost" 1 := ⟨by decide +kernel, by decide +kernel, by decide +kernel, by decide +kernel, by decide +kernel, by decide⟩
theorem vM_pass : zCv m_M_pass "SpooledPostModel" 1 := ⟨by decide +kernel, by decide +kernel, by decide +kernel, by decide +kernel, by decide +kernel, by decide⟩
theorem lo_pass {p : Program} {l : Launch} {e : Env} {s : State} {m : MethodId} {below : List Frame} {meth : Method} {c : Code} {b L : Nat} {xs : Nat → Int32} {G : ZG} {i : Nat} {h : ZH} {S : ZS} (X : lCx p s m meth c b L xs G) (hi : i + 3 < L) (a : Inv h S) (hb : bnd S) (K : ∀ h' S', Inv h' S' → stp S S' → LAt p l e s m below meth c b G i 530 [] h') : LAt p l e s m below meth c b G i 214 [] h := by
  obtain ⟨up, now, given, wr, line, gr, bg, tk, snd, rcs, tx, L0⟩ := S
  refine la_aload (k := 1) X 1 (by decide +kernel) rfl rfl ?_
  refine la_arg (j := 1) (jn := 1) X (by decide +kernel) (by decide +kernel) (by decide +kernel) (by decide +kernel) (by decide +kernel) rfl (by omega) ?_
  refine la_call (N := m_P_pass) (as := [vI (xs (i + 1))]) (idx := 34) 0 0 X (by decide) rfl rfl vP_pass (by decide +kernel) rfl rfl (Nat.le_of_ble_eq_true rfl) (by decide +kernel) (by omega) (tie_pass a hb) ?_
  rintro _ h1 ⟨y1, rfl, hq⟩
  refine la_aload (k := 2) X 2 (by decide +kernel) rfl rfl ?_
  refine la_arg (j := 1) (jn := 1) X (by decide +kernel) (by decide +kernel) (by decide +kernel) (by decide +kernel) (by decide +kernel) rfl (by omega) ?_
  refine la_call (N := m_M_pass) (as := [vI (xs (i + 1))]) (idx := 38) (st := [.int y1]) 12 0 X (by decide) rfl rfl vM_pass (by decide +kernel) rfl rfl (Nat.le_of_ble_eq_true rfl) (by decide +kernel) (by omega) hq ?_
  rintro _ h2 ⟨y2, rfl, ey, S', iv, t⟩
  exact la_eq (off := 298) 530 X (by decide +kernel) rfl ey (K h2 S' iv t)
theorem vP_next : zCv m_P_next "SpooledPost" 0 := ⟨by decide +kernel, by decide +kernel, by decide +kernel, by decide +kernel, by decide +kernel, by decide⟩
theorem vM_next : zCv m_M_next "SpooledPostModel" 0 := ⟨by decide +kernel, by decide +kernel, by decide +kernel, by decide +kernel, by decide +kernel, by decide⟩
theorem lo_next {p : Program} {l : Launch} {e : Env} {s : State} {m : MethodId} {below : List Frame} {meth : Method} {c : Code} {b L : Nat} {xs : Nat → Int32} {G : ZG} {i : Nat} {h : ZH} {S : ZS} (X : lCx p s m meth c b L xs G) (hi : i + 3 < L) (a : Inv h S) (hb : bnd S) (K : ∀ h' S', Inv h' S' → stp S S' → LAt p l e s m below meth c b G i 530 [] h') : LAt p l e s m below meth c b G i 237 [] h := by
  obtain ⟨up, now, given, wr, line, gr, bg, tk, snd, rcs, tx, L0⟩ := S
  refine la_aload (k := 1) X 1 (by decide +kernel) rfl rfl ?_
  refine la_call (N := m_P_next) (as := []) (idx := 39) 0 0 X (by decide) rfl rfl vP_next (by decide +kernel) rfl rfl (Nat.le_of_ble_eq_true rfl) (by decide +kernel) (by omega) (tie_next a hb) ?_
  rintro _ h1 ⟨y1, rfl, hq⟩
  refine la_aload (k := 2) X 2 (by decide +kernel) rfl rfl ?_
  refine la_call (N := m_M_next) (as := []) (idx := 42) (st := [.int y1]) 12 0 X (by decide) rfl rfl vM_next (by decide +kernel) rfl rfl (Nat.le_of_ble_eq_true rfl) (by decide +kernel) (by omega) hq ?_
  rintro _ h2 ⟨y2, rfl, ey, S', iv, t⟩
  exact la_eq (off := 285) 530 X (by decide +kernel) rfl ey (K h2 S' iv t)
theorem vP_reply : zCv m_P_reply "SpooledPost" 1 := ⟨by decide +kernel, by decide +kernel, by decide +kernel, by decide +kernel, by decide +kernel, by decide⟩
theorem vM_reply : zCv m_M_reply "SpooledPostModel" 1 := ⟨by decide +kernel, by decide +kernel, by decide +kernel, by decide +kernel, by decide +kernel, by decide⟩
theorem lo_reply {p : Program} {l : Launch} {e : Env} {s : State} {m : MethodId} {below : List Frame} {meth : Method} {c : Code} {b L : Nat} {xs : Nat → Int32} {G : ZG} {i : Nat} {h : ZH} {S : ZS} (X : lCx p s m meth c b L xs G) (hi : i + 3 < L) (a : Inv h S) (hb : bnd S) (K : ∀ h' S', Inv h' S' → stp S S' → LAt p l e s m below meth c b G i 530 [] h') : LAt p l e s m below meth c b G i 250 [] h := by
  obtain ⟨up, now, given, wr, line, gr, bg, tk, snd, rcs, tx, L0⟩ := S
  refine la_aload (k := 1) X 1 (by decide +kernel) rfl rfl ?_
  refine la_arg (j := 1) (jn := 1) X (by decide +kernel) (by decide +kernel) (by decide +kernel) (by decide +kernel) (by decide +kernel) rfl (by omega) ?_
  refine la_call (N := m_P_reply) (as := [vI (xs (i + 1))]) (idx := 43) 0 0 X (by decide) rfl rfl vP_reply (by decide +kernel) rfl rfl (Nat.le_of_ble_eq_true rfl) (by decide +kernel) (by omega) (tie_reply a hb) ?_
  rintro _ h1 ⟨y1, rfl, hq⟩
  refine la_aload (k := 2) X 2 (by decide +kernel) rfl rfl ?_
  refine la_arg (j := 1) (jn := 1) X (by decide +kernel) (by decide +kernel) (by decide +kernel) (by decide +kernel) (by decide +kernel) rfl (by omega) ?_
  refine la_call (N := m_M_reply) (as := [vI (xs (i + 1))]) (idx := 46) (st := [.int y1]) 12 0 X (by decide) rfl rfl vM_reply (by decide +kernel) rfl rfl (Nat.le_of_ble_eq_true rfl) (by decide +kernel) (by omega) hq ?_
  rintro _ h2 ⟨y2, rfl, ey, S', iv, t⟩
  exact la_eq (off := 262) 530 X (by decide +kernel) rfl ey (K h2 S' iv t)
theorem vP_state : zCv m_P_state "SpooledPost" 0 := ⟨by decide +kernel, by decide +kernel, by decide +kernel, by decide +kernel, by decide +kernel, by decide⟩
theorem vM_state : zCv m_M_state "SpooledPostModel" 0 := ⟨by decide +kernel, by decide +kernel, by decide +kernel, by decide +kernel, by decide +kernel, by decide⟩
theorem lo_state {p : Program} {l : Launch} {e : Env} {s : State} {m : MethodId} {below : List Frame} {meth : Method} {c : Code} {b L : Nat} {xs : Nat → Int32} {G : ZG} {i : Nat} {h : ZH} {S : ZS} (X : lCx p s m meth c b L xs G) (hi : i + 3 < L) (a : Inv h S) (hb : bnd S) (K : ∀ h' S', Inv h' S' → stp S S' → LAt p l e s m below meth c b G i 530 [] h') : LAt p l e s m below meth c b G i 273 [] h := by
  obtain ⟨up, now, given, wr, line, gr, bg, tk, snd, rcs, tx, L0⟩ := S
  refine la_aload (k := 1) X 1 (by decide +kernel) rfl rfl ?_
  refine la_call (N := m_P_state) (as := []) (idx := 47) 0 0 X (by decide) rfl rfl vP_state (by decide +kernel) rfl rfl (Nat.le_of_ble_eq_true rfl) (by decide +kernel) (by omega) (tie_state a hb) ?_
  rintro _ h1 ⟨y1, rfl, hq⟩
  refine la_aload (k := 2) X 2 (by decide +kernel) rfl rfl ?_
  refine la_call (N := m_M_state) (as := []) (idx := 50) (st := [.int y1]) 12 0 X (by decide) rfl rfl vM_state (by decide +kernel) rfl rfl (Nat.le_of_ble_eq_true rfl) (by decide +kernel) (by omega) hq ?_
  rintro _ h2 ⟨y2, rfl, ey, S', iv, t⟩
  exact la_eq (off := 249) 530 X (by decide +kernel) rfl ey (K h2 S' iv t)
theorem vP_letters : zCv m_P_letters "SpooledPost" 0 := ⟨by decide +kernel, by decide +kernel, by decide +kernel, by decide +kernel, by decide +kernel, by decide⟩
theorem vM_letters : zCv m_M_letters "SpooledPostModel" 0 := ⟨by decide +kernel, by decide +kernel, by decide +kernel, by decide +kernel, by decide +kernel, by decide⟩
theorem lo_letters {p : Program} {l : Launch} {e : Env} {s : State} {m : MethodId} {below : List Frame} {meth : Method} {c : Code} {b L : Nat} {xs : Nat → Int32} {G : ZG} {i : Nat} {h : ZH} {S : ZS} (X : lCx p s m meth c b L xs G) (hi : i + 3 < L) (a : Inv h S) (hb : bnd S) (K : ∀ h' S', Inv h' S' → stp S S' → LAt p l e s m below meth c b G i 530 [] h') : LAt p l e s m below meth c b G i 286 [] h := by
  obtain ⟨up, now, given, wr, line, gr, bg, tk, snd, rcs, tx, L0⟩ := S
  refine la_aload (k := 1) X 1 (by decide +kernel) rfl rfl ?_
  refine la_call (N := m_P_letters) (as := []) (idx := 51) 0 0 X (by decide) rfl rfl vP_letters (by decide +kernel) rfl rfl (Nat.le_of_ble_eq_true rfl) (by decide +kernel) (by omega) (tie_letters a hb) ?_
  rintro _ h1 ⟨y1, rfl, hq⟩
  refine la_aload (k := 2) X 2 (by decide +kernel) rfl rfl ?_
  refine la_call (N := m_M_letters) (as := []) (idx := 54) (st := [.int y1]) 12 0 X (by decide) rfl rfl vM_letters (by decide +kernel) rfl rfl (Nat.le_of_ble_eq_true rfl) (by decide +kernel) (by omega) hq ?_
  rintro _ h2 ⟨y2, rfl, ey, S', iv, t⟩
  exact la_eq (off := 236) 530 X (by decide +kernel) rfl ey (K h2 S' iv t)
theorem vP_letter : zCv m_P_letter "SpooledPost" 1 := ⟨by decide +kernel, by decide +kernel, by decide +kernel, by decide +kernel, by decide +kernel, by decide⟩
theorem vM_letter : zCv m_M_letter "SpooledPostModel" 1 := ⟨by decide +kernel, by decide +kernel, by decide +kernel, by decide +kernel, by decide +kernel, by decide⟩
theorem lo_letter {p : Program} {l : Launch} {e : Env} {s : State} {m : MethodId} {below : List Frame} {meth : Method} {c : Code} {b L : Nat} {xs : Nat → Int32} {G : ZG} {i : Nat} {h : ZH} {S : ZS} (X : lCx p s m meth c b L xs G) (hi : i + 3 < L) (a : Inv h S) (hb : bnd S) (K : ∀ h' S', Inv h' S' → stp S S' → LAt p l e s m below meth c b G i 530 [] h') : LAt p l e s m below meth c b G i 299 [] h := by
  obtain ⟨up, now, given, wr, line, gr, bg, tk, snd, rcs, tx, L0⟩ := S
  refine la_aload (k := 1) X 1 (by decide +kernel) rfl rfl ?_
  refine la_arg (j := 1) (jn := 1) X (by decide +kernel) (by decide +kernel) (by decide +kernel) (by decide +kernel) (by decide +kernel) rfl (by omega) ?_
  refine la_call (N := m_P_letter) (as := [vI (xs (i + 1))]) (idx := 55) 0 0 X (by decide) rfl rfl vP_letter (by decide +kernel) rfl rfl (Nat.le_of_ble_eq_true rfl) (by decide +kernel) (by omega) (tie_letter a hb) ?_
  rintro _ h1 ⟨y1, rfl, hq⟩
  refine la_aload (k := 2) X 2 (by decide +kernel) rfl rfl ?_
  refine la_arg (j := 1) (jn := 1) X (by decide +kernel) (by decide +kernel) (by decide +kernel) (by decide +kernel) (by decide +kernel) rfl (by omega) ?_
  refine la_call (N := m_M_letter) (as := [vI (xs (i + 1))]) (idx := 58) (st := [.int y1]) 12 0 X (by decide) rfl rfl vM_letter (by decide +kernel) rfl rfl (Nat.le_of_ble_eq_true rfl) (by decide +kernel) (by omega) hq ?_
  rintro _ h2 ⟨y2, rfl, ey, S', iv, t⟩
  exact la_eq (off := 213) 530 X (by decide +kernel) rfl ey (K h2 S' iv t)
theorem vP_text : zCv m_P_text "SpooledPost" 2 := ⟨by decide +kernel, by decide +kernel, by decide +kernel, by decide +kernel, by decide +kernel, by decide⟩
theorem vM_text : zCv m_M_text "SpooledPostModel" 2 := ⟨by decide +kernel, by decide +kernel, by decide +kernel, by decide +kernel, by decide +kernel, by decide⟩
theorem lo_text {p : Program} {l : Launch} {e : Env} {s : State} {m : MethodId} {below : List Frame} {meth : Method} {c : Code} {b L : Nat} {xs : Nat → Int32} {G : ZG} {i : Nat} {h : ZH} {S : ZS} (X : lCx p s m meth c b L xs G) (hi : i + 3 < L) (a : Inv h S) (hb : bnd S) (K : ∀ h' S', Inv h' S' → stp S S' → LAt p l e s m below meth c b G i 530 [] h') : LAt p l e s m below meth c b G i 322 [] h := by
  obtain ⟨up, now, given, wr, line, gr, bg, tk, snd, rcs, tx, L0⟩ := S
  refine la_aload (k := 1) X 1 (by decide +kernel) rfl rfl ?_
  refine la_arg (j := 1) (jn := 1) X (by decide +kernel) (by decide +kernel) (by decide +kernel) (by decide +kernel) (by decide +kernel) rfl (by omega) ?_
  refine la_arg (j := 2) (jn := 2) X (by decide +kernel) (by decide +kernel) (by decide +kernel) (by decide +kernel) (by decide +kernel) rfl (by omega) ?_
  refine la_call (N := m_P_text) (as := [vI (xs (i + 1)), vI (xs (i + 2))]) (idx := 59) 0 0 X (by decide) rfl rfl vP_text (by decide +kernel) rfl rfl (Nat.le_of_ble_eq_true rfl) (by decide +kernel) (by omega) (tie_text a hb) ?_
  rintro _ h1 ⟨y1, rfl, hq⟩
  refine la_aload (k := 2) X 2 (by decide +kernel) rfl rfl ?_
  refine la_arg (j := 1) (jn := 1) X (by decide +kernel) (by decide +kernel) (by decide +kernel) (by decide +kernel) (by decide +kernel) rfl (by omega) ?_
  refine la_arg (j := 2) (jn := 2) X (by decide +kernel) (by decide +kernel) (by decide +kernel) (by decide +kernel) (by decide +kernel) rfl (by omega) ?_
  refine la_call (N := m_M_text) (as := [vI (xs (i + 1)), vI (xs (i + 2))]) (idx := 63) (st := [.int y1]) 12 0 X (by decide) rfl rfl vM_text (by decide +kernel) rfl rfl (Nat.le_of_ble_eq_true rfl) (by decide +kernel) (by omega) hq ?_
  rintro _ h2 ⟨y2, rfl, ey, S', iv, t⟩
  exact la_eq (off := 180) 530 X (by decide +kernel) rfl ey (K h2 S' iv t)
theorem vP_path : zCv m_P_path "SpooledPost" 3 := ⟨by decide +kernel, by decide +kernel, by decide +kernel, by decide +kernel, by decide +kernel, by decide⟩
theorem vM_path : zCv m_M_path "SpooledPostModel" 3 := ⟨by decide +kernel, by decide +kernel, by decide +kernel, by decide +kernel, by decide +kernel, by decide⟩
theorem lo_path {p : Program} {l : Launch} {e : Env} {s : State} {m : MethodId} {below : List Frame} {meth : Method} {c : Code} {b L : Nat} {xs : Nat → Int32} {G : ZG} {i : Nat} {h : ZH} {S : ZS} (X : lCx p s m meth c b L xs G) (hi : i + 3 < L) (a : Inv h S) (hb : bnd S) (K : ∀ h' S', Inv h' S' → stp S S' → LAt p l e s m below meth c b G i 530 [] h') : LAt p l e s m below meth c b G i 355 [] h := by
  obtain ⟨up, now, given, wr, line, gr, bg, tk, snd, rcs, tx, L0⟩ := S
  refine la_aload (k := 1) X 1 (by decide +kernel) rfl rfl ?_
  refine la_arg (j := 1) (jn := 1) X (by decide +kernel) (by decide +kernel) (by decide +kernel) (by decide +kernel) (by decide +kernel) rfl (by omega) ?_
  refine la_arg (j := 2) (jn := 2) X (by decide +kernel) (by decide +kernel) (by decide +kernel) (by decide +kernel) (by decide +kernel) rfl (by omega) ?_
  refine la_arg (j := 3) (jn := 3) X (by decide +kernel) (by decide +kernel) (by decide +kernel) (by decide +kernel) (by decide +kernel) rfl (by omega) ?_
  refine la_call (N := m_P_path) (as := [vI (xs (i + 1)), vI (xs (i + 2)), vI (xs (i + 3))]) (idx := 64) 0 0 X (by decide) rfl rfl vP_path (by decide +kernel) rfl rfl (Nat.le_of_ble_eq_true rfl) (by decide +kernel) (by omega) (tie_path a hb) ?_
  rintro _ h1 ⟨y1, rfl, hq⟩
  refine la_aload (k := 2) X 2 (by decide +kernel) rfl rfl ?_
  refine la_arg (j := 1) (jn := 1) X (by decide +kernel) (by decide +kernel) (by decide +kernel) (by decide +kernel) (by decide +kernel) rfl (by omega) ?_
  refine la_arg (j := 2) (jn := 2) X (by decide +kernel) (by decide +kernel) (by decide +kernel) (by decide +kernel) (by decide +kernel) rfl (by omega) ?_
  refine la_arg (j := 3) (jn := 3) X (by decide +kernel) (by decide +kernel) (by decide +kernel) (by decide +kernel) (by decide +kernel) rfl (by omega) ?_
  refine la_call (N := m_M_path) (as := [vI (xs (i + 1)), vI (xs (i + 2)), vI (xs (i + 3))]) (idx := 68) (st := [.int y1]) 12 0 X (by decide) rfl rfl vM_path (by decide +kernel) rfl rfl (Nat.le_of_ble_eq_true rfl) (by decide +kernel) (by omega) hq ?_
  rintro _ h2 ⟨y2, rfl, ey, S', iv, t⟩
  exact la_eq (off := 137) 530 X (by decide +kernel) rfl ey (K h2 S' iv t)
theorem vP_recipient : zCv m_P_recipient "SpooledPost" 2 := ⟨by decide +kernel, by decide +kernel, by decide +kernel, by decide +kernel, by decide +kernel, by decide⟩
theorem vM_recipient1 : zCv m_M_recipient1 "SpooledPostModel" 2 := ⟨by decide +kernel, by decide +kernel, by decide +kernel, by decide +kernel, by decide +kernel, by decide⟩
theorem lo_recipient {p : Program} {l : Launch} {e : Env} {s : State} {m : MethodId} {below : List Frame} {meth : Method} {c : Code} {b L : Nat} {xs : Nat → Int32} {G : ZG} {i : Nat} {h : ZH} {S : ZS} (X : lCx p s m meth c b L xs G) (hi : i + 3 < L) (a : Inv h S) (hb : bnd S) (K : ∀ h' S', Inv h' S' → stp S S' → LAt p l e s m below meth c b G i 530 [] h') : LAt p l e s m below meth c b G i 398 [] h := by
  obtain ⟨up, now, given, wr, line, gr, bg, tk, snd, rcs, tx, L0⟩ := S
  refine la_aload (k := 1) X 1 (by decide +kernel) rfl rfl ?_
  refine la_arg (j := 1) (jn := 1) X (by decide +kernel) (by decide +kernel) (by decide +kernel) (by decide +kernel) (by decide +kernel) rfl (by omega) ?_
  refine la_arg (j := 2) (jn := 2) X (by decide +kernel) (by decide +kernel) (by decide +kernel) (by decide +kernel) (by decide +kernel) rfl (by omega) ?_
  refine la_call (N := m_P_recipient) (as := [vI (xs (i + 1)), vI (xs (i + 2))]) (idx := 69) 0 0 X (by decide) rfl rfl vP_recipient (by decide +kernel) rfl rfl (Nat.le_of_ble_eq_true rfl) (by decide +kernel) (by omega) (tie_recipient a hb) ?_
  rintro _ h1 ⟨y1, rfl, hq⟩
  refine la_aload (k := 2) X 2 (by decide +kernel) rfl rfl ?_
  refine la_arg (j := 1) (jn := 1) X (by decide +kernel) (by decide +kernel) (by decide +kernel) (by decide +kernel) (by decide +kernel) rfl (by omega) ?_
  refine la_arg (j := 2) (jn := 2) X (by decide +kernel) (by decide +kernel) (by decide +kernel) (by decide +kernel) (by decide +kernel) rfl (by omega) ?_
  refine la_call (N := m_M_recipient1) (as := [vI (xs (i + 1)), vI (xs (i + 2))]) (idx := 73) (st := [.int y1]) 12 0 X (by decide) rfl rfl vM_recipient1 (by decide +kernel) rfl rfl (Nat.le_of_ble_eq_true rfl) (by decide +kernel) (by omega) hq ?_
  rintro _ h2 ⟨y2, rfl, ey, S', iv, t⟩
  exact la_eq (off := 104) 530 X (by decide +kernel) rfl ey (K h2 S' iv t)
theorem vP_due : zCv m_P_due "SpooledPost" 2 := ⟨by decide +kernel, by decide +kernel, by decide +kernel, by decide +kernel, by decide +kernel, by decide⟩
theorem vM_due : zCv m_M_due "SpooledPostModel" 2 := ⟨by decide +kernel, by decide +kernel, by decide +kernel, by decide +kernel, by decide +kernel, by decide⟩
theorem lo_due {p : Program} {l : Launch} {e : Env} {s : State} {m : MethodId} {below : List Frame} {meth : Method} {c : Code} {b L : Nat} {xs : Nat → Int32} {G : ZG} {i : Nat} {h : ZH} {S : ZS} (X : lCx p s m meth c b L xs G) (hi : i + 3 < L) (a : Inv h S) (hb : bnd S) (K : ∀ h' S', Inv h' S' → stp S S' → LAt p l e s m below meth c b G i 530 [] h') : LAt p l e s m below meth c b G i 431 [] h := by
  obtain ⟨up, now, given, wr, line, gr, bg, tk, snd, rcs, tx, L0⟩ := S
  refine la_aload (k := 1) X 1 (by decide +kernel) rfl rfl ?_
  refine la_arg (j := 1) (jn := 1) X (by decide +kernel) (by decide +kernel) (by decide +kernel) (by decide +kernel) (by decide +kernel) rfl (by omega) ?_
  refine la_arg (j := 2) (jn := 2) X (by decide +kernel) (by decide +kernel) (by decide +kernel) (by decide +kernel) (by decide +kernel) rfl (by omega) ?_
  refine la_call (N := m_P_due) (as := [vI (xs (i + 1)), vI (xs (i + 2))]) (idx := 74) 0 0 X (by decide) rfl rfl vP_due (by decide +kernel) rfl rfl (Nat.le_of_ble_eq_true rfl) (by decide +kernel) (by omega) (tie_due a hb) ?_
  rintro _ h1 ⟨y1, rfl, hq⟩
  refine la_aload (k := 2) X 2 (by decide +kernel) rfl rfl ?_
  refine la_arg (j := 1) (jn := 1) X (by decide +kernel) (by decide +kernel) (by decide +kernel) (by decide +kernel) (by decide +kernel) rfl (by omega) ?_
  refine la_arg (j := 2) (jn := 2) X (by decide +kernel) (by decide +kernel) (by decide +kernel) (by decide +kernel) (by decide +kernel) rfl (by omega) ?_
  refine la_call (N := m_M_due) (as := [vI (xs (i + 1)), vI (xs (i + 2))]) (idx := 77) (st := [.int y1]) 12 0 X (by decide) rfl rfl vM_due (by decide +kernel) rfl rfl (Nat.le_of_ble_eq_true rfl) (by decide +kernel) (by omega) hq ?_
  rintro _ h2 ⟨y2, rfl, ey, S', iv, t⟩
  exact la_eq (off := 71) 530 X (by decide +kernel) rfl ey (K h2 S' iv t)
theorem vP_parts : zCv m_P_parts "SpooledPost" 1 := ⟨by decide +kernel, by decide +kernel, by decide +kernel, by decide +kernel, by decide +kernel, by decide⟩
theorem vM_parts : zCv m_M_parts "SpooledPostModel" 1 := ⟨by decide +kernel, by decide +kernel, by decide +kernel, by decide +kernel, by decide +kernel, by decide⟩
theorem lo_parts {p : Program} {l : Launch} {e : Env} {s : State} {m : MethodId} {below : List Frame} {meth : Method} {c : Code} {b L : Nat} {xs : Nat → Int32} {G : ZG} {i : Nat} {h : ZH} {S : ZS} (X : lCx p s m meth c b L xs G) (hi : i + 3 < L) (a : Inv h S) (hb : bnd S) (K : ∀ h' S', Inv h' S' → stp S S' → LAt p l e s m below meth c b G i 530 [] h') : LAt p l e s m below meth c b G i 464 [] h := by
  obtain ⟨up, now, given, wr, line, gr, bg, tk, snd, rcs, tx, L0⟩ := S
  refine la_aload (k := 1) X 1 (by decide +kernel) rfl rfl ?_
  refine la_arg (j := 1) (jn := 1) X (by decide +kernel) (by decide +kernel) (by decide +kernel) (by decide +kernel) (by decide +kernel) rfl (by omega) ?_
  refine la_call (N := m_P_parts) (as := [vI (xs (i + 1))]) (idx := 78) 0 0 X (by decide) rfl rfl vP_parts (by decide +kernel) rfl rfl (Nat.le_of_ble_eq_true rfl) (by decide +kernel) (by omega) (tie_parts a hb) ?_
  rintro _ h1 ⟨y1, rfl, hq⟩
  refine la_aload (k := 2) X 2 (by decide +kernel) rfl rfl ?_
  refine la_arg (j := 1) (jn := 1) X (by decide +kernel) (by decide +kernel) (by decide +kernel) (by decide +kernel) (by decide +kernel) rfl (by omega) ?_
  refine la_call (N := m_M_parts) (as := [vI (xs (i + 1))]) (idx := 81) (st := [.int y1]) 12 0 X (by decide) rfl rfl vM_parts (by decide +kernel) rfl rfl (Nat.le_of_ble_eq_true rfl) (by decide +kernel) (by omega) hq ?_
  rintro _ h2 ⟨y2, rfl, ey, S', iv, t⟩
  exact la_eq (off := 48) 530 X (by decide +kernel) rfl ey (K h2 S' iv t)
theorem vP_part : zCv m_P_part "SpooledPost" 3 := ⟨by decide +kernel, by decide +kernel, by decide +kernel, by decide +kernel, by decide +kernel, by decide⟩
theorem vM_part : zCv m_M_part "SpooledPostModel" 3 := ⟨by decide +kernel, by decide +kernel, by decide +kernel, by decide +kernel, by decide +kernel, by decide⟩
theorem lo_part {p : Program} {l : Launch} {e : Env} {s : State} {m : MethodId} {below : List Frame} {meth : Method} {c : Code} {b L : Nat} {xs : Nat → Int32} {G : ZG} {i : Nat} {h : ZH} {S : ZS} (X : lCx p s m meth c b L xs G) (hi : i + 3 < L) (a : Inv h S) (hb : bnd S) (K : ∀ h' S', Inv h' S' → stp S S' → LAt p l e s m below meth c b G i 530 [] h') : LAt p l e s m below meth c b G i 487 [] h := by
  obtain ⟨up, now, given, wr, line, gr, bg, tk, snd, rcs, tx, L0⟩ := S
  refine la_aload (k := 1) X 1 (by decide +kernel) rfl rfl ?_
  refine la_arg (j := 1) (jn := 1) X (by decide +kernel) (by decide +kernel) (by decide +kernel) (by decide +kernel) (by decide +kernel) rfl (by omega) ?_
  refine la_arg (j := 2) (jn := 2) X (by decide +kernel) (by decide +kernel) (by decide +kernel) (by decide +kernel) (by decide +kernel) rfl (by omega) ?_
  refine la_arg (j := 3) (jn := 3) X (by decide +kernel) (by decide +kernel) (by decide +kernel) (by decide +kernel) (by decide +kernel) rfl (by omega) ?_
  refine la_call (N := m_P_part) (as := [vI (xs (i + 1)), vI (xs (i + 2)), vI (xs (i + 3))]) (idx := 82) 0 0 X (by decide) rfl rfl vP_part (by decide +kernel) rfl rfl (Nat.le_of_ble_eq_true rfl) (by decide +kernel) (by omega) (tie_part a hb) ?_
  rintro _ h1 ⟨y1, rfl, hq⟩
  refine la_aload (k := 2) X 2 (by decide +kernel) rfl rfl ?_
  refine la_arg (j := 1) (jn := 1) X (by decide +kernel) (by decide +kernel) (by decide +kernel) (by decide +kernel) (by decide +kernel) rfl (by omega) ?_
  refine la_arg (j := 2) (jn := 2) X (by decide +kernel) (by decide +kernel) (by decide +kernel) (by decide +kernel) (by decide +kernel) rfl (by omega) ?_
  refine la_arg (j := 3) (jn := 3) X (by decide +kernel) (by decide +kernel) (by decide +kernel) (by decide +kernel) (by decide +kernel) rfl (by omega) ?_
  refine la_call (N := m_M_part) (as := [vI (xs (i + 1)), vI (xs (i + 2)), vI (xs (i + 3))]) (idx := 86) (st := [.int y1]) 12 0 X (by decide) rfl rfl vM_part (by decide +kernel) rfl rfl (Nat.le_of_ble_eq_true rfl) (by decide +kernel) (by omega) hq ?_
  rintro _ h2 ⟨y2, rfl, ey, S', iv, t⟩
  exact la_eq (off := 5) 530 X (by decide +kernel) rfl ey (K h2 S' iv t)
