section WK
variable {p : Program} {l : Launch} {e : Env} {s : State} {m : MethodId} {args : Array Value} {below : List Frame} {meth : Method} {c : Code} {D : va_G} {A : Nat → Prop} {Q : State → Prop}
set_option maxRecDepth 100000 in
set_option maxHeartbeats 4000000 in
theorem k_X5_log {R : Room} {a : Nat → Nat} {g : Nat → ClassId} {net_places : Int} {net_firings : Int} {net_now : Int64} {net_done : Int} {net_shape : Int} {net_state : Int} {net_weights : Nat → Int} {net_needed : Nat → Int64} {net_borne : Nat → Int64} {net_emptied : Nat → Int64} {net_taken : Nat → Int64} {net_given : Nat → Int64} {reach_queued : Int} {reach_state : Int} {reach_count : Int} {reach_pairs : Int} {reach_ends : Int} {reach_tooGreat : Int} {reach_found : Nat → Int64} {reach_slots : Nat → Int} {reach_depths : Nat → Int} {reach_foundBy : Nat → Int} {reach_targets : Nat → Int} {reach_lastInto : Nat → Int} {reach_nextInto : Nat → Int} {reach_marked : Nat → Int} {reach_queue : Nat → Int} {rows_highest : Int} {rows_width : Int} {rows_vector : Int} {rows_sums : Int64} {rows_count : Int} {rows_shape : Int} {rows_least : Nat → Int} {rows_columns : Nat → Int64} {rows_admitted : Nat → Int} {rounds_highest : Int} {rounds_width : Int} {rounds_vector : Int} {rounds_sums : Int64} {rounds_count : Int} {rounds_shape : Int} {rounds_least : Nat → Int} {rounds_columns : Nat → Int64} {rounds_admitted : Nat → Int} {sets_count : Int} {sets_shape : Int} {sets_takes : Nat → Int} {sets_loses : Nat → Int} {sets_gives : Nat → Int} {sets_least : Nat → Int} {story_length : Int} {story_entries : Nat → Int} {story_here : Nat → Int} {story_further : Nat → Int} (hRf : 7 ≤ R.frames) (hRl : 111 ≤ R.locals) (C : JC p s m args meth c cX5_log 2 "MarkingHall" D (xT g) A) (x1 : Int) (res : Int × Int × (Int) × (Nat → Int)) (h : F_X5_log x1 net_firings story_length story_entries = some res) (RET : ∀ (pc : Nat) (lv : List (Nat × Value)), res.1 = 0 → decode cX5_log pc = .ok (.ireturn, 1) → J p l e R s m args below meth c D A 2 Q 0 0 (xW a g net_places net_firings net_now net_done net_shape net_state net_weights net_needed net_borne net_emptied net_taken net_given reach_queued reach_state reach_count reach_pairs reach_ends reach_tooGreat reach_found reach_slots reach_depths reach_foundBy reach_targets reach_lastInto reach_nextInto reach_marked reach_queue rows_highest rows_width rows_vector rows_sums rows_count rows_shape rows_least rows_columns rows_admitted rounds_highest rounds_width rounds_vector rounds_sums rounds_count rounds_shape rounds_least rounds_columns rounds_admitted sets_count sets_shape sets_takes sets_loses sets_gives sets_least res.2.2.1 res.2.2.2 story_here story_further) pc lv [.int (vI res.2.1)]) (RETX : ∀ (pc : Nat) (lv : List (Nat × Value)) (st : List Value), (st.map fun v => v.category).sum ≤ 8 → TS cX5_log res.1 pc → J p l e R s m args below meth c D A 2 Q 0 0 (xW a g net_places net_firings net_now net_done net_shape net_state net_weights net_needed net_borne net_emptied net_taken net_given reach_queued reach_state reach_count reach_pairs reach_ends reach_tooGreat reach_found reach_slots reach_depths reach_foundBy reach_targets reach_lastInto reach_nextInto reach_marked reach_queue rows_highest rows_width rows_vector rows_sums rows_count rows_shape rows_least rows_columns rows_admitted rounds_highest rounds_width rounds_vector rounds_sums rounds_count rounds_shape rounds_least rounds_columns rounds_admitted sets_count sets_shape sets_takes sets_loses sets_gives sets_least res.2.2.1 res.2.2.2 story_here story_further) pc lv st) (T : res.1 ≠ 0 → TT A s) (hl : res.1 ≠ 0 → l.stackTraces = false) (hRc : res.1 ≠ 0 → 1 ≤ R.cells ∧ 6 ≤ R.slots) (XO : res.1 ≠ 0 → ∀ (H : Heap) (locs : List Loc) (ls : Array Slot) (pc : Nat) (st : List Value) (q : Nat) (ce : Cell), va_P D vwCl (xW a g net_places net_firings net_now net_done net_shape net_state net_weights net_needed net_borne net_emptied net_taken net_given reach_queued reach_state reach_count reach_pairs reach_ends reach_tooGreat reach_found reach_slots reach_depths reach_foundBy reach_targets reach_lastInto reach_nextInto reach_marked reach_queue rows_highest rows_width rows_vector rows_sums rows_count rows_shape rows_least rows_columns rows_admitted rounds_highest rounds_width rounds_vector rounds_sums rounds_count rounds_shape rounds_least rounds_columns rounds_admitted sets_count sets_shape sets_takes sets_loses sets_gives sets_least res.2.2.1 res.2.2.2 story_here story_further) H → va_D A (xW a g net_places net_firings net_now net_done net_shape net_state net_weights net_needed net_borne net_emptied net_taken net_given reach_queued reach_state reach_count reach_pairs reach_ends reach_tooGreat reach_found reach_slots reach_depths reach_foundBy reach_targets reach_lastInto reach_nextInto reach_marked reach_queue rows_highest rows_width rows_vector rows_sums rows_count rows_shape rows_least rows_columns rows_admitted rounds_highest rounds_width rounds_vector rounds_sums rounds_count rounds_shape rounds_least rounds_columns rounds_admitted sets_count sets_shape sets_takes sets_loses sets_gives sets_least res.2.2.1 res.2.2.2 story_here story_further) → va_S A s.heap H locs → H[q]? = some ce → ce.vm = .none → s.vm.findClass (exN res.1) = some ce.cls → vx_W p l e R s m args below meth c H locs 1 6 Q (F0 m pc ls st) q) : J p l e R s m args below meth c D A 2 Q 0 0 (xW a g net_places net_firings net_now net_done net_shape net_state net_weights net_needed net_borne net_emptied net_taken net_given reach_queued reach_state reach_count reach_pairs reach_ends reach_tooGreat reach_found reach_slots reach_depths reach_foundBy reach_targets reach_lastInto reach_nextInto reach_marked reach_queue rows_highest rows_width rows_vector rows_sums rows_count rows_shape rows_least rows_columns rows_admitted rounds_highest rounds_width rounds_vector rounds_sums rounds_count rounds_shape rounds_least rounds_columns rounds_admitted sets_count sets_shape sets_takes sets_loses sets_gives sets_least story_length story_entries story_here story_further) 0 [(0, .ref (a 0)), (1, .int (vI x1))] [] := by
  unfold F_X5_log at h
  refine j_aload_n C 0 rfl rfl dX5_log_0 ?_
  refine j_iload_n C 1 rfl rfl dX5_log_1 ?_
  obtain ⟨r1, hr1, h⟩ := Ob_of h
  by_cases z2 : r1 = 0
  · replace h := if_t h z2
    refine q_X5_81 C (wc := (xW a g net_places net_firings net_now net_done net_shape net_state net_weights net_needed net_borne net_emptied net_taken net_given reach_queued reach_state reach_count reach_pairs reach_ends reach_tooGreat reach_found reach_slots reach_depths reach_foundBy reach_targets reach_lastInto reach_nextInto reach_marked reach_queue rows_highest rows_width rows_vector rows_sums rows_count rows_shape rows_least rows_columns rows_admitted rounds_highest rounds_width rounds_vector rounds_sums rounds_count rounds_shape rounds_least rounds_columns rounds_admitted sets_count sets_shape sets_takes sets_loses sets_gives sets_least story_length story_entries story_here story_further)) (wc' := (xW a g net_places net_firings net_now net_done net_shape net_state net_weights net_needed net_borne net_emptied net_taken net_given reach_queued reach_state reach_count reach_pairs reach_ends reach_tooGreat reach_found reach_slots reach_depths reach_foundBy reach_targets reach_lastInto reach_nextInto reach_marked reach_queue rows_highest rows_width rows_vector rows_sums rows_count rows_shape rows_least rows_columns rows_admitted rounds_highest rounds_width rounds_vector rounds_sums rounds_count rounds_shape rounds_least rounds_columns rounds_admitted sets_count sets_shape sets_takes sets_loses sets_gives sets_least story_length story_entries story_here story_further)) (c_X5_needFiring_r l D a g net_places net_firings net_now net_done net_shape net_state net_weights net_needed net_borne net_emptied net_taken net_given reach_queued reach_state reach_count reach_pairs reach_ends reach_tooGreat reach_found reach_slots reach_depths reach_foundBy reach_targets reach_lastInto reach_nextInto reach_marked reach_queue rows_highest rows_width rows_vector rows_sums rows_count rows_shape rows_least rows_columns rows_admitted rounds_highest rounds_width rounds_vector rounds_sums rounds_count rounds_shape rounds_least rounds_columns rounds_admitted sets_count sets_shape sets_takes sets_loses sets_gives sets_least story_length story_entries story_here story_further x1 r1 hr1 z2) ⟨(Nat.le_trans (Nat.le_of_ble_eq_true rfl) hRf), (Nat.le_trans (Nat.le_of_ble_eq_true rfl) hRl)⟩ rfl rfl 0 rfl rfl (ww _) (ww _) rfl C.2.2.2.2.2.2.1 (Nat.le_of_ble_eq_true rfl) rfl rfl (Nat.zero_le _) (Nat.zero_le _) dX5_log_2 ?_
    refine j_aload_n C 0 rfl rfl dX5_log_5 ?_
    refine g_X5_49 C (v := .ref (a 31)) 0 rfl rfl dX5_log_6 ?_
    refine g_X5_202 C (v := .int (vI story_length)) 31 rfl rfl dX5_log_9 ?_
    refine j_bipush C (by decide) dX5_log_12 ?_
    refine j_icmp_lt C h 27 (by decide) dX5_log_14 (fun c4 h => ?_) (fun c4 h => ?_)
    · refine j_aload_n C 0 rfl rfl dX5_log_27 ?_
      refine g_X5_49 C (v := .ref (a 31)) 0 rfl rfl dX5_log_28 ?_
      refine j_iload_n C 1 rfl rfl dX5_log_31 ?_
      obtain ⟨r3, hr3, h⟩ := Ob_of h
      refine q_X5_207 C (wc := (xW a g net_places net_firings net_now net_done net_shape net_state net_weights net_needed net_borne net_emptied net_taken net_given reach_queued reach_state reach_count reach_pairs reach_ends reach_tooGreat reach_found reach_slots reach_depths reach_foundBy reach_targets reach_lastInto reach_nextInto reach_marked reach_queue rows_highest rows_width rows_vector rows_sums rows_count rows_shape rows_least rows_columns rows_admitted rounds_highest rounds_width rounds_vector rounds_sums rounds_count rounds_shape rounds_least rounds_columns rounds_admitted sets_count sets_shape sets_takes sets_loses sets_gives sets_least story_length story_entries story_here story_further)) (wc' := (xW a g net_places net_firings net_now net_done net_shape net_state net_weights net_needed net_borne net_emptied net_taken net_given reach_queued reach_state reach_count reach_pairs reach_ends reach_tooGreat reach_found reach_slots reach_depths reach_foundBy reach_targets reach_lastInto reach_nextInto reach_marked reach_queue rows_highest rows_width rows_vector rows_sums rows_count rows_shape rows_least rows_columns rows_admitted rounds_highest rounds_width rounds_vector rounds_sums rounds_count rounds_shape rounds_least rounds_columns rounds_admitted sets_count sets_shape sets_takes sets_loses sets_gives sets_least r3.2.1 r3.2.2 story_here story_further)) (c_X2_append l D a g net_places net_firings net_now net_done net_shape net_state net_weights net_needed net_borne net_emptied net_taken net_given reach_queued reach_state reach_count reach_pairs reach_ends reach_tooGreat reach_found reach_slots reach_depths reach_foundBy reach_targets reach_lastInto reach_nextInto reach_marked reach_queue rows_highest rows_width rows_vector rows_sums rows_count rows_shape rows_least rows_columns rows_admitted rounds_highest rounds_width rounds_vector rounds_sums rounds_count rounds_shape rounds_least rounds_columns rounds_admitted sets_count sets_shape sets_takes sets_loses sets_gives sets_least story_length story_entries story_here story_further x1 r3 hr3) ⟨(Nat.le_trans (Nat.le_of_ble_eq_true rfl) hRf), (Nat.le_trans (Nat.le_of_ble_eq_true rfl) hRl)⟩ rfl rfl 31 rfl rfl (ww _) (ww _) xW_ha C.2.2.2.2.2.2.1 (Nat.le_of_ble_eq_true rfl) rfl rfl (Nat.zero_le _) (Nat.zero_le _) dX5_log_32 ?_
      cases h
      exact RET _ _ rfl dX5_log_35
    · cases h
      exact RETX _ _ _ (Nat.le_of_ble_eq_true rfl) ⟨Or.inr (Or.inl rfl), 205, "the log has 10 firings", by decide +kernel, dX5_log_17, dX5_log_20, dX5_log_21, dX5_log_23, dX5_log_26⟩
  · replace h := if_f h z2
    cases h
    refine jq_X5_81 C (T z2) (wc := (xW a g net_places net_firings net_now net_done net_shape net_state net_weights net_needed net_borne net_emptied net_taken net_given reach_queued reach_state reach_count reach_pairs reach_ends reach_tooGreat reach_found reach_slots reach_depths reach_foundBy reach_targets reach_lastInto reach_nextInto reach_marked reach_queue rows_highest rows_width rows_vector rows_sums rows_count rows_shape rows_least rows_columns rows_admitted rounds_highest rounds_width rounds_vector rounds_sums rounds_count rounds_shape rounds_least rounds_columns rounds_admitted sets_count sets_shape sets_takes sets_loses sets_gives sets_least story_length story_entries story_here story_further)) (wc' := (xW a g net_places net_firings net_now net_done net_shape net_state net_weights net_needed net_borne net_emptied net_taken net_given reach_queued reach_state reach_count reach_pairs reach_ends reach_tooGreat reach_found reach_slots reach_depths reach_foundBy reach_targets reach_lastInto reach_nextInto reach_marked reach_queue rows_highest rows_width rows_vector rows_sums rows_count rows_shape rows_least rows_columns rows_admitted rounds_highest rounds_width rounds_vector rounds_sums rounds_count rounds_shape rounds_least rounds_columns rounds_admitted sets_count sets_shape sets_takes sets_loses sets_gives sets_least story_length story_entries story_here story_further)) (c_X5_needFiring_x l D a g net_places net_firings net_now net_done net_shape net_state net_weights net_needed net_borne net_emptied net_taken net_given reach_queued reach_state reach_count reach_pairs reach_ends reach_tooGreat reach_found reach_slots reach_depths reach_foundBy reach_targets reach_lastInto reach_nextInto reach_marked reach_queue rows_highest rows_width rows_vector rows_sums rows_count rows_shape rows_least rows_columns rows_admitted rounds_highest rounds_width rounds_vector rounds_sums rounds_count rounds_shape rounds_least rounds_columns rounds_admitted sets_count sets_shape sets_takes sets_loses sets_gives sets_least story_length story_entries story_here story_further x1 r1 (hl z2) hr1 z2) ⟨(Nat.le_trans (Nat.le_of_ble_eq_true rfl) hRf), (Nat.le_trans (Nat.le_of_ble_eq_true rfl) hRl)⟩ rfl rfl 0 rfl rfl (ww _) (ww _) rfl C.2.2.2.2.2.2.1 (Nat.le_of_ble_eq_true rfl) rfl (hRc z2).1 (hRc z2).2 dX5_log_2 (fun H1 locs1 ls q ce hP hD hS _ hq hv hcl => XO z2 H1 locs1 ls _ _ q ce hP hD hS hq hv hcl)
theorem c_X5_log_r (l : Launch) (D : va_G) (a : Nat → Nat) (g : Nat → ClassId) (net_places : Int) (net_firings : Int) (net_now : Int64) (net_done : Int) (net_shape : Int) (net_state : Int) (net_weights : Nat → Int) (net_needed : Nat → Int64) (net_borne : Nat → Int64) (net_emptied : Nat → Int64) (net_taken : Nat → Int64) (net_given : Nat → Int64) (reach_queued : Int) (reach_state : Int) (reach_count : Int) (reach_pairs : Int) (reach_ends : Int) (reach_tooGreat : Int) (reach_found : Nat → Int64) (reach_slots : Nat → Int) (reach_depths : Nat → Int) (reach_foundBy : Nat → Int) (reach_targets : Nat → Int) (reach_lastInto : Nat → Int) (reach_nextInto : Nat → Int) (reach_marked : Nat → Int) (reach_queue : Nat → Int) (rows_highest : Int) (rows_width : Int) (rows_vector : Int) (rows_sums : Int64) (rows_count : Int) (rows_shape : Int) (rows_least : Nat → Int) (rows_columns : Nat → Int64) (rows_admitted : Nat → Int) (rounds_highest : Int) (rounds_width : Int) (rounds_vector : Int) (rounds_sums : Int64) (rounds_count : Int) (rounds_shape : Int) (rounds_least : Nat → Int) (rounds_columns : Nat → Int64) (rounds_admitted : Nat → Int) (sets_count : Int) (sets_shape : Int) (sets_takes : Nat → Int) (sets_loses : Nat → Int) (sets_gives : Nat → Int) (sets_least : Nat → Int) (story_length : Int) (story_entries : Nat → Int) (story_here : Nat → Int) (story_further : Nat → Int) (x1 : Int) (res : Int × Int × (Int) × (Nat → Int)) (h : F_X5_log x1 net_firings story_length story_entries = some res) (h0 : res.1 = 0) : Kt l yX5_log cX5_log 2 (some .int) ({ frames := 7, cells := 0, slots := 0, locals := 111 } : Room) D (xT g) [.ref (a 0), .int (vI x1)] (xW a g net_places net_firings net_now net_done net_shape net_state net_weights net_needed net_borne net_emptied net_taken net_given reach_queued reach_state reach_count reach_pairs reach_ends reach_tooGreat reach_found reach_slots reach_depths reach_foundBy reach_targets reach_lastInto reach_nextInto reach_marked reach_queue rows_highest rows_width rows_vector rows_sums rows_count rows_shape rows_least rows_columns rows_admitted rounds_highest rounds_width rounds_vector rounds_sums rounds_count rounds_shape rounds_least rounds_columns rounds_admitted sets_count sets_shape sets_takes sets_loses sets_gives sets_least story_length story_entries story_here story_further) (xW a g net_places net_firings net_now net_done net_shape net_state net_weights net_needed net_borne net_emptied net_taken net_given reach_queued reach_state reach_count reach_pairs reach_ends reach_tooGreat reach_found reach_slots reach_depths reach_foundBy reach_targets reach_lastInto reach_nextInto reach_marked reach_queue rows_highest rows_width rows_vector rows_sums rows_count rows_shape rows_least rows_columns rows_admitted rounds_highest rounds_width rounds_vector rounds_sums rounds_count rounds_shape rounds_least rounds_columns rounds_admitted sets_count sets_shape sets_takes sets_loses sets_gives sets_least res.2.2.1 res.2.2.2 story_here story_further) (some (.int (vI res.2.1))) :=
  kt_i (ty := .int) rfl rfl (by decide +kernel) (Nat.le_of_ble_eq_true rfl) (fun C RET => k_X5_log (Nat.le_of_ble_eq_true rfl) (Nat.le_of_ble_eq_true rfl) C x1 res h (fun pc lv _ hd => RET pc lv hd) (fun _ _ _ _ z => absurd h0 (TS_ne z)) (fun z => absurd h0 z) (fun z => absurd h0 z) (fun z => absurd h0 z) (fun z => absurd h0 z))
theorem c_X5_log_x (l : Launch) (D : va_G) (a : Nat → Nat) (g : Nat → ClassId) (net_places : Int) (net_firings : Int) (net_now : Int64) (net_done : Int) (net_shape : Int) (net_state : Int) (net_weights : Nat → Int) (net_needed : Nat → Int64) (net_borne : Nat → Int64) (net_emptied : Nat → Int64) (net_taken : Nat → Int64) (net_given : Nat → Int64) (reach_queued : Int) (reach_state : Int) (reach_count : Int) (reach_pairs : Int) (reach_ends : Int) (reach_tooGreat : Int) (reach_found : Nat → Int64) (reach_slots : Nat → Int) (reach_depths : Nat → Int) (reach_foundBy : Nat → Int) (reach_targets : Nat → Int) (reach_lastInto : Nat → Int) (reach_nextInto : Nat → Int) (reach_marked : Nat → Int) (reach_queue : Nat → Int) (rows_highest : Int) (rows_width : Int) (rows_vector : Int) (rows_sums : Int64) (rows_count : Int) (rows_shape : Int) (rows_least : Nat → Int) (rows_columns : Nat → Int64) (rows_admitted : Nat → Int) (rounds_highest : Int) (rounds_width : Int) (rounds_vector : Int) (rounds_sums : Int64) (rounds_count : Int) (rounds_shape : Int) (rounds_least : Nat → Int) (rounds_columns : Nat → Int64) (rounds_admitted : Nat → Int) (sets_count : Int) (sets_shape : Int) (sets_takes : Nat → Int) (sets_loses : Nat → Int) (sets_gives : Nat → Int) (sets_least : Nat → Int) (story_length : Int) (story_entries : Nat → Int) (story_here : Nat → Int) (story_further : Nat → Int) (x1 : Int) (res : Int × Int × (Int) × (Nat → Int)) (hl : l.stackTraces = false) (h : F_X5_log x1 net_firings story_length story_entries = some res) (h1 : res.1 ≠ 0) : Kx l yX5_log cX5_log 2 (some .int) ({ frames := 7, cells := 1, slots := 6, locals := 111 } : Room) D (xT g) [.ref (a 0), .int (vI x1)] (xW a g net_places net_firings net_now net_done net_shape net_state net_weights net_needed net_borne net_emptied net_taken net_given reach_queued reach_state reach_count reach_pairs reach_ends reach_tooGreat reach_found reach_slots reach_depths reach_foundBy reach_targets reach_lastInto reach_nextInto reach_marked reach_queue rows_highest rows_width rows_vector rows_sums rows_count rows_shape rows_least rows_columns rows_admitted rounds_highest rounds_width rounds_vector rounds_sums rounds_count rounds_shape rounds_least rounds_columns rounds_admitted sets_count sets_shape sets_takes sets_loses sets_gives sets_least story_length story_entries story_here story_further) (xW a g net_places net_firings net_now net_done net_shape net_state net_weights net_needed net_borne net_emptied net_taken net_given reach_queued reach_state reach_count reach_pairs reach_ends reach_tooGreat reach_found reach_slots reach_depths reach_foundBy reach_targets reach_lastInto reach_nextInto reach_marked reach_queue rows_highest rows_width rows_vector rows_sums rows_count rows_shape rows_least rows_columns rows_admitted rounds_highest rounds_width rounds_vector rounds_sums rounds_count rounds_shape rounds_least rounds_columns rounds_admitted sets_count sets_shape sets_takes sets_loses sets_gives sets_least res.2.2.1 res.2.2.2 story_here story_further) (exN res.1) :=
  kx_of hl rfl (by decide +kernel) (Nat.le_of_ble_eq_true rfl) rfl rfl (Nat.le_of_ble_eq_true rfl) (Nat.le_of_ble_eq_true rfl) xW_ha (fun C T RX XO => k_X5_log (Nat.le_of_ble_eq_true rfl) (Nat.le_of_ble_eq_true rfl) C x1 res h (fun _ _ z => absurd z h1) RX (fun _ => T) (fun _ => hl) (fun _ => ⟨(Nat.le_of_ble_eq_true rfl), (Nat.le_of_ble_eq_true rfl)⟩) (fun _ => XO))
set_option maxRecDepth 100000 in
set_option maxHeartbeats 4000000 in
theorem k_X5_blank {a : Nat → Nat} {g : Nat → ClassId} {net_places : Int} {net_firings : Int} {net_now : Int64} {net_done : Int} {net_shape : Int} {net_state : Int} {net_weights : Nat → Int} {net_needed : Nat → Int64} {net_borne : Nat → Int64} {net_emptied : Nat → Int64} {net_taken : Nat → Int64} {net_given : Nat → Int64} {reach_queued : Int} {reach_state : Int} {reach_count : Int} {reach_pairs : Int} {reach_ends : Int} {reach_tooGreat : Int} {reach_found : Nat → Int64} {reach_slots : Nat → Int} {reach_depths : Nat → Int} {reach_foundBy : Nat → Int} {reach_targets : Nat → Int} {reach_lastInto : Nat → Int} {reach_nextInto : Nat → Int} {reach_marked : Nat → Int} {reach_queue : Nat → Int} {rows_highest : Int} {rows_width : Int} {rows_vector : Int} {rows_sums : Int64} {rows_count : Int} {rows_shape : Int} {rows_least : Nat → Int} {rows_columns : Nat → Int64} {rows_admitted : Nat → Int} {rounds_highest : Int} {rounds_width : Int} {rounds_vector : Int} {rounds_sums : Int64} {rounds_count : Int} {rounds_shape : Int} {rounds_least : Nat → Int} {rounds_columns : Nat → Int64} {rounds_admitted : Nat → Int} {sets_count : Int} {sets_shape : Int} {sets_takes : Nat → Int} {sets_loses : Nat → Int} {sets_gives : Nat → Int} {sets_least : Nat → Int} {story_length : Int} {story_entries : Nat → Int} {story_here : Nat → Int} {story_further : Nat → Int} (C : JC p s m args meth c cX5_blank 1 "MarkingHall" D (xT g) A)  (res : Int × (Int)) (h : F_X5_blank story_length = some res) (RET : ∀ (pc : Nat) (lv : List (Nat × Value)), decode cX5_blank pc = .ok (.ireturn, 1) → J p l e ({ frames := 1, cells := 0, slots := 0, locals := 21 } : Room) s m args below meth c D A 1 Q 0 0 (xW a g net_places net_firings net_now net_done net_shape net_state net_weights net_needed net_borne net_emptied net_taken net_given reach_queued reach_state reach_count reach_pairs reach_ends reach_tooGreat reach_found reach_slots reach_depths reach_foundBy reach_targets reach_lastInto reach_nextInto reach_marked reach_queue rows_highest rows_width rows_vector rows_sums rows_count rows_shape rows_least rows_columns rows_admitted rounds_highest rounds_width rounds_vector rounds_sums rounds_count rounds_shape rounds_least rounds_columns rounds_admitted sets_count sets_shape sets_takes sets_loses sets_gives sets_least res.2 story_entries story_here story_further) pc lv [.int (vI res.1)]) : J p l e ({ frames := 1, cells := 0, slots := 0, locals := 21 } : Room) s m args below meth c D A 1 Q 0 0 (xW a g net_places net_firings net_now net_done net_shape net_state net_weights net_needed net_borne net_emptied net_taken net_given reach_queued reach_state reach_count reach_pairs reach_ends reach_tooGreat reach_found reach_slots reach_depths reach_foundBy reach_targets reach_lastInto reach_nextInto reach_marked reach_queue rows_highest rows_width rows_vector rows_sums rows_count rows_shape rows_least rows_columns rows_admitted rounds_highest rounds_width rounds_vector rounds_sums rounds_count rounds_shape rounds_least rounds_columns rounds_admitted sets_count sets_shape sets_takes sets_loses sets_gives sets_least story_length story_entries story_here story_further) 0 [(0, .ref (a 0))] [] := by
  unfold F_X5_blank at h
  refine j_aload_n C 0 rfl rfl dX5_blank_0 ?_
  refine g_X5_49 C (v := .ref (a 31)) 0 rfl rfl dX5_blank_1 ?_
  obtain ⟨r1, hr1, h⟩ := Ob_of h
  refine q_X5_210 C (wc := (xW a g net_places net_firings net_now net_done net_shape net_state net_weights net_needed net_borne net_emptied net_taken net_given reach_queued reach_state reach_count reach_pairs reach_ends reach_tooGreat reach_found reach_slots reach_depths reach_foundBy reach_targets reach_lastInto reach_nextInto reach_marked reach_queue rows_highest rows_width rows_vector rows_sums rows_count rows_shape rows_least rows_columns rows_admitted rounds_highest rounds_width rounds_vector rounds_sums rounds_count rounds_shape rounds_least rounds_columns rounds_admitted sets_count sets_shape sets_takes sets_loses sets_gives sets_least story_length story_entries story_here story_further)) (wc' := (xW a g net_places net_firings net_now net_done net_shape net_state net_weights net_needed net_borne net_emptied net_taken net_given reach_queued reach_state reach_count reach_pairs reach_ends reach_tooGreat reach_found reach_slots reach_depths reach_foundBy reach_targets reach_lastInto reach_nextInto reach_marked reach_queue rows_highest rows_width rows_vector rows_sums rows_count rows_shape rows_least rows_columns rows_admitted rounds_highest rounds_width rounds_vector rounds_sums rounds_count rounds_shape rounds_least rounds_columns rounds_admitted sets_count sets_shape sets_takes sets_loses sets_gives sets_least r1.2 story_entries story_here story_further)) (c_X2_clear l D a g net_places net_firings net_now net_done net_shape net_state net_weights net_needed net_borne net_emptied net_taken net_given reach_queued reach_state reach_count reach_pairs reach_ends reach_tooGreat reach_found reach_slots reach_depths reach_foundBy reach_targets reach_lastInto reach_nextInto reach_marked reach_queue rows_highest rows_width rows_vector rows_sums rows_count rows_shape rows_least rows_columns rows_admitted rounds_highest rounds_width rounds_vector rounds_sums rounds_count rounds_shape rounds_least rounds_columns rounds_admitted sets_count sets_shape sets_takes sets_loses sets_gives sets_least story_length story_entries story_here story_further r1 hr1) ⟨(Nat.le_of_ble_eq_true rfl), (Nat.le_of_ble_eq_true rfl)⟩ rfl rfl 31 rfl rfl (ww _) (ww _) xW_ha C.2.2.2.2.2.2.1 (Nat.le_of_ble_eq_true rfl) rfl rfl (Nat.zero_le _) (Nat.zero_le _) dX5_blank_4 ?_
  cases h
  exact RET _ _ dX5_blank_7
theorem c_X5_blank (l : Launch) (D : va_G) (a : Nat → Nat) (g : Nat → ClassId) (net_places : Int) (net_firings : Int) (net_now : Int64) (net_done : Int) (net_shape : Int) (net_state : Int) (net_weights : Nat → Int) (net_needed : Nat → Int64) (net_borne : Nat → Int64) (net_emptied : Nat → Int64) (net_taken : Nat → Int64) (net_given : Nat → Int64) (reach_queued : Int) (reach_state : Int) (reach_count : Int) (reach_pairs : Int) (reach_ends : Int) (reach_tooGreat : Int) (reach_found : Nat → Int64) (reach_slots : Nat → Int) (reach_depths : Nat → Int) (reach_foundBy : Nat → Int) (reach_targets : Nat → Int) (reach_lastInto : Nat → Int) (reach_nextInto : Nat → Int) (reach_marked : Nat → Int) (reach_queue : Nat → Int) (rows_highest : Int) (rows_width : Int) (rows_vector : Int) (rows_sums : Int64) (rows_count : Int) (rows_shape : Int) (rows_least : Nat → Int) (rows_columns : Nat → Int64) (rows_admitted : Nat → Int) (rounds_highest : Int) (rounds_width : Int) (rounds_vector : Int) (rounds_sums : Int64) (rounds_count : Int) (rounds_shape : Int) (rounds_least : Nat → Int) (rounds_columns : Nat → Int64) (rounds_admitted : Nat → Int) (sets_count : Int) (sets_shape : Int) (sets_takes : Nat → Int) (sets_loses : Nat → Int) (sets_gives : Nat → Int) (sets_least : Nat → Int) (story_length : Int) (story_entries : Nat → Int) (story_here : Nat → Int) (story_further : Nat → Int)  (res : Int × (Int)) (h : F_X5_blank story_length = some res) : Kt l yX5_blank cX5_blank 1 (some .int) ({ frames := 1, cells := 0, slots := 0, locals := 21 } : Room) D (xT g) [.ref (a 0)] (xW a g net_places net_firings net_now net_done net_shape net_state net_weights net_needed net_borne net_emptied net_taken net_given reach_queued reach_state reach_count reach_pairs reach_ends reach_tooGreat reach_found reach_slots reach_depths reach_foundBy reach_targets reach_lastInto reach_nextInto reach_marked reach_queue rows_highest rows_width rows_vector rows_sums rows_count rows_shape rows_least rows_columns rows_admitted rounds_highest rounds_width rounds_vector rounds_sums rounds_count rounds_shape rounds_least rounds_columns rounds_admitted sets_count sets_shape sets_takes sets_loses sets_gives sets_least story_length story_entries story_here story_further) (xW a g net_places net_firings net_now net_done net_shape net_state net_weights net_needed net_borne net_emptied net_taken net_given reach_queued reach_state reach_count reach_pairs reach_ends reach_tooGreat reach_found reach_slots reach_depths reach_foundBy reach_targets reach_lastInto reach_nextInto reach_marked reach_queue rows_highest rows_width rows_vector rows_sums rows_count rows_shape rows_least rows_columns rows_admitted rounds_highest rounds_width rounds_vector rounds_sums rounds_count rounds_shape rounds_least rounds_columns rounds_admitted sets_count sets_shape sets_takes sets_loses sets_gives sets_least res.2 story_entries story_here story_further) (some (.int (vI res.1))) :=
  kt_i (ty := .int) rfl rfl (by decide +kernel) (Nat.le_of_ble_eq_true rfl) (fun C RET => k_X5_blank C res h RET)
set_option maxRecDepth 100000 in
set_option maxHeartbeats 4000000 in
theorem k_X5_goes {a : Nat → Nat} {g : Nat → ClassId} {net_places : Int} {net_firings : Int} {net_now : Int64} {net_done : Int} {net_shape : Int} {net_state : Int} {net_weights : Nat → Int} {net_needed : Nat → Int64} {net_borne : Nat → Int64} {net_emptied : Nat → Int64} {net_taken : Nat → Int64} {net_given : Nat → Int64} {reach_queued : Int} {reach_state : Int} {reach_count : Int} {reach_pairs : Int} {reach_ends : Int} {reach_tooGreat : Int} {reach_found : Nat → Int64} {reach_slots : Nat → Int} {reach_depths : Nat → Int} {reach_foundBy : Nat → Int} {reach_targets : Nat → Int} {reach_lastInto : Nat → Int} {reach_nextInto : Nat → Int} {reach_marked : Nat → Int} {reach_queue : Nat → Int} {rows_highest : Int} {rows_width : Int} {rows_vector : Int} {rows_sums : Int64} {rows_count : Int} {rows_shape : Int} {rows_least : Nat → Int} {rows_columns : Nat → Int64} {rows_admitted : Nat → Int} {rounds_highest : Int} {rounds_width : Int} {rounds_vector : Int} {rounds_sums : Int64} {rounds_count : Int} {rounds_shape : Int} {rounds_least : Nat → Int} {rounds_columns : Nat → Int64} {rounds_admitted : Nat → Int} {sets_count : Int} {sets_shape : Int} {sets_takes : Nat → Int} {sets_loses : Nat → Int} {sets_gives : Nat → Int} {sets_least : Nat → Int} {story_length : Int} {story_entries : Nat → Int} {story_here : Nat → Int} {story_further : Nat → Int} (C : JC p s m args meth c cX5_goes 1 "MarkingHall" D (xT g) A)  (res : Int) (h : F_X5_goes net_now net_needed net_borne net_emptied net_taken net_given story_length story_entries = some res) (RET : ∀ (pc : Nat) (lv : List (Nat × Value)), decode cX5_goes pc = .ok (.ireturn, 1) → J p l e ({ frames := 3, cells := 0, slots := 0, locals := 69 } : Room) s m args below meth c D A 1 Q 0 0 (xW a g net_places net_firings net_now net_done net_shape net_state net_weights net_needed net_borne net_emptied net_taken net_given reach_queued reach_state reach_count reach_pairs reach_ends reach_tooGreat reach_found reach_slots reach_depths reach_foundBy reach_targets reach_lastInto reach_nextInto reach_marked reach_queue rows_highest rows_width rows_vector rows_sums rows_count rows_shape rows_least rows_columns rows_admitted rounds_highest rounds_width rounds_vector rounds_sums rounds_count rounds_shape rounds_least rounds_columns rounds_admitted sets_count sets_shape sets_takes sets_loses sets_gives sets_least story_length story_entries story_here story_further) pc lv [.int (vI res)]) : J p l e ({ frames := 3, cells := 0, slots := 0, locals := 69 } : Room) s m args below meth c D A 1 Q 0 0 (xW a g net_places net_firings net_now net_done net_shape net_state net_weights net_needed net_borne net_emptied net_taken net_given reach_queued reach_state reach_count reach_pairs reach_ends reach_tooGreat reach_found reach_slots reach_depths reach_foundBy reach_targets reach_lastInto reach_nextInto reach_marked reach_queue rows_highest rows_width rows_vector rows_sums rows_count rows_shape rows_least rows_columns rows_admitted rounds_highest rounds_width rounds_vector rounds_sums rounds_count rounds_shape rounds_least rounds_columns rounds_admitted sets_count sets_shape sets_takes sets_loses sets_gives sets_least story_length story_entries story_here story_further) 0 [(0, .ref (a 0))] [] := by
  unfold F_X5_goes at h
  refine j_aload_n C 0 rfl rfl dX5_goes_0 ?_
  refine g_X5_49 C (v := .ref (a 31)) 0 rfl rfl dX5_goes_1 ?_
  obtain ⟨r1, hr1, h⟩ := Ob_of h
  refine q_X5_213 C (wc := (xW a g net_places net_firings net_now net_done net_shape net_state net_weights net_needed net_borne net_emptied net_taken net_given reach_queued reach_state reach_count reach_pairs reach_ends reach_tooGreat reach_found reach_slots reach_depths reach_foundBy reach_targets reach_lastInto reach_nextInto reach_marked reach_queue rows_highest rows_width rows_vector rows_sums rows_count rows_shape rows_least rows_columns rows_admitted rounds_highest rounds_width rounds_vector rounds_sums rounds_count rounds_shape rounds_least rounds_columns rounds_admitted sets_count sets_shape sets_takes sets_loses sets_gives sets_least story_length story_entries story_here story_further)) (wc' := (xW a g net_places net_firings net_now net_done net_shape net_state net_weights net_needed net_borne net_emptied net_taken net_given reach_queued reach_state reach_count reach_pairs reach_ends reach_tooGreat reach_found reach_slots reach_depths reach_foundBy reach_targets reach_lastInto reach_nextInto reach_marked reach_queue rows_highest rows_width rows_vector rows_sums rows_count rows_shape rows_least rows_columns rows_admitted rounds_highest rounds_width rounds_vector rounds_sums rounds_count rounds_shape rounds_least rounds_columns rounds_admitted sets_count sets_shape sets_takes sets_loses sets_gives sets_least story_length story_entries story_here story_further)) (c_X2_reachesTo l D a g net_places net_firings net_now net_done net_shape net_state net_weights net_needed net_borne net_emptied net_taken net_given reach_queued reach_state reach_count reach_pairs reach_ends reach_tooGreat reach_found reach_slots reach_depths reach_foundBy reach_targets reach_lastInto reach_nextInto reach_marked reach_queue rows_highest rows_width rows_vector rows_sums rows_count rows_shape rows_least rows_columns rows_admitted rounds_highest rounds_width rounds_vector rounds_sums rounds_count rounds_shape rounds_least rounds_columns rounds_admitted sets_count sets_shape sets_takes sets_loses sets_gives sets_least story_length story_entries story_here story_further r1 hr1) ⟨(Nat.le_of_ble_eq_true rfl), (Nat.le_of_ble_eq_true rfl)⟩ rfl rfl 31 rfl rfl (ww _) (ww _) rfl C.2.2.2.2.2.2.1 (Nat.le_of_ble_eq_true rfl) rfl rfl (Nat.zero_le _) (Nat.zero_le _) dX5_goes_4 ?_
  cases h
  exact RET _ _ dX5_goes_7
theorem c_X5_goes (l : Launch) (D : va_G) (a : Nat → Nat) (g : Nat → ClassId) (net_places : Int) (net_firings : Int) (net_now : Int64) (net_done : Int) (net_shape : Int) (net_state : Int) (net_weights : Nat → Int) (net_needed : Nat → Int64) (net_borne : Nat → Int64) (net_emptied : Nat → Int64) (net_taken : Nat → Int64) (net_given : Nat → Int64) (reach_queued : Int) (reach_state : Int) (reach_count : Int) (reach_pairs : Int) (reach_ends : Int) (reach_tooGreat : Int) (reach_found : Nat → Int64) (reach_slots : Nat → Int) (reach_depths : Nat → Int) (reach_foundBy : Nat → Int) (reach_targets : Nat → Int) (reach_lastInto : Nat → Int) (reach_nextInto : Nat → Int) (reach_marked : Nat → Int) (reach_queue : Nat → Int) (rows_highest : Int) (rows_width : Int) (rows_vector : Int) (rows_sums : Int64) (rows_count : Int) (rows_shape : Int) (rows_least : Nat → Int) (rows_columns : Nat → Int64) (rows_admitted : Nat → Int) (rounds_highest : Int) (rounds_width : Int) (rounds_vector : Int) (rounds_sums : Int64) (rounds_count : Int) (rounds_shape : Int) (rounds_least : Nat → Int) (rounds_columns : Nat → Int64) (rounds_admitted : Nat → Int) (sets_count : Int) (sets_shape : Int) (sets_takes : Nat → Int) (sets_loses : Nat → Int) (sets_gives : Nat → Int) (sets_least : Nat → Int) (story_length : Int) (story_entries : Nat → Int) (story_here : Nat → Int) (story_further : Nat → Int)  (res : Int) (h : F_X5_goes net_now net_needed net_borne net_emptied net_taken net_given story_length story_entries = some res) : Kt l yX5_goes cX5_goes 1 (some .int) ({ frames := 3, cells := 0, slots := 0, locals := 69 } : Room) D (xT g) [.ref (a 0)] (xW a g net_places net_firings net_now net_done net_shape net_state net_weights net_needed net_borne net_emptied net_taken net_given reach_queued reach_state reach_count reach_pairs reach_ends reach_tooGreat reach_found reach_slots reach_depths reach_foundBy reach_targets reach_lastInto reach_nextInto reach_marked reach_queue rows_highest rows_width rows_vector rows_sums rows_count rows_shape rows_least rows_columns rows_admitted rounds_highest rounds_width rounds_vector rounds_sums rounds_count rounds_shape rounds_least rounds_columns rounds_admitted sets_count sets_shape sets_takes sets_loses sets_gives sets_least story_length story_entries story_here story_further) (xW a g net_places net_firings net_now net_done net_shape net_state net_weights net_needed net_borne net_emptied net_taken net_given reach_queued reach_state reach_count reach_pairs reach_ends reach_tooGreat reach_found reach_slots reach_depths reach_foundBy reach_targets reach_lastInto reach_nextInto reach_marked reach_queue rows_highest rows_width rows_vector rows_sums rows_count rows_shape rows_least rows_columns rows_admitted rounds_highest rounds_width rounds_vector rounds_sums rounds_count rounds_shape rounds_least rounds_columns rounds_admitted sets_count sets_shape sets_takes sets_loses sets_gives sets_least story_length story_entries story_here story_further) (some (.int (vI res))) :=
  kt_i (ty := .int) rfl rfl (by decide +kernel) (Nat.le_of_ble_eq_true rfl) (fun C RET => k_X5_goes C res h RET)
set_option maxRecDepth 100000 in
set_option maxHeartbeats 4000000 in
theorem k_X5_cost {a : Nat → Nat} {g : Nat → ClassId} {net_places : Int} {net_firings : Int} {net_now : Int64} {net_done : Int} {net_shape : Int} {net_state : Int} {net_weights : Nat → Int} {net_needed : Nat → Int64} {net_borne : Nat → Int64} {net_emptied : Nat → Int64} {net_taken : Nat → Int64} {net_given : Nat → Int64} {reach_queued : Int} {reach_state : Int} {reach_count : Int} {reach_pairs : Int} {reach_ends : Int} {reach_tooGreat : Int} {reach_found : Nat → Int64} {reach_slots : Nat → Int} {reach_depths : Nat → Int} {reach_foundBy : Nat → Int} {reach_targets : Nat → Int} {reach_lastInto : Nat → Int} {reach_nextInto : Nat → Int} {reach_marked : Nat → Int} {reach_queue : Nat → Int} {rows_highest : Int} {rows_width : Int} {rows_vector : Int} {rows_sums : Int64} {rows_count : Int} {rows_shape : Int} {rows_least : Nat → Int} {rows_columns : Nat → Int64} {rows_admitted : Nat → Int} {rounds_highest : Int} {rounds_width : Int} {rounds_vector : Int} {rounds_sums : Int64} {rounds_count : Int} {rounds_shape : Int} {rounds_least : Nat → Int} {rounds_columns : Nat → Int64} {rounds_admitted : Nat → Int} {sets_count : Int} {sets_shape : Int} {sets_takes : Nat → Int} {sets_loses : Nat → Int} {sets_gives : Nat → Int} {sets_least : Nat → Int} {story_length : Int} {story_entries : Nat → Int} {story_here : Nat → Int} {story_further : Nat → Int} (C : JC p s m args meth c cX5_cost 1 "MarkingHall" D (xT g) A)  (res : Int × (Int) × (Int) × (Int) × (Int) × (Int) × (Nat → Int64) × (Nat → Int) × (Nat → Int) × (Nat → Int) × (Nat → Int) × (Nat → Int) × (Nat → Int) × (Nat → Int) × (Nat → Int)) (h : F_X5_cost net_firings net_now net_state net_needed net_borne net_emptied net_taken net_given story_length story_entries reach_state reach_count reach_pairs reach_ends reach_tooGreat reach_found reach_slots reach_depths reach_foundBy reach_targets reach_lastInto reach_nextInto story_here story_further = some res) (RET : ∀ (pc : Nat) (lv : List (Nat × Value)), decode cX5_cost pc = .ok (.ireturn, 1) → J p l e ({ frames := 5, cells := 0, slots := 0, locals := 121 } : Room) s m args below meth c D A 1 Q 0 0 (xW a g net_places net_firings net_now net_done net_shape net_state net_weights net_needed net_borne net_emptied net_taken net_given reach_queued res.2.1 res.2.2.1 res.2.2.2.1 res.2.2.2.2.1 res.2.2.2.2.2.1 res.2.2.2.2.2.2.1 res.2.2.2.2.2.2.2.1 res.2.2.2.2.2.2.2.2.1 res.2.2.2.2.2.2.2.2.2.1 res.2.2.2.2.2.2.2.2.2.2.1 res.2.2.2.2.2.2.2.2.2.2.2.1 res.2.2.2.2.2.2.2.2.2.2.2.2.1 reach_marked reach_queue rows_highest rows_width rows_vector rows_sums rows_count rows_shape rows_least rows_columns rows_admitted rounds_highest rounds_width rounds_vector rounds_sums rounds_count rounds_shape rounds_least rounds_columns rounds_admitted sets_count sets_shape sets_takes sets_loses sets_gives sets_least story_length story_entries res.2.2.2.2.2.2.2.2.2.2.2.2.2.1 res.2.2.2.2.2.2.2.2.2.2.2.2.2.2) pc lv [.int (vI res.1)]) : J p l e ({ frames := 5, cells := 0, slots := 0, locals := 121 } : Room) s m args below meth c D A 1 Q 0 0 (xW a g net_places net_firings net_now net_done net_shape net_state net_weights net_needed net_borne net_emptied net_taken net_given reach_queued reach_state reach_count reach_pairs reach_ends reach_tooGreat reach_found reach_slots reach_depths reach_foundBy reach_targets reach_lastInto reach_nextInto reach_marked reach_queue rows_highest rows_width rows_vector rows_sums rows_count rows_shape rows_least rows_columns rows_admitted rounds_highest rounds_width rounds_vector rounds_sums rounds_count rounds_shape rounds_least rounds_columns rounds_admitted sets_count sets_shape sets_takes sets_loses sets_gives sets_least story_length story_entries story_here story_further) 0 [(0, .ref (a 0))] [] := by
  unfold F_X5_cost at h
  refine j_aload_n C 0 rfl rfl dX5_cost_0 ?_
  refine g_X5_21 C (v := .ref (a 8)) 0 rfl rfl dX5_cost_1 ?_
  obtain ⟨r1, hr1, h⟩ := Ob_of h
  refine q_X5_117 C (wc := (xW a g net_places net_firings net_now net_done net_shape net_state net_weights net_needed net_borne net_emptied net_taken net_given reach_queued reach_state reach_count reach_pairs reach_ends reach_tooGreat reach_found reach_slots reach_depths reach_foundBy reach_targets reach_lastInto reach_nextInto reach_marked reach_queue rows_highest rows_width rows_vector rows_sums rows_count rows_shape rows_least rows_columns rows_admitted rounds_highest rounds_width rounds_vector rounds_sums rounds_count rounds_shape rounds_least rounds_columns rounds_admitted sets_count sets_shape sets_takes sets_loses sets_gives sets_least story_length story_entries story_here story_further)) (wc' := (xW a g net_places net_firings net_now net_done net_shape net_state net_weights net_needed net_borne net_emptied net_taken net_given reach_queued r1.1 r1.2.1 r1.2.2.1 r1.2.2.2.1 r1.2.2.2.2.1 r1.2.2.2.2.2.1 r1.2.2.2.2.2.2.1 r1.2.2.2.2.2.2.2.1 r1.2.2.2.2.2.2.2.2.1 r1.2.2.2.2.2.2.2.2.2.1 r1.2.2.2.2.2.2.2.2.2.2.1 r1.2.2.2.2.2.2.2.2.2.2.2 reach_marked reach_queue rows_highest rows_width rows_vector rows_sums rows_count rows_shape rows_least rows_columns rows_admitted rounds_highest rounds_width rounds_vector rounds_sums rounds_count rounds_shape rounds_least rounds_columns rounds_admitted sets_count sets_shape sets_takes sets_loses sets_gives sets_least story_length story_entries story_here story_further)) (c_X1_refresh l D a g net_places net_firings net_now net_done net_shape net_state net_weights net_needed net_borne net_emptied net_taken net_given reach_queued reach_state reach_count reach_pairs reach_ends reach_tooGreat reach_found reach_slots reach_depths reach_foundBy reach_targets reach_lastInto reach_nextInto reach_marked reach_queue rows_highest rows_width rows_vector rows_sums rows_count rows_shape rows_least rows_columns rows_admitted rounds_highest rounds_width rounds_vector rounds_sums rounds_count rounds_shape rounds_least rounds_columns rounds_admitted sets_count sets_shape sets_takes sets_loses sets_gives sets_least story_length story_entries story_here story_further r1 hr1) ⟨(Nat.le_of_ble_eq_true rfl), (Nat.le_of_ble_eq_true rfl)⟩ rfl rfl 8 rfl rfl (ww _) (ww _) xW_ha C.2.2.2.2.2.2.1 (Nat.le_of_ble_eq_true rfl) rfl rfl (Nat.zero_le _) (Nat.zero_le _) dX5_cost_4 ?_
  refine j_aload_n C 0 rfl rfl dX5_cost_7 ?_
  refine g_X5_21 C (v := .ref (a 8)) 0 rfl rfl dX5_cost_8 ?_
  refine g_X5_120 C (v := .int (vI r1.2.2.2.2.1)) 8 rfl rfl dX5_cost_11 ?_
  refine j_if_eq C h 21 (by decide) dX5_cost_14 (fun c3 h => ?_) (fun c3 h => ?_)
  · refine j_aload_n C 0 rfl rfl dX5_cost_21 ?_
    refine g_X5_49 C (v := .ref (a 31)) 0 rfl rfl dX5_cost_22 ?_
    obtain ⟨r2, hr2, h⟩ := Ob_of h
    refine q_X5_216 C (wc := (xW a g net_places net_firings net_now net_done net_shape net_state net_weights net_needed net_borne net_emptied net_taken net_given reach_queued r1.1 r1.2.1 r1.2.2.1 r1.2.2.2.1 r1.2.2.2.2.1 r1.2.2.2.2.2.1 r1.2.2.2.2.2.2.1 r1.2.2.2.2.2.2.2.1 r1.2.2.2.2.2.2.2.2.1 r1.2.2.2.2.2.2.2.2.2.1 r1.2.2.2.2.2.2.2.2.2.2.1 r1.2.2.2.2.2.2.2.2.2.2.2 reach_marked reach_queue rows_highest rows_width rows_vector rows_sums rows_count rows_shape rows_least rows_columns rows_admitted rounds_highest rounds_width rounds_vector rounds_sums rounds_count rounds_shape rounds_least rounds_columns rounds_admitted sets_count sets_shape sets_takes sets_loses sets_gives sets_least story_length story_entries story_here story_further)) (wc' := (xW a g net_places net_firings net_now net_done net_shape net_state net_weights net_needed net_borne net_emptied net_taken net_given reach_queued r1.1 r1.2.1 r1.2.2.1 r1.2.2.2.1 r1.2.2.2.2.1 r1.2.2.2.2.2.1 r1.2.2.2.2.2.2.1 r1.2.2.2.2.2.2.2.1 r1.2.2.2.2.2.2.2.2.1 r1.2.2.2.2.2.2.2.2.2.1 r1.2.2.2.2.2.2.2.2.2.2.1 r1.2.2.2.2.2.2.2.2.2.2.2 reach_marked reach_queue rows_highest rows_width rows_vector rows_sums rows_count rows_shape rows_least rows_columns rows_admitted rounds_highest rounds_width rounds_vector rounds_sums rounds_count rounds_shape rounds_least rounds_columns rounds_admitted sets_count sets_shape sets_takes sets_loses sets_gives sets_least story_length story_entries r2.2.1 r2.2.2)) (c_X2_leastCost l D a g net_places net_firings net_now net_done net_shape net_state net_weights net_needed net_borne net_emptied net_taken net_given reach_queued r1.1 r1.2.1 r1.2.2.1 r1.2.2.2.1 r1.2.2.2.2.1 r1.2.2.2.2.2.1 r1.2.2.2.2.2.2.1 r1.2.2.2.2.2.2.2.1 r1.2.2.2.2.2.2.2.2.1 r1.2.2.2.2.2.2.2.2.2.1 r1.2.2.2.2.2.2.2.2.2.2.1 r1.2.2.2.2.2.2.2.2.2.2.2 reach_marked reach_queue rows_highest rows_width rows_vector rows_sums rows_count rows_shape rows_least rows_columns rows_admitted rounds_highest rounds_width rounds_vector rounds_sums rounds_count rounds_shape rounds_least rounds_columns rounds_admitted sets_count sets_shape sets_takes sets_loses sets_gives sets_least story_length story_entries story_here story_further r2 hr2) ⟨(Nat.le_of_ble_eq_true rfl), (Nat.le_of_ble_eq_true rfl)⟩ rfl rfl 31 rfl rfl (ww _) (ww _) xW_ha C.2.2.2.2.2.2.1 (Nat.le_of_ble_eq_true rfl) rfl rfl (Nat.zero_le _) (Nat.zero_le _) dX5_cost_25 ?_
    cases h
    exact RET _ _ dX5_cost_28
  · refine j_iconst C dX5_cost_17 ?_
    refine j_goto C 28 (by decide) dX5_cost_18 ?_
    cases h
    exact RET _ _ dX5_cost_28
theorem c_X5_cost (l : Launch) (D : va_G) (a : Nat → Nat) (g : Nat → ClassId) (net_places : Int) (net_firings : Int) (net_now : Int64) (net_done : Int) (net_shape : Int) (net_state : Int) (net_weights : Nat → Int) (net_needed : Nat → Int64) (net_borne : Nat → Int64) (net_emptied : Nat → Int64) (net_taken : Nat → Int64) (net_given : Nat → Int64) (reach_queued : Int) (reach_state : Int) (reach_count : Int) (reach_pairs : Int) (reach_ends : Int) (reach_tooGreat : Int) (reach_found : Nat → Int64) (reach_slots : Nat → Int) (reach_depths : Nat → Int) (reach_foundBy : Nat → Int) (reach_targets : Nat → Int) (reach_lastInto : Nat → Int) (reach_nextInto : Nat → Int) (reach_marked : Nat → Int) (reach_queue : Nat → Int) (rows_highest : Int) (rows_width : Int) (rows_vector : Int) (rows_sums : Int64) (rows_count : Int) (rows_shape : Int) (rows_least : Nat → Int) (rows_columns : Nat → Int64) (rows_admitted : Nat → Int) (rounds_highest : Int) (rounds_width : Int) (rounds_vector : Int) (rounds_sums : Int64) (rounds_count : Int) (rounds_shape : Int) (rounds_least : Nat → Int) (rounds_columns : Nat → Int64) (rounds_admitted : Nat → Int) (sets_count : Int) (sets_shape : Int) (sets_takes : Nat → Int) (sets_loses : Nat → Int) (sets_gives : Nat → Int) (sets_least : Nat → Int) (story_length : Int) (story_entries : Nat → Int) (story_here : Nat → Int) (story_further : Nat → Int)  (res : Int × (Int) × (Int) × (Int) × (Int) × (Int) × (Nat → Int64) × (Nat → Int) × (Nat → Int) × (Nat → Int) × (Nat → Int) × (Nat → Int) × (Nat → Int) × (Nat → Int) × (Nat → Int)) (h : F_X5_cost net_firings net_now net_state net_needed net_borne net_emptied net_taken net_given story_length story_entries reach_state reach_count reach_pairs reach_ends reach_tooGreat reach_found reach_slots reach_depths reach_foundBy reach_targets reach_lastInto reach_nextInto story_here story_further = some res) : Kt l yX5_cost cX5_cost 1 (some .int) ({ frames := 5, cells := 0, slots := 0, locals := 121 } : Room) D (xT g) [.ref (a 0)] (xW a g net_places net_firings net_now net_done net_shape net_state net_weights net_needed net_borne net_emptied net_taken net_given reach_queued reach_state reach_count reach_pairs reach_ends reach_tooGreat reach_found reach_slots reach_depths reach_foundBy reach_targets reach_lastInto reach_nextInto reach_marked reach_queue rows_highest rows_width rows_vector rows_sums rows_count rows_shape rows_least rows_columns rows_admitted rounds_highest rounds_width rounds_vector rounds_sums rounds_count rounds_shape rounds_least rounds_columns rounds_admitted sets_count sets_shape sets_takes sets_loses sets_gives sets_least story_length story_entries story_here story_further) (xW a g net_places net_firings net_now net_done net_shape net_state net_weights net_needed net_borne net_emptied net_taken net_given reach_queued res.2.1 res.2.2.1 res.2.2.2.1 res.2.2.2.2.1 res.2.2.2.2.2.1 res.2.2.2.2.2.2.1 res.2.2.2.2.2.2.2.1 res.2.2.2.2.2.2.2.2.1 res.2.2.2.2.2.2.2.2.2.1 res.2.2.2.2.2.2.2.2.2.2.1 res.2.2.2.2.2.2.2.2.2.2.2.1 res.2.2.2.2.2.2.2.2.2.2.2.2.1 reach_marked reach_queue rows_highest rows_width rows_vector rows_sums rows_count rows_shape rows_least rows_columns rows_admitted rounds_highest rounds_width rounds_vector rounds_sums rounds_count rounds_shape rounds_least rounds_columns rounds_admitted sets_count sets_shape sets_takes sets_loses sets_gives sets_least story_length story_entries res.2.2.2.2.2.2.2.2.2.2.2.2.2.1 res.2.2.2.2.2.2.2.2.2.2.2.2.2.2) (some (.int (vI res.1))) :=
  kt_i (ty := .int) rfl rfl (by decide +kernel) (Nat.le_of_ble_eq_true rfl) (fun C RET => k_X5_cost C res h RET)
set_option maxRecDepth 100000 in
set_option maxHeartbeats 4000000 in
theorem k_X6_thrown {b : Nat → Nat} {gm : Nat → ClassId} {mod_thrown : Int} {mod_places : Int} {mod_firings : Int} {mod_fired : Int} {mod_logged : Int} {mod_tokens : Nat → Int} {mod_weights : Nat → Int} {mod_logs : Nat → Int} {mod_marks : Nat → Int} {mod_whence : Nat → Int} {mod_by : Nat → Int} {mod_leads : Nat → Int} {mod_comes : Nat → Int} {mod_costs : Nat → Int} {mod_next : Nat → Int} {mod_found : Nat → Int} (C : JC p s m args meth c cX6_thrown 1 "MarkingHallModel" D (mT gm) A)  (res : Int) (h : F_X6_thrown mod_thrown = some res) (RET : ∀ (pc : Nat) (lv : List (Nat × Value)), decode cX6_thrown pc = .ok (.ireturn, 1) → J p l e ({ frames := 0, cells := 0, slots := 0, locals := 0 } : Room) s m args below meth c D A 1 Q 0 0 (mW b gm mod_thrown mod_places mod_firings mod_fired mod_logged mod_tokens mod_weights mod_logs mod_marks mod_whence mod_by mod_leads mod_comes mod_costs mod_next mod_found) pc lv [.int (vI res)]) : J p l e ({ frames := 0, cells := 0, slots := 0, locals := 0 } : Room) s m args below meth c D A 1 Q 0 0 (mW b gm mod_thrown mod_places mod_firings mod_fired mod_logged mod_tokens mod_weights mod_logs mod_marks mod_whence mod_by mod_leads mod_comes mod_costs mod_next mod_found) 0 [(0, .ref (b 0))] [] := by
  unfold F_X6_thrown at h
  refine j_aload_n C 0 rfl rfl dX6_thrown_0 ?_
  refine g_X6_44 C (v := .int (vI mod_thrown)) 0 rfl rfl dX6_thrown_1 ?_
  cases h
  exact RET _ _ dX6_thrown_4
theorem c_X6_thrown (l : Launch) (D : va_G) (b : Nat → Nat) (gm : Nat → ClassId) (mod_thrown : Int) (mod_places : Int) (mod_firings : Int) (mod_fired : Int) (mod_logged : Int) (mod_tokens : Nat → Int) (mod_weights : Nat → Int) (mod_logs : Nat → Int) (mod_marks : Nat → Int) (mod_whence : Nat → Int) (mod_by : Nat → Int) (mod_leads : Nat → Int) (mod_comes : Nat → Int) (mod_costs : Nat → Int) (mod_next : Nat → Int) (mod_found : Nat → Int)  (res : Int) (h : F_X6_thrown mod_thrown = some res) : Kt l yX6_thrown cX6_thrown 1 (some .int) ({ frames := 0, cells := 0, slots := 0, locals := 0 } : Room) D (mT gm) [.ref (b 0)] (mW b gm mod_thrown mod_places mod_firings mod_fired mod_logged mod_tokens mod_weights mod_logs mod_marks mod_whence mod_by mod_leads mod_comes mod_costs mod_next mod_found) (mW b gm mod_thrown mod_places mod_firings mod_fired mod_logged mod_tokens mod_weights mod_logs mod_marks mod_whence mod_by mod_leads mod_comes mod_costs mod_next mod_found) (some (.int (vI res))) :=
  kt_i (ty := .int) rfl rfl (by decide +kernel) (Nat.le_of_ble_eq_true rfl) (fun C RET => k_X6_thrown C res h RET)
set_option maxRecDepth 100000 in
set_option maxHeartbeats 4000000 in
theorem k_X6_goesWell {b : Nat → Nat} {gm : Nat → ClassId} {mod_thrown : Int} {mod_places : Int} {mod_firings : Int} {mod_fired : Int} {mod_logged : Int} {mod_tokens : Nat → Int} {mod_weights : Nat → Int} {mod_logs : Nat → Int} {mod_marks : Nat → Int} {mod_whence : Nat → Int} {mod_by : Nat → Int} {mod_leads : Nat → Int} {mod_comes : Nat → Int} {mod_costs : Nat → Int} {mod_next : Nat → Int} {mod_found : Nat → Int} (C : JC p s m args meth c cX6_goesWell 2 "MarkingHallModel" D (mT gm) A) (x1 : Int) (res : Int × (Int)) (h : F_X6_goesWell x1 mod_thrown = some res) (RET : ∀ (pc : Nat) (lv : List (Nat × Value)), (res.1 = 0 ∨ res.1 = 1) → decode cX6_goesWell pc = .ok (.ireturn, 1) → J p l e ({ frames := 0, cells := 0, slots := 0, locals := 0 } : Room) s m args below meth c D A 2 Q 0 0 (mW b gm res.2 mod_places mod_firings mod_fired mod_logged mod_tokens mod_weights mod_logs mod_marks mod_whence mod_by mod_leads mod_comes mod_costs mod_next mod_found) pc lv [.int (vI res.1)]) : J p l e ({ frames := 0, cells := 0, slots := 0, locals := 0 } : Room) s m args below meth c D A 2 Q 0 0 (mW b gm mod_thrown mod_places mod_firings mod_fired mod_logged mod_tokens mod_weights mod_logs mod_marks mod_whence mod_by mod_leads mod_comes mod_costs mod_next mod_found) 0 [(0, .ref (b 0)), (1, .int (vI x1))] [] := by
  unfold F_X6_goesWell at h
  refine j_aload_n C 0 rfl rfl dX6_goesWell_0 ?_
  refine j_iload_n C 1 rfl rfl dX6_goesWell_1 ?_
  refine p_X6_44 C 0 rfl (Nat.le_of_ble_eq_true rfl) (mW b gm x1 mod_places mod_firings mod_fired mod_logged mod_tokens mod_weights mod_logs mod_marks mod_whence mod_by mod_leads mod_comes mod_costs mod_next mod_found) rfl dX6_goesWell_2 ?_
  refine j_iload_n C 1 rfl rfl dX6_goesWell_5 ?_
  refine j_if_ne C h 13 (by decide) dX6_goesWell_6 (fun c3 h => ?_) (fun c3 h => ?_)
  · refine j_iconst C dX6_goesWell_13 ?_
    obtain ⟨hz1, h⟩ := G_of h
    cases h
    exact RET _ _ hz1 dX6_goesWell_14
  · refine j_iconst C dX6_goesWell_9 ?_
    refine j_goto C 14 (by decide) dX6_goesWell_10 ?_
    obtain ⟨hz2, h⟩ := G_of h
    cases h
    exact RET _ _ hz2 dX6_goesWell_14
theorem c_X6_goesWell (l : Launch) (D : va_G) (b : Nat → Nat) (gm : Nat → ClassId) (mod_thrown : Int) (mod_places : Int) (mod_firings : Int) (mod_fired : Int) (mod_logged : Int) (mod_tokens : Nat → Int) (mod_weights : Nat → Int) (mod_logs : Nat → Int) (mod_marks : Nat → Int) (mod_whence : Nat → Int) (mod_by : Nat → Int) (mod_leads : Nat → Int) (mod_comes : Nat → Int) (mod_costs : Nat → Int) (mod_next : Nat → Int) (mod_found : Nat → Int) (x1 : Int) (res : Int × (Int)) (h : F_X6_goesWell x1 mod_thrown = some res) : Kt l yX6_goesWell cX6_goesWell 2 (some .boolean) ({ frames := 0, cells := 0, slots := 0, locals := 0 } : Room) D (mT gm) [.ref (b 0), .int (vI x1)] (mW b gm mod_thrown mod_places mod_firings mod_fired mod_logged mod_tokens mod_weights mod_logs mod_marks mod_whence mod_by mod_leads mod_comes mod_costs mod_next mod_found) (mW b gm res.2 mod_places mod_firings mod_fired mod_logged mod_tokens mod_weights mod_logs mod_marks mod_whence mod_by mod_leads mod_comes mod_costs mod_next mod_found) (some (.int (vI res.1))) :=
  kt_z rfl (by decide +kernel) (Nat.le_of_ble_eq_true rfl) (fun C RET => k_X6_goesWell C x1 res h RET)
set_option maxRecDepth 100000 in
set_option maxHeartbeats 4000000 in
theorem k_X6_in {ws : va_W} {tys : List (ClassId × FieldType)} (C : JC p s m args meth c cX6_in 3 "MarkingHallModel" D tys A) (x0 : Int) (x1 : Int) (x2 : Int) (res : Int) (h : F_X6_in x0 x1 x2 = some res) (RET : ∀ (pc : Nat) (lv : List (Nat × Value)), (res = 0 ∨ res = 1) → decode cX6_in pc = .ok (.ireturn, 1) → J p l e ({ frames := 0, cells := 0, slots := 0, locals := 0 } : Room) s m args below meth c D A 3 Q 0 0 ws pc lv [.int (vI res)]) : J p l e ({ frames := 0, cells := 0, slots := 0, locals := 0 } : Room) s m args below meth c D A 3 Q 0 0 ws 0 [(0, .int (vI x0)), (1, .int (vI x1)), (2, .int (vI x2))] [] := by
  have J14 : F_X6_in_b14 = some res → J p l e ({ frames := 0, cells := 0, slots := 0, locals := 0 } : Room) s m args below meth c D A 3 Q 0 0 ws 14 [] [] := by
    intro h
    unfold F_X6_in_b14 at h
    refine j_iconst C dX6_in_14 ?_
    obtain ⟨hz1, h⟩ := G_of h
    cases h
    exact RET _ _ hz1 dX6_in_15
  unfold F_X6_in at h
  refine j_iload_n C 0 rfl rfl dX6_in_0 ?_
  refine j_iload_n C 1 rfl rfl dX6_in_1 ?_
  refine j_icmp_lt C h 14 (by decide) dX6_in_2 (fun c4 h => ?_) (fun c4 h => ?_)
  · refine j_lv [] rfl ?_
    exact J14 h
  · refine j_iload_n C 0 rfl rfl dX6_in_5 ?_
    refine j_iload_n C 2 rfl rfl dX6_in_6 ?_
    refine j_icmp_gt C h 14 (by decide) dX6_in_7 (fun c3 h => ?_) (fun c3 h => ?_)
    · refine j_lv [] rfl ?_
      exact J14 h
    · refine j_iconst C dX6_in_10 ?_
      refine j_goto C 15 (by decide) dX6_in_11 ?_
      obtain ⟨hz2, h⟩ := G_of h
      cases h
      exact RET _ _ hz2 dX6_in_15
theorem c_X6_in (l : Launch) (D : va_G) (tys : List (ClassId × FieldType)) (ws : va_W) (x0 : Int) (x1 : Int) (x2 : Int) (res : Int) (h : F_X6_in x0 x1 x2 = some res) : Kt l yX6_in cX6_in 3 (some .boolean) ({ frames := 0, cells := 0, slots := 0, locals := 0 } : Room) D tys [.int (vI x0), .int (vI x1), .int (vI x2)] ws ws (some (.int (vI res))) :=
  kt_z rfl (by decide +kernel) (Nat.le_of_ble_eq_true rfl) (fun C RET => k_X6_in C x0 x1 x2 res h RET)
set_option maxRecDepth 100000 in
set_option maxHeartbeats 4000000 in
theorem k_X6_isPlace {b : Nat → Nat} {gm : Nat → ClassId} {mod_thrown : Int} {mod_places : Int} {mod_firings : Int} {mod_fired : Int} {mod_logged : Int} {mod_tokens : Nat → Int} {mod_weights : Nat → Int} {mod_logs : Nat → Int} {mod_marks : Nat → Int} {mod_whence : Nat → Int} {mod_by : Nat → Int} {mod_leads : Nat → Int} {mod_comes : Nat → Int} {mod_costs : Nat → Int} {mod_next : Nat → Int} {mod_found : Nat → Int} (C : JC p s m args meth c cX6_isPlace 2 "MarkingHallModel" D (mT gm) A) (x1 : Int) (res : Int) (h : F_X6_isPlace x1 mod_places = some res) (RET : ∀ (pc : Nat) (lv : List (Nat × Value)), (res = 0 ∨ res = 1) → decode cX6_isPlace pc = .ok (.ireturn, 1) → J p l e ({ frames := 1, cells := 0, slots := 0, locals := 22 } : Room) s m args below meth c D A 2 Q 0 0 (mW b gm mod_thrown mod_places mod_firings mod_fired mod_logged mod_tokens mod_weights mod_logs mod_marks mod_whence mod_by mod_leads mod_comes mod_costs mod_next mod_found) pc lv [.int (vI res)]) : J p l e ({ frames := 1, cells := 0, slots := 0, locals := 22 } : Room) s m args below meth c D A 2 Q 0 0 (mW b gm mod_thrown mod_places mod_firings mod_fired mod_logged mod_tokens mod_weights mod_logs mod_marks mod_whence mod_by mod_leads mod_comes mod_costs mod_next mod_found) 0 [(0, .ref (b 0)), (1, .int (vI x1))] [] := by
  unfold F_X6_isPlace at h
  refine j_iload_n C 1 rfl rfl dX6_isPlace_0 ?_
  refine j_iconst C dX6_isPlace_1 ?_
  refine j_aload_n C 0 rfl rfl dX6_isPlace_2 ?_
  refine g_X6_48 C (v := .int (vI mod_places)) 0 rfl rfl dX6_isPlace_3 ?_
  refine j_iconst C dX6_isPlace_6 ?_
  refine j_isub C dX6_isPlace_7 ?_
  obtain ⟨r1, hr1, h⟩ := Ob_of h
  refine q_X6_51 C (wc := (mW b gm mod_thrown mod_places mod_firings mod_fired mod_logged mod_tokens mod_weights mod_logs mod_marks mod_whence mod_by mod_leads mod_comes mod_costs mod_next mod_found)) (wc' := (mW b gm mod_thrown mod_places mod_firings mod_fired mod_logged mod_tokens mod_weights mod_logs mod_marks mod_whence mod_by mod_leads mod_comes mod_costs mod_next mod_found)) (c_X6_in l D _ _ x1 0 (mod_places - 1) r1 hr1) ⟨(Nat.le_of_ble_eq_true rfl), (Nat.le_of_ble_eq_true rfl)⟩ rfl rfl rfl (ww _) (ww _) rfl C.2.2.2.2.2.2.1 (Nat.le_of_ble_eq_true rfl) rfl rfl (Nat.zero_le _) (Nat.zero_le _) dX6_isPlace_8 ?_
  obtain ⟨hz2, h⟩ := G_of h
  cases h
  exact RET _ _ hz2 dX6_isPlace_11
theorem c_X6_isPlace (l : Launch) (D : va_G) (b : Nat → Nat) (gm : Nat → ClassId) (mod_thrown : Int) (mod_places : Int) (mod_firings : Int) (mod_fired : Int) (mod_logged : Int) (mod_tokens : Nat → Int) (mod_weights : Nat → Int) (mod_logs : Nat → Int) (mod_marks : Nat → Int) (mod_whence : Nat → Int) (mod_by : Nat → Int) (mod_leads : Nat → Int) (mod_comes : Nat → Int) (mod_costs : Nat → Int) (mod_next : Nat → Int) (mod_found : Nat → Int) (x1 : Int) (res : Int) (h : F_X6_isPlace x1 mod_places = some res) : Kt l yX6_isPlace cX6_isPlace 2 (some .boolean) ({ frames := 1, cells := 0, slots := 0, locals := 22 } : Room) D (mT gm) [.ref (b 0), .int (vI x1)] (mW b gm mod_thrown mod_places mod_firings mod_fired mod_logged mod_tokens mod_weights mod_logs mod_marks mod_whence mod_by mod_leads mod_comes mod_costs mod_next mod_found) (mW b gm mod_thrown mod_places mod_firings mod_fired mod_logged mod_tokens mod_weights mod_logs mod_marks mod_whence mod_by mod_leads mod_comes mod_costs mod_next mod_found) (some (.int (vI res))) :=
  kt_z rfl (by decide +kernel) (Nat.le_of_ble_eq_true rfl) (fun C RET => k_X6_isPlace C x1 res h RET)
set_option maxRecDepth 100000 in
set_option maxHeartbeats 4000000 in
theorem k_X6_isFiring {b : Nat → Nat} {gm : Nat → ClassId} {mod_thrown : Int} {mod_places : Int} {mod_firings : Int} {mod_fired : Int} {mod_logged : Int} {mod_tokens : Nat → Int} {mod_weights : Nat → Int} {mod_logs : Nat → Int} {mod_marks : Nat → Int} {mod_whence : Nat → Int} {mod_by : Nat → Int} {mod_leads : Nat → Int} {mod_comes : Nat → Int} {mod_costs : Nat → Int} {mod_next : Nat → Int} {mod_found : Nat → Int} (C : JC p s m args meth c cX6_isFiring 2 "MarkingHallModel" D (mT gm) A) (x1 : Int) (res : Int) (h : F_X6_isFiring x1 mod_firings = some res) (RET : ∀ (pc : Nat) (lv : List (Nat × Value)), (res = 0 ∨ res = 1) → decode cX6_isFiring pc = .ok (.ireturn, 1) → J p l e ({ frames := 1, cells := 0, slots := 0, locals := 22 } : Room) s m args below meth c D A 2 Q 0 0 (mW b gm mod_thrown mod_places mod_firings mod_fired mod_logged mod_tokens mod_weights mod_logs mod_marks mod_whence mod_by mod_leads mod_comes mod_costs mod_next mod_found) pc lv [.int (vI res)]) : J p l e ({ frames := 1, cells := 0, slots := 0, locals := 22 } : Room) s m args below meth c D A 2 Q 0 0 (mW b gm mod_thrown mod_places mod_firings mod_fired mod_logged mod_tokens mod_weights mod_logs mod_marks mod_whence mod_by mod_leads mod_comes mod_costs mod_next mod_found) 0 [(0, .ref (b 0)), (1, .int (vI x1))] [] := by
  unfold F_X6_isFiring at h
  refine j_iload_n C 1 rfl rfl dX6_isFiring_0 ?_
  refine j_iconst C dX6_isFiring_1 ?_
  refine j_aload_n C 0 rfl rfl dX6_isFiring_2 ?_
  refine g_X6_55 C (v := .int (vI mod_firings)) 0 rfl rfl dX6_isFiring_3 ?_
  refine j_iconst C dX6_isFiring_6 ?_
  refine j_isub C dX6_isFiring_7 ?_
  obtain ⟨r1, hr1, h⟩ := Ob_of h
  refine q_X6_51 C (wc := (mW b gm mod_thrown mod_places mod_firings mod_fired mod_logged mod_tokens mod_weights mod_logs mod_marks mod_whence mod_by mod_leads mod_comes mod_costs mod_next mod_found)) (wc' := (mW b gm mod_thrown mod_places mod_firings mod_fired mod_logged mod_tokens mod_weights mod_logs mod_marks mod_whence mod_by mod_leads mod_comes mod_costs mod_next mod_found)) (c_X6_in l D _ _ x1 0 (mod_firings - 1) r1 hr1) ⟨(Nat.le_of_ble_eq_true rfl), (Nat.le_of_ble_eq_true rfl)⟩ rfl rfl rfl (ww _) (ww _) rfl C.2.2.2.2.2.2.1 (Nat.le_of_ble_eq_true rfl) rfl rfl (Nat.zero_le _) (Nat.zero_le _) dX6_isFiring_8 ?_
  obtain ⟨hz2, h⟩ := G_of h
  cases h
  exact RET _ _ hz2 dX6_isFiring_11
theorem c_X6_isFiring (l : Launch) (D : va_G) (b : Nat → Nat) (gm : Nat → ClassId) (mod_thrown : Int) (mod_places : Int) (mod_firings : Int) (mod_fired : Int) (mod_logged : Int) (mod_tokens : Nat → Int) (mod_weights : Nat → Int) (mod_logs : Nat → Int) (mod_marks : Nat → Int) (mod_whence : Nat → Int) (mod_by : Nat → Int) (mod_leads : Nat → Int) (mod_comes : Nat → Int) (mod_costs : Nat → Int) (mod_next : Nat → Int) (mod_found : Nat → Int) (x1 : Int) (res : Int) (h : F_X6_isFiring x1 mod_firings = some res) : Kt l yX6_isFiring cX6_isFiring 2 (some .boolean) ({ frames := 1, cells := 0, slots := 0, locals := 22 } : Room) D (mT gm) [.ref (b 0), .int (vI x1)] (mW b gm mod_thrown mod_places mod_firings mod_fired mod_logged mod_tokens mod_weights mod_logs mod_marks mod_whence mod_by mod_leads mod_comes mod_costs mod_next mod_found) (mW b gm mod_thrown mod_places mod_firings mod_fired mod_logged mod_tokens mod_weights mod_logs mod_marks mod_whence mod_by mod_leads mod_comes mod_costs mod_next mod_found) (some (.int (vI res))) :=
  kt_z rfl (by decide +kernel) (Nat.le_of_ble_eq_true rfl) (fun C RET => k_X6_isFiring C x1 res h RET)
set_option maxRecDepth 100000 in
set_option maxHeartbeats 4000000 in
theorem k_X6_weight {b : Nat → Nat} {gm : Nat → ClassId} {mod_thrown : Int} {mod_places : Int} {mod_firings : Int} {mod_fired : Int} {mod_logged : Int} {mod_tokens : Nat → Int} {mod_weights : Nat → Int} {mod_logs : Nat → Int} {mod_marks : Nat → Int} {mod_whence : Nat → Int} {mod_by : Nat → Int} {mod_leads : Nat → Int} {mod_comes : Nat → Int} {mod_costs : Nat → Int} {mod_next : Nat → Int} {mod_found : Nat → Int} (C : JC p s m args meth c cX6_weight 4 "MarkingHallModel" D (mT gm) A) (x1 : Int) (x2 : Int) (x3 : Int) (res : Int) (h : F_X6_weight x1 x2 x3 mod_weights = some res) (RET : ∀ (pc : Nat) (lv : List (Nat × Value)), decode cX6_weight pc = .ok (.ireturn, 1) → J p l e ({ frames := 0, cells := 0, slots := 0, locals := 0 } : Room) s m args below meth c D A 4 Q 0 0 (mW b gm mod_thrown mod_places mod_firings mod_fired mod_logged mod_tokens mod_weights mod_logs mod_marks mod_whence mod_by mod_leads mod_comes mod_costs mod_next mod_found) pc lv [.int (vI res)]) : J p l e ({ frames := 0, cells := 0, slots := 0, locals := 0 } : Room) s m args below meth c D A 4 Q 0 0 (mW b gm mod_thrown mod_places mod_firings mod_fired mod_logged mod_tokens mod_weights mod_logs mod_marks mod_whence mod_by mod_leads mod_comes mod_costs mod_next mod_found) 0 [(0, .ref (b 0)), (1, .int (vI x1)), (2, .int (vI x2)), (3, .int (vI x3))] [] := by
  unfold F_X6_weight at h
  refine j_aload_n C 0 rfl rfl dX6_weight_0 ?_
  refine g_X6_13 C (v := .ref (b 2)) 0 rfl rfl dX6_weight_1 ?_
  refine j_bipush C (by decide) dX6_weight_4 ?_
  refine j_iload_n C 1 rfl rfl dX6_weight_6 ?_
  refine j_imul C dX6_weight_7 ?_
  refine j_bipush C (by decide) dX6_weight_8 ?_
  refine j_iload_n C 2 rfl rfl dX6_weight_10 ?_
  refine j_imul C dX6_weight_11 ?_
  refine j_iadd C dX6_weight_12 ?_
  refine j_iload_n C 3 rfl rfl dX6_weight_13 ?_
  refine j_iadd C dX6_weight_14 ?_
  refine j_nm h (fun v1 h => ?_)
  refine j_iald C 2 1 rfl rfl (Nat.le_of_ble_eq_true rfl) h dX6_weight_15 (fun v2 h => ?_)
  cases h
  exact RET _ _ dX6_weight_16
theorem c_X6_weight (l : Launch) (D : va_G) (b : Nat → Nat) (gm : Nat → ClassId) (mod_thrown : Int) (mod_places : Int) (mod_firings : Int) (mod_fired : Int) (mod_logged : Int) (mod_tokens : Nat → Int) (mod_weights : Nat → Int) (mod_logs : Nat → Int) (mod_marks : Nat → Int) (mod_whence : Nat → Int) (mod_by : Nat → Int) (mod_leads : Nat → Int) (mod_comes : Nat → Int) (mod_costs : Nat → Int) (mod_next : Nat → Int) (mod_found : Nat → Int) (x1 : Int) (x2 : Int) (x3 : Int) (res : Int) (h : F_X6_weight x1 x2 x3 mod_weights = some res) : Kt l yX6_weight cX6_weight 4 (some .int) ({ frames := 0, cells := 0, slots := 0, locals := 0 } : Room) D (mT gm) [.ref (b 0), .int (vI x1), .int (vI x2), .int (vI x3)] (mW b gm mod_thrown mod_places mod_firings mod_fired mod_logged mod_tokens mod_weights mod_logs mod_marks mod_whence mod_by mod_leads mod_comes mod_costs mod_next mod_found) (mW b gm mod_thrown mod_places mod_firings mod_fired mod_logged mod_tokens mod_weights mod_logs mod_marks mod_whence mod_by mod_leads mod_comes mod_costs mod_next mod_found) (some (.int (vI res))) :=
  kt_i (ty := .int) rfl rfl (by decide +kernel) (Nat.le_of_ble_eq_true rfl) (fun C RET => k_X6_weight C x1 x2 x3 res h RET)
set_option maxRecDepth 100000 in
set_option maxHeartbeats 4000000 in
theorem k_X6_place {b : Nat → Nat} {gm : Nat → ClassId} {mod_thrown : Int} {mod_places : Int} {mod_firings : Int} {mod_fired : Int} {mod_logged : Int} {mod_tokens : Nat → Int} {mod_weights : Nat → Int} {mod_logs : Nat → Int} {mod_marks : Nat → Int} {mod_whence : Nat → Int} {mod_by : Nat → Int} {mod_leads : Nat → Int} {mod_comes : Nat → Int} {mod_costs : Nat → Int} {mod_next : Nat → Int} {mod_found : Nat → Int} (C : JC p s m args meth c cX6_place 3 "MarkingHallModel" D (mT gm) A) (x1 : Int) (res : Int × (Int) × (Int) × (Nat → Int)) (h : F_X6_place x1 mod_thrown mod_places mod_tokens = some res) (RET : ∀ (pc : Nat) (lv : List (Nat × Value)), decode cX6_place pc = .ok (.ireturn, 1) → J p l e ({ frames := 1, cells := 0, slots := 0, locals := 22 } : Room) s m args below meth c D A 3 Q 0 0 (mW b gm res.2.1 res.2.2.1 mod_firings mod_fired mod_logged res.2.2.2 mod_weights mod_logs mod_marks mod_whence mod_by mod_leads mod_comes mod_costs mod_next mod_found) pc lv [.int (vI res.1)]) : J p l e ({ frames := 1, cells := 0, slots := 0, locals := 22 } : Room) s m args below meth c D A 3 Q 0 0 (mW b gm mod_thrown mod_places mod_firings mod_fired mod_logged mod_tokens mod_weights mod_logs mod_marks mod_whence mod_by mod_leads mod_comes mod_costs mod_next mod_found) 0 [(0, .ref (b 0)), (1, .int (vI x1))] [] := by
  have J31 : ∀ (l1 : Int) (s1 : Int) (mod_thrown : Int) (mod_places : Int) (mod_tokens : Nat → Int), F_X6_place_b31 l1 s1 mod_thrown mod_places mod_tokens = some res → J p l e ({ frames := 1, cells := 0, slots := 0, locals := 22 } : Room) s m args below meth c D A 3 Q 0 0 (mW b gm mod_thrown mod_places mod_firings mod_fired mod_logged mod_tokens mod_weights mod_logs mod_marks mod_whence mod_by mod_leads mod_comes mod_costs mod_next mod_found) 31 [(0, .ref (b 0)), (1, .int (vI l1))] [.int (vI s1), .ref (b 0)] := by
    intro l1 s1 mod_thrown mod_places mod_tokens h
    unfold F_X6_place_b31 at h
    obtain ⟨r1, hr1, h⟩ := Ob_of h
    refine q_X6_58 C (wc := (mW b gm mod_thrown mod_places mod_firings mod_fired mod_logged mod_tokens mod_weights mod_logs mod_marks mod_whence mod_by mod_leads mod_comes mod_costs mod_next mod_found)) (wc' := (mW b gm r1.2 mod_places mod_firings mod_fired mod_logged mod_tokens mod_weights mod_logs mod_marks mod_whence mod_by mod_leads mod_comes mod_costs mod_next mod_found)) (c_X6_goesWell l D b gm mod_thrown mod_places mod_firings mod_fired mod_logged mod_tokens mod_weights mod_logs mod_marks mod_whence mod_by mod_leads mod_comes mod_costs mod_next mod_found s1 r1 hr1) ⟨(Nat.le_of_ble_eq_true rfl), (Nat.le_of_ble_eq_true rfl)⟩ rfl rfl 0 rfl rfl (ww _) (ww _) mW_ha C.2.2.2.2.2.2.1 (Nat.le_of_ble_eq_true rfl) rfl rfl (Nat.zero_le _) (Nat.zero_le _) dX6_place_31 ?_
    refine j_if_ne C h 39 (by decide) dX6_place_34 (fun c4 h => ?_) (fun c4 h => ?_)
    · refine j_aload_n C 0 rfl rfl dX6_place_39 ?_
      refine g_X6_7 C (v := .ref (b 1)) 0 rfl rfl dX6_place_40 ?_
      refine j_aload_n C 0 rfl rfl dX6_place_43 ?_
      refine g_X6_48 C (v := .int (vI mod_places)) 0 rfl rfl dX6_place_44 ?_
      refine j_iload_n C 1 rfl rfl dX6_place_47 ?_
      refine j_iast C 1 0 rfl rfl (Nat.le_of_ble_eq_true rfl) (fun f' => (mW b gm r1.2 mod_places mod_firings mod_fired mod_logged f' mod_weights mod_logs mod_marks mod_whence mod_by mod_leads mod_comes mod_costs mod_next mod_found)) (fun _ => rfl) h dX6_place_48 (fun f2 h => ?_)
      refine j_aload_n C 0 rfl rfl dX6_place_49 ?_
      refine j_dup C rfl dX6_place_50 ?_
      refine g_X6_48 C (v := .int (vI mod_places)) 0 rfl rfl dX6_place_51 ?_
      refine j_iconst C dX6_place_54 ?_
      refine j_iadd C dX6_place_55 ?_
      refine j_nm h (fun v3 h => ?_)
      refine p_X6_48 C 0 rfl (Nat.le_of_ble_eq_true rfl) (mW b gm r1.2 v3 mod_firings mod_fired mod_logged f2 mod_weights mod_logs mod_marks mod_whence mod_by mod_leads mod_comes mod_costs mod_next mod_found) rfl dX6_place_56 ?_
      refine j_aload_n C 0 rfl rfl dX6_place_59 ?_
      refine g_X6_48 C (v := .int (vI v3)) 0 rfl rfl dX6_place_60 ?_
      refine j_iconst C dX6_place_63 ?_
      refine j_isub C dX6_place_64 ?_
      cases h
      exact RET _ _ dX6_place_65
    · refine j_iconst C dX6_place_37 ?_
      cases h
      exact RET _ _ dX6_place_38
  unfold F_X6_place at h
  refine j_iload_n C 1 rfl rfl dX6_place_0 ?_
  refine j_iconst C dX6_place_1 ?_
  refine j_bipush C (by decide) dX6_place_2 ?_
  obtain ⟨r5, hr5, h⟩ := Ob_of h
  refine q_X6_51 C (wc := (mW b gm mod_thrown mod_places mod_firings mod_fired mod_logged mod_tokens mod_weights mod_logs mod_marks mod_whence mod_by mod_leads mod_comes mod_costs mod_next mod_found)) (wc' := (mW b gm mod_thrown mod_places mod_firings mod_fired mod_logged mod_tokens mod_weights mod_logs mod_marks mod_whence mod_by mod_leads mod_comes mod_costs mod_next mod_found)) (c_X6_in l D _ _ x1 0 99 r5 hr5) ⟨(Nat.le_of_ble_eq_true rfl), (Nat.le_of_ble_eq_true rfl)⟩ rfl rfl rfl (ww _) (ww _) rfl C.2.2.2.2.2.2.1 (Nat.le_of_ble_eq_true rfl) rfl rfl (Nat.zero_le _) (Nat.zero_le _) dX6_place_4 ?_
  refine j_istore_n C [(2, .int (vI r5)), (0, .ref (b 0)), (1, .int (vI x1))] rfl rfl (by decide) dX6_place_7 ?_
  refine j_aload_n C 1 rfl rfl dX6_place_8 ?_
  refine j_iload_n C 0 rfl rfl dX6_place_9 ?_
  refine j_if_ne C h 17 (by decide) dX6_place_10 (fun c7 h => ?_) (fun c7 h => ?_)
  · refine j_aload_n C 1 rfl rfl dX6_place_17 ?_
    refine g_X6_48 C (v := .int (vI mod_places)) 0 rfl rfl dX6_place_18 ?_
    refine j_bipush C (by decide) dX6_place_21 ?_
    refine j_icmp_ne C h 30 (by decide) dX6_place_23 (fun c6 h => ?_) (fun c6 h => ?_)
    · refine j_iconst C dX6_place_30 ?_
      refine j_lv [1, 2] rfl ?_
      exact J31 x1 0 mod_thrown mod_places mod_tokens h
    · refine j_iconst C dX6_place_26 ?_
      refine j_goto C 31 (by decide) dX6_place_27 ?_
      refine j_lv [1, 2] rfl ?_
      exact J31 x1 2 mod_thrown mod_places mod_tokens h
  · refine j_iconst C dX6_place_13 ?_
    refine j_goto C 31 (by decide) dX6_place_14 ?_
    refine j_lv [1, 2] rfl ?_
    exact J31 x1 1 mod_thrown mod_places mod_tokens h
theorem c_X6_place (l : Launch) (D : va_G) (b : Nat → Nat) (gm : Nat → ClassId) (mod_thrown : Int) (mod_places : Int) (mod_firings : Int) (mod_fired : Int) (mod_logged : Int) (mod_tokens : Nat → Int) (mod_weights : Nat → Int) (mod_logs : Nat → Int) (mod_marks : Nat → Int) (mod_whence : Nat → Int) (mod_by : Nat → Int) (mod_leads : Nat → Int) (mod_comes : Nat → Int) (mod_costs : Nat → Int) (mod_next : Nat → Int) (mod_found : Nat → Int) (x1 : Int) (res : Int × (Int) × (Int) × (Nat → Int)) (h : F_X6_place x1 mod_thrown mod_places mod_tokens = some res) : Kt l yX6_place cX6_place 3 (some .int) ({ frames := 1, cells := 0, slots := 0, locals := 22 } : Room) D (mT gm) [.ref (b 0), .int (vI x1)] (mW b gm mod_thrown mod_places mod_firings mod_fired mod_logged mod_tokens mod_weights mod_logs mod_marks mod_whence mod_by mod_leads mod_comes mod_costs mod_next mod_found) (mW b gm res.2.1 res.2.2.1 mod_firings mod_fired mod_logged res.2.2.2 mod_weights mod_logs mod_marks mod_whence mod_by mod_leads mod_comes mod_costs mod_next mod_found) (some (.int (vI res.1))) :=
  kt_i (ty := .int) rfl rfl (by decide +kernel) (Nat.le_of_ble_eq_true rfl) (fun C RET => k_X6_place C x1 res h RET)
set_option maxRecDepth 100000 in
set_option maxHeartbeats 4000000 in
theorem k_X6_firing {b : Nat → Nat} {gm : Nat → ClassId} {mod_thrown : Int} {mod_places : Int} {mod_firings : Int} {mod_fired : Int} {mod_logged : Int} {mod_tokens : Nat → Int} {mod_weights : Nat → Int} {mod_logs : Nat → Int} {mod_marks : Nat → Int} {mod_whence : Nat → Int} {mod_by : Nat → Int} {mod_leads : Nat → Int} {mod_comes : Nat → Int} {mod_costs : Nat → Int} {mod_next : Nat → Int} {mod_found : Nat → Int} (C : JC p s m args meth c cX6_firing 1 "MarkingHallModel" D (mT gm) A)  (res : Int × (Int) × (Int)) (h : F_X6_firing mod_thrown mod_firings = some res) (RET : ∀ (pc : Nat) (lv : List (Nat × Value)), decode cX6_firing pc = .ok (.ireturn, 1) → J p l e ({ frames := 1, cells := 0, slots := 0, locals := 21 } : Room) s m args below meth c D A 1 Q 0 0 (mW b gm res.2.1 mod_places res.2.2 mod_fired mod_logged mod_tokens mod_weights mod_logs mod_marks mod_whence mod_by mod_leads mod_comes mod_costs mod_next mod_found) pc lv [.int (vI res.1)]) : J p l e ({ frames := 1, cells := 0, slots := 0, locals := 21 } : Room) s m args below meth c D A 1 Q 0 0 (mW b gm mod_thrown mod_places mod_firings mod_fired mod_logged mod_tokens mod_weights mod_logs mod_marks mod_whence mod_by mod_leads mod_comes mod_costs mod_next mod_found) 0 [(0, .ref (b 0))] [] := by
  have J15 : ∀ (s1 : Int) (mod_thrown : Int) (mod_firings : Int), F_X6_firing_b15 s1 mod_thrown mod_firings = some res → J p l e ({ frames := 1, cells := 0, slots := 0, locals := 21 } : Room) s m args below meth c D A 1 Q 0 0 (mW b gm mod_thrown mod_places mod_firings mod_fired mod_logged mod_tokens mod_weights mod_logs mod_marks mod_whence mod_by mod_leads mod_comes mod_costs mod_next mod_found) 15 [(0, .ref (b 0))] [.int (vI s1), .ref (b 0)] := by
    intro s1 mod_thrown mod_firings h
    unfold F_X6_firing_b15 at h
    obtain ⟨r1, hr1, h⟩ := Ob_of h
    refine q_X6_58 C (wc := (mW b gm mod_thrown mod_places mod_firings mod_fired mod_logged mod_tokens mod_weights mod_logs mod_marks mod_whence mod_by mod_leads mod_comes mod_costs mod_next mod_found)) (wc' := (mW b gm r1.2 mod_places mod_firings mod_fired mod_logged mod_tokens mod_weights mod_logs mod_marks mod_whence mod_by mod_leads mod_comes mod_costs mod_next mod_found)) (c_X6_goesWell l D b gm mod_thrown mod_places mod_firings mod_fired mod_logged mod_tokens mod_weights mod_logs mod_marks mod_whence mod_by mod_leads mod_comes mod_costs mod_next mod_found s1 r1 hr1) ⟨(Nat.le_of_ble_eq_true rfl), (Nat.le_of_ble_eq_true rfl)⟩ rfl rfl 0 rfl rfl (ww _) (ww _) mW_ha C.2.2.2.2.2.2.1 (Nat.le_of_ble_eq_true rfl) rfl rfl (Nat.zero_le _) (Nat.zero_le _) dX6_firing_15 ?_
    refine j_if_ne C h 23 (by decide) dX6_firing_18 (fun c3 h => ?_) (fun c3 h => ?_)
    · refine j_aload_n C 0 rfl rfl dX6_firing_23 ?_
      refine j_dup C rfl dX6_firing_24 ?_
      refine g_X6_55 C (v := .int (vI mod_firings)) 0 rfl rfl dX6_firing_25 ?_
      refine j_iconst C dX6_firing_28 ?_
      refine j_iadd C dX6_firing_29 ?_
      refine j_nm h (fun v2 h => ?_)
      refine p_X6_55 C 0 rfl (Nat.le_of_ble_eq_true rfl) (mW b gm r1.2 mod_places v2 mod_fired mod_logged mod_tokens mod_weights mod_logs mod_marks mod_whence mod_by mod_leads mod_comes mod_costs mod_next mod_found) rfl dX6_firing_30 ?_
      refine j_aload_n C 0 rfl rfl dX6_firing_33 ?_
      refine g_X6_55 C (v := .int (vI v2)) 0 rfl rfl dX6_firing_34 ?_
      refine j_iconst C dX6_firing_37 ?_
      refine j_isub C dX6_firing_38 ?_
      cases h
      exact RET _ _ dX6_firing_39
    · refine j_iconst C dX6_firing_21 ?_
      cases h
      exact RET _ _ dX6_firing_22
  unfold F_X6_firing at h
  refine j_aload_n C 0 rfl rfl dX6_firing_0 ?_
  refine j_aload_n C 0 rfl rfl dX6_firing_1 ?_
  refine g_X6_55 C (v := .int (vI mod_firings)) 0 rfl rfl dX6_firing_2 ?_
  refine j_bipush C (by decide) dX6_firing_5 ?_
  refine j_icmp_ne C h 14 (by decide) dX6_firing_7 (fun c4 h => ?_) (fun c4 h => ?_)
  · refine j_iconst C dX6_firing_14 ?_
    exact J15 0 mod_thrown mod_firings h
  · refine j_iconst C dX6_firing_10 ?_
    refine j_goto C 15 (by decide) dX6_firing_11 ?_
    exact J15 1 mod_thrown mod_firings h
theorem c_X6_firing (l : Launch) (D : va_G) (b : Nat → Nat) (gm : Nat → ClassId) (mod_thrown : Int) (mod_places : Int) (mod_firings : Int) (mod_fired : Int) (mod_logged : Int) (mod_tokens : Nat → Int) (mod_weights : Nat → Int) (mod_logs : Nat → Int) (mod_marks : Nat → Int) (mod_whence : Nat → Int) (mod_by : Nat → Int) (mod_leads : Nat → Int) (mod_comes : Nat → Int) (mod_costs : Nat → Int) (mod_next : Nat → Int) (mod_found : Nat → Int)  (res : Int × (Int) × (Int)) (h : F_X6_firing mod_thrown mod_firings = some res) : Kt l yX6_firing cX6_firing 1 (some .int) ({ frames := 1, cells := 0, slots := 0, locals := 21 } : Room) D (mT gm) [.ref (b 0)] (mW b gm mod_thrown mod_places mod_firings mod_fired mod_logged mod_tokens mod_weights mod_logs mod_marks mod_whence mod_by mod_leads mod_comes mod_costs mod_next mod_found) (mW b gm res.2.1 mod_places res.2.2 mod_fired mod_logged mod_tokens mod_weights mod_logs mod_marks mod_whence mod_by mod_leads mod_comes mod_costs mod_next mod_found) (some (.int (vI res.1))) :=
  kt_i (ty := .int) rfl rfl (by decide +kernel) (Nat.le_of_ble_eq_true rfl) (fun C RET => k_X6_firing C res h RET)
set_option maxRecDepth 100000 in
set_option maxHeartbeats 4000000 in
theorem k_X6_arc {b : Nat → Nat} {gm : Nat → ClassId} {mod_thrown : Int} {mod_places : Int} {mod_firings : Int} {mod_fired : Int} {mod_logged : Int} {mod_tokens : Nat → Int} {mod_weights : Nat → Int} {mod_logs : Nat → Int} {mod_marks : Nat → Int} {mod_whence : Nat → Int} {mod_by : Nat → Int} {mod_leads : Nat → Int} {mod_comes : Nat → Int} {mod_costs : Nat → Int} {mod_next : Nat → Int} {mod_found : Nat → Int} (C : JC p s m args meth c cX6_arc 8 "MarkingHallModel" D (mT gm) A) (x1 : Int) (x2 : Int) (x3 : Int) (x4 : Int) (res : Int × (Int) × (Nat → Int)) (h : F_X6_arc x1 x2 x3 x4 mod_places mod_firings mod_thrown mod_weights = some res) (RET : ∀ (pc : Nat) (lv : List (Nat × Value)), decode cX6_arc pc = .ok (.ireturn, 1) → J p l e ({ frames := 2, cells := 0, slots := 0, locals := 43 } : Room) s m args below meth c D A 8 Q 0 0 (mW b gm res.2.1 mod_places mod_firings mod_fired mod_logged mod_tokens res.2.2 mod_logs mod_marks mod_whence mod_by mod_leads mod_comes mod_costs mod_next mod_found) pc lv [.int (vI res.1)]) : J p l e ({ frames := 2, cells := 0, slots := 0, locals := 43 } : Room) s m args below meth c D A 8 Q 0 0 (mW b gm mod_thrown mod_places mod_firings mod_fired mod_logged mod_tokens mod_weights mod_logs mod_marks mod_whence mod_by mod_leads mod_comes mod_costs mod_next mod_found) 0 [(0, .ref (b 0)), (1, .int (vI x1)), (2, .int (vI x2)), (3, .int (vI x3)), (4, .int (vI x4))] [] := by
  have J78 : ∀ (l1 : Int) (l2 : Int) (l3 : Int) (l4 : Int) (s1 : Int) (mod_thrown : Int) (mod_weights : Nat → Int), F_X6_arc_b78 mod_places mod_firings l1 l2 l3 l4 s1 mod_thrown mod_weights = some res → J p l e ({ frames := 2, cells := 0, slots := 0, locals := 43 } : Room) s m args below meth c D A 8 Q 0 0 (mW b gm mod_thrown mod_places mod_firings mod_fired mod_logged mod_tokens mod_weights mod_logs mod_marks mod_whence mod_by mod_leads mod_comes mod_costs mod_next mod_found) 78 [(0, .ref (b 0)), (1, .int (vI l1)), (2, .int (vI l2)), (3, .int (vI l3)), (4, .int (vI l4))] [.int (vI s1), .ref (b 0)] := by
    intro l1 l2 l3 l4 s1 mod_thrown mod_weights h
    unfold F_X6_arc_b78 at h
    obtain ⟨r1, hr1, h⟩ := Ob_of h
    refine q_X6_58 C (wc := (mW b gm mod_thrown mod_places mod_firings mod_fired mod_logged mod_tokens mod_weights mod_logs mod_marks mod_whence mod_by mod_leads mod_comes mod_costs mod_next mod_found)) (wc' := (mW b gm r1.2 mod_places mod_firings mod_fired mod_logged mod_tokens mod_weights mod_logs mod_marks mod_whence mod_by mod_leads mod_comes mod_costs mod_next mod_found)) (c_X6_goesWell l D b gm mod_thrown mod_places mod_firings mod_fired mod_logged mod_tokens mod_weights mod_logs mod_marks mod_whence mod_by mod_leads mod_comes mod_costs mod_next mod_found s1 r1 hr1) ⟨(Nat.le_of_ble_eq_true rfl), (Nat.le_of_ble_eq_true rfl)⟩ rfl rfl 0 rfl rfl (ww _) (ww _) mW_ha C.2.2.2.2.2.2.1 (Nat.le_of_ble_eq_true rfl) rfl rfl (Nat.zero_le _) (Nat.zero_le _) dX6_arc_78 ?_
    refine j_if_ne C h 86 (by decide) dX6_arc_81 (fun c5 h => ?_) (fun c5 h => ?_)
    · refine j_aload_n C 0 rfl rfl dX6_arc_86 ?_
      refine j_iload_n C 3 rfl rfl dX6_arc_87 ?_
      refine j_iload_n C 1 rfl rfl dX6_arc_88 ?_
      refine j_iload_n C 2 rfl rfl dX6_arc_89 ?_
      obtain ⟨r2, hr2, h⟩ := Ob_of h
      refine q_X6_68 C (wc := (mW b gm r1.2 mod_places mod_firings mod_fired mod_logged mod_tokens mod_weights mod_logs mod_marks mod_whence mod_by mod_leads mod_comes mod_costs mod_next mod_found)) (wc' := (mW b gm r1.2 mod_places mod_firings mod_fired mod_logged mod_tokens mod_weights mod_logs mod_marks mod_whence mod_by mod_leads mod_comes mod_costs mod_next mod_found)) (c_X6_weight l D b gm r1.2 mod_places mod_firings mod_fired mod_logged mod_tokens mod_weights mod_logs mod_marks mod_whence mod_by mod_leads mod_comes mod_costs mod_next mod_found l3 l1 l2 r2 hr2) ⟨(Nat.le_of_ble_eq_true rfl), (Nat.le_of_ble_eq_true rfl)⟩ rfl rfl 0 rfl rfl (ww _) (ww _) rfl C.2.2.2.2.2.2.1 (Nat.le_of_ble_eq_true rfl) rfl rfl (Nat.zero_le _) (Nat.zero_le _) dX6_arc_90 ?_
      refine j_istore C [(7, .int (vI r2)), (0, .ref (b 0)), (1, .int (vI l1)), (2, .int (vI l2)), (3, .int (vI l3)), (4, .int (vI l4))] rfl (by decide) dX6_arc_93 ?_
      refine j_aload_n C 1 rfl rfl dX6_arc_95 ?_
      refine g_X6_13 C (v := .ref (b 2)) 0 rfl rfl dX6_arc_96 ?_
      refine j_bipush C (by decide) dX6_arc_99 ?_
      refine j_iload_n C 4 rfl rfl dX6_arc_101 ?_
      refine j_imul C dX6_arc_102 ?_
      refine j_bipush C (by decide) dX6_arc_103 ?_
      refine j_iload_n C 2 rfl rfl dX6_arc_105 ?_
      refine j_imul C dX6_arc_106 ?_
      refine j_iadd C dX6_arc_107 ?_
      refine j_iload_n C 3 rfl rfl dX6_arc_108 ?_
      refine j_iadd C dX6_arc_109 ?_
      refine j_iload C 5 rfl dX6_arc_110 ?_
      refine j_nm2 h (fun v3 h => ?_)
      refine j_iast C 2 1 rfl rfl (Nat.le_of_ble_eq_true rfl) (fun f' => (mW b gm r1.2 mod_places mod_firings mod_fired mod_logged mod_tokens f' mod_logs mod_marks mod_whence mod_by mod_leads mod_comes mod_costs mod_next mod_found)) (fun _ => rfl) h dX6_arc_112 (fun f4 h => ?_)
      refine j_iload C 0 rfl dX6_arc_113 ?_
      cases h
      exact RET _ _ dX6_arc_115
    · refine j_iconst C dX6_arc_84 ?_
      cases h
      exact RET _ _ dX6_arc_85
  have J56 : ∀ (l1 : Int) (l2 : Int) (l3 : Int) (l4 : Int) (l5 : Int) (s0 : Int) (mod_thrown : Int) (mod_weights : Nat → Int), F_X6_arc_b56 mod_places mod_firings l1 l2 l3 l4 l5 s0 mod_thrown mod_weights = some res → J p l e ({ frames := 2, cells := 0, slots := 0, locals := 43 } : Room) s m args below meth c D A 8 Q 0 0 (mW b gm mod_thrown mod_places mod_firings mod_fired mod_logged mod_tokens mod_weights mod_logs mod_marks mod_whence mod_by mod_leads mod_comes mod_costs mod_next mod_found) 56 [(0, .ref (b 0)), (1, .int (vI l1)), (2, .int (vI l2)), (3, .int (vI l3)), (4, .int (vI l4)), (5, .int (vI l5))] [.int (vI s0)] := by
    intro l1 l2 l3 l4 l5 s0 mod_thrown mod_weights h
    unfold F_X6_arc_b56 at h
    refine j_istore C [(6, .int (vI s0)), (0, .ref (b 0)), (1, .int (vI l1)), (2, .int (vI l2)), (3, .int (vI l3)), (4, .int (vI l4)), (5, .int (vI l5))] rfl (by decide) dX6_arc_56 ?_
    refine j_aload_n C 1 rfl rfl dX6_arc_58 ?_
    refine j_iload C 6 rfl dX6_arc_59 ?_
    refine j_if_ne C h 68 (by decide) dX6_arc_61 (fun c7 h => ?_) (fun c7 h => ?_)
    · refine j_iload C 0 rfl dX6_arc_68 ?_
      refine j_if_eq C h 77 (by decide) dX6_arc_70 (fun c6 h => ?_) (fun c6 h => ?_)
      · refine j_iconst C dX6_arc_77 ?_
        refine j_lv [1, 2, 3, 4, 5] rfl ?_
        exact J78 l1 l2 l3 l4 2 mod_thrown mod_weights h
      · refine j_iconst C dX6_arc_73 ?_
        refine j_goto C 78 (by decide) dX6_arc_74 ?_
        refine j_lv [1, 2, 3, 4, 5] rfl ?_
        exact J78 l1 l2 l3 l4 0 mod_thrown mod_weights h
    · refine j_iconst C dX6_arc_64 ?_
      refine j_goto C 78 (by decide) dX6_arc_65 ?_
      refine j_lv [1, 2, 3, 4, 5] rfl ?_
      exact J78 l1 l2 l3 l4 1 mod_thrown mod_weights h
  have J55 : ∀ (l1 : Int) (l2 : Int) (l3 : Int) (l4 : Int) (l5 : Int) (mod_thrown : Int) (mod_weights : Nat → Int), F_X6_arc_b55 mod_places mod_firings l1 l2 l3 l4 l5 mod_thrown mod_weights = some res → J p l e ({ frames := 2, cells := 0, slots := 0, locals := 43 } : Room) s m args below meth c D A 8 Q 0 0 (mW b gm mod_thrown mod_places mod_firings mod_fired mod_logged mod_tokens mod_weights mod_logs mod_marks mod_whence mod_by mod_leads mod_comes mod_costs mod_next mod_found) 55 [(0, .ref (b 0)), (1, .int (vI l1)), (2, .int (vI l2)), (3, .int (vI l3)), (4, .int (vI l4)), (5, .int (vI l5))] [] := by
    intro l1 l2 l3 l4 l5 mod_thrown mod_weights h
    unfold F_X6_arc_b55 at h
    refine j_iconst C dX6_arc_55 ?_
    exact J56 l1 l2 l3 l4 l5 0 mod_thrown mod_weights h
  have J45 : ∀ (l1 : Int) (l2 : Int) (l3 : Int) (l4 : Int) (l5 : Int) (s0 : Int) (s1 : Int) (s2 : Int) (mod_thrown : Int) (mod_weights : Nat → Int), F_X6_arc_b45 mod_places mod_firings l1 l2 l3 l4 l5 s0 s1 s2 mod_thrown mod_weights = some res → J p l e ({ frames := 2, cells := 0, slots := 0, locals := 43 } : Room) s m args below meth c D A 8 Q 0 0 (mW b gm mod_thrown mod_places mod_firings mod_fired mod_logged mod_tokens mod_weights mod_logs mod_marks mod_whence mod_by mod_leads mod_comes mod_costs mod_next mod_found) 45 [(0, .ref (b 0)), (1, .int (vI l1)), (2, .int (vI l2)), (3, .int (vI l3)), (4, .int (vI l4)), (5, .int (vI l5))] [.int (vI s2), .int (vI s1), .int (vI s0)] := by
    intro l1 l2 l3 l4 l5 s0 s1 s2 mod_thrown mod_weights h
    unfold F_X6_arc_b45 at h
    obtain ⟨r8, hr8, h⟩ := Ob_of h
    refine q_X6_51 C (wc := (mW b gm mod_thrown mod_places mod_firings mod_fired mod_logged mod_tokens mod_weights mod_logs mod_marks mod_whence mod_by mod_leads mod_comes mod_costs mod_next mod_found)) (wc' := (mW b gm mod_thrown mod_places mod_firings mod_fired mod_logged mod_tokens mod_weights mod_logs mod_marks mod_whence mod_by mod_leads mod_comes mod_costs mod_next mod_found)) (c_X6_in l D _ _ s0 s1 s2 r8 hr8) ⟨(Nat.le_of_ble_eq_true rfl), (Nat.le_of_ble_eq_true rfl)⟩ rfl rfl rfl (ww _) (ww _) rfl C.2.2.2.2.2.2.1 (Nat.le_of_ble_eq_true rfl) rfl rfl (Nat.zero_le _) (Nat.zero_le _) dX6_arc_45 ?_
    refine j_if_eq C h 55 (by decide) dX6_arc_48 (fun c9 h => ?_) (fun c9 h => ?_)
    · exact J55 l1 l2 l3 l4 l5 mod_thrown mod_weights h
    · refine j_iconst C dX6_arc_51 ?_
      refine j_goto C 56 (by decide) dX6_arc_52 ?_
      exact J56 l1 l2 l3 l4 l5 1 mod_thrown mod_weights h
  have J21 : ∀ (l1 : Int) (l2 : Int) (l3 : Int) (l4 : Int) (s0 : Int) (mod_thrown : Int) (mod_weights : Nat → Int), F_X6_arc_b21 mod_places mod_firings l1 l2 l3 l4 s0 mod_thrown mod_weights = some res → J p l e ({ frames := 2, cells := 0, slots := 0, locals := 43 } : Room) s m args below meth c D A 8 Q 0 0 (mW b gm mod_thrown mod_places mod_firings mod_fired mod_logged mod_tokens mod_weights mod_logs mod_marks mod_whence mod_by mod_leads mod_comes mod_costs mod_next mod_found) 21 [(0, .ref (b 0)), (1, .int (vI l1)), (2, .int (vI l2)), (3, .int (vI l3)), (4, .int (vI l4))] [.int (vI s0)] := by
    intro l1 l2 l3 l4 s0 mod_thrown mod_weights h
    unfold F_X6_arc_b21 at h
    refine j_istore C [(5, .int (vI s0)), (0, .ref (b 0)), (1, .int (vI l1)), (2, .int (vI l2)), (3, .int (vI l3)), (4, .int (vI l4))] rfl (by decide) dX6_arc_21 ?_
    refine j_iload_n C 4 rfl rfl dX6_arc_23 ?_
    refine j_iconst C dX6_arc_24 ?_
    refine j_iconst C dX6_arc_25 ?_
    obtain ⟨r10, hr10, h⟩ := Ob_of h
    refine q_X6_51 C (wc := (mW b gm mod_thrown mod_places mod_firings mod_fired mod_logged mod_tokens mod_weights mod_logs mod_marks mod_whence mod_by mod_leads mod_comes mod_costs mod_next mod_found)) (wc' := (mW b gm mod_thrown mod_places mod_firings mod_fired mod_logged mod_tokens mod_weights mod_logs mod_marks mod_whence mod_by mod_leads mod_comes mod_costs mod_next mod_found)) (c_X6_in l D _ _ l3 0 4 r10 hr10) ⟨(Nat.le_of_ble_eq_true rfl), (Nat.le_of_ble_eq_true rfl)⟩ rfl rfl rfl (ww _) (ww _) rfl C.2.2.2.2.2.2.1 (Nat.le_of_ble_eq_true rfl) rfl rfl (Nat.zero_le _) (Nat.zero_le _) dX6_arc_26 ?_
    refine j_if_eq C h 55 (by decide) dX6_arc_29 (fun c12 h => ?_) (fun c12 h => ?_)
    · refine j_lv [1, 2, 3, 4, 5, 0] rfl ?_
      exact J55 l1 l2 l3 l4 s0 mod_thrown mod_weights h
    · refine j_iload C 5 rfl dX6_arc_32 ?_
      refine j_iconst C dX6_arc_34 ?_
      refine j_iload_n C 4 rfl rfl dX6_arc_35 ?_
      refine j_iconst C dX6_arc_36 ?_
      refine j_icmp_ne C h 44 (by decide) dX6_arc_37 (fun c11 h => ?_) (fun c11 h => ?_)
      · refine j_iconst C dX6_arc_44 ?_
        refine j_lv [1, 2, 3, 4, 5, 0] rfl ?_
        exact J45 l1 l2 l3 l4 s0 l4 0 3 mod_thrown mod_weights h
      · refine j_iconst C dX6_arc_40 ?_
        refine j_goto C 45 (by decide) dX6_arc_41 ?_
        refine j_lv [1, 2, 3, 4, 5, 0] rfl ?_
        exact J45 l1 l2 l3 l4 s0 l4 0 1 mod_thrown mod_weights h
  have J20 : ∀ (l1 : Int) (l2 : Int) (l3 : Int) (l4 : Int) (mod_thrown : Int) (mod_weights : Nat → Int), F_X6_arc_b20 mod_places mod_firings l1 l2 l3 l4 mod_thrown mod_weights = some res → J p l e ({ frames := 2, cells := 0, slots := 0, locals := 43 } : Room) s m args below meth c D A 8 Q 0 0 (mW b gm mod_thrown mod_places mod_firings mod_fired mod_logged mod_tokens mod_weights mod_logs mod_marks mod_whence mod_by mod_leads mod_comes mod_costs mod_next mod_found) 20 [(0, .ref (b 0)), (1, .int (vI l1)), (2, .int (vI l2)), (3, .int (vI l3)), (4, .int (vI l4))] [] := by
    intro l1 l2 l3 l4 mod_thrown mod_weights h
    unfold F_X6_arc_b20 at h
    refine j_iconst C dX6_arc_20 ?_
    exact J21 l1 l2 l3 l4 0 mod_thrown mod_weights h
  unfold F_X6_arc at h
  refine j_aload_n C 0 rfl rfl dX6_arc_0 ?_
  refine j_iload_n C 1 rfl rfl dX6_arc_1 ?_
  obtain ⟨r13, hr13, h⟩ := Ob_of h
  refine q_X6_62 C (wc := (mW b gm mod_thrown mod_places mod_firings mod_fired mod_logged mod_tokens mod_weights mod_logs mod_marks mod_whence mod_by mod_leads mod_comes mod_costs mod_next mod_found)) (wc' := (mW b gm mod_thrown mod_places mod_firings mod_fired mod_logged mod_tokens mod_weights mod_logs mod_marks mod_whence mod_by mod_leads mod_comes mod_costs mod_next mod_found)) (c_X6_isFiring l D b gm mod_thrown mod_places mod_firings mod_fired mod_logged mod_tokens mod_weights mod_logs mod_marks mod_whence mod_by mod_leads mod_comes mod_costs mod_next mod_found x1 r13 hr13) ⟨(Nat.le_of_ble_eq_true rfl), (Nat.le_of_ble_eq_true rfl)⟩ rfl rfl 0 rfl rfl (ww _) (ww _) rfl C.2.2.2.2.2.2.1 (Nat.le_of_ble_eq_true rfl) rfl rfl (Nat.zero_le _) (Nat.zero_le _) dX6_arc_2 ?_
  refine j_if_eq C h 20 (by decide) dX6_arc_5 (fun c16 h => ?_) (fun c16 h => ?_)
  · exact J20 x1 x2 x3 x4 mod_thrown mod_weights h
  · refine j_aload_n C 0 rfl rfl dX6_arc_8 ?_
    refine j_iload_n C 2 rfl rfl dX6_arc_9 ?_
    obtain ⟨r14, hr14, h⟩ := Ob_of h
    refine q_X6_65 C (wc := (mW b gm mod_thrown mod_places mod_firings mod_fired mod_logged mod_tokens mod_weights mod_logs mod_marks mod_whence mod_by mod_leads mod_comes mod_costs mod_next mod_found)) (wc' := (mW b gm mod_thrown mod_places mod_firings mod_fired mod_logged mod_tokens mod_weights mod_logs mod_marks mod_whence mod_by mod_leads mod_comes mod_costs mod_next mod_found)) (c_X6_isPlace l D b gm mod_thrown mod_places mod_firings mod_fired mod_logged mod_tokens mod_weights mod_logs mod_marks mod_whence mod_by mod_leads mod_comes mod_costs mod_next mod_found x2 r14 hr14) ⟨(Nat.le_of_ble_eq_true rfl), (Nat.le_of_ble_eq_true rfl)⟩ rfl rfl 0 rfl rfl (ww _) (ww _) rfl C.2.2.2.2.2.2.1 (Nat.le_of_ble_eq_true rfl) rfl rfl (Nat.zero_le _) (Nat.zero_le _) dX6_arc_10 ?_
    refine j_if_eq C h 20 (by decide) dX6_arc_13 (fun c15 h => ?_) (fun c15 h => ?_)
    · exact J20 x1 x2 x3 x4 mod_thrown mod_weights h
    · refine j_iconst C dX6_arc_16 ?_
      refine j_goto C 21 (by decide) dX6_arc_17 ?_
      exact J21 x1 x2 x3 x4 1 mod_thrown mod_weights h
theorem c_X6_arc (l : Launch) (D : va_G) (b : Nat → Nat) (gm : Nat → ClassId) (mod_thrown : Int) (mod_places : Int) (mod_firings : Int) (mod_fired : Int) (mod_logged : Int) (mod_tokens : Nat → Int) (mod_weights : Nat → Int) (mod_logs : Nat → Int) (mod_marks : Nat → Int) (mod_whence : Nat → Int) (mod_by : Nat → Int) (mod_leads : Nat → Int) (mod_comes : Nat → Int) (mod_costs : Nat → Int) (mod_next : Nat → Int) (mod_found : Nat → Int) (x1 : Int) (x2 : Int) (x3 : Int) (x4 : Int) (res : Int × (Int) × (Nat → Int)) (h : F_X6_arc x1 x2 x3 x4 mod_places mod_firings mod_thrown mod_weights = some res) : Kt l yX6_arc cX6_arc 8 (some .int) ({ frames := 2, cells := 0, slots := 0, locals := 43 } : Room) D (mT gm) [.ref (b 0), .int (vI x1), .int (vI x2), .int (vI x3), .int (vI x4)] (mW b gm mod_thrown mod_places mod_firings mod_fired mod_logged mod_tokens mod_weights mod_logs mod_marks mod_whence mod_by mod_leads mod_comes mod_costs mod_next mod_found) (mW b gm res.2.1 mod_places mod_firings mod_fired mod_logged mod_tokens res.2.2 mod_logs mod_marks mod_whence mod_by mod_leads mod_comes mod_costs mod_next mod_found) (some (.int (vI res.1))) :=
  kt_i (ty := .int) rfl rfl (by decide +kernel) (Nat.le_of_ble_eq_true rfl) (fun C RET => k_X6_arc C x1 x2 x3 x4 res h RET)
set_option maxRecDepth 100000 in
set_option maxHeartbeats 4000000 in
theorem k_X6_tokens {b : Nat → Nat} {gm : Nat → ClassId} {mod_thrown : Int} {mod_places : Int} {mod_firings : Int} {mod_fired : Int} {mod_logged : Int} {mod_tokens : Nat → Int} {mod_weights : Nat → Int} {mod_logs : Nat → Int} {mod_marks : Nat → Int} {mod_whence : Nat → Int} {mod_by : Nat → Int} {mod_leads : Nat → Int} {mod_comes : Nat → Int} {mod_costs : Nat → Int} {mod_next : Nat → Int} {mod_found : Nat → Int} (C : JC p s m args meth c cX6_tokens 2 "MarkingHallModel" D (mT gm) A) (x1 : Int) (res : Int × (Int)) (h : F_X6_tokens x1 mod_places mod_tokens mod_thrown = some res) (RET : ∀ (pc : Nat) (lv : List (Nat × Value)), decode cX6_tokens pc = .ok (.ireturn, 1) → J p l e ({ frames := 2, cells := 0, slots := 0, locals := 43 } : Room) s m args below meth c D A 2 Q 0 0 (mW b gm res.2 mod_places mod_firings mod_fired mod_logged mod_tokens mod_weights mod_logs mod_marks mod_whence mod_by mod_leads mod_comes mod_costs mod_next mod_found) pc lv [.int (vI res.1)]) : J p l e ({ frames := 2, cells := 0, slots := 0, locals := 43 } : Room) s m args below meth c D A 2 Q 0 0 (mW b gm mod_thrown mod_places mod_firings mod_fired mod_logged mod_tokens mod_weights mod_logs mod_marks mod_whence mod_by mod_leads mod_comes mod_costs mod_next mod_found) 0 [(0, .ref (b 0)), (1, .int (vI x1))] [] := by
  have J14 : ∀ (l1 : Int) (s1 : Int) (mod_thrown : Int), F_X6_tokens_b14 mod_places mod_tokens l1 s1 mod_thrown = some res → J p l e ({ frames := 2, cells := 0, slots := 0, locals := 43 } : Room) s m args below meth c D A 2 Q 0 0 (mW b gm mod_thrown mod_places mod_firings mod_fired mod_logged mod_tokens mod_weights mod_logs mod_marks mod_whence mod_by mod_leads mod_comes mod_costs mod_next mod_found) 14 [(0, .ref (b 0)), (1, .int (vI l1))] [.int (vI s1), .ref (b 0)] := by
    intro l1 s1 mod_thrown h
    unfold F_X6_tokens_b14 at h
    obtain ⟨r1, hr1, h⟩ := Ob_of h
    refine q_X6_58 C (wc := (mW b gm mod_thrown mod_places mod_firings mod_fired mod_logged mod_tokens mod_weights mod_logs mod_marks mod_whence mod_by mod_leads mod_comes mod_costs mod_next mod_found)) (wc' := (mW b gm r1.2 mod_places mod_firings mod_fired mod_logged mod_tokens mod_weights mod_logs mod_marks mod_whence mod_by mod_leads mod_comes mod_costs mod_next mod_found)) (c_X6_goesWell l D b gm mod_thrown mod_places mod_firings mod_fired mod_logged mod_tokens mod_weights mod_logs mod_marks mod_whence mod_by mod_leads mod_comes mod_costs mod_next mod_found s1 r1 hr1) ⟨(Nat.le_of_ble_eq_true rfl), (Nat.le_of_ble_eq_true rfl)⟩ rfl rfl 0 rfl rfl (ww _) (ww _) mW_ha C.2.2.2.2.2.2.1 (Nat.le_of_ble_eq_true rfl) rfl rfl (Nat.zero_le _) (Nat.zero_le _) dX6_tokens_14 ?_
    refine j_if_eq C h 29 (by decide) dX6_tokens_17 (fun c3 h => ?_) (fun c3 h => ?_)
    · refine j_iconst C dX6_tokens_29 ?_
      cases h
      exact RET _ _ dX6_tokens_30
    · refine j_aload_n C 0 rfl rfl dX6_tokens_20 ?_
      refine g_X6_7 C (v := .ref (b 1)) 0 rfl rfl dX6_tokens_21 ?_
      refine j_iload_n C 1 rfl rfl dX6_tokens_24 ?_
      refine j_iald C 1 0 rfl rfl (Nat.le_of_ble_eq_true rfl) h dX6_tokens_25 (fun v2 h => ?_)
      refine j_goto C 30 (by decide) dX6_tokens_26 ?_
      cases h
      exact RET _ _ dX6_tokens_30
  unfold F_X6_tokens at h
  refine j_aload_n C 0 rfl rfl dX6_tokens_0 ?_
  refine j_aload_n C 0 rfl rfl dX6_tokens_1 ?_
  refine j_iload_n C 1 rfl rfl dX6_tokens_2 ?_
  obtain ⟨r4, hr4, h⟩ := Ob_of h
  refine q_X6_65 C (wc := (mW b gm mod_thrown mod_places mod_firings mod_fired mod_logged mod_tokens mod_weights mod_logs mod_marks mod_whence mod_by mod_leads mod_comes mod_costs mod_next mod_found)) (wc' := (mW b gm mod_thrown mod_places mod_firings mod_fired mod_logged mod_tokens mod_weights mod_logs mod_marks mod_whence mod_by mod_leads mod_comes mod_costs mod_next mod_found)) (c_X6_isPlace l D b gm mod_thrown mod_places mod_firings mod_fired mod_logged mod_tokens mod_weights mod_logs mod_marks mod_whence mod_by mod_leads mod_comes mod_costs mod_next mod_found x1 r4 hr4) ⟨(Nat.le_of_ble_eq_true rfl), (Nat.le_of_ble_eq_true rfl)⟩ rfl rfl 0 rfl rfl (ww _) (ww _) rfl C.2.2.2.2.2.2.1 (Nat.le_of_ble_eq_true rfl) rfl rfl (Nat.zero_le _) (Nat.zero_le _) dX6_tokens_3 ?_
  refine j_if_eq C h 13 (by decide) dX6_tokens_6 (fun c5 h => ?_) (fun c5 h => ?_)
  · refine j_iconst C dX6_tokens_13 ?_
    exact J14 x1 1 mod_thrown h
  · refine j_iconst C dX6_tokens_9 ?_
    refine j_goto C 14 (by decide) dX6_tokens_10 ?_
    exact J14 x1 0 mod_thrown h
theorem c_X6_tokens (l : Launch) (D : va_G) (b : Nat → Nat) (gm : Nat → ClassId) (mod_thrown : Int) (mod_places : Int) (mod_firings : Int) (mod_fired : Int) (mod_logged : Int) (mod_tokens : Nat → Int) (mod_weights : Nat → Int) (mod_logs : Nat → Int) (mod_marks : Nat → Int) (mod_whence : Nat → Int) (mod_by : Nat → Int) (mod_leads : Nat → Int) (mod_comes : Nat → Int) (mod_costs : Nat → Int) (mod_next : Nat → Int) (mod_found : Nat → Int) (x1 : Int) (res : Int × (Int)) (h : F_X6_tokens x1 mod_places mod_tokens mod_thrown = some res) : Kt l yX6_tokens cX6_tokens 2 (some .int) ({ frames := 2, cells := 0, slots := 0, locals := 43 } : Room) D (mT gm) [.ref (b 0), .int (vI x1)] (mW b gm mod_thrown mod_places mod_firings mod_fired mod_logged mod_tokens mod_weights mod_logs mod_marks mod_whence mod_by mod_leads mod_comes mod_costs mod_next mod_found) (mW b gm res.2 mod_places mod_firings mod_fired mod_logged mod_tokens mod_weights mod_logs mod_marks mod_whence mod_by mod_leads mod_comes mod_costs mod_next mod_found) (some (.int (vI res.1))) :=
  kt_i (ty := .int) rfl rfl (by decide +kernel) (Nat.le_of_ble_eq_true rfl) (fun C RET => k_X6_tokens C x1 res h RET)
set_option maxRecDepth 100000 in
set_option maxHeartbeats 4000000 in
theorem k_X6_after {b : Nat → Nat} {gm : Nat → ClassId} {mod_thrown : Int} {mod_places : Int} {mod_firings : Int} {mod_fired : Int} {mod_logged : Int} {mod_tokens : Nat → Int} {mod_weights : Nat → Int} {mod_logs : Nat → Int} {mod_marks : Nat → Int} {mod_whence : Nat → Int} {mod_by : Nat → Int} {mod_leads : Nat → Int} {mod_comes : Nat → Int} {mod_costs : Nat → Int} {mod_next : Nat → Int} {mod_found : Nat → Int} (C : JC p s m args meth c cX6_after 4 "MarkingHallModel" D (mT gm) A) (x1 : Int) (x2 : Int) (x3 : Int) (res : Int) (h : F_X6_after x1 x2 x3 mod_weights = some res) (RET : ∀ (pc : Nat) (lv : List (Nat × Value)), decode cX6_after pc = .ok (.ireturn, 1) → J p l e ({ frames := 1, cells := 0, slots := 0, locals := 23 } : Room) s m args below meth c D A 4 Q 0 0 (mW b gm mod_thrown mod_places mod_firings mod_fired mod_logged mod_tokens mod_weights mod_logs mod_marks mod_whence mod_by mod_leads mod_comes mod_costs mod_next mod_found) pc lv [.int (vI res)]) : J p l e ({ frames := 1, cells := 0, slots := 0, locals := 23 } : Room) s m args below meth c D A 4 Q 0 0 (mW b gm mod_thrown mod_places mod_firings mod_fired mod_logged mod_tokens mod_weights mod_logs mod_marks mod_whence mod_by mod_leads mod_comes mod_costs mod_next mod_found) 0 [(0, .ref (b 0)), (1, .int (vI x1)), (2, .int (vI x2)), (3, .int (vI x3))] [] := by
  have J24 : ∀ (l2 : Int) (l3 : Int) (s0 : Int), F_X6_after_b24 mod_weights l2 l3 s0 = some res → J p l e ({ frames := 1, cells := 0, slots := 0, locals := 23 } : Room) s m args below meth c D A 4 Q 0 0 (mW b gm mod_thrown mod_places mod_firings mod_fired mod_logged mod_tokens mod_weights mod_logs mod_marks mod_whence mod_by mod_leads mod_comes mod_costs mod_next mod_found) 24 [(0, .ref (b 0)), (2, .int (vI l2)), (3, .int (vI l3))] [.int (vI s0)] := by
    intro l2 l3 s0 h
    unfold F_X6_after_b24 at h
    refine j_aload_n C 0 rfl rfl dX6_after_24 ?_
    refine j_iconst C dX6_after_25 ?_
    refine j_iload_n C 1 rfl rfl dX6_after_26 ?_
    refine j_iload_n C 2 rfl rfl dX6_after_27 ?_
    obtain ⟨r1, hr1, h⟩ := Ob_of h
    refine q_X6_68 C (wc := (mW b gm mod_thrown mod_places mod_firings mod_fired mod_logged mod_tokens mod_weights mod_logs mod_marks mod_whence mod_by mod_leads mod_comes mod_costs mod_next mod_found)) (wc' := (mW b gm mod_thrown mod_places mod_firings mod_fired mod_logged mod_tokens mod_weights mod_logs mod_marks mod_whence mod_by mod_leads mod_comes mod_costs mod_next mod_found)) (c_X6_weight l D b gm mod_thrown mod_places mod_firings mod_fired mod_logged mod_tokens mod_weights mod_logs mod_marks mod_whence mod_by mod_leads mod_comes mod_costs mod_next mod_found 1 l2 l3 r1 hr1) ⟨(Nat.le_of_ble_eq_true rfl), (Nat.le_of_ble_eq_true rfl)⟩ rfl rfl 0 rfl rfl (ww _) (ww _) rfl C.2.2.2.2.2.2.1 (Nat.le_of_ble_eq_true rfl) rfl rfl (Nat.zero_le _) (Nat.zero_le _) dX6_after_28 ?_
    refine j_iadd C dX6_after_31 ?_
    cases h
    exact RET _ _ dX6_after_32
  unfold F_X6_after at h
  refine j_aload_n C 0 rfl rfl dX6_after_0 ?_
  refine j_iconst C dX6_after_1 ?_
  refine j_iload_n C 2 rfl rfl dX6_after_2 ?_
  refine j_iload_n C 3 rfl rfl dX6_after_3 ?_
  obtain ⟨r2, hr2, h⟩ := Ob_of h
  refine q_X6_68 C (wc := (mW b gm mod_thrown mod_places mod_firings mod_fired mod_logged mod_tokens mod_weights mod_logs mod_marks mod_whence mod_by mod_leads mod_comes mod_costs mod_next mod_found)) (wc' := (mW b gm mod_thrown mod_places mod_firings mod_fired mod_logged mod_tokens mod_weights mod_logs mod_marks mod_whence mod_by mod_leads mod_comes mod_costs mod_next mod_found)) (c_X6_weight l D b gm mod_thrown mod_places mod_firings mod_fired mod_logged mod_tokens mod_weights mod_logs mod_marks mod_whence mod_by mod_leads mod_comes mod_costs mod_next mod_found 4 x2 x3 r2 hr2) ⟨(Nat.le_of_ble_eq_true rfl), (Nat.le_of_ble_eq_true rfl)⟩ rfl rfl 0 rfl rfl (ww _) (ww _) rfl C.2.2.2.2.2.2.1 (Nat.le_of_ble_eq_true rfl) rfl rfl (Nat.zero_le _) (Nat.zero_le _) dX6_after_4 ?_
  refine j_iconst C dX6_after_7 ?_
  refine j_icmp_ne C h 15 (by decide) dX6_after_8 (fun c4 h => ?_) (fun c4 h => ?_)
  · refine j_iload_n C 1 rfl rfl dX6_after_15 ?_
    refine j_aload_n C 0 rfl rfl dX6_after_16 ?_
    refine j_iconst C dX6_after_17 ?_
    refine j_iload_n C 2 rfl rfl dX6_after_18 ?_
    refine j_iload_n C 3 rfl rfl dX6_after_19 ?_
    obtain ⟨r3, hr3, h⟩ := Ob_of h
    refine q_X6_68 C (wc := (mW b gm mod_thrown mod_places mod_firings mod_fired mod_logged mod_tokens mod_weights mod_logs mod_marks mod_whence mod_by mod_leads mod_comes mod_costs mod_next mod_found)) (wc' := (mW b gm mod_thrown mod_places mod_firings mod_fired mod_logged mod_tokens mod_weights mod_logs mod_marks mod_whence mod_by mod_leads mod_comes mod_costs mod_next mod_found)) (c_X6_weight l D b gm mod_thrown mod_places mod_firings mod_fired mod_logged mod_tokens mod_weights mod_logs mod_marks mod_whence mod_by mod_leads mod_comes mod_costs mod_next mod_found 0 x2 x3 r3 hr3) ⟨(Nat.le_of_ble_eq_true rfl), (Nat.le_of_ble_eq_true rfl)⟩ rfl rfl 0 rfl rfl (ww _) (ww _) rfl C.2.2.2.2.2.2.1 (Nat.le_of_ble_eq_true rfl) rfl rfl (Nat.zero_le _) (Nat.zero_le _) dX6_after_20 ?_
    refine j_isub C dX6_after_23 ?_
    refine j_lv [0, 2, 3] rfl ?_
    exact J24 x2 x3 (x1 - r3) h
  · refine j_iconst C dX6_after_11 ?_
    refine j_goto C 24 (by decide) dX6_after_12 ?_
    refine j_lv [0, 2, 3] rfl ?_
    exact J24 x2 x3 0 h
theorem c_X6_after (l : Launch) (D : va_G) (b : Nat → Nat) (gm : Nat → ClassId) (mod_thrown : Int) (mod_places : Int) (mod_firings : Int) (mod_fired : Int) (mod_logged : Int) (mod_tokens : Nat → Int) (mod_weights : Nat → Int) (mod_logs : Nat → Int) (mod_marks : Nat → Int) (mod_whence : Nat → Int) (mod_by : Nat → Int) (mod_leads : Nat → Int) (mod_comes : Nat → Int) (mod_costs : Nat → Int) (mod_next : Nat → Int) (mod_found : Nat → Int) (x1 : Int) (x2 : Int) (x3 : Int) (res : Int) (h : F_X6_after x1 x2 x3 mod_weights = some res) : Kt l yX6_after cX6_after 4 (some .int) ({ frames := 1, cells := 0, slots := 0, locals := 23 } : Room) D (mT gm) [.ref (b 0), .int (vI x1), .int (vI x2), .int (vI x3)] (mW b gm mod_thrown mod_places mod_firings mod_fired mod_logged mod_tokens mod_weights mod_logs mod_marks mod_whence mod_by mod_leads mod_comes mod_costs mod_next mod_found) (mW b gm mod_thrown mod_places mod_firings mod_fired mod_logged mod_tokens mod_weights mod_logs mod_marks mod_whence mod_by mod_leads mod_comes mod_costs mod_next mod_found) (some (.int (vI res))) :=
  kt_i (ty := .int) rfl rfl (by decide +kernel) (Nat.le_of_ble_eq_true rfl) (fun C RET => k_X6_after C x1 x2 x3 res h RET)
set_option maxRecDepth 100000 in
set_option maxHeartbeats 4000000 in
theorem k_X6_canIn {b : Nat → Nat} {gm : Nat → ClassId} {mod_thrown : Int} {mod_places : Int} {mod_firings : Int} {mod_fired : Int} {mod_logged : Int} {mod_tokens : Nat → Int} {mod_weights : Nat → Int} {mod_logs : Nat → Int} {mod_marks : Nat → Int} {mod_whence : Nat → Int} {mod_by : Nat → Int} {mod_leads : Nat → Int} {mod_comes : Nat → Int} {mod_costs : Nat → Int} {mod_next : Nat → Int} {mod_found : Nat → Int} (C : JC p s m args meth c cX6_canIn 7 "MarkingHallModel" D (mT gm) A) (x1 : Int) (x2 : Int) (res : Int) (h : F_X6_canIn x1 x2 mod_places mod_weights mod_marks = some res) (RET : ∀ (pc : Nat) (lv : List (Nat × Value)), (res = 0 ∨ res = 1) → decode cX6_canIn pc = .ok (.ireturn, 1) → J p l e ({ frames := 2, cells := 0, slots := 0, locals := 46 } : Room) s m args below meth c D A 7 Q 0 0 (mW b gm mod_thrown mod_places mod_firings mod_fired mod_logged mod_tokens mod_weights mod_logs mod_marks mod_whence mod_by mod_leads mod_comes mod_costs mod_next mod_found) pc lv [.int (vI res)]) : J p l e ({ frames := 2, cells := 0, slots := 0, locals := 46 } : Room) s m args below meth c D A 7 Q 0 0 (mW b gm mod_thrown mod_places mod_firings mod_fired mod_logged mod_tokens mod_weights mod_logs mod_marks mod_whence mod_by mod_leads mod_comes mod_costs mod_next mod_found) 0 [(0, .ref (b 0)), (1, .int (vI x1)), (2, .int (vI x2))] [] := by
  have J5 : ∀ (n : Nat) (l1 : Int) (l2 : Int) (l3 : Int) (l4 : Int), F_X6_canIn_b5 mod_places mod_weights mod_marks n l1 l2 l3 l4 = some res → J p l e ({ frames := 2, cells := 0, slots := 0, locals := 46 } : Room) s m args below meth c D A 7 Q 0 0 (mW b gm mod_thrown mod_places mod_firings mod_fired mod_logged mod_tokens mod_weights mod_logs mod_marks mod_whence mod_by mod_leads mod_comes mod_costs mod_next mod_found) 5 [(0, .ref (b 0)), (1, .int (vI l1)), (2, .int (vI l2)), (3, .int (vI l3)), (4, .int (vI l4))] [] := by
    intro n
    induction n with
    | zero => intro l1 l2 l3 l4 h; exact no_h h
    | succ n ih5 =>
      intro l1 l2 l3 l4 h
      replace h : F_X6_canIn_b5_body mod_places mod_weights mod_marks (F_X6_canIn_b5 mod_places mod_weights mod_marks n) l1 l2 l3 l4 = some res := h
      generalize F_X6_canIn_b5 mod_places mod_weights mod_marks n = ag5 at ih5 h
      have J99 : ∀ (l1 : Int) (l2 : Int) (l4 : Int) (s0 : Int), F_X6_canIn_b99 mod_places mod_weights mod_marks ag5 l1 l2 l4 s0 = some res → J p l e ({ frames := 2, cells := 0, slots := 0, locals := 46 } : Room) s m args below meth c D A 7 Q 0 0 (mW b gm mod_thrown mod_places mod_firings mod_fired mod_logged mod_tokens mod_weights mod_logs mod_marks mod_whence mod_by mod_leads mod_comes mod_costs mod_next mod_found) 99 [(0, .ref (b 0)), (1, .int (vI l1)), (2, .int (vI l2)), (4, .int (vI l4))] [.int (vI s0)] := by
        intro l1 l2 l4 s0 h
        unfold F_X6_canIn_b99 at h
        refine j_istore_n C [(3, .int (vI s0)), (0, .ref (b 0)), (1, .int (vI l1)), (2, .int (vI l2)), (4, .int (vI l4))] rfl rfl (by decide) dX6_canIn_99 ?_
        refine j_iinc C 4 rfl (fun v => [(4, .int (vI v)), (3, .int (vI s0)), (0, .ref (b 0)), (1, .int (vI l1)), (2, .int (vI l2))]) (fun _ => rfl) (by decide) h dX6_canIn_100 (fun v1 h => ?_)
        refine j_goto C 5 (by decide) dX6_canIn_103 ?_
        refine j_lv [2, 3, 4, 1, 0] rfl ?_
        exact ih5 l1 l2 s0 v1 h
      have J98 : ∀ (l1 : Int) (l2 : Int) (l4 : Int), F_X6_canIn_b98 mod_places mod_weights mod_marks ag5 l1 l2 l4 = some res → J p l e ({ frames := 2, cells := 0, slots := 0, locals := 46 } : Room) s m args below meth c D A 7 Q 0 0 (mW b gm mod_thrown mod_places mod_firings mod_fired mod_logged mod_tokens mod_weights mod_logs mod_marks mod_whence mod_by mod_leads mod_comes mod_costs mod_next mod_found) 98 [(0, .ref (b 0)), (1, .int (vI l1)), (2, .int (vI l2)), (4, .int (vI l4))] [] := by
        intro l1 l2 l4 h
        unfold F_X6_canIn_b98 at h
        refine j_iconst C dX6_canIn_98 ?_
        exact J99 l1 l2 l4 0 h
      have J80 : ∀ (l1 : Int) (l2 : Int) (l4 : Int) (l5 : Int), F_X6_canIn_b80 mod_places mod_weights mod_marks ag5 l1 l2 l4 l5 = some res → J p l e ({ frames := 2, cells := 0, slots := 0, locals := 46 } : Room) s m args below meth c D A 7 Q 0 0 (mW b gm mod_thrown mod_places mod_firings mod_fired mod_logged mod_tokens mod_weights mod_logs mod_marks mod_whence mod_by mod_leads mod_comes mod_costs mod_next mod_found) 80 [(0, .ref (b 0)), (1, .int (vI l1)), (2, .int (vI l2)), (4, .int (vI l4)), (5, .int (vI l5))] [] := by
        intro l1 l2 l4 l5 h
        unfold F_X6_canIn_b80 at h
        refine j_aload_n C 0 rfl rfl dX6_canIn_80 ?_
        refine j_iload C 4 rfl dX6_canIn_81 ?_
        refine j_iload_n C 2 rfl rfl dX6_canIn_83 ?_
        refine j_iload C 3 rfl dX6_canIn_84 ?_
        obtain ⟨r2, hr2, h⟩ := Ob_of h
        refine q_X6_72 C (wc := (mW b gm mod_thrown mod_places mod_firings mod_fired mod_logged mod_tokens mod_weights mod_logs mod_marks mod_whence mod_by mod_leads mod_comes mod_costs mod_next mod_found)) (wc' := (mW b gm mod_thrown mod_places mod_firings mod_fired mod_logged mod_tokens mod_weights mod_logs mod_marks mod_whence mod_by mod_leads mod_comes mod_costs mod_next mod_found)) (c_X6_after l D b gm mod_thrown mod_places mod_firings mod_fired mod_logged mod_tokens mod_weights mod_logs mod_marks mod_whence mod_by mod_leads mod_comes mod_costs mod_next mod_found l5 l2 l4 r2 hr2) ⟨(Nat.le_of_ble_eq_true rfl), (Nat.le_of_ble_eq_true rfl)⟩ rfl rfl 0 rfl rfl (ww _) (ww _) rfl C.2.2.2.2.2.2.1 (Nat.le_of_ble_eq_true rfl) rfl rfl (Nat.zero_le _) (Nat.zero_le _) dX6_canIn_86 ?_
        refine j_bipush C (by decide) dX6_canIn_89 ?_
        refine j_icmp_gt C h 98 (by decide) dX6_canIn_91 (fun c3 h => ?_) (fun c3 h => ?_)
        · refine j_lv [0, 1, 2, 3] rfl ?_
          exact J98 l1 l2 l4 h
        · refine j_iconst C dX6_canIn_94 ?_
          refine j_goto C 99 (by decide) dX6_canIn_95 ?_
          refine j_lv [0, 1, 2, 3] rfl ?_
          exact J99 l1 l2 l4 1 h
      unfold F_X6_canIn_b5_body at h
      refine j_iload C 4 rfl dX6_canIn_5 ?_
      refine j_aload_n C 0 rfl rfl dX6_canIn_7 ?_
      refine g_X6_48 C (v := .int (vI mod_places)) 0 rfl rfl dX6_canIn_8 ?_
      refine j_icmp_ge C h 106 (by decide) dX6_canIn_11 (fun c15 h => ?_) (fun c15 h => ?_)
      · refine j_iload_n C 3 rfl rfl dX6_canIn_106 ?_
        obtain ⟨hz4, h⟩ := G_of h
        cases h
        exact RET _ _ hz4 dX6_canIn_107
      · refine j_aload_n C 0 rfl rfl dX6_canIn_14 ?_
        refine g_X6_19 C (v := .ref (b 4)) 0 rfl rfl dX6_canIn_15 ?_
        refine j_bipush C (by decide) dX6_canIn_18 ?_
        refine j_iload_n C 1 rfl rfl dX6_canIn_20 ?_
        refine j_imul C dX6_canIn_21 ?_
        refine j_iload C 4 rfl dX6_canIn_22 ?_
        refine j_iadd C dX6_canIn_24 ?_
        refine j_nm h (fun v5 h => ?_)
        refine j_iald C 4 3 rfl rfl (Nat.le_of_ble_eq_true rfl) h dX6_canIn_25 (fun v6 h => ?_)
        refine j_istore C [(5, .int (vI v6)), (0, .ref (b 0)), (1, .int (vI l1)), (2, .int (vI l2)), (3, .int (vI l3)), (4, .int (vI l4))] rfl (by decide) dX6_canIn_26 ?_
        refine j_aload_n C 1 rfl rfl dX6_canIn_28 ?_
        refine j_iconst C dX6_canIn_29 ?_
        refine j_iload_n C 3 rfl rfl dX6_canIn_30 ?_
        refine j_iload C 5 rfl dX6_canIn_31 ?_
        obtain ⟨r7, hr7, h⟩ := Ob_of h
        refine q_X6_68 C (wc := (mW b gm mod_thrown mod_places mod_firings mod_fired mod_logged mod_tokens mod_weights mod_logs mod_marks mod_whence mod_by mod_leads mod_comes mod_costs mod_next mod_found)) (wc' := (mW b gm mod_thrown mod_places mod_firings mod_fired mod_logged mod_tokens mod_weights mod_logs mod_marks mod_whence mod_by mod_leads mod_comes mod_costs mod_next mod_found)) (c_X6_weight l D b gm mod_thrown mod_places mod_firings mod_fired mod_logged mod_tokens mod_weights mod_logs mod_marks mod_whence mod_by mod_leads mod_comes mod_costs mod_next mod_found 3 l2 l4 r7 hr7) ⟨(Nat.le_of_ble_eq_true rfl), (Nat.le_of_ble_eq_true rfl)⟩ rfl rfl 0 rfl rfl (ww _) (ww _) rfl C.2.2.2.2.2.2.1 (Nat.le_of_ble_eq_true rfl) rfl rfl (Nat.zero_le _) (Nat.zero_le _) dX6_canIn_33 ?_
        refine j_istore C [(6, .int (vI r7)), (5, .int (vI v6)), (0, .ref (b 0)), (1, .int (vI l1)), (2, .int (vI l2)), (3, .int (vI l3)), (4, .int (vI l4))] rfl (by decide) dX6_canIn_36 ?_
        refine j_iload_n C 5 rfl rfl dX6_canIn_38 ?_
        refine j_if_eq C h 98 (by decide) dX6_canIn_39 (fun c14 h => ?_) (fun c14 h => ?_)
        · refine j_lv [2, 3, 4, 6] rfl ?_
          exact J98 l1 l2 l4 h
        · refine j_iload C 1 rfl dX6_canIn_42 ?_
          refine j_aload_n C 2 rfl rfl dX6_canIn_44 ?_
          refine j_iconst C dX6_canIn_45 ?_
          refine j_iload_n C 4 rfl rfl dX6_canIn_46 ?_
          refine j_iload C 6 rfl dX6_canIn_47 ?_
          obtain ⟨r8, hr8, h⟩ := Ob_of h
          refine q_X6_68 C (wc := (mW b gm mod_thrown mod_places mod_firings mod_fired mod_logged mod_tokens mod_weights mod_logs mod_marks mod_whence mod_by mod_leads mod_comes mod_costs mod_next mod_found)) (wc' := (mW b gm mod_thrown mod_places mod_firings mod_fired mod_logged mod_tokens mod_weights mod_logs mod_marks mod_whence mod_by mod_leads mod_comes mod_costs mod_next mod_found)) (c_X6_weight l D b gm mod_thrown mod_places mod_firings mod_fired mod_logged mod_tokens mod_weights mod_logs mod_marks mod_whence mod_by mod_leads mod_comes mod_costs mod_next mod_found 0 l2 l4 r8 hr8) ⟨(Nat.le_of_ble_eq_true rfl), (Nat.le_of_ble_eq_true rfl)⟩ rfl rfl 0 rfl rfl (ww _) (ww _) rfl C.2.2.2.2.2.2.1 (Nat.le_of_ble_eq_true rfl) rfl rfl (Nat.zero_le _) (Nat.zero_le _) dX6_canIn_49 ?_
          refine j_icmp_lt C h 98 (by decide) dX6_canIn_52 (fun c13 h => ?_) (fun c13 h => ?_)
          · refine j_lv [2, 3, 4, 6] rfl ?_
            exact J98 l1 l2 l4 h
          · refine j_iload C 1 rfl dX6_canIn_55 ?_
            refine j_aload_n C 2 rfl rfl dX6_canIn_57 ?_
            refine j_iconst C dX6_canIn_58 ?_
            refine j_iload_n C 4 rfl rfl dX6_canIn_59 ?_
            refine j_iload C 6 rfl dX6_canIn_60 ?_
            obtain ⟨r9, hr9, h⟩ := Ob_of h
            refine q_X6_68 C (wc := (mW b gm mod_thrown mod_places mod_firings mod_fired mod_logged mod_tokens mod_weights mod_logs mod_marks mod_whence mod_by mod_leads mod_comes mod_costs mod_next mod_found)) (wc' := (mW b gm mod_thrown mod_places mod_firings mod_fired mod_logged mod_tokens mod_weights mod_logs mod_marks mod_whence mod_by mod_leads mod_comes mod_costs mod_next mod_found)) (c_X6_weight l D b gm mod_thrown mod_places mod_firings mod_fired mod_logged mod_tokens mod_weights mod_logs mod_marks mod_whence mod_by mod_leads mod_comes mod_costs mod_next mod_found 2 l2 l4 r9 hr9) ⟨(Nat.le_of_ble_eq_true rfl), (Nat.le_of_ble_eq_true rfl)⟩ rfl rfl 0 rfl rfl (ww _) (ww _) rfl C.2.2.2.2.2.2.1 (Nat.le_of_ble_eq_true rfl) rfl rfl (Nat.zero_le _) (Nat.zero_le _) dX6_canIn_62 ?_
            refine j_icmp_lt C h 98 (by decide) dX6_canIn_65 (fun c12 h => ?_) (fun c12 h => ?_)
            · refine j_lv [2, 3, 4, 6] rfl ?_
              exact J98 l1 l2 l4 h
            · refine j_iload C 0 rfl dX6_canIn_68 ?_
              refine j_if_eq C h 80 (by decide) dX6_canIn_70 (fun c11 h => ?_) (fun c11 h => ?_)
              · refine j_lv [2, 3, 4, 6, 1] rfl ?_
                exact J80 l1 l2 l4 v6 h
              · refine j_iload C 1 rfl dX6_canIn_73 ?_
                refine j_iload C 0 rfl dX6_canIn_75 ?_
                refine j_icmp_ge C h 98 (by decide) dX6_canIn_77 (fun c10 h => ?_) (fun c10 h => ?_)
                · refine j_lv [2, 3, 4, 6] rfl ?_
                  exact J98 l1 l2 l4 h
                · refine j_lv [2, 3, 4, 6, 1] rfl ?_
                  exact J80 l1 l2 l4 v6 h
  unfold F_X6_canIn at h
  refine j_iconst C dX6_canIn_0 ?_
  refine j_istore_n C [(3, .int (vI 1)), (0, .ref (b 0)), (1, .int (vI x1)), (2, .int (vI x2))] rfl rfl (by decide) dX6_canIn_1 ?_
  refine j_iconst C dX6_canIn_2 ?_
  refine j_istore C [(4, .int (vI 0)), (3, .int (vI 1)), (0, .ref (b 0)), (1, .int (vI x1)), (2, .int (vI x2))] rfl (by decide) dX6_canIn_3 ?_
  refine j_lv [2, 3, 4, 1, 0] rfl ?_
  exact J5 NN x1 x2 1 0 h
theorem c_X6_canIn (l : Launch) (D : va_G) (b : Nat → Nat) (gm : Nat → ClassId) (mod_thrown : Int) (mod_places : Int) (mod_firings : Int) (mod_fired : Int) (mod_logged : Int) (mod_tokens : Nat → Int) (mod_weights : Nat → Int) (mod_logs : Nat → Int) (mod_marks : Nat → Int) (mod_whence : Nat → Int) (mod_by : Nat → Int) (mod_leads : Nat → Int) (mod_comes : Nat → Int) (mod_costs : Nat → Int) (mod_next : Nat → Int) (mod_found : Nat → Int) (x1 : Int) (x2 : Int) (res : Int) (h : F_X6_canIn x1 x2 mod_places mod_weights mod_marks = some res) : Kt l yX6_canIn cX6_canIn 7 (some .boolean) ({ frames := 2, cells := 0, slots := 0, locals := 46 } : Room) D (mT gm) [.ref (b 0), .int (vI x1), .int (vI x2)] (mW b gm mod_thrown mod_places mod_firings mod_fired mod_logged mod_tokens mod_weights mod_logs mod_marks mod_whence mod_by mod_leads mod_comes mod_costs mod_next mod_found) (mW b gm mod_thrown mod_places mod_firings mod_fired mod_logged mod_tokens mod_weights mod_logs mod_marks mod_whence mod_by mod_leads mod_comes mod_costs mod_next mod_found) (some (.int (vI res))) :=
  kt_z rfl (by decide +kernel) (Nat.le_of_ble_eq_true rfl) (fun C RET => k_X6_canIn C x1 x2 res h RET)
set_option maxRecDepth 100000 in
set_option maxHeartbeats 4000000 in
theorem k_X6_layNow {b : Nat → Nat} {gm : Nat → ClassId} {mod_thrown : Int} {mod_places : Int} {mod_firings : Int} {mod_fired : Int} {mod_logged : Int} {mod_tokens : Nat → Int} {mod_weights : Nat → Int} {mod_logs : Nat → Int} {mod_marks : Nat → Int} {mod_whence : Nat → Int} {mod_by : Nat → Int} {mod_leads : Nat → Int} {mod_comes : Nat → Int} {mod_costs : Nat → Int} {mod_next : Nat → Int} {mod_found : Nat → Int} (C : JC p s m args meth c cX6_layNow 2 "MarkingHallModel" D (mT gm) A)  (res : (Nat → Int)) (h : F_X6_layNow mod_places mod_tokens mod_marks = some res) (RET : ∀ (pc : Nat) (lv : List (Nat × Value)), decode cX6_layNow pc = .ok (.return_, 1) → J p l e ({ frames := 0, cells := 0, slots := 0, locals := 0 } : Room) s m args below meth c D A 2 Q 0 0 (mW b gm mod_thrown mod_places mod_firings mod_fired mod_logged mod_tokens mod_weights mod_logs res mod_whence mod_by mod_leads mod_comes mod_costs mod_next mod_found) pc lv []) : J p l e ({ frames := 0, cells := 0, slots := 0, locals := 0 } : Room) s m args below meth c D A 2 Q 0 0 (mW b gm mod_thrown mod_places mod_firings mod_fired mod_logged mod_tokens mod_weights mod_logs mod_marks mod_whence mod_by mod_leads mod_comes mod_costs mod_next mod_found) 0 [(0, .ref (b 0))] [] := by
  have J2 : ∀ (n : Nat) (l1 : Int) (mod_marks : Nat → Int), F_X6_layNow_b2 mod_places mod_tokens n l1 mod_marks = some res → J p l e ({ frames := 0, cells := 0, slots := 0, locals := 0 } : Room) s m args below meth c D A 2 Q 0 0 (mW b gm mod_thrown mod_places mod_firings mod_fired mod_logged mod_tokens mod_weights mod_logs mod_marks mod_whence mod_by mod_leads mod_comes mod_costs mod_next mod_found) 2 [(0, .ref (b 0)), (1, .int (vI l1))] [] := by
    intro n
    induction n with
    | zero => intro l1 mod_marks h; exact no_h h
    | succ n ih2 =>
      intro l1 mod_marks h
      replace h : F_X6_layNow_b2_body mod_places mod_tokens (F_X6_layNow_b2 mod_places mod_tokens n) l1 mod_marks = some res := h
      generalize F_X6_layNow_b2 mod_places mod_tokens n = ag2 at ih2 h
      unfold F_X6_layNow_b2_body at h
      refine j_iload_n C 1 rfl rfl dX6_layNow_2 ?_
      refine j_aload_n C 0 rfl rfl dX6_layNow_3 ?_
      refine g_X6_48 C (v := .int (vI mod_places)) 0 rfl rfl dX6_layNow_4 ?_
      refine j_icmp_ge C h 28 (by decide) dX6_layNow_7 (fun c4 h => ?_) (fun c4 h => ?_)
      · cases h
        exact RET _ _ dX6_layNow_28
      · refine j_aload_n C 0 rfl rfl dX6_layNow_10 ?_
        refine g_X6_19 C (v := .ref (b 4)) 0 rfl rfl dX6_layNow_11 ?_
        refine j_iload_n C 1 rfl rfl dX6_layNow_14 ?_
        refine j_aload_n C 0 rfl rfl dX6_layNow_15 ?_
        refine g_X6_7 C (v := .ref (b 1)) 0 rfl rfl dX6_layNow_16 ?_
        refine j_iload_n C 1 rfl rfl dX6_layNow_19 ?_
        refine j_iald C 1 0 rfl rfl (Nat.le_of_ble_eq_true rfl) h dX6_layNow_20 (fun v1 h => ?_)
        refine j_iast C 4 3 rfl rfl (Nat.le_of_ble_eq_true rfl) (fun f' => (mW b gm mod_thrown mod_places mod_firings mod_fired mod_logged mod_tokens mod_weights mod_logs f' mod_whence mod_by mod_leads mod_comes mod_costs mod_next mod_found)) (fun _ => rfl) h dX6_layNow_21 (fun f2 h => ?_)
        refine j_iinc C 1 rfl (fun v => [(1, .int (vI v)), (0, .ref (b 0))]) (fun _ => rfl) (by decide) h dX6_layNow_22 (fun v3 h => ?_)
        refine j_goto C 2 (by decide) dX6_layNow_25 ?_
        refine j_lv [1, 0] rfl ?_
        exact ih2 v3 f2 h
  unfold F_X6_layNow at h
  refine j_iconst C dX6_layNow_0 ?_
  refine j_istore_n C [(1, .int (vI 0)), (0, .ref (b 0))] rfl rfl (by decide) dX6_layNow_1 ?_
  refine j_lv [1, 0] rfl ?_
  exact J2 NN 0 mod_marks h
theorem c_X6_layNow (l : Launch) (D : va_G) (b : Nat → Nat) (gm : Nat → ClassId) (mod_thrown : Int) (mod_places : Int) (mod_firings : Int) (mod_fired : Int) (mod_logged : Int) (mod_tokens : Nat → Int) (mod_weights : Nat → Int) (mod_logs : Nat → Int) (mod_marks : Nat → Int) (mod_whence : Nat → Int) (mod_by : Nat → Int) (mod_leads : Nat → Int) (mod_comes : Nat → Int) (mod_costs : Nat → Int) (mod_next : Nat → Int) (mod_found : Nat → Int)  (res : (Nat → Int)) (h : F_X6_layNow mod_places mod_tokens mod_marks = some res) : Kt l yX6_layNow cX6_layNow 2 none ({ frames := 0, cells := 0, slots := 0, locals := 0 } : Room) D (mT gm) [.ref (b 0)] (mW b gm mod_thrown mod_places mod_firings mod_fired mod_logged mod_tokens mod_weights mod_logs mod_marks mod_whence mod_by mod_leads mod_comes mod_costs mod_next mod_found) (mW b gm mod_thrown mod_places mod_firings mod_fired mod_logged mod_tokens mod_weights mod_logs res mod_whence mod_by mod_leads mod_comes mod_costs mod_next mod_found) none :=
  kt_v rfl (by decide +kernel) (Nat.le_of_ble_eq_true rfl) (fun C RET => k_X6_layNow C res h RET)
set_option maxRecDepth 100000 in
set_option maxHeartbeats 4000000 in
theorem k_X6_can {b : Nat → Nat} {gm : Nat → ClassId} {mod_thrown : Int} {mod_places : Int} {mod_firings : Int} {mod_fired : Int} {mod_logged : Int} {mod_tokens : Nat → Int} {mod_weights : Nat → Int} {mod_logs : Nat → Int} {mod_marks : Nat → Int} {mod_whence : Nat → Int} {mod_by : Nat → Int} {mod_leads : Nat → Int} {mod_comes : Nat → Int} {mod_costs : Nat → Int} {mod_next : Nat → Int} {mod_found : Nat → Int} (C : JC p s m args meth c cX6_can 2 "MarkingHallModel" D (mT gm) A) (x1 : Int) (res : Int × (Int) × (Nat → Int)) (h : F_X6_can x1 mod_places mod_firings mod_tokens mod_weights mod_thrown mod_marks = some res) (RET : ∀ (pc : Nat) (lv : List (Nat × Value)), (res.1 = 0 ∨ res.1 = 1) → decode cX6_can pc = .ok (.ireturn, 1) → J p l e ({ frames := 3, cells := 0, slots := 0, locals := 72 } : Room) s m args below meth c D A 2 Q 0 0 (mW b gm res.2.1 mod_places mod_firings mod_fired mod_logged mod_tokens mod_weights mod_logs res.2.2 mod_whence mod_by mod_leads mod_comes mod_costs mod_next mod_found) pc lv [.int (vI res.1)]) : J p l e ({ frames := 3, cells := 0, slots := 0, locals := 72 } : Room) s m args below meth c D A 2 Q 0 0 (mW b gm mod_thrown mod_places mod_firings mod_fired mod_logged mod_tokens mod_weights mod_logs mod_marks mod_whence mod_by mod_leads mod_comes mod_costs mod_next mod_found) 0 [(0, .ref (b 0)), (1, .int (vI x1))] [] := by
  have J37 : ∀ (mod_thrown : Int) (mod_marks : Nat → Int), F_X6_can_b37 mod_places mod_firings mod_tokens mod_weights mod_thrown mod_marks = some res → J p l e ({ frames := 3, cells := 0, slots := 0, locals := 72 } : Room) s m args below meth c D A 2 Q 0 0 (mW b gm mod_thrown mod_places mod_firings mod_fired mod_logged mod_tokens mod_weights mod_logs mod_marks mod_whence mod_by mod_leads mod_comes mod_costs mod_next mod_found) 37 [] [] := by
    intro mod_thrown mod_marks h
    unfold F_X6_can_b37 at h
    refine j_iconst C dX6_can_37 ?_
    obtain ⟨hz1, h⟩ := G_of h
    cases h
    exact RET _ _ hz1 dX6_can_38
  have J18 : ∀ (l1 : Int) (s1 : Int) (mod_thrown : Int) (mod_marks : Nat → Int), F_X6_can_b18 mod_places mod_firings mod_tokens mod_weights l1 s1 mod_thrown mod_marks = some res → J p l e ({ frames := 3, cells := 0, slots := 0, locals := 72 } : Room) s m args below meth c D A 2 Q 0 0 (mW b gm mod_thrown mod_places mod_firings mod_fired mod_logged mod_tokens mod_weights mod_logs mod_marks mod_whence mod_by mod_leads mod_comes mod_costs mod_next mod_found) 18 [(0, .ref (b 0)), (1, .int (vI l1))] [.int (vI s1), .ref (b 0)] := by
    intro l1 s1 mod_thrown mod_marks h
    unfold F_X6_can_b18 at h
    obtain ⟨r2, hr2, h⟩ := Ob_of h
    refine q_X6_58 C (wc := (mW b gm mod_thrown mod_places mod_firings mod_fired mod_logged mod_tokens mod_weights mod_logs mod_marks mod_whence mod_by mod_leads mod_comes mod_costs mod_next mod_found)) (wc' := (mW b gm r2.2 mod_places mod_firings mod_fired mod_logged mod_tokens mod_weights mod_logs mod_marks mod_whence mod_by mod_leads mod_comes mod_costs mod_next mod_found)) (c_X6_goesWell l D b gm mod_thrown mod_places mod_firings mod_fired mod_logged mod_tokens mod_weights mod_logs mod_marks mod_whence mod_by mod_leads mod_comes mod_costs mod_next mod_found s1 r2 hr2) ⟨(Nat.le_of_ble_eq_true rfl), (Nat.le_of_ble_eq_true rfl)⟩ rfl rfl 0 rfl rfl (ww _) (ww _) mW_ha C.2.2.2.2.2.2.1 (Nat.le_of_ble_eq_true rfl) rfl rfl (Nat.zero_le _) (Nat.zero_le _) dX6_can_18 ?_
    refine j_if_eq C h 37 (by decide) dX6_can_21 (fun c6 h => ?_) (fun c6 h => ?_)
    · refine j_lv [] rfl ?_
      exact J37 r2.2 mod_marks h
    · refine j_aload_n C 0 rfl rfl dX6_can_24 ?_
      refine j_iconst C dX6_can_25 ?_
      refine j_iload_n C 1 rfl rfl dX6_can_26 ?_
      obtain ⟨r3, hr3, h⟩ := Ob_of h
      refine q_X6_78 C (wc := (mW b gm r2.2 mod_places mod_firings mod_fired mod_logged mod_tokens mod_weights mod_logs mod_marks mod_whence mod_by mod_leads mod_comes mod_costs mod_next mod_found)) (wc' := (mW b gm r2.2 mod_places mod_firings mod_fired mod_logged mod_tokens mod_weights mod_logs mod_marks mod_whence mod_by mod_leads mod_comes mod_costs mod_next mod_found)) (c_X6_canIn l D b gm r2.2 mod_places mod_firings mod_fired mod_logged mod_tokens mod_weights mod_logs mod_marks mod_whence mod_by mod_leads mod_comes mod_costs mod_next mod_found 0 l1 r3 hr3) ⟨(Nat.le_of_ble_eq_true rfl), (Nat.le_of_ble_eq_true rfl)⟩ rfl rfl 0 rfl rfl (ww _) (ww _) rfl C.2.2.2.2.2.2.1 (Nat.le_of_ble_eq_true rfl) rfl rfl (Nat.zero_le _) (Nat.zero_le _) dX6_can_27 ?_
      refine j_if_eq C h 37 (by decide) dX6_can_30 (fun c5 h => ?_) (fun c5 h => ?_)
      · refine j_lv [] rfl ?_
        exact J37 r2.2 mod_marks h
      · refine j_iconst C dX6_can_33 ?_
        refine j_goto C 38 (by decide) dX6_can_34 ?_
        obtain ⟨hz4, h⟩ := G_of h
        cases h
        exact RET _ _ hz4 dX6_can_38
  unfold F_X6_can at h
  refine j_aload_n C 0 rfl rfl dX6_can_0 ?_
  obtain ⟨r7, hr7, h⟩ := Ob_of h
  refine q_X6_75 C (wc := (mW b gm mod_thrown mod_places mod_firings mod_fired mod_logged mod_tokens mod_weights mod_logs mod_marks mod_whence mod_by mod_leads mod_comes mod_costs mod_next mod_found)) (wc' := (mW b gm mod_thrown mod_places mod_firings mod_fired mod_logged mod_tokens mod_weights mod_logs r7 mod_whence mod_by mod_leads mod_comes mod_costs mod_next mod_found)) (c_X6_layNow l D b gm mod_thrown mod_places mod_firings mod_fired mod_logged mod_tokens mod_weights mod_logs mod_marks mod_whence mod_by mod_leads mod_comes mod_costs mod_next mod_found r7 hr7) ⟨(Nat.le_of_ble_eq_true rfl), (Nat.le_of_ble_eq_true rfl)⟩ rfl rfl 0 rfl rfl (ww _) (ww _) mW_ha C.2.2.2.2.2.2.1 (Nat.le_of_ble_eq_true rfl) rfl rfl (Nat.zero_le _) (Nat.zero_le _) dX6_can_1 ?_
  refine j_aload_n C 0 rfl rfl dX6_can_4 ?_
  refine j_aload_n C 0 rfl rfl dX6_can_5 ?_
  refine j_iload_n C 1 rfl rfl dX6_can_6 ?_
  obtain ⟨r8, hr8, h⟩ := Ob_of h
  refine q_X6_62 C (wc := (mW b gm mod_thrown mod_places mod_firings mod_fired mod_logged mod_tokens mod_weights mod_logs r7 mod_whence mod_by mod_leads mod_comes mod_costs mod_next mod_found)) (wc' := (mW b gm mod_thrown mod_places mod_firings mod_fired mod_logged mod_tokens mod_weights mod_logs r7 mod_whence mod_by mod_leads mod_comes mod_costs mod_next mod_found)) (c_X6_isFiring l D b gm mod_thrown mod_places mod_firings mod_fired mod_logged mod_tokens mod_weights mod_logs r7 mod_whence mod_by mod_leads mod_comes mod_costs mod_next mod_found x1 r8 hr8) ⟨(Nat.le_of_ble_eq_true rfl), (Nat.le_of_ble_eq_true rfl)⟩ rfl rfl 0 rfl rfl (ww _) (ww _) rfl C.2.2.2.2.2.2.1 (Nat.le_of_ble_eq_true rfl) rfl rfl (Nat.zero_le _) (Nat.zero_le _) dX6_can_7 ?_
  refine j_if_eq C h 17 (by decide) dX6_can_10 (fun c9 h => ?_) (fun c9 h => ?_)
  · refine j_iconst C dX6_can_17 ?_
    exact J18 x1 1 mod_thrown r7 h
  · refine j_iconst C dX6_can_13 ?_
    refine j_goto C 18 (by decide) dX6_can_14 ?_
    exact J18 x1 0 mod_thrown r7 h
theorem c_X6_can (l : Launch) (D : va_G) (b : Nat → Nat) (gm : Nat → ClassId) (mod_thrown : Int) (mod_places : Int) (mod_firings : Int) (mod_fired : Int) (mod_logged : Int) (mod_tokens : Nat → Int) (mod_weights : Nat → Int) (mod_logs : Nat → Int) (mod_marks : Nat → Int) (mod_whence : Nat → Int) (mod_by : Nat → Int) (mod_leads : Nat → Int) (mod_comes : Nat → Int) (mod_costs : Nat → Int) (mod_next : Nat → Int) (mod_found : Nat → Int) (x1 : Int) (res : Int × (Int) × (Nat → Int)) (h : F_X6_can x1 mod_places mod_firings mod_tokens mod_weights mod_thrown mod_marks = some res) : Kt l yX6_can cX6_can 2 (some .boolean) ({ frames := 3, cells := 0, slots := 0, locals := 72 } : Room) D (mT gm) [.ref (b 0), .int (vI x1)] (mW b gm mod_thrown mod_places mod_firings mod_fired mod_logged mod_tokens mod_weights mod_logs mod_marks mod_whence mod_by mod_leads mod_comes mod_costs mod_next mod_found) (mW b gm res.2.1 mod_places mod_firings mod_fired mod_logged mod_tokens mod_weights mod_logs res.2.2 mod_whence mod_by mod_leads mod_comes mod_costs mod_next mod_found) (some (.int (vI res.1))) :=
  kt_z rfl (by decide +kernel) (Nat.le_of_ble_eq_true rfl) (fun C RET => k_X6_can C x1 res h RET)
set_option maxRecDepth 100000 in
set_option maxHeartbeats 4000000 in
theorem k_X6_fire {b : Nat → Nat} {gm : Nat → ClassId} {mod_thrown : Int} {mod_places : Int} {mod_firings : Int} {mod_fired : Int} {mod_logged : Int} {mod_tokens : Nat → Int} {mod_weights : Nat → Int} {mod_logs : Nat → Int} {mod_marks : Nat → Int} {mod_whence : Nat → Int} {mod_by : Nat → Int} {mod_leads : Nat → Int} {mod_comes : Nat → Int} {mod_costs : Nat → Int} {mod_next : Nat → Int} {mod_found : Nat → Int} (C : JC p s m args meth c cX6_fire 4 "MarkingHallModel" D (mT gm) A) (x1 : Int) (res : Int × (Int) × (Int) × (Nat → Int) × (Nat → Int)) (h : F_X6_fire x1 mod_places mod_firings mod_weights mod_thrown mod_fired mod_tokens mod_marks = some res) (RET : ∀ (pc : Nat) (lv : List (Nat × Value)), decode cX6_fire pc = .ok (.ireturn, 1) → J p l e ({ frames := 3, cells := 0, slots := 0, locals := 72 } : Room) s m args below meth c D A 4 Q 0 0 (mW b gm res.2.1 mod_places mod_firings res.2.2.1 mod_logged res.2.2.2.1 mod_weights mod_logs res.2.2.2.2 mod_whence mod_by mod_leads mod_comes mod_costs mod_next mod_found) pc lv [.int (vI res.1)]) : J p l e ({ frames := 3, cells := 0, slots := 0, locals := 72 } : Room) s m args below meth c D A 4 Q 0 0 (mW b gm mod_thrown mod_places mod_firings mod_fired mod_logged mod_tokens mod_weights mod_logs mod_marks mod_whence mod_by mod_leads mod_comes mod_costs mod_next mod_found) 0 [(0, .ref (b 0)), (1, .int (vI x1))] [] := by
  have J43 : ∀ (n : Nat) (l1 : Int) (l3 : Int) (mod_thrown : Int) (mod_fired : Int) (mod_tokens : Nat → Int) (mod_marks : Nat → Int), F_X6_fire_b43 mod_places mod_firings mod_weights n l1 l3 mod_thrown mod_fired mod_tokens mod_marks = some res → J p l e ({ frames := 3, cells := 0, slots := 0, locals := 72 } : Room) s m args below meth c D A 4 Q 0 0 (mW b gm mod_thrown mod_places mod_firings mod_fired mod_logged mod_tokens mod_weights mod_logs mod_marks mod_whence mod_by mod_leads mod_comes mod_costs mod_next mod_found) 43 [(0, .ref (b 0)), (1, .int (vI l1)), (3, .int (vI l3))] [] := by
    intro n
    induction n with
    | zero => intro l1 l3 mod_thrown mod_fired mod_tokens mod_marks h; exact no_h h
    | succ n ih43 =>
      intro l1 l3 mod_thrown mod_fired mod_tokens mod_marks h
      replace h : F_X6_fire_b43_body mod_places mod_firings mod_weights (F_X6_fire_b43 mod_places mod_firings mod_weights n) l1 l3 mod_thrown mod_fired mod_tokens mod_marks = some res := h
      generalize F_X6_fire_b43 mod_places mod_firings mod_weights n = ag43 at ih43 h
      unfold F_X6_fire_b43_body at h
      refine j_iload_n C 2 rfl rfl dX6_fire_43 ?_
      refine j_aload_n C 0 rfl rfl dX6_fire_44 ?_
      refine g_X6_48 C (v := .int (vI mod_places)) 0 rfl rfl dX6_fire_45 ?_
      refine j_icmp_ge C h 75 (by decide) dX6_fire_48 (fun c6 h => ?_) (fun c6 h => ?_)
      · refine j_aload_n C 0 rfl rfl dX6_fire_75 ?_
        refine j_dup C rfl dX6_fire_76 ?_
        refine g_X6_82 C (v := .int (vI mod_fired)) 0 rfl rfl dX6_fire_77 ?_
        refine j_iconst C dX6_fire_80 ?_
        refine j_iadd C dX6_fire_81 ?_
        refine j_nm h (fun v1 h => ?_)
        refine p_X6_82 C 0 rfl (Nat.le_of_ble_eq_true rfl) (mW b gm mod_thrown mod_places mod_firings v1 mod_logged mod_tokens mod_weights mod_logs mod_marks mod_whence mod_by mod_leads mod_comes mod_costs mod_next mod_found) rfl dX6_fire_82 ?_
        refine j_aload_n C 0 rfl rfl dX6_fire_85 ?_
        refine g_X6_82 C (v := .int (vI v1)) 0 rfl rfl dX6_fire_86 ?_
        cases h
        exact RET _ _ dX6_fire_89
      · refine j_aload_n C 0 rfl rfl dX6_fire_51 ?_
        refine g_X6_7 C (v := .ref (b 1)) 0 rfl rfl dX6_fire_52 ?_
        refine j_iload_n C 2 rfl rfl dX6_fire_55 ?_
        refine j_aload_n C 0 rfl rfl dX6_fire_56 ?_
        refine j_aload_n C 0 rfl rfl dX6_fire_57 ?_
        refine g_X6_7 C (v := .ref (b 1)) 0 rfl rfl dX6_fire_58 ?_
        refine j_iload_n C 2 rfl rfl dX6_fire_61 ?_
        refine j_iald C 1 0 rfl rfl (Nat.le_of_ble_eq_true rfl) h dX6_fire_62 (fun v2 h => ?_)
        refine j_iload_n C 1 rfl rfl dX6_fire_63 ?_
        refine j_iload_n C 2 rfl rfl dX6_fire_64 ?_
        obtain ⟨r3, hr3, h⟩ := Ob_of h
        refine q_X6_72 C (wc := (mW b gm mod_thrown mod_places mod_firings mod_fired mod_logged mod_tokens mod_weights mod_logs mod_marks mod_whence mod_by mod_leads mod_comes mod_costs mod_next mod_found)) (wc' := (mW b gm mod_thrown mod_places mod_firings mod_fired mod_logged mod_tokens mod_weights mod_logs mod_marks mod_whence mod_by mod_leads mod_comes mod_costs mod_next mod_found)) (c_X6_after l D b gm mod_thrown mod_places mod_firings mod_fired mod_logged mod_tokens mod_weights mod_logs mod_marks mod_whence mod_by mod_leads mod_comes mod_costs mod_next mod_found v2 l1 l3 r3 hr3) ⟨(Nat.le_of_ble_eq_true rfl), (Nat.le_of_ble_eq_true rfl)⟩ rfl rfl 0 rfl rfl (ww _) (ww _) rfl C.2.2.2.2.2.2.1 (Nat.le_of_ble_eq_true rfl) rfl rfl (Nat.zero_le _) (Nat.zero_le _) dX6_fire_65 ?_
        refine j_iast C 1 0 rfl rfl (Nat.le_of_ble_eq_true rfl) (fun f' => (mW b gm mod_thrown mod_places mod_firings mod_fired mod_logged f' mod_weights mod_logs mod_marks mod_whence mod_by mod_leads mod_comes mod_costs mod_next mod_found)) (fun _ => rfl) h dX6_fire_68 (fun f4 h => ?_)
        refine j_iinc C 2 rfl (fun v => [(3, .int (vI v)), (0, .ref (b 0)), (1, .int (vI l1))]) (fun _ => rfl) (by decide) h dX6_fire_69 (fun v5 h => ?_)
        refine j_goto C 43 (by decide) dX6_fire_72 ?_
        refine j_lv [1, 2, 0] rfl ?_
        exact ih43 l1 v5 mod_thrown mod_fired f4 mod_marks h
  have J33 : ∀ (l1 : Int) (s1 : Int) (mod_thrown : Int) (mod_fired : Int) (mod_tokens : Nat → Int) (mod_marks : Nat → Int), F_X6_fire_b33 mod_places mod_firings mod_weights l1 s1 mod_thrown mod_fired mod_tokens mod_marks = some res → J p l e ({ frames := 3, cells := 0, slots := 0, locals := 72 } : Room) s m args below meth c D A 4 Q 0 0 (mW b gm mod_thrown mod_places mod_firings mod_fired mod_logged mod_tokens mod_weights mod_logs mod_marks mod_whence mod_by mod_leads mod_comes mod_costs mod_next mod_found) 33 [(0, .ref (b 0)), (1, .int (vI l1))] [.int (vI s1), .ref (b 0)] := by
    intro l1 s1 mod_thrown mod_fired mod_tokens mod_marks h
    unfold F_X6_fire_b33 at h
    obtain ⟨r7, hr7, h⟩ := Ob_of h
    refine q_X6_58 C (wc := (mW b gm mod_thrown mod_places mod_firings mod_fired mod_logged mod_tokens mod_weights mod_logs mod_marks mod_whence mod_by mod_leads mod_comes mod_costs mod_next mod_found)) (wc' := (mW b gm r7.2 mod_places mod_firings mod_fired mod_logged mod_tokens mod_weights mod_logs mod_marks mod_whence mod_by mod_leads mod_comes mod_costs mod_next mod_found)) (c_X6_goesWell l D b gm mod_thrown mod_places mod_firings mod_fired mod_logged mod_tokens mod_weights mod_logs mod_marks mod_whence mod_by mod_leads mod_comes mod_costs mod_next mod_found s1 r7 hr7) ⟨(Nat.le_of_ble_eq_true rfl), (Nat.le_of_ble_eq_true rfl)⟩ rfl rfl 0 rfl rfl (ww _) (ww _) mW_ha C.2.2.2.2.2.2.1 (Nat.le_of_ble_eq_true rfl) rfl rfl (Nat.zero_le _) (Nat.zero_le _) dX6_fire_33 ?_
    refine j_if_ne C h 41 (by decide) dX6_fire_36 (fun c8 h => ?_) (fun c8 h => ?_)
    · refine j_iconst C dX6_fire_41 ?_
      refine j_istore_n C [(3, .int (vI 0)), (0, .ref (b 0)), (1, .int (vI l1))] rfl rfl (by decide) dX6_fire_42 ?_
      refine j_lv [1, 2, 0] rfl ?_
      exact J43 NN l1 0 r7.2 mod_fired mod_tokens mod_marks h
    · refine j_iconst C dX6_fire_39 ?_
      cases h
      exact RET _ _ dX6_fire_40
  unfold F_X6_fire at h
  refine j_aload_n C 0 rfl rfl dX6_fire_0 ?_
  obtain ⟨r9, hr9, h⟩ := Ob_of h
  refine q_X6_75 C (wc := (mW b gm mod_thrown mod_places mod_firings mod_fired mod_logged mod_tokens mod_weights mod_logs mod_marks mod_whence mod_by mod_leads mod_comes mod_costs mod_next mod_found)) (wc' := (mW b gm mod_thrown mod_places mod_firings mod_fired mod_logged mod_tokens mod_weights mod_logs r9 mod_whence mod_by mod_leads mod_comes mod_costs mod_next mod_found)) (c_X6_layNow l D b gm mod_thrown mod_places mod_firings mod_fired mod_logged mod_tokens mod_weights mod_logs mod_marks mod_whence mod_by mod_leads mod_comes mod_costs mod_next mod_found r9 hr9) ⟨(Nat.le_of_ble_eq_true rfl), (Nat.le_of_ble_eq_true rfl)⟩ rfl rfl 0 rfl rfl (ww _) (ww _) mW_ha C.2.2.2.2.2.2.1 (Nat.le_of_ble_eq_true rfl) rfl rfl (Nat.zero_le _) (Nat.zero_le _) dX6_fire_1 ?_
  refine j_aload_n C 0 rfl rfl dX6_fire_4 ?_
  refine j_iload_n C 1 rfl rfl dX6_fire_5 ?_
  obtain ⟨r10, hr10, h⟩ := Ob_of h
  refine q_X6_62 C (wc := (mW b gm mod_thrown mod_places mod_firings mod_fired mod_logged mod_tokens mod_weights mod_logs r9 mod_whence mod_by mod_leads mod_comes mod_costs mod_next mod_found)) (wc' := (mW b gm mod_thrown mod_places mod_firings mod_fired mod_logged mod_tokens mod_weights mod_logs r9 mod_whence mod_by mod_leads mod_comes mod_costs mod_next mod_found)) (c_X6_isFiring l D b gm mod_thrown mod_places mod_firings mod_fired mod_logged mod_tokens mod_weights mod_logs r9 mod_whence mod_by mod_leads mod_comes mod_costs mod_next mod_found x1 r10 hr10) ⟨(Nat.le_of_ble_eq_true rfl), (Nat.le_of_ble_eq_true rfl)⟩ rfl rfl 0 rfl rfl (ww _) (ww _) rfl C.2.2.2.2.2.2.1 (Nat.le_of_ble_eq_true rfl) rfl rfl (Nat.zero_le _) (Nat.zero_le _) dX6_fire_6 ?_
  refine j_istore_n C [(2, .int (vI r10)), (0, .ref (b 0)), (1, .int (vI x1))] rfl rfl (by decide) dX6_fire_9 ?_
  refine j_aload_n C 1 rfl rfl dX6_fire_10 ?_
  refine j_iload_n C 0 rfl rfl dX6_fire_11 ?_
  refine j_if_ne C h 19 (by decide) dX6_fire_12 (fun c13 h => ?_) (fun c13 h => ?_)
  · refine j_aload_n C 1 rfl rfl dX6_fire_19 ?_
    refine j_iconst C dX6_fire_20 ?_
    refine j_iload_n C 2 rfl rfl dX6_fire_21 ?_
    obtain ⟨r11, hr11, h⟩ := Ob_of h
    refine q_X6_78 C (wc := (mW b gm mod_thrown mod_places mod_firings mod_fired mod_logged mod_tokens mod_weights mod_logs r9 mod_whence mod_by mod_leads mod_comes mod_costs mod_next mod_found)) (wc' := (mW b gm mod_thrown mod_places mod_firings mod_fired mod_logged mod_tokens mod_weights mod_logs r9 mod_whence mod_by mod_leads mod_comes mod_costs mod_next mod_found)) (c_X6_canIn l D b gm mod_thrown mod_places mod_firings mod_fired mod_logged mod_tokens mod_weights mod_logs r9 mod_whence mod_by mod_leads mod_comes mod_costs mod_next mod_found 0 x1 r11 hr11) ⟨(Nat.le_of_ble_eq_true rfl), (Nat.le_of_ble_eq_true rfl)⟩ rfl rfl 0 rfl rfl (ww _) (ww _) rfl C.2.2.2.2.2.2.1 (Nat.le_of_ble_eq_true rfl) rfl rfl (Nat.zero_le _) (Nat.zero_le _) dX6_fire_22 ?_
    refine j_if_eq C h 32 (by decide) dX6_fire_25 (fun c12 h => ?_) (fun c12 h => ?_)
    · refine j_iconst C dX6_fire_32 ?_
      refine j_lv [1, 2] rfl ?_
      exact J33 x1 2 mod_thrown mod_fired mod_tokens r9 h
    · refine j_iconst C dX6_fire_28 ?_
      refine j_goto C 33 (by decide) dX6_fire_29 ?_
      refine j_lv [1, 2] rfl ?_
      exact J33 x1 0 mod_thrown mod_fired mod_tokens r9 h
  · refine j_iconst C dX6_fire_15 ?_
    refine j_goto C 33 (by decide) dX6_fire_16 ?_
    refine j_lv [1, 2] rfl ?_
    exact J33 x1 1 mod_thrown mod_fired mod_tokens r9 h
theorem c_X6_fire (l : Launch) (D : va_G) (b : Nat → Nat) (gm : Nat → ClassId) (mod_thrown : Int) (mod_places : Int) (mod_firings : Int) (mod_fired : Int) (mod_logged : Int) (mod_tokens : Nat → Int) (mod_weights : Nat → Int) (mod_logs : Nat → Int) (mod_marks : Nat → Int) (mod_whence : Nat → Int) (mod_by : Nat → Int) (mod_leads : Nat → Int) (mod_comes : Nat → Int) (mod_costs : Nat → Int) (mod_next : Nat → Int) (mod_found : Nat → Int) (x1 : Int) (res : Int × (Int) × (Int) × (Nat → Int) × (Nat → Int)) (h : F_X6_fire x1 mod_places mod_firings mod_weights mod_thrown mod_fired mod_tokens mod_marks = some res) : Kt l yX6_fire cX6_fire 4 (some .int) ({ frames := 3, cells := 0, slots := 0, locals := 72 } : Room) D (mT gm) [.ref (b 0), .int (vI x1)] (mW b gm mod_thrown mod_places mod_firings mod_fired mod_logged mod_tokens mod_weights mod_logs mod_marks mod_whence mod_by mod_leads mod_comes mod_costs mod_next mod_found) (mW b gm res.2.1 mod_places mod_firings res.2.2.1 mod_logged res.2.2.2.1 mod_weights mod_logs res.2.2.2.2 mod_whence mod_by mod_leads mod_comes mod_costs mod_next mod_found) (some (.int (vI res.1))) :=
  kt_i (ty := .int) rfl rfl (by decide +kernel) (Nat.le_of_ble_eq_true rfl) (fun C RET => k_X6_fire C x1 res h RET)
set_option maxRecDepth 100000 in
set_option maxHeartbeats 4000000 in
theorem k_X6_isAlike {b : Nat → Nat} {gm : Nat → ClassId} {mod_thrown : Int} {mod_places : Int} {mod_firings : Int} {mod_fired : Int} {mod_logged : Int} {mod_tokens : Nat → Int} {mod_weights : Nat → Int} {mod_logs : Nat → Int} {mod_marks : Nat → Int} {mod_whence : Nat → Int} {mod_by : Nat → Int} {mod_leads : Nat → Int} {mod_comes : Nat → Int} {mod_costs : Nat → Int} {mod_next : Nat → Int} {mod_found : Nat → Int} (C : JC p s m args meth c cX6_isAlike 5 "MarkingHallModel" D (mT gm) A) (x1 : Int) (x2 : Int) (res : Int) (h : F_X6_isAlike x1 x2 mod_places mod_marks = some res) (RET : ∀ (pc : Nat) (lv : List (Nat × Value)), (res = 0 ∨ res = 1) → decode cX6_isAlike pc = .ok (.ireturn, 1) → J p l e ({ frames := 0, cells := 0, slots := 0, locals := 0 } : Room) s m args below meth c D A 5 Q 0 0 (mW b gm mod_thrown mod_places mod_firings mod_fired mod_logged mod_tokens mod_weights mod_logs mod_marks mod_whence mod_by mod_leads mod_comes mod_costs mod_next mod_found) pc lv [.int (vI res)]) : J p l e ({ frames := 0, cells := 0, slots := 0, locals := 0 } : Room) s m args below meth c D A 5 Q 0 0 (mW b gm mod_thrown mod_places mod_firings mod_fired mod_logged mod_tokens mod_weights mod_logs mod_marks mod_whence mod_by mod_leads mod_comes mod_costs mod_next mod_found) 0 [(0, .ref (b 0)), (1, .int (vI x1)), (2, .int (vI x2))] [] := by
  have J5 : ∀ (n : Nat) (l1 : Int) (l2 : Int) (l3 : Int) (l4 : Int), F_X6_isAlike_b5 mod_places mod_marks n l1 l2 l3 l4 = some res → J p l e ({ frames := 0, cells := 0, slots := 0, locals := 0 } : Room) s m args below meth c D A 5 Q 0 0 (mW b gm mod_thrown mod_places mod_firings mod_fired mod_logged mod_tokens mod_weights mod_logs mod_marks mod_whence mod_by mod_leads mod_comes mod_costs mod_next mod_found) 5 [(0, .ref (b 0)), (1, .int (vI l1)), (2, .int (vI l2)), (3, .int (vI l3)), (4, .int (vI l4))] [] := by
    intro n
    induction n with
    | zero => intro l1 l2 l3 l4 h; exact no_h h
    | succ n ih5 =>
      intro l1 l2 l3 l4 h
      replace h : F_X6_isAlike_b5_body mod_places mod_marks (F_X6_isAlike_b5 mod_places mod_marks n) l1 l2 l3 l4 = some res := h
      generalize F_X6_isAlike_b5 mod_places mod_marks n = ag5 at ih5 h
      have J50 : ∀ (l1 : Int) (l2 : Int) (l4 : Int) (s0 : Int), F_X6_isAlike_b50 mod_places mod_marks ag5 l1 l2 l4 s0 = some res → J p l e ({ frames := 0, cells := 0, slots := 0, locals := 0 } : Room) s m args below meth c D A 5 Q 0 0 (mW b gm mod_thrown mod_places mod_firings mod_fired mod_logged mod_tokens mod_weights mod_logs mod_marks mod_whence mod_by mod_leads mod_comes mod_costs mod_next mod_found) 50 [(0, .ref (b 0)), (1, .int (vI l1)), (2, .int (vI l2)), (4, .int (vI l4))] [.int (vI s0)] := by
        intro l1 l2 l4 s0 h
        unfold F_X6_isAlike_b50 at h
        refine j_istore_n C [(3, .int (vI s0)), (0, .ref (b 0)), (1, .int (vI l1)), (2, .int (vI l2)), (4, .int (vI l4))] rfl rfl (by decide) dX6_isAlike_50 ?_
        refine j_iinc C 4 rfl (fun v => [(4, .int (vI v)), (3, .int (vI s0)), (0, .ref (b 0)), (1, .int (vI l1)), (2, .int (vI l2))]) (fun _ => rfl) (by decide) h dX6_isAlike_51 (fun v1 h => ?_)
        refine j_goto C 5 (by decide) dX6_isAlike_54 ?_
        refine j_lv [2, 3, 4, 1, 0] rfl ?_
        exact ih5 l1 l2 s0 v1 h
      have J49 : ∀ (l1 : Int) (l2 : Int) (l4 : Int), F_X6_isAlike_b49 mod_places mod_marks ag5 l1 l2 l4 = some res → J p l e ({ frames := 0, cells := 0, slots := 0, locals := 0 } : Room) s m args below meth c D A 5 Q 0 0 (mW b gm mod_thrown mod_places mod_firings mod_fired mod_logged mod_tokens mod_weights mod_logs mod_marks mod_whence mod_by mod_leads mod_comes mod_costs mod_next mod_found) 49 [(0, .ref (b 0)), (1, .int (vI l1)), (2, .int (vI l2)), (4, .int (vI l4))] [] := by
        intro l1 l2 l4 h
        unfold F_X6_isAlike_b49 at h
        refine j_iconst C dX6_isAlike_49 ?_
        exact J50 l1 l2 l4 0 h
      unfold F_X6_isAlike_b5_body at h
      refine j_iload C 4 rfl dX6_isAlike_5 ?_
      refine j_aload_n C 0 rfl rfl dX6_isAlike_7 ?_
      refine g_X6_48 C (v := .int (vI mod_places)) 0 rfl rfl dX6_isAlike_8 ?_
      refine j_icmp_ge C h 57 (by decide) dX6_isAlike_11 (fun c9 h => ?_) (fun c9 h => ?_)
      · refine j_iload_n C 3 rfl rfl dX6_isAlike_57 ?_
        obtain ⟨hz2, h⟩ := G_of h
        cases h
        exact RET _ _ hz2 dX6_isAlike_58
      · refine j_iload_n C 3 rfl rfl dX6_isAlike_14 ?_
        refine j_if_eq C h 49 (by decide) dX6_isAlike_15 (fun c8 h => ?_) (fun c8 h => ?_)
        · refine j_lv [0, 1, 2, 4] rfl ?_
          exact J49 l1 l2 l4 h
        · refine j_aload_n C 0 rfl rfl dX6_isAlike_18 ?_
          refine g_X6_19 C (v := .ref (b 4)) 0 rfl rfl dX6_isAlike_19 ?_
          refine j_bipush C (by decide) dX6_isAlike_22 ?_
          refine j_iload_n C 1 rfl rfl dX6_isAlike_24 ?_
          refine j_imul C dX6_isAlike_25 ?_
          refine j_iload C 4 rfl dX6_isAlike_26 ?_
          refine j_iadd C dX6_isAlike_28 ?_
          refine j_nm h (fun v3 h => ?_)
          refine j_iald C 4 3 rfl rfl (Nat.le_of_ble_eq_true rfl) h dX6_isAlike_29 (fun v4 h => ?_)
          refine j_aload_n C 0 rfl rfl dX6_isAlike_30 ?_
          refine g_X6_19 C (v := .ref (b 4)) 0 rfl rfl dX6_isAlike_31 ?_
          refine j_bipush C (by decide) dX6_isAlike_34 ?_
          refine j_iload_n C 2 rfl rfl dX6_isAlike_36 ?_
          refine j_imul C dX6_isAlike_37 ?_
          refine j_iload C 4 rfl dX6_isAlike_38 ?_
          refine j_iadd C dX6_isAlike_40 ?_
          refine j_nm h (fun v5 h => ?_)
          refine j_iald C 4 3 rfl rfl (Nat.le_of_ble_eq_true rfl) h dX6_isAlike_41 (fun v6 h => ?_)
          refine j_icmp_ne C h 49 (by decide) dX6_isAlike_42 (fun c7 h => ?_) (fun c7 h => ?_)
          · refine j_lv [0, 1, 2, 4] rfl ?_
            exact J49 l1 l2 l4 h
          · refine j_iconst C dX6_isAlike_45 ?_
            refine j_goto C 50 (by decide) dX6_isAlike_46 ?_
            refine j_lv [0, 1, 2, 4] rfl ?_
            exact J50 l1 l2 l4 1 h
  unfold F_X6_isAlike at h
  refine j_iconst C dX6_isAlike_0 ?_
  refine j_istore_n C [(3, .int (vI 1)), (0, .ref (b 0)), (1, .int (vI x1)), (2, .int (vI x2))] rfl rfl (by decide) dX6_isAlike_1 ?_
  refine j_iconst C dX6_isAlike_2 ?_
  refine j_istore C [(4, .int (vI 0)), (3, .int (vI 1)), (0, .ref (b 0)), (1, .int (vI x1)), (2, .int (vI x2))] rfl (by decide) dX6_isAlike_3 ?_
  refine j_lv [2, 3, 4, 1, 0] rfl ?_
  exact J5 NN x1 x2 1 0 h
theorem c_X6_isAlike (l : Launch) (D : va_G) (b : Nat → Nat) (gm : Nat → ClassId) (mod_thrown : Int) (mod_places : Int) (mod_firings : Int) (mod_fired : Int) (mod_logged : Int) (mod_tokens : Nat → Int) (mod_weights : Nat → Int) (mod_logs : Nat → Int) (mod_marks : Nat → Int) (mod_whence : Nat → Int) (mod_by : Nat → Int) (mod_leads : Nat → Int) (mod_comes : Nat → Int) (mod_costs : Nat → Int) (mod_next : Nat → Int) (mod_found : Nat → Int) (x1 : Int) (x2 : Int) (res : Int) (h : F_X6_isAlike x1 x2 mod_places mod_marks = some res) : Kt l yX6_isAlike cX6_isAlike 5 (some .boolean) ({ frames := 0, cells := 0, slots := 0, locals := 0 } : Room) D (mT gm) [.ref (b 0), .int (vI x1), .int (vI x2)] (mW b gm mod_thrown mod_places mod_firings mod_fired mod_logged mod_tokens mod_weights mod_logs mod_marks mod_whence mod_by mod_leads mod_comes mod_costs mod_next mod_found) (mW b gm mod_thrown mod_places mod_firings mod_fired mod_logged mod_tokens mod_weights mod_logs mod_marks mod_whence mod_by mod_leads mod_comes mod_costs mod_next mod_found) (some (.int (vI res))) :=
  kt_z rfl (by decide +kernel) (Nat.le_of_ble_eq_true rfl) (fun C RET => k_X6_isAlike C x1 x2 res h RET)
end WK
