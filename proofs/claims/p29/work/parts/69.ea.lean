/-! the calls at the abstract state: they have an answer; those that only look change nothing -/
def EA (cl : Nat) (A : AS) : Prop := ∃ (net_places : Int) (net_firings : Int) (net_now : Int64) (net_done : Int) (net_shape : Int) (net_state : Int) (net_weights : Nat → Int) (net_needed : Nat → Int64) (net_borne : Nat → Int64) (net_emptied : Nat → Int64) (net_taken : Nat → Int64) (net_given : Nat → Int64) (reach_queued : Int) (reach_state : Int) (reach_count : Int) (reach_pairs : Int) (reach_ends : Int) (reach_tooGreat : Int) (reach_found : Nat → Int64) (reach_slots : Nat → Int) (reach_depths : Nat → Int) (reach_foundBy : Nat → Int) (reach_targets : Nat → Int) (reach_lastInto : Nat → Int) (reach_nextInto : Nat → Int) (reach_marked : Nat → Int) (reach_queue : Nat → Int) (rows_highest : Int) (rows_width : Int) (rows_vector : Int) (rows_sums : Int64) (rows_count : Int) (rows_shape : Int) (rows_least : Nat → Int) (rows_columns : Nat → Int64) (rows_admitted : Nat → Int) (rounds_highest : Int) (rounds_width : Int) (rounds_vector : Int) (rounds_sums : Int64) (rounds_count : Int) (rounds_shape : Int) (rounds_least : Nat → Int) (rounds_columns : Nat → Int64) (rounds_admitted : Nat → Int) (sets_firings : Int) (sets_count : Int) (sets_shape : Int) (sets_takes : Nat → Int) (sets_loses : Nat → Int) (sets_gives : Nat → Int) (sets_least : Nat → Int) (story_markings : Int) (story_length : Int) (story_entries : Nat → Int) (story_here : Nat → Int) (story_further : Nat → Int), SimA cl net_places net_firings net_now net_done net_shape net_state net_weights net_needed net_borne net_emptied net_taken net_given reach_queued reach_state reach_count reach_pairs reach_ends reach_tooGreat reach_found reach_slots reach_depths reach_foundBy reach_targets reach_lastInto reach_nextInto reach_marked reach_queue rows_highest rows_width rows_vector rows_sums rows_count rows_shape rows_least rows_columns rows_admitted rounds_highest rounds_width rounds_vector rounds_sums rounds_count rounds_shape rounds_least rounds_columns rounds_admitted sets_firings sets_count sets_shape sets_takes sets_loses sets_gives sets_least story_markings story_length story_entries story_here story_further A
theorem EA_up {cl : Nat} {A : AS} (h : EA cl A) : EA (cl + 1) A := by
  obtain ⟨net_places, net_firings, net_now, net_done, net_shape, net_state, net_weights, net_needed, net_borne, net_emptied, net_taken, net_given, reach_queued, reach_state, reach_count, reach_pairs, reach_ends, reach_tooGreat, reach_found, reach_slots, reach_depths, reach_foundBy, reach_targets, reach_lastInto, reach_nextInto, reach_marked, reach_queue, rows_highest, rows_width, rows_vector, rows_sums, rows_count, rows_shape, rows_least, rows_columns, rows_admitted, rounds_highest, rounds_width, rounds_vector, rounds_sums, rounds_count, rounds_shape, rounds_least, rounds_columns, rounds_admitted, sets_firings, sets_count, sets_shape, sets_takes, sets_loses, sets_gives, sets_least, story_markings, story_length, story_entries, story_here, story_further, S⟩ := h
  exact ⟨net_places, net_firings, net_now, net_done, net_shape, net_state, net_weights, net_needed, net_borne, net_emptied, net_taken, net_given, reach_queued, reach_state, reach_count, reach_pairs, reach_ends, reach_tooGreat, reach_found, reach_slots, reach_depths, reach_foundBy, reach_targets, reach_lastInto, reach_nextInto, reach_marked, reach_queue, rows_highest, rows_width, rows_vector, rows_sums, rows_count, rows_shape, rows_least, rows_columns, rows_admitted, rounds_highest, rounds_width, rounds_vector, rounds_sums, rounds_count, rounds_shape, rounds_least, rounds_columns, rounds_admitted, sets_firings, sets_count, sets_shape, sets_takes, sets_loses, sets_gives, sets_least, story_markings, story_length, story_entries, story_here, story_further, Sim_up S⟩
theorem EA_le {cl : Nat} {A : AS} : ∀ {c2 : Nat}, cl ≤ c2 → EA cl A → EA c2 A := by
  intro c2
  induction c2 with
  | zero => intro h q; rwa [show cl = 0 by omega] at q
  | succ n ih =>
    intro h q
    by_cases e : cl = n + 1
    · rwa [e] at q
    · exact EA_up (ih (by omega) q)
theorem ea_place {cl : Nat} {A : AS} {x1 : Int} (E : EA cl A) (hx1 : inR x1) (hc : cl + 1 ≤ 900000) : ∃ r, ax_place x1 A = some r ∧ EA (cl + 1) r.2 ∧ inR r.1 ∧ (dx_place x1 A = some r ∨ (r.1 = -99999999 ∧ dx_place x1 A = none)) := by
  obtain ⟨net_places, net_firings, net_now, net_done, net_shape, net_state, net_weights, net_needed, net_borne, net_emptied, net_taken, net_given, reach_queued, reach_state, reach_count, reach_pairs, reach_ends, reach_tooGreat, reach_found, reach_slots, reach_depths, reach_foundBy, reach_targets, reach_lastInto, reach_nextInto, reach_marked, reach_queue, rows_highest, rows_width, rows_vector, rows_sums, rows_count, rows_shape, rows_least, rows_columns, rows_admitted, rounds_highest, rounds_width, rounds_vector, rounds_sums, rounds_count, rounds_shape, rounds_least, rounds_columns, rounds_admitted, sets_firings, sets_count, sets_shape, sets_takes, sets_loses, sets_gives, sets_least, story_markings, story_length, story_entries, story_here, story_further, S⟩ := E
  obtain ⟨rx, r, -, hr, S2, hin, post⟩ := sx_place cl net_places net_firings net_now net_done net_shape net_state net_weights net_needed net_borne net_emptied net_taken net_given reach_queued reach_state reach_count reach_pairs reach_ends reach_tooGreat reach_found reach_slots reach_depths reach_foundBy reach_targets reach_lastInto reach_nextInto reach_marked reach_queue rows_highest rows_width rows_vector rows_sums rows_count rows_shape rows_least rows_columns rows_admitted rounds_highest rounds_width rounds_vector rounds_sums rounds_count rounds_shape rounds_least rounds_columns rounds_admitted sets_firings sets_count sets_shape sets_takes sets_loses sets_gives sets_least story_markings story_length story_entries story_here story_further A x1 hx1 hc S
  refine ⟨r, hr, ⟨_, _, _, _, _, _, _, _, _, _, _, _, _, _, _, _, _, _, _, _, _, _, _, _, _, _, _, _, _, _, _, _, _, _, _, _, _, _, _, _, _, _, _, _, _, _, _, _, _, _, _, _, _, _, _, _, _, S2⟩, hin, ?_⟩
  rcases post with ⟨-, -, q⟩ | ⟨-, q1, q2⟩ | ⟨-, q1, q2⟩
  · exact Or.inl q
  · exact Or.inr ⟨q1, q2⟩
  · exact Or.inr ⟨q1, q2⟩
theorem ea_firing {cl : Nat} {A : AS}  (E : EA cl A)  (hc : cl + 1 ≤ 900000) : ∃ r, ax_firing  A = some r ∧ EA (cl + 1) r.2 ∧ inR r.1 ∧ (dx_firing  A = some r ∨ (r.1 = -99999999 ∧ dx_firing  A = none)) := by
  obtain ⟨net_places, net_firings, net_now, net_done, net_shape, net_state, net_weights, net_needed, net_borne, net_emptied, net_taken, net_given, reach_queued, reach_state, reach_count, reach_pairs, reach_ends, reach_tooGreat, reach_found, reach_slots, reach_depths, reach_foundBy, reach_targets, reach_lastInto, reach_nextInto, reach_marked, reach_queue, rows_highest, rows_width, rows_vector, rows_sums, rows_count, rows_shape, rows_least, rows_columns, rows_admitted, rounds_highest, rounds_width, rounds_vector, rounds_sums, rounds_count, rounds_shape, rounds_least, rounds_columns, rounds_admitted, sets_firings, sets_count, sets_shape, sets_takes, sets_loses, sets_gives, sets_least, story_markings, story_length, story_entries, story_here, story_further, S⟩ := E
  obtain ⟨rx, r, -, hr, S2, hin, post⟩ := sx_firing cl net_places net_firings net_now net_done net_shape net_state net_weights net_needed net_borne net_emptied net_taken net_given reach_queued reach_state reach_count reach_pairs reach_ends reach_tooGreat reach_found reach_slots reach_depths reach_foundBy reach_targets reach_lastInto reach_nextInto reach_marked reach_queue rows_highest rows_width rows_vector rows_sums rows_count rows_shape rows_least rows_columns rows_admitted rounds_highest rounds_width rounds_vector rounds_sums rounds_count rounds_shape rounds_least rounds_columns rounds_admitted sets_firings sets_count sets_shape sets_takes sets_loses sets_gives sets_least story_markings story_length story_entries story_here story_further A  hc S
  refine ⟨r, hr, ⟨_, _, _, _, _, _, _, _, _, _, _, _, _, _, _, _, _, _, _, _, _, _, _, _, _, _, _, _, _, _, _, _, _, _, _, _, _, _, _, _, _, _, _, _, _, _, _, _, _, _, _, _, _, _, _, _, _, S2⟩, hin, ?_⟩
  rcases post with ⟨-, -, q⟩ | ⟨-, q1, q2⟩
  · exact Or.inl q
  · exact Or.inr ⟨q1, q2⟩
theorem ea_arc {cl : Nat} {A : AS} {x1 : Int} {x2 : Int} {x3 : Int} {x4 : Int} (E : EA cl A) (hx1 : inR x1) (hx2 : inR x2) (hx3 : inR x3) (hx4 : inR x4) (hc : cl + 1 ≤ 900000) : ∃ r, ax_arc x1 x2 x3 x4 A = some r ∧ EA (cl + 1) r.2 ∧ inR r.1 ∧ (dx_arc x1 x2 x3 x4 A = some r ∨ (r.1 = -99999999 ∧ dx_arc x1 x2 x3 x4 A = none)) := by
  obtain ⟨net_places, net_firings, net_now, net_done, net_shape, net_state, net_weights, net_needed, net_borne, net_emptied, net_taken, net_given, reach_queued, reach_state, reach_count, reach_pairs, reach_ends, reach_tooGreat, reach_found, reach_slots, reach_depths, reach_foundBy, reach_targets, reach_lastInto, reach_nextInto, reach_marked, reach_queue, rows_highest, rows_width, rows_vector, rows_sums, rows_count, rows_shape, rows_least, rows_columns, rows_admitted, rounds_highest, rounds_width, rounds_vector, rounds_sums, rounds_count, rounds_shape, rounds_least, rounds_columns, rounds_admitted, sets_firings, sets_count, sets_shape, sets_takes, sets_loses, sets_gives, sets_least, story_markings, story_length, story_entries, story_here, story_further, S⟩ := E
  obtain ⟨rx, r, -, hr, S2, hin, post⟩ := sx_arc cl net_places net_firings net_now net_done net_shape net_state net_weights net_needed net_borne net_emptied net_taken net_given reach_queued reach_state reach_count reach_pairs reach_ends reach_tooGreat reach_found reach_slots reach_depths reach_foundBy reach_targets reach_lastInto reach_nextInto reach_marked reach_queue rows_highest rows_width rows_vector rows_sums rows_count rows_shape rows_least rows_columns rows_admitted rounds_highest rounds_width rounds_vector rounds_sums rounds_count rounds_shape rounds_least rounds_columns rounds_admitted sets_firings sets_count sets_shape sets_takes sets_loses sets_gives sets_least story_markings story_length story_entries story_here story_further A x1 x2 x3 x4 hx1 hx2 hx3 hx4 hc S
  refine ⟨r, hr, ⟨_, _, _, _, _, _, _, _, _, _, _, _, _, _, _, _, _, _, _, _, _, _, _, _, _, _, _, _, _, _, _, _, _, _, _, _, _, _, _, _, _, _, _, _, _, _, _, _, _, _, _, _, _, _, _, _, _, S2⟩, hin, ?_⟩
  rcases post with ⟨-, -, q⟩ | ⟨-, q1, q2⟩ | ⟨-, q1, q2⟩
  · exact Or.inl q
  · exact Or.inr ⟨q1, q2⟩
  · exact Or.inr ⟨q1, q2⟩
theorem ea_tokens {cl : Nat} {A : AS} {x1 : Int} (E : EA cl A) (hx1 : inR x1) (hc : cl + 1 ≤ 900000) : ∃ r, ax_tokens x1 A = some r ∧ EA (cl + 1) r.2 ∧ inR r.1 ∧ (dx_tokens x1 A = some r ∨ (r.1 = -99999999 ∧ dx_tokens x1 A = none)) := by
  obtain ⟨net_places, net_firings, net_now, net_done, net_shape, net_state, net_weights, net_needed, net_borne, net_emptied, net_taken, net_given, reach_queued, reach_state, reach_count, reach_pairs, reach_ends, reach_tooGreat, reach_found, reach_slots, reach_depths, reach_foundBy, reach_targets, reach_lastInto, reach_nextInto, reach_marked, reach_queue, rows_highest, rows_width, rows_vector, rows_sums, rows_count, rows_shape, rows_least, rows_columns, rows_admitted, rounds_highest, rounds_width, rounds_vector, rounds_sums, rounds_count, rounds_shape, rounds_least, rounds_columns, rounds_admitted, sets_firings, sets_count, sets_shape, sets_takes, sets_loses, sets_gives, sets_least, story_markings, story_length, story_entries, story_here, story_further, S⟩ := E
  obtain ⟨rx, r, -, hr, S2, hin, post⟩ := sx_tokens cl net_places net_firings net_now net_done net_shape net_state net_weights net_needed net_borne net_emptied net_taken net_given reach_queued reach_state reach_count reach_pairs reach_ends reach_tooGreat reach_found reach_slots reach_depths reach_foundBy reach_targets reach_lastInto reach_nextInto reach_marked reach_queue rows_highest rows_width rows_vector rows_sums rows_count rows_shape rows_least rows_columns rows_admitted rounds_highest rounds_width rounds_vector rounds_sums rounds_count rounds_shape rounds_least rounds_columns rounds_admitted sets_firings sets_count sets_shape sets_takes sets_loses sets_gives sets_least story_markings story_length story_entries story_here story_further A x1 hx1 hc S
  refine ⟨r, hr, ⟨_, _, _, _, _, _, _, _, _, _, _, _, _, _, _, _, _, _, _, _, _, _, _, _, _, _, _, _, _, _, _, _, _, _, _, _, _, _, _, _, _, _, _, _, _, _, _, _, _, _, _, _, _, _, _, _, _, S2⟩, hin, ?_⟩
  rcases post with ⟨-, -, q⟩ | ⟨-, q1, q2⟩
  · exact Or.inl q
  · exact Or.inr ⟨q1, q2⟩
theorem oa_tokens {A : AS} {x1 : Int} {r : Int × AS} (h : ax_tokens x1 A = some r) : r.2 = A := by
  obtain ⟨rm, -, h⟩ := Ob_of h
  cases h
  rfl
theorem od_tokens {A : AS} {x1 : Int} {r : Int × AS} (h : dx_tokens x1 A = some r) : r.2 = A := by
  obtain ⟨rm, -, h⟩ := Ob_of h
  obtain ⟨-, h⟩ := G_of h
  cases h
  rfl
theorem ea_can {cl : Nat} {A : AS} {x1 : Int} (E : EA cl A) (hx1 : inR x1) (hc : cl + 1 ≤ 900000) : ∃ r, ax_can x1 A = some r ∧ EA (cl + 1) r.2 ∧ inR r.1 ∧ (dx_can x1 A = some r ∨ (r.1 = -99999999 ∧ dx_can x1 A = none)) := by
  obtain ⟨net_places, net_firings, net_now, net_done, net_shape, net_state, net_weights, net_needed, net_borne, net_emptied, net_taken, net_given, reach_queued, reach_state, reach_count, reach_pairs, reach_ends, reach_tooGreat, reach_found, reach_slots, reach_depths, reach_foundBy, reach_targets, reach_lastInto, reach_nextInto, reach_marked, reach_queue, rows_highest, rows_width, rows_vector, rows_sums, rows_count, rows_shape, rows_least, rows_columns, rows_admitted, rounds_highest, rounds_width, rounds_vector, rounds_sums, rounds_count, rounds_shape, rounds_least, rounds_columns, rounds_admitted, sets_firings, sets_count, sets_shape, sets_takes, sets_loses, sets_gives, sets_least, story_markings, story_length, story_entries, story_here, story_further, S⟩ := E
  obtain ⟨rx, r, -, hr, S2, hin, post⟩ := sx_can cl net_places net_firings net_now net_done net_shape net_state net_weights net_needed net_borne net_emptied net_taken net_given reach_queued reach_state reach_count reach_pairs reach_ends reach_tooGreat reach_found reach_slots reach_depths reach_foundBy reach_targets reach_lastInto reach_nextInto reach_marked reach_queue rows_highest rows_width rows_vector rows_sums rows_count rows_shape rows_least rows_columns rows_admitted rounds_highest rounds_width rounds_vector rounds_sums rounds_count rounds_shape rounds_least rounds_columns rounds_admitted sets_firings sets_count sets_shape sets_takes sets_loses sets_gives sets_least story_markings story_length story_entries story_here story_further A x1 hx1 hc S
  refine ⟨r, hr, ⟨_, _, _, _, _, _, _, _, _, _, _, _, _, _, _, _, _, _, _, _, _, _, _, _, _, _, _, _, _, _, _, _, _, _, _, _, _, _, _, _, _, _, _, _, _, _, _, _, _, _, _, _, _, _, _, _, _, S2⟩, hin, ?_⟩
  rcases post with ⟨-, -, q⟩ | ⟨-, q1, q2⟩
  · exact Or.inl q
  · exact Or.inr ⟨q1, q2⟩
theorem oa_can {A : AS} {x1 : Int} {r : Int × AS} (h : ax_can x1 A = some r) : r.2 = A := by
  obtain ⟨rm, -, h⟩ := Ob_of h
  cases h
  rfl
theorem od_can {A : AS} {x1 : Int} {r : Int × AS} (h : dx_can x1 A = some r) : r.2 = A := by
  obtain ⟨rm, -, h⟩ := Ob_of h
  obtain ⟨-, h⟩ := G_of h
  cases h
  rfl
theorem ea_fire {cl : Nat} {A : AS} {x1 : Int} (E : EA cl A) (hx1 : inR x1) (hc : cl + 1 ≤ 900000) : ∃ r, ax_fire x1 A = some r ∧ EA (cl + 1) r.2 ∧ inR r.1 ∧ (dx_fire x1 A = some r ∨ (r.1 = -99999999 ∧ dx_fire x1 A = none)) := by
  obtain ⟨net_places, net_firings, net_now, net_done, net_shape, net_state, net_weights, net_needed, net_borne, net_emptied, net_taken, net_given, reach_queued, reach_state, reach_count, reach_pairs, reach_ends, reach_tooGreat, reach_found, reach_slots, reach_depths, reach_foundBy, reach_targets, reach_lastInto, reach_nextInto, reach_marked, reach_queue, rows_highest, rows_width, rows_vector, rows_sums, rows_count, rows_shape, rows_least, rows_columns, rows_admitted, rounds_highest, rounds_width, rounds_vector, rounds_sums, rounds_count, rounds_shape, rounds_least, rounds_columns, rounds_admitted, sets_firings, sets_count, sets_shape, sets_takes, sets_loses, sets_gives, sets_least, story_markings, story_length, story_entries, story_here, story_further, S⟩ := E
  obtain ⟨rx, r, -, hr, S2, hin, post⟩ := sx_fire cl net_places net_firings net_now net_done net_shape net_state net_weights net_needed net_borne net_emptied net_taken net_given reach_queued reach_state reach_count reach_pairs reach_ends reach_tooGreat reach_found reach_slots reach_depths reach_foundBy reach_targets reach_lastInto reach_nextInto reach_marked reach_queue rows_highest rows_width rows_vector rows_sums rows_count rows_shape rows_least rows_columns rows_admitted rounds_highest rounds_width rounds_vector rounds_sums rounds_count rounds_shape rounds_least rounds_columns rounds_admitted sets_firings sets_count sets_shape sets_takes sets_loses sets_gives sets_least story_markings story_length story_entries story_here story_further A x1 hx1 hc S
  refine ⟨r, hr, ⟨_, _, _, _, _, _, _, _, _, _, _, _, _, _, _, _, _, _, _, _, _, _, _, _, _, _, _, _, _, _, _, _, _, _, _, _, _, _, _, _, _, _, _, _, _, _, _, _, _, _, _, _, _, _, _, _, _, S2⟩, hin, ?_⟩
  rcases post with ⟨-, -, q⟩ | ⟨-, q1, q2⟩ | ⟨-, q1, q2⟩
  · exact Or.inl q
  · exact Or.inr ⟨q1, q2⟩
  · exact Or.inr ⟨q1, q2⟩
theorem ea_graph {cl : Nat} {A : AS} {x1 : Int} (E : EA cl A) (hx1 : inR x1) (hc : cl + 1 ≤ 900000) : ∃ r, ax_graph x1 A = some r ∧ EA (cl + 1) r.2 ∧ inR r.1 ∧ (dx_graph x1 A = some r ∨ (r.1 = -99999999 ∧ dx_graph x1 A = none)) := by
  obtain ⟨net_places, net_firings, net_now, net_done, net_shape, net_state, net_weights, net_needed, net_borne, net_emptied, net_taken, net_given, reach_queued, reach_state, reach_count, reach_pairs, reach_ends, reach_tooGreat, reach_found, reach_slots, reach_depths, reach_foundBy, reach_targets, reach_lastInto, reach_nextInto, reach_marked, reach_queue, rows_highest, rows_width, rows_vector, rows_sums, rows_count, rows_shape, rows_least, rows_columns, rows_admitted, rounds_highest, rounds_width, rounds_vector, rounds_sums, rounds_count, rounds_shape, rounds_least, rounds_columns, rounds_admitted, sets_firings, sets_count, sets_shape, sets_takes, sets_loses, sets_gives, sets_least, story_markings, story_length, story_entries, story_here, story_further, S⟩ := E
  obtain ⟨rx, r, -, hr, S2, hin, post⟩ := sx_graph cl net_places net_firings net_now net_done net_shape net_state net_weights net_needed net_borne net_emptied net_taken net_given reach_queued reach_state reach_count reach_pairs reach_ends reach_tooGreat reach_found reach_slots reach_depths reach_foundBy reach_targets reach_lastInto reach_nextInto reach_marked reach_queue rows_highest rows_width rows_vector rows_sums rows_count rows_shape rows_least rows_columns rows_admitted rounds_highest rounds_width rounds_vector rounds_sums rounds_count rounds_shape rounds_least rounds_columns rounds_admitted sets_firings sets_count sets_shape sets_takes sets_loses sets_gives sets_least story_markings story_length story_entries story_here story_further A x1 hx1 hc S
  refine ⟨r, hr, ⟨_, _, _, _, _, _, _, _, _, _, _, _, _, _, _, _, _, _, _, _, _, _, _, _, _, _, _, _, _, _, _, _, _, _, _, _, _, _, _, _, _, _, _, _, _, _, _, _, _, _, _, _, _, _, _, _, _, S2⟩, hin, ?_⟩
  rcases post with ⟨-, -, q⟩ | ⟨-, q1, q2⟩
  · exact Or.inl q
  · exact Or.inr ⟨q1, q2⟩
theorem oa_graph {A : AS} {x1 : Int} {r : Int × AS} (h : ax_graph x1 A = some r) : r.2 = A := by
  obtain ⟨rm, -, h⟩ := Ob_of h
  cases h
  rfl
theorem od_graph {A : AS} {x1 : Int} {r : Int × AS} (h : dx_graph x1 A = some r) : r.2 = A := by
  obtain ⟨rm, -, h⟩ := Ob_of h
  obtain ⟨-, h⟩ := G_of h
  cases h
  rfl
theorem ea_marking {cl : Nat} {A : AS} {x1 : Int} {x2 : Int} (E : EA cl A) (hx1 : inR x1) (hx2 : inR x2) (hc : cl + 1 ≤ 900000) : ∃ r, ax_marking x1 x2 A = some r ∧ EA (cl + 1) r.2 ∧ inR r.1 ∧ (dx_marking x1 x2 A = some r ∨ (r.1 = -99999999 ∧ dx_marking x1 x2 A = none)) := by
  obtain ⟨net_places, net_firings, net_now, net_done, net_shape, net_state, net_weights, net_needed, net_borne, net_emptied, net_taken, net_given, reach_queued, reach_state, reach_count, reach_pairs, reach_ends, reach_tooGreat, reach_found, reach_slots, reach_depths, reach_foundBy, reach_targets, reach_lastInto, reach_nextInto, reach_marked, reach_queue, rows_highest, rows_width, rows_vector, rows_sums, rows_count, rows_shape, rows_least, rows_columns, rows_admitted, rounds_highest, rounds_width, rounds_vector, rounds_sums, rounds_count, rounds_shape, rounds_least, rounds_columns, rounds_admitted, sets_firings, sets_count, sets_shape, sets_takes, sets_loses, sets_gives, sets_least, story_markings, story_length, story_entries, story_here, story_further, S⟩ := E
  obtain ⟨rx, r, -, hr, S2, hin, post⟩ := sx_marking cl net_places net_firings net_now net_done net_shape net_state net_weights net_needed net_borne net_emptied net_taken net_given reach_queued reach_state reach_count reach_pairs reach_ends reach_tooGreat reach_found reach_slots reach_depths reach_foundBy reach_targets reach_lastInto reach_nextInto reach_marked reach_queue rows_highest rows_width rows_vector rows_sums rows_count rows_shape rows_least rows_columns rows_admitted rounds_highest rounds_width rounds_vector rounds_sums rounds_count rounds_shape rounds_least rounds_columns rounds_admitted sets_firings sets_count sets_shape sets_takes sets_loses sets_gives sets_least story_markings story_length story_entries story_here story_further A x1 x2 hx1 hx2 hc S
  refine ⟨r, hr, ⟨_, _, _, _, _, _, _, _, _, _, _, _, _, _, _, _, _, _, _, _, _, _, _, _, _, _, _, _, _, _, _, _, _, _, _, _, _, _, _, _, _, _, _, _, _, _, _, _, _, _, _, _, _, _, _, _, _, S2⟩, hin, ?_⟩
  rcases post with ⟨-, -, q⟩ | ⟨-, q1, q2⟩ | ⟨-, q1, q2⟩
  · exact Or.inl q
  · exact Or.inr ⟨q1, q2⟩
  · exact Or.inr ⟨q1, q2⟩
theorem oa_marking {A : AS} {x1 : Int} {x2 : Int} {r : Int × AS} (h : ax_marking x1 x2 A = some r) : r.2 = A := by
  obtain ⟨rm, -, h⟩ := Ob_of h
  cases h
  rfl
theorem od_marking {A : AS} {x1 : Int} {x2 : Int} {r : Int × AS} (h : dx_marking x1 x2 A = some r) : r.2 = A := by
  obtain ⟨rm, -, h⟩ := Ob_of h
  obtain ⟨-, h⟩ := G_of h
  cases h
  rfl
theorem ea_most {cl : Nat} {A : AS} {x1 : Int} (E : EA cl A) (hx1 : inR x1) (hc : cl + 1 ≤ 900000) : ∃ r, ax_most x1 A = some r ∧ EA (cl + 1) r.2 ∧ inR r.1 ∧ (dx_most x1 A = some r ∨ (r.1 = -99999999 ∧ dx_most x1 A = none)) := by
  obtain ⟨net_places, net_firings, net_now, net_done, net_shape, net_state, net_weights, net_needed, net_borne, net_emptied, net_taken, net_given, reach_queued, reach_state, reach_count, reach_pairs, reach_ends, reach_tooGreat, reach_found, reach_slots, reach_depths, reach_foundBy, reach_targets, reach_lastInto, reach_nextInto, reach_marked, reach_queue, rows_highest, rows_width, rows_vector, rows_sums, rows_count, rows_shape, rows_least, rows_columns, rows_admitted, rounds_highest, rounds_width, rounds_vector, rounds_sums, rounds_count, rounds_shape, rounds_least, rounds_columns, rounds_admitted, sets_firings, sets_count, sets_shape, sets_takes, sets_loses, sets_gives, sets_least, story_markings, story_length, story_entries, story_here, story_further, S⟩ := E
  obtain ⟨rx, r, -, hr, S2, hin, post⟩ := sx_most cl net_places net_firings net_now net_done net_shape net_state net_weights net_needed net_borne net_emptied net_taken net_given reach_queued reach_state reach_count reach_pairs reach_ends reach_tooGreat reach_found reach_slots reach_depths reach_foundBy reach_targets reach_lastInto reach_nextInto reach_marked reach_queue rows_highest rows_width rows_vector rows_sums rows_count rows_shape rows_least rows_columns rows_admitted rounds_highest rounds_width rounds_vector rounds_sums rounds_count rounds_shape rounds_least rounds_columns rounds_admitted sets_firings sets_count sets_shape sets_takes sets_loses sets_gives sets_least story_markings story_length story_entries story_here story_further A x1 hx1 hc S
  refine ⟨r, hr, ⟨_, _, _, _, _, _, _, _, _, _, _, _, _, _, _, _, _, _, _, _, _, _, _, _, _, _, _, _, _, _, _, _, _, _, _, _, _, _, _, _, _, _, _, _, _, _, _, _, _, _, _, _, _, _, _, _, _, S2⟩, hin, ?_⟩
  rcases post with ⟨-, -, q⟩ | ⟨-, q1, q2⟩
  · exact Or.inl q
  · exact Or.inr ⟨q1, q2⟩
theorem oa_most {A : AS} {x1 : Int} {r : Int × AS} (h : ax_most x1 A = some r) : r.2 = A := by
  obtain ⟨rm, -, h⟩ := Ob_of h
  cases h
  rfl
theorem od_most {A : AS} {x1 : Int} {r : Int × AS} (h : dx_most x1 A = some r) : r.2 = A := by
  obtain ⟨rm, -, h⟩ := Ob_of h
  obtain ⟨-, h⟩ := G_of h
  cases h
  rfl
theorem ea_level {cl : Nat} {A : AS} {x1 : Int} (E : EA cl A) (hx1 : inR x1) (hc : cl + 1 ≤ 900000) : ∃ r, ax_level x1 A = some r ∧ EA (cl + 1) r.2 ∧ inR r.1 ∧ (dx_level x1 A = some r ∨ (r.1 = -99999999 ∧ dx_level x1 A = none)) := by
  obtain ⟨net_places, net_firings, net_now, net_done, net_shape, net_state, net_weights, net_needed, net_borne, net_emptied, net_taken, net_given, reach_queued, reach_state, reach_count, reach_pairs, reach_ends, reach_tooGreat, reach_found, reach_slots, reach_depths, reach_foundBy, reach_targets, reach_lastInto, reach_nextInto, reach_marked, reach_queue, rows_highest, rows_width, rows_vector, rows_sums, rows_count, rows_shape, rows_least, rows_columns, rows_admitted, rounds_highest, rounds_width, rounds_vector, rounds_sums, rounds_count, rounds_shape, rounds_least, rounds_columns, rounds_admitted, sets_firings, sets_count, sets_shape, sets_takes, sets_loses, sets_gives, sets_least, story_markings, story_length, story_entries, story_here, story_further, S⟩ := E
  obtain ⟨rx, r, -, hr, S2, hin, post⟩ := sx_level cl net_places net_firings net_now net_done net_shape net_state net_weights net_needed net_borne net_emptied net_taken net_given reach_queued reach_state reach_count reach_pairs reach_ends reach_tooGreat reach_found reach_slots reach_depths reach_foundBy reach_targets reach_lastInto reach_nextInto reach_marked reach_queue rows_highest rows_width rows_vector rows_sums rows_count rows_shape rows_least rows_columns rows_admitted rounds_highest rounds_width rounds_vector rounds_sums rounds_count rounds_shape rounds_least rounds_columns rounds_admitted sets_firings sets_count sets_shape sets_takes sets_loses sets_gives sets_least story_markings story_length story_entries story_here story_further A x1 hx1 hc S
  refine ⟨r, hr, ⟨_, _, _, _, _, _, _, _, _, _, _, _, _, _, _, _, _, _, _, _, _, _, _, _, _, _, _, _, _, _, _, _, _, _, _, _, _, _, _, _, _, _, _, _, _, _, _, _, _, _, _, _, _, _, _, _, _, S2⟩, hin, ?_⟩
  rcases post with ⟨-, -, q⟩ | ⟨-, q1, q2⟩
  · exact Or.inl q
  · exact Or.inr ⟨q1, q2⟩
theorem oa_level {A : AS} {x1 : Int} {r : Int × AS} (h : ax_level x1 A = some r) : r.2 = A := by
  obtain ⟨rm, -, h⟩ := Ob_of h
  cases h
  rfl
theorem od_level {A : AS} {x1 : Int} {r : Int × AS} (h : dx_level x1 A = some r) : r.2 = A := by
  obtain ⟨rm, -, h⟩ := Ob_of h
  obtain ⟨-, h⟩ := G_of h
  cases h
  rfl
theorem ea_way {cl : Nat} {A : AS} {x1 : Int} {x2 : Int} (E : EA cl A) (hx1 : inR x1) (hx2 : inR x2) (hc : cl + 1 ≤ 900000) : ∃ r, ax_way x1 x2 A = some r ∧ EA (cl + 1) r.2 ∧ inR r.1 ∧ (dx_way x1 x2 A = some r ∨ (r.1 = -99999999 ∧ dx_way x1 x2 A = none)) := by
  obtain ⟨net_places, net_firings, net_now, net_done, net_shape, net_state, net_weights, net_needed, net_borne, net_emptied, net_taken, net_given, reach_queued, reach_state, reach_count, reach_pairs, reach_ends, reach_tooGreat, reach_found, reach_slots, reach_depths, reach_foundBy, reach_targets, reach_lastInto, reach_nextInto, reach_marked, reach_queue, rows_highest, rows_width, rows_vector, rows_sums, rows_count, rows_shape, rows_least, rows_columns, rows_admitted, rounds_highest, rounds_width, rounds_vector, rounds_sums, rounds_count, rounds_shape, rounds_least, rounds_columns, rounds_admitted, sets_firings, sets_count, sets_shape, sets_takes, sets_loses, sets_gives, sets_least, story_markings, story_length, story_entries, story_here, story_further, S⟩ := E
  obtain ⟨rx, r, -, hr, S2, hin, post⟩ := sx_way cl net_places net_firings net_now net_done net_shape net_state net_weights net_needed net_borne net_emptied net_taken net_given reach_queued reach_state reach_count reach_pairs reach_ends reach_tooGreat reach_found reach_slots reach_depths reach_foundBy reach_targets reach_lastInto reach_nextInto reach_marked reach_queue rows_highest rows_width rows_vector rows_sums rows_count rows_shape rows_least rows_columns rows_admitted rounds_highest rounds_width rounds_vector rounds_sums rounds_count rounds_shape rounds_least rounds_columns rounds_admitted sets_firings sets_count sets_shape sets_takes sets_loses sets_gives sets_least story_markings story_length story_entries story_here story_further A x1 x2 hx1 hx2 hc S
  refine ⟨r, hr, ⟨_, _, _, _, _, _, _, _, _, _, _, _, _, _, _, _, _, _, _, _, _, _, _, _, _, _, _, _, _, _, _, _, _, _, _, _, _, _, _, _, _, _, _, _, _, _, _, _, _, _, _, _, _, _, _, _, _, S2⟩, hin, ?_⟩
  rcases post with ⟨-, -, q⟩ | ⟨-, q1, q2⟩ | ⟨-, q1, q2⟩
  · exact Or.inl q
  · exact Or.inr ⟨q1, q2⟩
  · exact Or.inr ⟨q1, q2⟩
theorem oa_way {A : AS} {x1 : Int} {x2 : Int} {r : Int × AS} (h : ax_way x1 x2 A = some r) : r.2 = A := by
  obtain ⟨rm, -, h⟩ := Ob_of h
  cases h
  rfl
theorem od_way {A : AS} {x1 : Int} {x2 : Int} {r : Int × AS} (h : dx_way x1 x2 A = some r) : r.2 = A := by
  obtain ⟨rm, -, h⟩ := Ob_of h
  obtain ⟨-, h⟩ := G_of h
  cases h
  rfl
theorem ea_step {cl : Nat} {A : AS} {x1 : Int} {x2 : Int} {x3 : Int} (E : EA cl A) (hx1 : inR x1) (hx2 : inR x2) (hx3 : inR x3) (hc : cl + 1 ≤ 900000) : ∃ r, ax_step x1 x2 x3 A = some r ∧ EA (cl + 1) r.2 ∧ inR r.1 ∧ (dx_step x1 x2 x3 A = some r ∨ (r.1 = -99999999 ∧ dx_step x1 x2 x3 A = none)) := by
  obtain ⟨net_places, net_firings, net_now, net_done, net_shape, net_state, net_weights, net_needed, net_borne, net_emptied, net_taken, net_given, reach_queued, reach_state, reach_count, reach_pairs, reach_ends, reach_tooGreat, reach_found, reach_slots, reach_depths, reach_foundBy, reach_targets, reach_lastInto, reach_nextInto, reach_marked, reach_queue, rows_highest, rows_width, rows_vector, rows_sums, rows_count, rows_shape, rows_least, rows_columns, rows_admitted, rounds_highest, rounds_width, rounds_vector, rounds_sums, rounds_count, rounds_shape, rounds_least, rounds_columns, rounds_admitted, sets_firings, sets_count, sets_shape, sets_takes, sets_loses, sets_gives, sets_least, story_markings, story_length, story_entries, story_here, story_further, S⟩ := E
  obtain ⟨rx, r, -, hr, S2, hin, post⟩ := sx_step cl net_places net_firings net_now net_done net_shape net_state net_weights net_needed net_borne net_emptied net_taken net_given reach_queued reach_state reach_count reach_pairs reach_ends reach_tooGreat reach_found reach_slots reach_depths reach_foundBy reach_targets reach_lastInto reach_nextInto reach_marked reach_queue rows_highest rows_width rows_vector rows_sums rows_count rows_shape rows_least rows_columns rows_admitted rounds_highest rounds_width rounds_vector rounds_sums rounds_count rounds_shape rounds_least rounds_columns rounds_admitted sets_firings sets_count sets_shape sets_takes sets_loses sets_gives sets_least story_markings story_length story_entries story_here story_further A x1 x2 x3 hx1 hx2 hx3 hc S
  refine ⟨r, hr, ⟨_, _, _, _, _, _, _, _, _, _, _, _, _, _, _, _, _, _, _, _, _, _, _, _, _, _, _, _, _, _, _, _, _, _, _, _, _, _, _, _, _, _, _, _, _, _, _, _, _, _, _, _, _, _, _, _, _, S2⟩, hin, ?_⟩
  rcases post with ⟨-, -, q⟩ | ⟨-, q1, q2⟩ | ⟨-, q1, q2⟩
  · exact Or.inl q
  · exact Or.inr ⟨q1, q2⟩
  · exact Or.inr ⟨q1, q2⟩
theorem oa_step {A : AS} {x1 : Int} {x2 : Int} {x3 : Int} {r : Int × AS} (h : ax_step x1 x2 x3 A = some r) : r.2 = A := by
  obtain ⟨rm, -, h⟩ := Ob_of h
  cases h
  rfl
theorem od_step {A : AS} {x1 : Int} {x2 : Int} {x3 : Int} {r : Int × AS} (h : dx_step x1 x2 x3 A = some r) : r.2 = A := by
  obtain ⟨rm, -, h⟩ := Ob_of h
  obtain ⟨-, h⟩ := G_of h
  cases h
  rfl
theorem ea_rows {cl : Nat} {A : AS}  (E : EA cl A)  (hc : cl + 1 ≤ 900000) : ∃ r, dx_rows  A = some r ∧ EA (cl + 1) r.2 ∧ inR r.1 := by
  obtain ⟨net_places, net_firings, net_now, net_done, net_shape, net_state, net_weights, net_needed, net_borne, net_emptied, net_taken, net_given, reach_queued, reach_state, reach_count, reach_pairs, reach_ends, reach_tooGreat, reach_found, reach_slots, reach_depths, reach_foundBy, reach_targets, reach_lastInto, reach_nextInto, reach_marked, reach_queue, rows_highest, rows_width, rows_vector, rows_sums, rows_count, rows_shape, rows_least, rows_columns, rows_admitted, rounds_highest, rounds_width, rounds_vector, rounds_sums, rounds_count, rounds_shape, rounds_least, rounds_columns, rounds_admitted, sets_firings, sets_count, sets_shape, sets_takes, sets_loses, sets_gives, sets_least, story_markings, story_length, story_entries, story_here, story_further, S⟩ := E
  obtain ⟨rx, r, -, hr, S2, hin, post⟩ := sx_rows cl net_places net_firings net_now net_done net_shape net_state net_weights net_needed net_borne net_emptied net_taken net_given reach_queued reach_state reach_count reach_pairs reach_ends reach_tooGreat reach_found reach_slots reach_depths reach_foundBy reach_targets reach_lastInto reach_nextInto reach_marked reach_queue rows_highest rows_width rows_vector rows_sums rows_count rows_shape rows_least rows_columns rows_admitted rounds_highest rounds_width rounds_vector rounds_sums rounds_count rounds_shape rounds_least rounds_columns rounds_admitted sets_firings sets_count sets_shape sets_takes sets_loses sets_gives sets_least story_markings story_length story_entries story_here story_further A  hc S
  exact ⟨r, hr, ⟨_, _, _, _, _, _, _, _, _, _, _, _, _, _, _, _, _, _, _, _, _, _, _, _, _, _, _, _, _, _, _, _, _, _, _, _, _, _, _, _, _, _, _, _, _, _, _, _, _, _, _, _, _, _, _, _, _, S2⟩, hin⟩
theorem od_rows {A : AS}  {r : Int × AS} (h : dx_rows  A = some r) : r.2 = A := by
  obtain ⟨rm, -, h⟩ := Ob_of h
  cases h
  rfl
theorem ea_row {cl : Nat} {A : AS} {x1 : Int} {x2 : Int} (E : EA cl A) (hx1 : inR x1) (hx2 : inR x2) (hc : cl + 1 ≤ 900000) : ∃ r, ax_row x1 x2 A = some r ∧ EA (cl + 1) r.2 ∧ inR r.1 ∧ (dx_row x1 x2 A = some r ∨ (r.1 = -99999999 ∧ dx_row x1 x2 A = none)) := by
  obtain ⟨net_places, net_firings, net_now, net_done, net_shape, net_state, net_weights, net_needed, net_borne, net_emptied, net_taken, net_given, reach_queued, reach_state, reach_count, reach_pairs, reach_ends, reach_tooGreat, reach_found, reach_slots, reach_depths, reach_foundBy, reach_targets, reach_lastInto, reach_nextInto, reach_marked, reach_queue, rows_highest, rows_width, rows_vector, rows_sums, rows_count, rows_shape, rows_least, rows_columns, rows_admitted, rounds_highest, rounds_width, rounds_vector, rounds_sums, rounds_count, rounds_shape, rounds_least, rounds_columns, rounds_admitted, sets_firings, sets_count, sets_shape, sets_takes, sets_loses, sets_gives, sets_least, story_markings, story_length, story_entries, story_here, story_further, S⟩ := E
  obtain ⟨rx, r, -, hr, S2, hin, post⟩ := sx_row cl net_places net_firings net_now net_done net_shape net_state net_weights net_needed net_borne net_emptied net_taken net_given reach_queued reach_state reach_count reach_pairs reach_ends reach_tooGreat reach_found reach_slots reach_depths reach_foundBy reach_targets reach_lastInto reach_nextInto reach_marked reach_queue rows_highest rows_width rows_vector rows_sums rows_count rows_shape rows_least rows_columns rows_admitted rounds_highest rounds_width rounds_vector rounds_sums rounds_count rounds_shape rounds_least rounds_columns rounds_admitted sets_firings sets_count sets_shape sets_takes sets_loses sets_gives sets_least story_markings story_length story_entries story_here story_further A x1 x2 hx1 hx2 hc S
  refine ⟨r, hr, ⟨_, _, _, _, _, _, _, _, _, _, _, _, _, _, _, _, _, _, _, _, _, _, _, _, _, _, _, _, _, _, _, _, _, _, _, _, _, _, _, _, _, _, _, _, _, _, _, _, _, _, _, _, _, _, _, _, _, S2⟩, hin, ?_⟩
  rcases post with ⟨-, -, q⟩ | ⟨-, q1, q2⟩
  · exact Or.inl q
  · exact Or.inr ⟨q1, q2⟩
theorem oa_row {A : AS} {x1 : Int} {x2 : Int} {r : Int × AS} (h : ax_row x1 x2 A = some r) : r.2 = A := by
  obtain ⟨rm, -, h⟩ := Ob_of h
  cases h
  rfl
theorem od_row {A : AS} {x1 : Int} {x2 : Int} {r : Int × AS} (h : dx_row x1 x2 A = some r) : r.2 = A := by
  obtain ⟨rm, -, h⟩ := Ob_of h
  obtain ⟨-, h⟩ := G_of h
  cases h
  rfl
theorem ea_mostByRows {cl : Nat} {A : AS} {x1 : Int} (E : EA cl A) (hx1 : inR x1) (hc : cl + 1 ≤ 900000) : ∃ r, ax_mostByRows x1 A = some r ∧ EA (cl + 1) r.2 ∧ inR r.1 ∧ (dx_mostByRows x1 A = some r ∨ (r.1 = -99999999 ∧ dx_mostByRows x1 A = none)) := by
  obtain ⟨net_places, net_firings, net_now, net_done, net_shape, net_state, net_weights, net_needed, net_borne, net_emptied, net_taken, net_given, reach_queued, reach_state, reach_count, reach_pairs, reach_ends, reach_tooGreat, reach_found, reach_slots, reach_depths, reach_foundBy, reach_targets, reach_lastInto, reach_nextInto, reach_marked, reach_queue, rows_highest, rows_width, rows_vector, rows_sums, rows_count, rows_shape, rows_least, rows_columns, rows_admitted, rounds_highest, rounds_width, rounds_vector, rounds_sums, rounds_count, rounds_shape, rounds_least, rounds_columns, rounds_admitted, sets_firings, sets_count, sets_shape, sets_takes, sets_loses, sets_gives, sets_least, story_markings, story_length, story_entries, story_here, story_further, S⟩ := E
  obtain ⟨rx, r, -, hr, S2, hin, post⟩ := sx_mostByRows cl net_places net_firings net_now net_done net_shape net_state net_weights net_needed net_borne net_emptied net_taken net_given reach_queued reach_state reach_count reach_pairs reach_ends reach_tooGreat reach_found reach_slots reach_depths reach_foundBy reach_targets reach_lastInto reach_nextInto reach_marked reach_queue rows_highest rows_width rows_vector rows_sums rows_count rows_shape rows_least rows_columns rows_admitted rounds_highest rounds_width rounds_vector rounds_sums rounds_count rounds_shape rounds_least rounds_columns rounds_admitted sets_firings sets_count sets_shape sets_takes sets_loses sets_gives sets_least story_markings story_length story_entries story_here story_further A x1 hx1 hc S
  refine ⟨r, hr, ⟨_, _, _, _, _, _, _, _, _, _, _, _, _, _, _, _, _, _, _, _, _, _, _, _, _, _, _, _, _, _, _, _, _, _, _, _, _, _, _, _, _, _, _, _, _, _, _, _, _, _, _, _, _, _, _, _, _, S2⟩, hin, ?_⟩
  rcases post with ⟨-, -, q⟩ | ⟨-, q1, q2⟩
  · exact Or.inl q
  · exact Or.inr ⟨q1, q2⟩
theorem oa_mostByRows {A : AS} {x1 : Int} {r : Int × AS} (h : ax_mostByRows x1 A = some r) : r.2 = A := by
  obtain ⟨rm, -, h⟩ := Ob_of h
  cases h
  rfl
theorem od_mostByRows {A : AS} {x1 : Int} {r : Int × AS} (h : dx_mostByRows x1 A = some r) : r.2 = A := by
  obtain ⟨rm, -, h⟩ := Ob_of h
  obtain ⟨-, h⟩ := G_of h
  cases h
  rfl
theorem ea_rounds {cl : Nat} {A : AS}  (E : EA cl A)  (hc : cl + 1 ≤ 900000) : ∃ r, dx_rounds  A = some r ∧ EA (cl + 1) r.2 ∧ inR r.1 := by
  obtain ⟨net_places, net_firings, net_now, net_done, net_shape, net_state, net_weights, net_needed, net_borne, net_emptied, net_taken, net_given, reach_queued, reach_state, reach_count, reach_pairs, reach_ends, reach_tooGreat, reach_found, reach_slots, reach_depths, reach_foundBy, reach_targets, reach_lastInto, reach_nextInto, reach_marked, reach_queue, rows_highest, rows_width, rows_vector, rows_sums, rows_count, rows_shape, rows_least, rows_columns, rows_admitted, rounds_highest, rounds_width, rounds_vector, rounds_sums, rounds_count, rounds_shape, rounds_least, rounds_columns, rounds_admitted, sets_firings, sets_count, sets_shape, sets_takes, sets_loses, sets_gives, sets_least, story_markings, story_length, story_entries, story_here, story_further, S⟩ := E
  obtain ⟨rx, r, -, hr, S2, hin, post⟩ := sx_rounds cl net_places net_firings net_now net_done net_shape net_state net_weights net_needed net_borne net_emptied net_taken net_given reach_queued reach_state reach_count reach_pairs reach_ends reach_tooGreat reach_found reach_slots reach_depths reach_foundBy reach_targets reach_lastInto reach_nextInto reach_marked reach_queue rows_highest rows_width rows_vector rows_sums rows_count rows_shape rows_least rows_columns rows_admitted rounds_highest rounds_width rounds_vector rounds_sums rounds_count rounds_shape rounds_least rounds_columns rounds_admitted sets_firings sets_count sets_shape sets_takes sets_loses sets_gives sets_least story_markings story_length story_entries story_here story_further A  hc S
  exact ⟨r, hr, ⟨_, _, _, _, _, _, _, _, _, _, _, _, _, _, _, _, _, _, _, _, _, _, _, _, _, _, _, _, _, _, _, _, _, _, _, _, _, _, _, _, _, _, _, _, _, _, _, _, _, _, _, _, _, _, _, _, _, S2⟩, hin⟩
theorem od_rounds {A : AS}  {r : Int × AS} (h : dx_rounds  A = some r) : r.2 = A := by
  obtain ⟨rm, -, h⟩ := Ob_of h
  cases h
  rfl
theorem ea_round {cl : Nat} {A : AS} {x1 : Int} {x2 : Int} (E : EA cl A) (hx1 : inR x1) (hx2 : inR x2) (hc : cl + 1 ≤ 900000) : ∃ r, ax_round x1 x2 A = some r ∧ EA (cl + 1) r.2 ∧ inR r.1 ∧ (dx_round x1 x2 A = some r ∨ (r.1 = -99999999 ∧ dx_round x1 x2 A = none)) := by
  obtain ⟨net_places, net_firings, net_now, net_done, net_shape, net_state, net_weights, net_needed, net_borne, net_emptied, net_taken, net_given, reach_queued, reach_state, reach_count, reach_pairs, reach_ends, reach_tooGreat, reach_found, reach_slots, reach_depths, reach_foundBy, reach_targets, reach_lastInto, reach_nextInto, reach_marked, reach_queue, rows_highest, rows_width, rows_vector, rows_sums, rows_count, rows_shape, rows_least, rows_columns, rows_admitted, rounds_highest, rounds_width, rounds_vector, rounds_sums, rounds_count, rounds_shape, rounds_least, rounds_columns, rounds_admitted, sets_firings, sets_count, sets_shape, sets_takes, sets_loses, sets_gives, sets_least, story_markings, story_length, story_entries, story_here, story_further, S⟩ := E
  obtain ⟨rx, r, -, hr, S2, hin, post⟩ := sx_round cl net_places net_firings net_now net_done net_shape net_state net_weights net_needed net_borne net_emptied net_taken net_given reach_queued reach_state reach_count reach_pairs reach_ends reach_tooGreat reach_found reach_slots reach_depths reach_foundBy reach_targets reach_lastInto reach_nextInto reach_marked reach_queue rows_highest rows_width rows_vector rows_sums rows_count rows_shape rows_least rows_columns rows_admitted rounds_highest rounds_width rounds_vector rounds_sums rounds_count rounds_shape rounds_least rounds_columns rounds_admitted sets_firings sets_count sets_shape sets_takes sets_loses sets_gives sets_least story_markings story_length story_entries story_here story_further A x1 x2 hx1 hx2 hc S
  refine ⟨r, hr, ⟨_, _, _, _, _, _, _, _, _, _, _, _, _, _, _, _, _, _, _, _, _, _, _, _, _, _, _, _, _, _, _, _, _, _, _, _, _, _, _, _, _, _, _, _, _, _, _, _, _, _, _, _, _, _, _, _, _, S2⟩, hin, ?_⟩
  rcases post with ⟨-, -, q⟩ | ⟨-, q1, q2⟩
  · exact Or.inl q
  · exact Or.inr ⟨q1, q2⟩
theorem oa_round {A : AS} {x1 : Int} {x2 : Int} {r : Int × AS} (h : ax_round x1 x2 A = some r) : r.2 = A := by
  obtain ⟨rm, -, h⟩ := Ob_of h
  cases h
  rfl
theorem od_round {A : AS} {x1 : Int} {x2 : Int} {r : Int × AS} (h : dx_round x1 x2 A = some r) : r.2 = A := by
  obtain ⟨rm, -, h⟩ := Ob_of h
  obtain ⟨-, h⟩ := G_of h
  cases h
  rfl
theorem ea_keeps {cl : Nat} {A : AS}  (E : EA cl A)  (hc : cl + 1 ≤ 900000) : ∃ r, dx_keeps  A = some r ∧ EA (cl + 1) r.2 ∧ inR r.1 := by
  obtain ⟨net_places, net_firings, net_now, net_done, net_shape, net_state, net_weights, net_needed, net_borne, net_emptied, net_taken, net_given, reach_queued, reach_state, reach_count, reach_pairs, reach_ends, reach_tooGreat, reach_found, reach_slots, reach_depths, reach_foundBy, reach_targets, reach_lastInto, reach_nextInto, reach_marked, reach_queue, rows_highest, rows_width, rows_vector, rows_sums, rows_count, rows_shape, rows_least, rows_columns, rows_admitted, rounds_highest, rounds_width, rounds_vector, rounds_sums, rounds_count, rounds_shape, rounds_least, rounds_columns, rounds_admitted, sets_firings, sets_count, sets_shape, sets_takes, sets_loses, sets_gives, sets_least, story_markings, story_length, story_entries, story_here, story_further, S⟩ := E
  obtain ⟨rx, r, -, hr, S2, hin, post⟩ := sx_keeps cl net_places net_firings net_now net_done net_shape net_state net_weights net_needed net_borne net_emptied net_taken net_given reach_queued reach_state reach_count reach_pairs reach_ends reach_tooGreat reach_found reach_slots reach_depths reach_foundBy reach_targets reach_lastInto reach_nextInto reach_marked reach_queue rows_highest rows_width rows_vector rows_sums rows_count rows_shape rows_least rows_columns rows_admitted rounds_highest rounds_width rounds_vector rounds_sums rounds_count rounds_shape rounds_least rounds_columns rounds_admitted sets_firings sets_count sets_shape sets_takes sets_loses sets_gives sets_least story_markings story_length story_entries story_here story_further A  hc S
  exact ⟨r, hr, ⟨_, _, _, _, _, _, _, _, _, _, _, _, _, _, _, _, _, _, _, _, _, _, _, _, _, _, _, _, _, _, _, _, _, _, _, _, _, _, _, _, _, _, _, _, _, _, _, _, _, _, _, _, _, _, _, _, _, S2⟩, hin⟩
theorem od_keeps {A : AS}  {r : Int × AS} (h : dx_keeps  A = some r) : r.2 = A := by
  obtain ⟨rm, -, h⟩ := Ob_of h
  cases h
  rfl
theorem ea_siphons {cl : Nat} {A : AS}  (E : EA cl A)  (hc : cl + 1 ≤ 900000) : ∃ r, dx_siphons  A = some r ∧ EA (cl + 1) r.2 ∧ inR r.1 := by
  obtain ⟨net_places, net_firings, net_now, net_done, net_shape, net_state, net_weights, net_needed, net_borne, net_emptied, net_taken, net_given, reach_queued, reach_state, reach_count, reach_pairs, reach_ends, reach_tooGreat, reach_found, reach_slots, reach_depths, reach_foundBy, reach_targets, reach_lastInto, reach_nextInto, reach_marked, reach_queue, rows_highest, rows_width, rows_vector, rows_sums, rows_count, rows_shape, rows_least, rows_columns, rows_admitted, rounds_highest, rounds_width, rounds_vector, rounds_sums, rounds_count, rounds_shape, rounds_least, rounds_columns, rounds_admitted, sets_firings, sets_count, sets_shape, sets_takes, sets_loses, sets_gives, sets_least, story_markings, story_length, story_entries, story_here, story_further, S⟩ := E
  obtain ⟨rx, r, -, hr, S2, hin, post⟩ := sx_siphons cl net_places net_firings net_now net_done net_shape net_state net_weights net_needed net_borne net_emptied net_taken net_given reach_queued reach_state reach_count reach_pairs reach_ends reach_tooGreat reach_found reach_slots reach_depths reach_foundBy reach_targets reach_lastInto reach_nextInto reach_marked reach_queue rows_highest rows_width rows_vector rows_sums rows_count rows_shape rows_least rows_columns rows_admitted rounds_highest rounds_width rounds_vector rounds_sums rounds_count rounds_shape rounds_least rounds_columns rounds_admitted sets_firings sets_count sets_shape sets_takes sets_loses sets_gives sets_least story_markings story_length story_entries story_here story_further A  hc S
  exact ⟨r, hr, ⟨_, _, _, _, _, _, _, _, _, _, _, _, _, _, _, _, _, _, _, _, _, _, _, _, _, _, _, _, _, _, _, _, _, _, _, _, _, _, _, _, _, _, _, _, _, _, _, _, _, _, _, _, _, _, _, _, _, S2⟩, hin⟩
theorem od_siphons {A : AS}  {r : Int × AS} (h : dx_siphons  A = some r) : r.2 = A := by
  obtain ⟨rm, -, h⟩ := Ob_of h
  cases h
  rfl
theorem ea_siphon {cl : Nat} {A : AS} {x1 : Int} (E : EA cl A) (hx1 : inR x1) (hc : cl + 1 ≤ 900000) : ∃ r, ax_siphon x1 A = some r ∧ EA (cl + 1) r.2 ∧ inR r.1 ∧ (dx_siphon x1 A = some r ∨ (r.1 = -99999999 ∧ dx_siphon x1 A = none)) := by
  obtain ⟨net_places, net_firings, net_now, net_done, net_shape, net_state, net_weights, net_needed, net_borne, net_emptied, net_taken, net_given, reach_queued, reach_state, reach_count, reach_pairs, reach_ends, reach_tooGreat, reach_found, reach_slots, reach_depths, reach_foundBy, reach_targets, reach_lastInto, reach_nextInto, reach_marked, reach_queue, rows_highest, rows_width, rows_vector, rows_sums, rows_count, rows_shape, rows_least, rows_columns, rows_admitted, rounds_highest, rounds_width, rounds_vector, rounds_sums, rounds_count, rounds_shape, rounds_least, rounds_columns, rounds_admitted, sets_firings, sets_count, sets_shape, sets_takes, sets_loses, sets_gives, sets_least, story_markings, story_length, story_entries, story_here, story_further, S⟩ := E
  obtain ⟨rx, r, -, hr, S2, hin, post⟩ := sx_siphon cl net_places net_firings net_now net_done net_shape net_state net_weights net_needed net_borne net_emptied net_taken net_given reach_queued reach_state reach_count reach_pairs reach_ends reach_tooGreat reach_found reach_slots reach_depths reach_foundBy reach_targets reach_lastInto reach_nextInto reach_marked reach_queue rows_highest rows_width rows_vector rows_sums rows_count rows_shape rows_least rows_columns rows_admitted rounds_highest rounds_width rounds_vector rounds_sums rounds_count rounds_shape rounds_least rounds_columns rounds_admitted sets_firings sets_count sets_shape sets_takes sets_loses sets_gives sets_least story_markings story_length story_entries story_here story_further A x1 hx1 hc S
  refine ⟨r, hr, ⟨_, _, _, _, _, _, _, _, _, _, _, _, _, _, _, _, _, _, _, _, _, _, _, _, _, _, _, _, _, _, _, _, _, _, _, _, _, _, _, _, _, _, _, _, _, _, _, _, _, _, _, _, _, _, _, _, _, S2⟩, hin, ?_⟩
  rcases post with ⟨-, -, q⟩ | ⟨-, q1, q2⟩
  · exact Or.inl q
  · exact Or.inr ⟨q1, q2⟩
theorem oa_siphon {A : AS} {x1 : Int} {r : Int × AS} (h : ax_siphon x1 A = some r) : r.2 = A := by
  obtain ⟨rm, -, h⟩ := Ob_of h
  cases h
  rfl
theorem od_siphon {A : AS} {x1 : Int} {r : Int × AS} (h : dx_siphon x1 A = some r) : r.2 = A := by
  obtain ⟨rm, -, h⟩ := Ob_of h
  obtain ⟨-, h⟩ := G_of h
  cases h
  rfl
theorem ea_trap {cl : Nat} {A : AS} {x1 : Int} (E : EA cl A) (hx1 : inR x1) (hc : cl + 1 ≤ 900000) : ∃ r, ax_trap x1 A = some r ∧ EA (cl + 1) r.2 ∧ inR r.1 ∧ (dx_trap x1 A = some r ∨ (r.1 = -99999999 ∧ dx_trap x1 A = none)) := by
  obtain ⟨net_places, net_firings, net_now, net_done, net_shape, net_state, net_weights, net_needed, net_borne, net_emptied, net_taken, net_given, reach_queued, reach_state, reach_count, reach_pairs, reach_ends, reach_tooGreat, reach_found, reach_slots, reach_depths, reach_foundBy, reach_targets, reach_lastInto, reach_nextInto, reach_marked, reach_queue, rows_highest, rows_width, rows_vector, rows_sums, rows_count, rows_shape, rows_least, rows_columns, rows_admitted, rounds_highest, rounds_width, rounds_vector, rounds_sums, rounds_count, rounds_shape, rounds_least, rounds_columns, rounds_admitted, sets_firings, sets_count, sets_shape, sets_takes, sets_loses, sets_gives, sets_least, story_markings, story_length, story_entries, story_here, story_further, S⟩ := E
  obtain ⟨rx, r, -, hr, S2, hin, post⟩ := sx_trap cl net_places net_firings net_now net_done net_shape net_state net_weights net_needed net_borne net_emptied net_taken net_given reach_queued reach_state reach_count reach_pairs reach_ends reach_tooGreat reach_found reach_slots reach_depths reach_foundBy reach_targets reach_lastInto reach_nextInto reach_marked reach_queue rows_highest rows_width rows_vector rows_sums rows_count rows_shape rows_least rows_columns rows_admitted rounds_highest rounds_width rounds_vector rounds_sums rounds_count rounds_shape rounds_least rounds_columns rounds_admitted sets_firings sets_count sets_shape sets_takes sets_loses sets_gives sets_least story_markings story_length story_entries story_here story_further A x1 hx1 hc S
  refine ⟨r, hr, ⟨_, _, _, _, _, _, _, _, _, _, _, _, _, _, _, _, _, _, _, _, _, _, _, _, _, _, _, _, _, _, _, _, _, _, _, _, _, _, _, _, _, _, _, _, _, _, _, _, _, _, _, _, _, _, _, _, _, S2⟩, hin, ?_⟩
  rcases post with ⟨-, -, q⟩ | ⟨-, q1, q2⟩
  · exact Or.inl q
  · exact Or.inr ⟨q1, q2⟩
theorem oa_trap {A : AS} {x1 : Int} {r : Int × AS} (h : ax_trap x1 A = some r) : r.2 = A := by
  obtain ⟨rm, -, h⟩ := Ob_of h
  cases h
  rfl
theorem od_trap {A : AS} {x1 : Int} {r : Int × AS} (h : dx_trap x1 A = some r) : r.2 = A := by
  obtain ⟨rm, -, h⟩ := Ob_of h
  obtain ⟨-, h⟩ := G_of h
  cases h
  rfl
theorem ea_isPromising {cl : Nat} {A : AS}  (E : EA cl A)  (hc : cl + 1 ≤ 900000) : ∃ r, dx_isPromising  A = some r ∧ EA (cl + 1) r.2 ∧ inR r.1 := by
  obtain ⟨net_places, net_firings, net_now, net_done, net_shape, net_state, net_weights, net_needed, net_borne, net_emptied, net_taken, net_given, reach_queued, reach_state, reach_count, reach_pairs, reach_ends, reach_tooGreat, reach_found, reach_slots, reach_depths, reach_foundBy, reach_targets, reach_lastInto, reach_nextInto, reach_marked, reach_queue, rows_highest, rows_width, rows_vector, rows_sums, rows_count, rows_shape, rows_least, rows_columns, rows_admitted, rounds_highest, rounds_width, rounds_vector, rounds_sums, rounds_count, rounds_shape, rounds_least, rounds_columns, rounds_admitted, sets_firings, sets_count, sets_shape, sets_takes, sets_loses, sets_gives, sets_least, story_markings, story_length, story_entries, story_here, story_further, S⟩ := E
  obtain ⟨rx, r, -, hr, S2, hin, post⟩ := sx_isPromising cl net_places net_firings net_now net_done net_shape net_state net_weights net_needed net_borne net_emptied net_taken net_given reach_queued reach_state reach_count reach_pairs reach_ends reach_tooGreat reach_found reach_slots reach_depths reach_foundBy reach_targets reach_lastInto reach_nextInto reach_marked reach_queue rows_highest rows_width rows_vector rows_sums rows_count rows_shape rows_least rows_columns rows_admitted rounds_highest rounds_width rounds_vector rounds_sums rounds_count rounds_shape rounds_least rounds_columns rounds_admitted sets_firings sets_count sets_shape sets_takes sets_loses sets_gives sets_least story_markings story_length story_entries story_here story_further A  hc S
  exact ⟨r, hr, ⟨_, _, _, _, _, _, _, _, _, _, _, _, _, _, _, _, _, _, _, _, _, _, _, _, _, _, _, _, _, _, _, _, _, _, _, _, _, _, _, _, _, _, _, _, _, _, _, _, _, _, _, _, _, _, _, _, _, S2⟩, hin⟩
theorem od_isPromising {A : AS}  {r : Int × AS} (h : dx_isPromising  A = some r) : r.2 = A := by
  obtain ⟨rm, -, h⟩ := Ob_of h
  cases h
  rfl
theorem ea_log {cl : Nat} {A : AS} {x1 : Int} (E : EA cl A) (hx1 : inR x1) (hc : cl + 1 ≤ 900000) : ∃ r, ax_log x1 A = some r ∧ EA (cl + 1) r.2 ∧ inR r.1 ∧ (dx_log x1 A = some r ∨ (r.1 = -99999999 ∧ dx_log x1 A = none)) := by
  obtain ⟨net_places, net_firings, net_now, net_done, net_shape, net_state, net_weights, net_needed, net_borne, net_emptied, net_taken, net_given, reach_queued, reach_state, reach_count, reach_pairs, reach_ends, reach_tooGreat, reach_found, reach_slots, reach_depths, reach_foundBy, reach_targets, reach_lastInto, reach_nextInto, reach_marked, reach_queue, rows_highest, rows_width, rows_vector, rows_sums, rows_count, rows_shape, rows_least, rows_columns, rows_admitted, rounds_highest, rounds_width, rounds_vector, rounds_sums, rounds_count, rounds_shape, rounds_least, rounds_columns, rounds_admitted, sets_firings, sets_count, sets_shape, sets_takes, sets_loses, sets_gives, sets_least, story_markings, story_length, story_entries, story_here, story_further, S⟩ := E
  obtain ⟨rx, r, -, hr, S2, hin, post⟩ := sx_log cl net_places net_firings net_now net_done net_shape net_state net_weights net_needed net_borne net_emptied net_taken net_given reach_queued reach_state reach_count reach_pairs reach_ends reach_tooGreat reach_found reach_slots reach_depths reach_foundBy reach_targets reach_lastInto reach_nextInto reach_marked reach_queue rows_highest rows_width rows_vector rows_sums rows_count rows_shape rows_least rows_columns rows_admitted rounds_highest rounds_width rounds_vector rounds_sums rounds_count rounds_shape rounds_least rounds_columns rounds_admitted sets_firings sets_count sets_shape sets_takes sets_loses sets_gives sets_least story_markings story_length story_entries story_here story_further A x1 hx1 hc S
  refine ⟨r, hr, ⟨_, _, _, _, _, _, _, _, _, _, _, _, _, _, _, _, _, _, _, _, _, _, _, _, _, _, _, _, _, _, _, _, _, _, _, _, _, _, _, _, _, _, _, _, _, _, _, _, _, _, _, _, _, _, _, _, _, S2⟩, hin, ?_⟩
  rcases post with ⟨-, -, q⟩ | ⟨-, q1, q2⟩ | ⟨-, q1, q2⟩
  · exact Or.inl q
  · exact Or.inr ⟨q1, q2⟩
  · exact Or.inr ⟨q1, q2⟩
theorem ea_blank {cl : Nat} {A : AS}  (E : EA cl A)  (hc : cl + 1 ≤ 900000) : ∃ r, dx_blank  A = some r ∧ EA (cl + 1) r.2 ∧ inR r.1 := by
  obtain ⟨net_places, net_firings, net_now, net_done, net_shape, net_state, net_weights, net_needed, net_borne, net_emptied, net_taken, net_given, reach_queued, reach_state, reach_count, reach_pairs, reach_ends, reach_tooGreat, reach_found, reach_slots, reach_depths, reach_foundBy, reach_targets, reach_lastInto, reach_nextInto, reach_marked, reach_queue, rows_highest, rows_width, rows_vector, rows_sums, rows_count, rows_shape, rows_least, rows_columns, rows_admitted, rounds_highest, rounds_width, rounds_vector, rounds_sums, rounds_count, rounds_shape, rounds_least, rounds_columns, rounds_admitted, sets_firings, sets_count, sets_shape, sets_takes, sets_loses, sets_gives, sets_least, story_markings, story_length, story_entries, story_here, story_further, S⟩ := E
  obtain ⟨rx, r, -, hr, S2, hin, post⟩ := sx_blank cl net_places net_firings net_now net_done net_shape net_state net_weights net_needed net_borne net_emptied net_taken net_given reach_queued reach_state reach_count reach_pairs reach_ends reach_tooGreat reach_found reach_slots reach_depths reach_foundBy reach_targets reach_lastInto reach_nextInto reach_marked reach_queue rows_highest rows_width rows_vector rows_sums rows_count rows_shape rows_least rows_columns rows_admitted rounds_highest rounds_width rounds_vector rounds_sums rounds_count rounds_shape rounds_least rounds_columns rounds_admitted sets_firings sets_count sets_shape sets_takes sets_loses sets_gives sets_least story_markings story_length story_entries story_here story_further A  hc S
  exact ⟨r, hr, ⟨_, _, _, _, _, _, _, _, _, _, _, _, _, _, _, _, _, _, _, _, _, _, _, _, _, _, _, _, _, _, _, _, _, _, _, _, _, _, _, _, _, _, _, _, _, _, _, _, _, _, _, _, _, _, _, _, _, S2⟩, hin⟩
theorem ea_goes {cl : Nat} {A : AS}  (E : EA cl A)  (hc : cl + 1 ≤ 900000) : ∃ r, dx_goes  A = some r ∧ EA (cl + 1) r.2 ∧ inR r.1 := by
  obtain ⟨net_places, net_firings, net_now, net_done, net_shape, net_state, net_weights, net_needed, net_borne, net_emptied, net_taken, net_given, reach_queued, reach_state, reach_count, reach_pairs, reach_ends, reach_tooGreat, reach_found, reach_slots, reach_depths, reach_foundBy, reach_targets, reach_lastInto, reach_nextInto, reach_marked, reach_queue, rows_highest, rows_width, rows_vector, rows_sums, rows_count, rows_shape, rows_least, rows_columns, rows_admitted, rounds_highest, rounds_width, rounds_vector, rounds_sums, rounds_count, rounds_shape, rounds_least, rounds_columns, rounds_admitted, sets_firings, sets_count, sets_shape, sets_takes, sets_loses, sets_gives, sets_least, story_markings, story_length, story_entries, story_here, story_further, S⟩ := E
  obtain ⟨rx, r, -, hr, S2, hin, post⟩ := sx_goes cl net_places net_firings net_now net_done net_shape net_state net_weights net_needed net_borne net_emptied net_taken net_given reach_queued reach_state reach_count reach_pairs reach_ends reach_tooGreat reach_found reach_slots reach_depths reach_foundBy reach_targets reach_lastInto reach_nextInto reach_marked reach_queue rows_highest rows_width rows_vector rows_sums rows_count rows_shape rows_least rows_columns rows_admitted rounds_highest rounds_width rounds_vector rounds_sums rounds_count rounds_shape rounds_least rounds_columns rounds_admitted sets_firings sets_count sets_shape sets_takes sets_loses sets_gives sets_least story_markings story_length story_entries story_here story_further A  hc S
  exact ⟨r, hr, ⟨_, _, _, _, _, _, _, _, _, _, _, _, _, _, _, _, _, _, _, _, _, _, _, _, _, _, _, _, _, _, _, _, _, _, _, _, _, _, _, _, _, _, _, _, _, _, _, _, _, _, _, _, _, _, _, _, _, S2⟩, hin⟩
theorem od_goes {A : AS}  {r : Int × AS} (h : dx_goes  A = some r) : r.2 = A := by
  obtain ⟨rm, -, h⟩ := Ob_of h
  cases h
  rfl
theorem ea_cost {cl : Nat} {A : AS}  (E : EA cl A)  (hc : cl + 1 ≤ 900000) : ∃ r, dx_cost  A = some r ∧ EA (cl + 1) r.2 ∧ inR r.1 := by
  obtain ⟨net_places, net_firings, net_now, net_done, net_shape, net_state, net_weights, net_needed, net_borne, net_emptied, net_taken, net_given, reach_queued, reach_state, reach_count, reach_pairs, reach_ends, reach_tooGreat, reach_found, reach_slots, reach_depths, reach_foundBy, reach_targets, reach_lastInto, reach_nextInto, reach_marked, reach_queue, rows_highest, rows_width, rows_vector, rows_sums, rows_count, rows_shape, rows_least, rows_columns, rows_admitted, rounds_highest, rounds_width, rounds_vector, rounds_sums, rounds_count, rounds_shape, rounds_least, rounds_columns, rounds_admitted, sets_firings, sets_count, sets_shape, sets_takes, sets_loses, sets_gives, sets_least, story_markings, story_length, story_entries, story_here, story_further, S⟩ := E
  obtain ⟨rx, r, -, hr, S2, hin, post⟩ := sx_cost cl net_places net_firings net_now net_done net_shape net_state net_weights net_needed net_borne net_emptied net_taken net_given reach_queued reach_state reach_count reach_pairs reach_ends reach_tooGreat reach_found reach_slots reach_depths reach_foundBy reach_targets reach_lastInto reach_nextInto reach_marked reach_queue rows_highest rows_width rows_vector rows_sums rows_count rows_shape rows_least rows_columns rows_admitted rounds_highest rounds_width rounds_vector rounds_sums rounds_count rounds_shape rounds_least rounds_columns rounds_admitted sets_firings sets_count sets_shape sets_takes sets_loses sets_gives sets_least story_markings story_length story_entries story_here story_further A  hc S
  exact ⟨r, hr, ⟨_, _, _, _, _, _, _, _, _, _, _, _, _, _, _, _, _, _, _, _, _, _, _, _, _, _, _, _, _, _, _, _, _, _, _, _, _, _, _, _, _, _, _, _, _, _, _, _, _, _, _, _, _, _, _, _, _, S2⟩, hin⟩
theorem od_cost {A : AS}  {r : Int × AS} (h : dx_cost  A = some r) : r.2 = A := by
  obtain ⟨rm, -, h⟩ := Ob_of h
  cases h
  rfl
theorem dx_place_ax {A : AS} {x1 : Int} {r : Int × AS} (h : dx_place x1 A = some r) : ax_place x1 A = some r := by
  obtain ⟨rm, h1, h⟩ := Ob_of h
  obtain ⟨h2, h⟩ := G_of h
  cases h
  unfold ax_place
  rw [h1]
  show some _ = _
  rw [if_pos h2]
theorem dx_firing_ax {A : AS}  {r : Int × AS} (h : dx_firing  A = some r) : ax_firing  A = some r := by
  obtain ⟨rm, h1, h⟩ := Ob_of h
  obtain ⟨h2, h⟩ := G_of h
  cases h
  unfold ax_firing
  rw [h1]
  show some _ = _
  rw [if_pos h2]
theorem dx_arc_ax {A : AS} {x1 : Int} {x2 : Int} {x3 : Int} {x4 : Int} {r : Int × AS} (h : dx_arc x1 x2 x3 x4 A = some r) : ax_arc x1 x2 x3 x4 A = some r := by
  obtain ⟨rm, h1, h⟩ := Ob_of h
  obtain ⟨h2, h⟩ := G_of h
  cases h
  unfold ax_arc
  rw [h1]
  show some _ = _
  rw [if_pos h2]
theorem dx_tokens_ax {A : AS} {x1 : Int} {r : Int × AS} (h : dx_tokens x1 A = some r) : ax_tokens x1 A = some r := by
  obtain ⟨rm, h1, h⟩ := Ob_of h
  obtain ⟨h2, h⟩ := G_of h
  cases h
  unfold ax_tokens
  rw [h1]
  show some _ = _
  rw [if_pos h2]
theorem dx_fire_ax {A : AS} {x1 : Int} {r : Int × AS} (h : dx_fire x1 A = some r) : ax_fire x1 A = some r := by
  obtain ⟨rm, h1, h⟩ := Ob_of h
  obtain ⟨h2, h⟩ := G_of h
  cases h
  unfold ax_fire
  rw [h1]
  show some _ = _
  rw [if_pos h2]
theorem dx_graph_ax {A : AS} {x1 : Int} {r : Int × AS} (h : dx_graph x1 A = some r) : ax_graph x1 A = some r := by
  obtain ⟨rm, h1, h⟩ := Ob_of h
  obtain ⟨h2, h⟩ := G_of h
  cases h
  unfold ax_graph
  rw [h1]
  show some _ = _
  rw [if_pos h2]
theorem dx_marking_ax {A : AS} {x1 : Int} {x2 : Int} {r : Int × AS} (h : dx_marking x1 x2 A = some r) : ax_marking x1 x2 A = some r := by
  obtain ⟨rm, h1, h⟩ := Ob_of h
  obtain ⟨h2, h⟩ := G_of h
  cases h
  unfold ax_marking
  rw [h1]
  show some _ = _
  rw [if_pos h2]
theorem dx_most_ax {A : AS} {x1 : Int} {r : Int × AS} (h : dx_most x1 A = some r) : ax_most x1 A = some r := by
  obtain ⟨rm, h1, h⟩ := Ob_of h
  obtain ⟨h2, h⟩ := G_of h
  cases h
  unfold ax_most
  rw [h1]
  show some _ = _
  rw [if_pos h2]
theorem dx_level_ax {A : AS} {x1 : Int} {r : Int × AS} (h : dx_level x1 A = some r) : ax_level x1 A = some r := by
  obtain ⟨rm, h1, h⟩ := Ob_of h
  obtain ⟨h2, h⟩ := G_of h
  cases h
  unfold ax_level
  rw [h1]
  show some _ = _
  rw [if_pos h2]
theorem dx_way_ax {A : AS} {x1 : Int} {x2 : Int} {r : Int × AS} (h : dx_way x1 x2 A = some r) : ax_way x1 x2 A = some r := by
  obtain ⟨rm, h1, h⟩ := Ob_of h
  obtain ⟨h2, h⟩ := G_of h
  cases h
  unfold ax_way
  rw [h1]
  show some _ = _
  rw [if_pos h2]
theorem dx_step_ax {A : AS} {x1 : Int} {x2 : Int} {x3 : Int} {r : Int × AS} (h : dx_step x1 x2 x3 A = some r) : ax_step x1 x2 x3 A = some r := by
  obtain ⟨rm, h1, h⟩ := Ob_of h
  obtain ⟨h2, h⟩ := G_of h
  cases h
  unfold ax_step
  rw [h1]
  show some _ = _
  rw [if_pos h2]
theorem dx_row_ax {A : AS} {x1 : Int} {x2 : Int} {r : Int × AS} (h : dx_row x1 x2 A = some r) : ax_row x1 x2 A = some r := by
  obtain ⟨rm, h1, h⟩ := Ob_of h
  obtain ⟨h2, h⟩ := G_of h
  cases h
  unfold ax_row
  rw [h1]
  show some _ = _
  rw [if_pos h2]
theorem dx_mostByRows_ax {A : AS} {x1 : Int} {r : Int × AS} (h : dx_mostByRows x1 A = some r) : ax_mostByRows x1 A = some r := by
  obtain ⟨rm, h1, h⟩ := Ob_of h
  obtain ⟨h2, h⟩ := G_of h
  cases h
  unfold ax_mostByRows
  rw [h1]
  show some _ = _
  rw [if_pos h2]
theorem dx_round_ax {A : AS} {x1 : Int} {x2 : Int} {r : Int × AS} (h : dx_round x1 x2 A = some r) : ax_round x1 x2 A = some r := by
  obtain ⟨rm, h1, h⟩ := Ob_of h
  obtain ⟨h2, h⟩ := G_of h
  cases h
  unfold ax_round
  rw [h1]
  show some _ = _
  rw [if_pos h2]
theorem dx_siphon_ax {A : AS} {x1 : Int} {r : Int × AS} (h : dx_siphon x1 A = some r) : ax_siphon x1 A = some r := by
  obtain ⟨rm, h1, h⟩ := Ob_of h
  obtain ⟨h2, h⟩ := G_of h
  cases h
  unfold ax_siphon
  rw [h1]
  show some _ = _
  rw [if_pos h2]
theorem dx_trap_ax {A : AS} {x1 : Int} {r : Int × AS} (h : dx_trap x1 A = some r) : ax_trap x1 A = some r := by
  obtain ⟨rm, h1, h⟩ := Ob_of h
  obtain ⟨h2, h⟩ := G_of h
  cases h
  unfold ax_trap
  rw [h1]
  show some _ = _
  rw [if_pos h2]
theorem dx_log_ax {A : AS} {x1 : Int} {r : Int × AS} (h : dx_log x1 A = some r) : ax_log x1 A = some r := by
  obtain ⟨rm, h1, h⟩ := Ob_of h
  obtain ⟨h2, h⟩ := G_of h
  cases h
  unfold ax_log
  rw [h1]
  show some _ = _
  rw [if_pos h2]
