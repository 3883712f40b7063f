def F_L_low (x0 : Int) (x1 : Int) : Option (Int) :=
  G (inR x1 ∧ x1 ≠ 0) ((some ((iRem (iAnd x0 2147483647) x1))))
def F_L_act_b727 (oA : AS) (kc : Nat) : Option (Int × AS × Nat) :=
  G (kc + 1 ≤ 1) (Ob (dx_cost oA) (fun r1 => (G ((kc + 1) ≤ 1) (some (r1.1, r1.2, (kc + 1))))))
def F_L_act_b722 (oA : AS) (kc : Nat) : Option (Int × AS × Nat) :=
  G (kc + 1 ≤ 1) (Ob (dx_goes oA) (fun r3 => (G ((kc + 1) ≤ 1) (some (r3.1, r3.2, (kc + 1))))))
def F_L_act_b692 (l4 : Int) (oA : AS) (kc : Nat) : Option (Int × AS × Nat) :=
  G (kc + 1 ≤ 1) (Ob (ax_log (sx l4) oA) (fun r5 => (G ((kc + 1) ≤ 1) (some (r5.1, r5.2, (kc + 1))))))
def F_L_act_b675 (s1 : Int) (oA : AS) (kc : Nat) : Option (Int × AS × Nat) :=
  G (kc + 1 ≤ 1) (Ob (ax_trap (sx s1) oA) (fun r7 => (G ((kc + 1) ≤ 1) (some (r7.1, r7.2, (kc + 1))))))
def F_L_act_b652 (s1 : Int) (oA : AS) (kc : Nat) : Option (Int × AS × Nat) :=
  G (kc + 1 ≤ 1) (Ob (ax_siphon (sx s1) oA) (fun r9 => (G ((kc + 1) ≤ 1) (some (r9.1, r9.2, (kc + 1))))))
def F_L_act_b610 (l4 : Int) (s1 : Int) (oA : AS) (kc : Nat) : Option (Int × AS × Nat) :=
  G (kc + 1 ≤ 1) (Ob (ax_round (sx s1) (sx l4) oA) (fun r11 => (G ((kc + 1) ≤ 1) (some (r11.1, r11.2, (kc + 1))))))
def F_L_act_b576 (l3 : Int) (s1 : Int) (oA : AS) (kc : Nat) : Option (Int × AS × Nat) :=
  G (kc + 1 ≤ 1) (Ob (ax_row (sx s1) (sx l3) oA) (fun r13 => (G ((kc + 1) ≤ 1) (some (r13.1, r13.2, (kc + 1))))))
def F_L_act_b549 (s1 : Int) (s2 : Int) (s3 : Int) (oA : AS) (kc : Nat) : Option (Int × AS × Nat) :=
  G (kc + 1 ≤ 1) (Ob (ax_step (sx s1) (sx s2) (sx s3) oA) (fun r15 => (G ((kc + 1) ≤ 1) (some (r15.1, r15.2, (kc + 1))))))
def F_L_act_b517 (s1 : Int) (s2 : Int) (oA : AS) (kc : Nat) : Option (Int × AS × Nat) :=
  G (kc + 1 ≤ 1) (Ob (ax_way (sx s1) (sx s2) oA) (fun r17 => (G ((kc + 1) ≤ 1) (some (r17.1, r17.2, (kc + 1))))))
def F_L_act_b479 (l3 : Int) (s1 : Int) (oA : AS) (kc : Nat) : Option (Int × AS × Nat) :=
  G (kc + 1 ≤ 1) (Ob (ax_marking (sx s1) (sx l3) oA) (fun r19 => (G ((kc + 1) ≤ 1) (some (r19.1, r19.2, (kc + 1))))))
def F_L_act_b456 (s1 : Int) (oA : AS) (kc : Nat) : Option (Int × AS × Nat) :=
  G (kc + 1 ≤ 1) (Ob (ax_graph (sx s1) oA) (fun r21 => (G ((kc + 1) ≤ 1) (some (r21.1, r21.2, (kc + 1))))))
def F_L_act_b438 (l1 : Int) (l2 : Int) (l5 : Int) (oA : AS) (kc : Nat) : Option (Int × AS × Nat) :=
  (G (inR l2) (if l2 = 0 then G (kc ≤ 1) (Ob (F_L_low (iShr l1 9) 4) (fun r23 => (F_L_act_b456 r23 oA kc))) else (F_L_act_b456 l5 oA kc)))
def F_L_act_b431 (l4 : Int) (oA : AS) (kc : Nat) : Option (Int × AS × Nat) :=
  G (kc + 1 ≤ 1) (Ob (ax_fire (sx l4) oA) (fun r25 => (G ((kc + 1) ≤ 1) (some (r25.1, r25.2, (kc + 1))))))
def F_L_act_b395 (s1 : Int) (s2 : Int) (s3 : Int) (s4 : Int) (oA : AS) (kc : Nat) : Option (Int × AS × Nat) :=
  G (kc + 1 ≤ 1) (Ob (ax_arc (sx s1) (sx s2) (sx s3) (sx s4) oA) (fun r27 => (G ((kc + 1) ≤ 1) (some (r27.1, r27.2, (kc + 1))))))
def F_L_act_b375 (l1 : Int) (l2 : Int) (l5 : Int) (s1 : Int) (s2 : Int) (s3 : Int) (oA : AS) (kc : Nat) : Option (Int × AS × Nat) :=
  (G (inR l2) (if l2 = 0 then G (kc ≤ 1) (Ob (F_L_low (iShr l1 9) 6) (fun r29 => G (inR (2 : Int) ∧ (2 : Int) ≠ 0) ((F_L_act_b395 s1 s2 s3 (iDiv r29 2) oA kc)))) else (F_L_act_b395 s1 s2 s3 l5 oA kc)))
def F_L_act_b308 (l1 : Int) (l2 : Int) (l3 : Int) (l4 : Int) (l5 : Int) (oA : AS) (kc : Nat) : Option (Int × AS × Nat) :=
  (G (inR l2) (if l2 = 0 then G (kc ≤ 1) (Ob (F_L_low (iShr l1 13) 9) (fun r31 => (G (inR r31 ∧ inR 4) (if 4 ≤ r31 then G (kc ≤ 1) (Ob (F_L_low (iShr l1 13) 9) (fun r32 => (G (inR r32 ∧ inR 7) (if 7 ≤ r32 then G (kc ≤ 1) (Ob (F_L_low (iShr l1 15) 2) (fun r33 => (F_L_act_b375 l1 l2 l5 l4 l3 (2 + r33) oA kc))) else (F_L_act_b375 l1 l2 l5 l4 l3 1 oA kc))))) else (F_L_act_b375 l1 l2 l5 l4 l3 0 oA kc))))) else G (kc ≤ 1) (Ob (F_L_low (iShr l1 13) 8) (fun r36 => (F_L_act_b375 l1 l2 l5 l4 l3 (r36 - 1) oA kc)))))
def F_L_act_b90 (l1 : Int) (l2 : Int) (l3 : Int) (l4 : Int) (s0 : Int) (oA : AS) (kc : Nat) : Option (Int × AS × Nat) :=
  G (kc ≤ 1) (Ob (F_L_low l1 48) (fun r38 => (G (inR r38) (if r38 = 0 then G (kc + 1 ≤ 1) (Ob (ax_place (sx s0) oA) (fun r42 => (G ((kc + 1) ≤ 1) (some (r42.1, r42.2, (kc + 1)))))) else if r38 = 1 then G (kc + 1 ≤ 1) (Ob (ax_firing oA) (fun r44 => (G ((kc + 1) ≤ 1) (some (r44.1, r44.2, (kc + 1)))))) else if 2 ≤ r38 ∧ r38 ≤ 11 then (F_L_act_b308 l1 l2 l3 l4 s0 oA kc) else if r38 = 12 then G (kc ≤ 1) (Ob (F_L_low (iShr l1 9) 5) (fun r46 => G (inR (4 : Int) ∧ (4 : Int) ≠ 0) (G (kc + 1 ≤ 1) (Ob (ax_arc (sx l4) (sx l3) 4 (sx (iDiv r46 4)) oA) (fun r47 => (G ((kc + 1) ≤ 1) (some (r47.1, r47.2, (kc + 1))))))))) else if r38 = 13 then G (kc + 1 ≤ 1) (Ob (ax_tokens (sx l3) oA) (fun r49 => (G ((kc + 1) ≤ 1) (some (r49.1, r49.2, (kc + 1)))))) else if r38 = 14 then G (kc + 1 ≤ 1) (Ob (ax_can (sx l4) oA) (fun r51 => (G ((kc + 1) ≤ 1) (some (r51.1, r51.2, (kc + 1)))))) else if 15 ≤ r38 ∧ r38 ≤ 19 then (F_L_act_b431 l4 oA kc) else if 20 ≤ r38 ∧ r38 ≤ 21 then (F_L_act_b438 l1 l2 s0 oA kc) else if r38 = 22 then (G (inR l2) (if l2 = 0 then G (kc ≤ 1) (Ob (F_L_low (iShr l1 9) 12) (fun r53 => (F_L_act_b479 l3 r53 oA kc))) else (F_L_act_b479 l3 s0 oA kc))) else if r38 = 23 then G (kc + 1 ≤ 1) (Ob (ax_most (sx l3) oA) (fun r55 => (G ((kc + 1) ≤ 1) (some (r55.1, r55.2, (kc + 1)))))) else if r38 = 24 then G (kc + 1 ≤ 1) (Ob (ax_level (sx l4) oA) (fun r57 => (G ((kc + 1) ≤ 1) (some (r57.1, r57.2, (kc + 1)))))) else if r38 = 25 then (G (inR l2) (if l2 = 0 then G (kc ≤ 1) (Ob (F_L_low (iShr l1 9) 8) (fun r59 => (F_L_act_b517 l3 r59 oA kc))) else (F_L_act_b517 l3 s0 oA kc))) else if r38 = 26 then G (kc ≤ 1) (Ob (F_L_low (iShr l1 9) 8) (fun r61 => (G (inR l2) (if l2 = 0 then G (kc ≤ 1) (Ob (F_L_low (iShr l1 13) 4) (fun r62 => (F_L_act_b549 l3 r61 r62 oA kc))) else (F_L_act_b549 l3 r61 s0 oA kc))))) else if r38 = 27 then G (kc + 1 ≤ 1) (Ob (dx_rows oA) (fun r64 => (G ((kc + 1) ≤ 1) (some (r64.1, r64.2, (kc + 1)))))) else if r38 = 28 then (G (inR l2) (if l2 = 0 then G (kc ≤ 1) (Ob (F_L_low (iShr l1 9) 3) (fun r66 => (F_L_act_b576 l3 r66 oA kc))) else (F_L_act_b576 l3 s0 oA kc))) else if r38 = 29 then G (kc + 1 ≤ 1) (Ob (ax_mostByRows (sx l3) oA) (fun r68 => (G ((kc + 1) ≤ 1) (some (r68.1, r68.2, (kc + 1)))))) else if r38 = 30 then G (kc + 1 ≤ 1) (Ob (dx_rounds oA) (fun r70 => (G ((kc + 1) ≤ 1) (some (r70.1, r70.2, (kc + 1)))))) else if r38 = 31 then (G (inR l2) (if l2 = 0 then G (kc ≤ 1) (Ob (F_L_low (iShr l1 9) 2) (fun r72 => (F_L_act_b610 l4 r72 oA kc))) else (F_L_act_b610 l4 s0 oA kc))) else if r38 = 32 then G (kc + 1 ≤ 1) (Ob (dx_keeps oA) (fun r74 => (G (inR r74.1) (if r74.1 = 0 then (G ((kc + 1) ≤ 1) (some (0, r74.2, (kc + 1)))) else (G ((kc + 1) ≤ 1) (some (1, r74.2, (kc + 1)))))))) else if r38 = 33 then G (kc + 1 ≤ 1) (Ob (dx_siphons oA) (fun r77 => (G ((kc + 1) ≤ 1) (some (r77.1, r77.2, (kc + 1)))))) else if r38 = 34 then (G (inR l2) (if l2 = 0 then G (kc ≤ 1) (Ob (F_L_low (iShr l1 9) 2) (fun r79 => (F_L_act_b652 r79 oA kc))) else (F_L_act_b652 s0 oA kc))) else if r38 = 35 then (G (inR l2) (if l2 = 0 then G (kc ≤ 1) (Ob (F_L_low (iShr l1 9) 8) (fun r81 => (F_L_act_b675 r81 oA kc))) else (F_L_act_b675 s0 oA kc))) else if r38 = 36 then G (kc + 1 ≤ 1) (Ob (dx_isPromising oA) (fun r83 => (G (inR r83.1) (if r83.1 = 0 then (G ((kc + 1) ≤ 1) (some (0, r83.2, (kc + 1)))) else (G ((kc + 1) ≤ 1) (some (1, r83.2, (kc + 1)))))))) else if 37 ≤ r38 ∧ r38 ≤ 40 then (F_L_act_b692 l4 oA kc) else if r38 = 41 then G (kc ≤ 1) (Ob (F_L_low (iShr l1 9) 4) (fun r86 => (G (inR r86) (if r86 = 0 then G (kc + 1 ≤ 1) (Ob (dx_blank oA) (fun r89 => (G ((kc + 1) ≤ 1) (some (r89.1, r89.2, (kc + 1)))))) else G (kc + 1 ≤ 1) (Ob (dx_goes oA) (fun r87 => (G ((kc + 1) ≤ 1) (some (r87.1, r87.2, (kc + 1)))))))))) else if 42 ≤ r38 ∧ r38 ≤ 43 then (F_L_act_b722 oA kc) else if 44 ≤ r38 ∧ r38 ≤ 45 then (F_L_act_b727 oA kc) else G (kc ≤ 1) (Ob (F_L_low (iShr l1 9) 4) (fun r39 => G (kc + 1 ≤ 1) (Ob (ax_fire (sx r39) oA) (fun r40 => (G ((kc + 1) ≤ 1) (some (r40.1, r40.2, (kc + 1))))))))))))
def F_L_act_b69 (l1 : Int) (l2 : Int) (l3 : Int) (s0 : Int) (oA : AS) (kc : Nat) : Option (Int × AS × Nat) :=
  (G (inR l2) (if l2 = 0 then G (kc ≤ 1) (Ob (F_L_low (iShr l1 9) 4) (fun r119 => (F_L_act_b90 l1 l2 l3 s0 r119 oA kc))) else (F_L_act_b90 l1 l2 l3 s0 (iShr l1 9) oA kc)))
def F_L_act_b42 (l1 : Int) (l2 : Int) (s0 : Int) (oA : AS) (kc : Nat) : Option (Int × AS × Nat) :=
  (G (inR l2) (if l2 = 0 then G (kc ≤ 1) (Ob (F_L_low (iShr l1 7) 3) (fun r121 => (F_L_act_b69 l1 l2 s0 r121 oA kc))) else G (kc ≤ 1) (Ob (F_L_low (iShr l1 7) 11) (fun r122 => (F_L_act_b69 l1 l2 s0 (r122 - 2) oA kc)))))
def F_L_act_b17 (l1 : Int) (s0 : Int) (oA : AS) (kc : Nat) : Option (Int × AS × Nat) :=
  (G (inR s0) (if s0 = 0 then G (kc ≤ 1) (Ob (F_L_low (iShr l1 4) 3) (fun r124 => (F_L_act_b42 l1 s0 r124 oA kc))) else G (kc ≤ 1) (Ob (F_L_low (iShr l1 4) 9) (fun r125 => (F_L_act_b42 l1 s0 (r125 - 2) oA kc)))))
def F_L_act (x1 : Int) (oA : AS) (kc : Nat) : Option (Int × AS × Nat) :=
  G (kc ≤ 1) (Ob (F_L_low (iShr x1 26) 14) (fun r127 => (G (inR r127) (if r127 = 0 then (F_L_act_b17 x1 1 oA kc) else (F_L_act_b17 x1 0 oA kc)))))
def F_L_areAlike_b179 (oA : AS) (pA : AS) (kc : Nat) : Option (Int × AS × AS × Nat) :=
  (G (kc ≤ 100) (G ((0 : Int) = 0 ∨ (0 : Int) = 1) (some (0, oA, pA, kc))))
def F_L_areAlike_b139 (l2 : Int) (l3 : Int) (oA : AS) (pA : AS) (kc : Nat) : Option (Int × AS × AS × Nat) :=
  (G (inR l3) (if l3 = 0 then (F_L_areAlike_b179 oA pA kc) else G (kc ≤ 100) (Ob (F_L_low l2 4) (fun r1 => G (kc + 1 ≤ 100) (Ob (dx_graph (sx r1) oA) (fun r2 => G ((kc + 1) ≤ 100) (Ob (F_L_low l2 4) (fun r5 => G ((kc + 1) + 1 ≤ 100) (Ob (dx_graph (sx r5) pA) (fun r6 => (G (inR r2.1 ∧ inR r6.1) (if r2.1 = r6.1 then G (((kc + 1) + 1) + 1 ≤ 100) (Ob (dx_cost r2.2) (fun r9 => G ((((kc + 1) + 1) + 1) + 1 ≤ 100) (Ob (dx_cost r6.2) (fun r12 => (G (inR r9.1 ∧ inR r12.1) (if r9.1 = r12.1 then (G (((((kc + 1) + 1) + 1) + 1) ≤ 100) (G ((1 : Int) = 0 ∨ (1 : Int) = 1) (some (1, r9.2, r12.2, ((((kc + 1) + 1) + 1) + 1))))) else (F_L_areAlike_b179 r9.2 r12.2 ((((kc + 1) + 1) + 1) + 1)))))))) else (F_L_areAlike_b179 r2.2 r6.2 ((kc + 1) + 1))))))))))))))
def F_L_areAlike_b132 (ag42 : Int → Int → Int → AS → AS → Nat → Option (Int × AS × AS × Nat)) (l2 : Int) (l4 : Int) (s0 : Int) (oA : AS) (pA : AS) (kc : Nat) : Option (Int × AS × AS × Nat) :=
  Bd (l4 + 1) (fun v18 => (ag42 l2 s0 v18 oA pA kc))
def F_L_areAlike_b131 (ag42 : Int → Int → Int → AS → AS → Nat → Option (Int × AS × AS × Nat)) (l2 : Int) (l4 : Int) (oA : AS) (pA : AS) (kc : Nat) : Option (Int × AS × AS × Nat) :=
  (F_L_areAlike_b132 ag42 l2 l4 0 oA pA kc)
def F_L_areAlike_b42_body (ag42 : Int → Int → Int → AS → AS → Nat → Option (Int × AS × AS × Nat)) (l2 : Int) (l3 : Int) (l4 : Int) (oA : AS) (pA : AS) (kc : Nat) : Option (Int × AS × AS × Nat) :=
  (G (inR l4 ∧ inR 6) (if 6 ≤ l4 then (F_L_areAlike_b139 l2 l3 oA pA kc) else (G (inR l3) (if l3 = 0 then (F_L_areAlike_b139 l2 l3 oA pA kc) else G (kc + 1 ≤ 100) (Ob (ax_tokens (sx l4) oA) (fun r19 => G ((kc + 1) + 1 ≤ 100) (Ob (ax_tokens (sx l4) pA) (fun r22 => (G (inR r19.1 ∧ inR r22.1) (if r19.1 = r22.1 then G (((kc + 1) + 1) + 1 ≤ 100) (Ob (ax_can (sx l4) r19.2) (fun r25 => G ((((kc + 1) + 1) + 1) + 1 ≤ 100) (Ob (ax_can (sx l4) r22.2) (fun r28 => (G (inR r25.1 ∧ inR r28.1) (if r25.1 = r28.1 then G (((((kc + 1) + 1) + 1) + 1) ≤ 100) (Ob (F_L_low (l2 + l4) 16) (fun r31 => G (((((kc + 1) + 1) + 1) + 1) + 1 ≤ 100) (Ob (ax_trap (sx r31) r25.2) (fun r32 => G ((((((kc + 1) + 1) + 1) + 1) + 1) ≤ 100) (Ob (F_L_low (l2 + l4) 16) (fun r35 => G ((((((kc + 1) + 1) + 1) + 1) + 1) + 1 ≤ 100) (Ob (ax_trap (sx r35) r28.2) (fun r36 => (G (inR r32.1 ∧ inR r36.1) (if r32.1 = r36.1 then G (((((((kc + 1) + 1) + 1) + 1) + 1) + 1) + 1 ≤ 100) (Ob (ax_siphon (sx l4) r32.2) (fun r39 => G ((((((((kc + 1) + 1) + 1) + 1) + 1) + 1) + 1) + 1 ≤ 100) (Ob (ax_siphon (sx l4) r36.2) (fun r42 => (G (inR r39.1 ∧ inR r42.1) (if r39.1 = r42.1 then (F_L_areAlike_b132 ag42 l2 l4 1 r39.2 r42.2 ((((((((kc + 1) + 1) + 1) + 1) + 1) + 1) + 1) + 1)) else (F_L_areAlike_b131 ag42 l2 l4 r39.2 r42.2 ((((((((kc + 1) + 1) + 1) + 1) + 1) + 1) + 1) + 1)))))))) else (F_L_areAlike_b131 ag42 l2 l4 r32.2 r36.2 ((((((kc + 1) + 1) + 1) + 1) + 1) + 1)))))))))))) else (F_L_areAlike_b131 ag42 l2 l4 r25.2 r28.2 ((((kc + 1) + 1) + 1) + 1)))))))) else (F_L_areAlike_b131 ag42 l2 l4 r19.2 r22.2 ((kc + 1) + 1))))))))))))
def F_L_areAlike_b42  : Nat → Int → Int → Int → AS → AS → Nat → Option (Int × AS × AS × Nat)
  | 0, _, _, _, _, _, _ => none
  | n + 1, l2, l3, l4, oA, pA, kc => F_L_areAlike_b42_body (F_L_areAlike_b42 n) l2 l3 l4 oA pA kc
def F_L_areAlike_b38 (l2 : Int) (s0 : Int) (oA : AS) (pA : AS) (kc : Nat) : Option (Int × AS × AS × Nat) :=
  (F_L_areAlike_b42 NN l2 s0 0 oA pA kc)
def F_L_areAlike_b37 (l2 : Int) (oA : AS) (pA : AS) (kc : Nat) : Option (Int × AS × AS × Nat) :=
  (F_L_areAlike_b38 l2 0 oA pA kc)
def F_L_areAlike (x2 : Int) (oA : AS) (pA : AS) (kc : Nat) : Option (Int × AS × AS × Nat) :=
  G (kc + 1 ≤ 100) (Ob (dx_goes oA) (fun r51 => G ((kc + 1) + 1 ≤ 100) (Ob (dx_goes pA) (fun r54 => (G (inR r51.1 ∧ inR r54.1) (if r51.1 = r54.1 then G (((kc + 1) + 1) + 1 ≤ 100) (Ob (dx_isPromising r51.2) (fun r57 => G ((((kc + 1) + 1) + 1) + 1 ≤ 100) (Ob (dx_isPromising r54.2) (fun r60 => (G (inR r57.1 ∧ inR r60.1) (if r57.1 = r60.1 then G (((((kc + 1) + 1) + 1) + 1) + 1 ≤ 100) (Ob (dx_siphons r57.2) (fun r63 => G ((((((kc + 1) + 1) + 1) + 1) + 1) + 1 ≤ 100) (Ob (dx_siphons r60.2) (fun r66 => (G (inR r63.1 ∧ inR r66.1) (if r63.1 = r66.1 then (F_L_areAlike_b38 x2 1 r63.2 r66.2 ((((((kc + 1) + 1) + 1) + 1) + 1) + 1)) else (F_L_areAlike_b37 x2 r63.2 r66.2 ((((((kc + 1) + 1) + 1) + 1) + 1) + 1)))))))) else (F_L_areAlike_b37 x2 r57.2 r60.2 ((((kc + 1) + 1) + 1) + 1)))))))) else (F_L_areAlike_b37 x2 r51.2 r54.2 ((kc + 1) + 1))))))))
def F_L_isWaySo_b217 (l5 : Int) (oA : AS) (kc : Nat) : Option (Int × AS × Nat) :=
  (G (kc ≤ 100) (G (l5 = 0 ∨ l5 = 1) (some (l5, oA, kc))))
def F_L_isWaySo_b211 (ag100 : Int → Int → Int → Int → Int → AS → Nat → Option (Int × AS × Nat)) (l1 : Int) (l2 : Int) (l3 : Int) (l5 : Int) (l6 : Int) (oA : AS) (kc : Nat) : Option (Int × AS × Nat) :=
  Bd (l6 + 1) (fun v1 => (ag100 l1 l2 l3 l5 v1 oA kc))
def F_L_isWaySo_b202 (ag100 : Int → Int → Int → Int → Int → AS → Nat → Option (Int × AS × Nat)) (l1 : Int) (l2 : Int) (l6 : Int) (s0 : Int) (oA : AS) (kc : Nat) : Option (Int × AS × Nat) :=
  G (kc + 1 ≤ 100) (Ob (ax_way (sx l1) (sx l2) oA) (fun r2 => (F_L_isWaySo_b211 ag100 l1 l2 r2.1 s0 l6 r2.2 (kc + 1))))
def F_L_isWaySo_b197 (ag100 : Int → Int → Int → Int → Int → AS → Nat → Option (Int × AS × Nat)) (l1 : Int) (l2 : Int) (l6 : Int) (oA : AS) (kc : Nat) : Option (Int × AS × Nat) :=
  (F_L_isWaySo_b202 ag100 l1 l2 l6 1 oA kc)
def F_L_isWaySo_b158 (ag100 : Int → Int → Int → Int → Int → AS → Nat → Option (Int × AS × Nat)) (l1 : Int) (l2 : Int) (l3 : Int) (l6 : Int) (l7 : Int) (s0 : Int) (oA : AS) (kc : Nat) : Option (Int × AS × Nat) :=
  (G (inR s0) (if s0 = 0 then (F_L_isWaySo_b211 ag100 l1 l2 l3 s0 l6 oA kc) else (G (inR l3) (if l3 ≤ 0 then (F_L_isWaySo_b211 ag100 l1 l2 l3 s0 l6 oA kc) else G (kc + 1 ≤ 100) (Ob (dx_fire (sx l7) oA) (fun r4 => Bd (l3 + (-1)) (fun v6 => G ((kc + 1) + 1 ≤ 100) (Ob (ax_way (sx l1) (sx l2) r4.2) (fun r7 => (G (inR r7.1 ∧ inR v6) (if r7.1 ≤ v6 then (F_L_isWaySo_b197 ag100 l1 l2 l6 r7.2 ((kc + 1) + 1)) else G (((kc + 1) + 1) + 1 ≤ 100) (Ob (dx_graph 0 r7.2) (fun r9 => (G (inR r9.1) (if 0 ≤ r9.1 then (F_L_isWaySo_b202 ag100 l1 l2 l6 0 r9.2 (((kc + 1) + 1) + 1)) else (F_L_isWaySo_b197 ag100 l1 l2 l6 r9.2 (((kc + 1) + 1) + 1)))))))))))))))))
def F_L_isWaySo_b157 (ag100 : Int → Int → Int → Int → Int → AS → Nat → Option (Int × AS × Nat)) (l1 : Int) (l2 : Int) (l3 : Int) (l6 : Int) (l7 : Int) (oA : AS) (kc : Nat) : Option (Int × AS × Nat) :=
  (F_L_isWaySo_b158 ag100 l1 l2 l3 l6 l7 0 oA kc)
def F_L_isWaySo_b153 (ag100 : Int → Int → Int → Int → Int → AS → Nat → Option (Int × AS × Nat)) (l1 : Int) (l2 : Int) (l3 : Int) (l6 : Int) (l7 : Int) (oA : AS) (kc : Nat) : Option (Int × AS × Nat) :=
  (F_L_isWaySo_b158 ag100 l1 l2 l3 l6 l7 1 oA kc)
def F_L_isWaySo_b138 (ag100 : Int → Int → Int → Int → Int → AS → Nat → Option (Int × AS × Nat)) (l1 : Int) (l2 : Int) (l3 : Int) (l6 : Int) (l7 : Int) (oA : AS) (kc : Nat) : Option (Int × AS × Nat) :=
  (G (inR l7) (if l7 < 0 then (F_L_isWaySo_b157 ag100 l1 l2 l3 l6 l7 oA kc) else G (kc + 1 ≤ 100) (Ob (ax_can (sx l7) oA) (fun r15 => (G (inR r15.1 ∧ inR 1) (if r15.1 = 1 then (F_L_isWaySo_b153 ag100 l1 l2 l3 l6 l7 r15.2 (kc + 1)) else (F_L_isWaySo_b157 ag100 l1 l2 l3 l6 l7 r15.2 (kc + 1))))))))
def F_L_isWaySo_b127 (ag100 : Int → Int → Int → Int → Int → AS → Nat → Option (Int × AS × Nat)) (l1 : Int) (l2 : Int) (l3 : Int) (l6 : Int) (s0 : Int) (oA : AS) (kc : Nat) : Option (Int × AS × Nat) :=
  (G (inR s0) (if 0 ≤ s0 then (F_L_isWaySo_b138 ag100 l1 l2 l3 l6 s0 oA kc) else (G (inR l3) (if l3 ≤ 0 then (F_L_isWaySo_b153 ag100 l1 l2 l3 l6 s0 oA kc) else (F_L_isWaySo_b138 ag100 l1 l2 l3 l6 s0 oA kc)))))
def F_L_isWaySo_b100_body (ag100 : Int → Int → Int → Int → Int → AS → Nat → Option (Int × AS × Nat)) (l1 : Int) (l2 : Int) (l3 : Int) (l5 : Int) (l6 : Int) (oA : AS) (kc : Nat) : Option (Int × AS × Nat) :=
  (G (inR l6 ∧ inR 8) (if 8 ≤ l6 then (F_L_isWaySo_b217 l5 oA kc) else (G (inR l5) (if l5 = 0 then (F_L_isWaySo_b217 l5 oA kc) else (G (inR l3) (if l3 ≤ 0 then (F_L_isWaySo_b127 ag100 l1 l2 l3 l6 (-1) oA kc) else G (kc + 1 ≤ 100) (Ob (ax_step (sx l1) (sx l2) 0 oA) (fun r21 => (F_L_isWaySo_b127 ag100 l1 l2 l3 l6 r21.1 r21.2 (kc + 1))))))))))
def F_L_isWaySo_b100  : Nat → Int → Int → Int → Int → Int → AS → Nat → Option (Int × AS × Nat)
  | 0, _, _, _, _, _, _, _ => none
  | n + 1, l1, l2, l3, l5, l6, oA, kc => F_L_isWaySo_b100_body (F_L_isWaySo_b100 n) l1 l2 l3 l5 l6 oA kc
def F_L_isWaySo_b95 (l1 : Int) (l2 : Int) (l3 : Int) (s0 : Int) (oA : AS) (kc : Nat) : Option (Int × AS × Nat) :=
  (F_L_isWaySo_b100 NN l1 l2 l3 s0 0 oA kc)
def F_L_isWaySo_b94 (l1 : Int) (l2 : Int) (l3 : Int) (oA : AS) (kc : Nat) : Option (Int × AS × Nat) :=
  (F_L_isWaySo_b95 l1 l2 l3 0 oA kc)
def F_L_isWaySo_b87 (l1 : Int) (l2 : Int) (l3 : Int) (s0 : Int) (s1 : Int) (oA : AS) (kc : Nat) : Option (Int × AS × Nat) :=
  (G (inR s0 ∧ inR s1) (if s0 = s1 then (F_L_isWaySo_b95 l1 l2 l3 1 oA kc) else (F_L_isWaySo_b94 l1 l2 l3 oA kc)))
def F_L_isWaySo_b73 (l1 : Int) (l2 : Int) (l3 : Int) (s0 : Int) (oA : AS) (kc : Nat) : Option (Int × AS × Nat) :=
  G (kc + 1 ≤ 100) (Ob (dx_tokens (sx l1) oA) (fun r27 => (G (inR r27.1 ∧ inR l2) (if l2 ≤ r27.1 then (F_L_isWaySo_b87 l1 l2 l3 s0 0 r27.2 (kc + 1)) else (F_L_isWaySo_b87 l1 l2 l3 s0 1 r27.2 (kc + 1))))))
def F_L_isWaySo_b38 (oA : AS) (kc : Nat) : Option (Int × AS × Nat) :=
  (G (kc ≤ 100) (G ((1 : Int) = 0 ∨ (1 : Int) = 1) (some (1, oA, kc))))
def F_L_isWaySo (x1 : Int) (x2 : Int) (oA : AS) (kc : Nat) : Option (Int × AS × Nat) :=
  G (kc + 1 ≤ 100) (Ob (ax_way (sx x1) (sx x2) oA) (fun r30 => G ((kc + 1) + 1 ≤ 100) (Ob (dx_graph 0 r30.2) (fun r32 => (G (inR r30.1) (if 0 ≤ r30.1 then G (((kc + 1) + 1) + 1 ≤ 100) (Ob (ax_step (sx x1) (sx x2) (sx r30.1) r32.2) (fun r34 => (G (inR r34.1 ∧ inR (-1)) (if r34.1 = (-1) then G ((((kc + 1) + 1) + 1) + 1 ≤ 100) (Ob (dx_most (sx x1) r34.2) (fun r36 => (G (inR r36.1 ∧ inR x2) (if r36.1 < x2 then (F_L_isWaySo_b94 x1 x2 r30.1 r36.2 ((((kc + 1) + 1) + 1) + 1)) else (G (inR r30.1) (if r30.1 ≤ 0 then (F_L_isWaySo_b73 x1 x2 r30.1 0 r36.2 ((((kc + 1) + 1) + 1) + 1)) else (F_L_isWaySo_b73 x1 x2 r30.1 1 r36.2 ((((kc + 1) + 1) + 1) + 1)))))))) else (F_L_isWaySo_b94 x1 x2 r30.1 r34.2 (((kc + 1) + 1) + 1)))))) else (G (inR r30.1 ∧ inR (-99999999)) (if r30.1 = (-99999999) then (F_L_isWaySo_b38 r32.2 ((kc + 1) + 1)) else (G (inR r32.1) (if r32.1 < 0 then (F_L_isWaySo_b38 r32.2 ((kc + 1) + 1)) else G (((kc + 1) + 1) + 1 ≤ 100) (Ob (dx_most (sx x1) r32.2) (fun r41 => (G (inR r41.1 ∧ inR x2) (if x2 ≤ r41.1 then (G ((((kc + 1) + 1) + 1) ≤ 100) (G ((0 : Int) = 0 ∨ (0 : Int) = 1) (some (0, r41.2, (((kc + 1) + 1) + 1))))) else (F_L_isWaySo_b38 r41.2 (((kc + 1) + 1) + 1))))))))))))))))
def F_L_isSo_b411 (oA : AS) (kc : Nat) : Option (Int × AS × Nat) :=
  (G (kc ≤ 400) (G ((0 : Int) = 0 ∨ (0 : Int) = 1) (some (0, oA, kc))))
def F_L_isSo_b379 (l1 : Int) (l5 : Int) (oA : AS) (kc : Nat) : Option (Int × AS × Nat) :=
  (G (inR l5) (if l5 = 0 then (F_L_isSo_b411 oA kc) else G (kc ≤ 400) (Ob (F_L_low (iShr l1 3) 3) (fun r1 => G (kc ≤ 400) (Ob (F_L_low (iShr l1 6) 6) (fun r2 => G (kc + 100 ≤ 400) (Ob (F_L_isWaySo (sx r1) (sx r2) oA 0) (fun r3 => (G (inR r3.1) (if r3.1 = 0 then (F_L_isSo_b411 r3.2.1 (kc + 100)) else (G ((kc + 100) ≤ 400) (G ((1 : Int) = 0 ∨ (1 : Int) = 1) (some (1, r3.2.1, (kc + 100)))))))))))))))
def F_L_isSo_b371 (ag281 : Int → Int → Int → AS → Nat → Option (Int × AS × Nat)) (l1 : Int) (l7 : Int) (s0 : Int) (oA : AS) (kc : Nat) : Option (Int × AS × Nat) :=
  Bd (l7 + 1) (fun v7 => (ag281 l1 s0 v7 oA kc))
def F_L_isSo_b370 (ag281 : Int → Int → Int → AS → Nat → Option (Int × AS × Nat)) (l1 : Int) (l7 : Int) (oA : AS) (kc : Nat) : Option (Int × AS × Nat) :=
  (F_L_isSo_b371 ag281 l1 l7 0 oA kc)
def F_L_isSo_b366 (ag281 : Int → Int → Int → AS → Nat → Option (Int × AS × Nat)) (l1 : Int) (l7 : Int) (oA : AS) (kc : Nat) : Option (Int × AS × Nat) :=
  (F_L_isSo_b371 ag281 l1 l7 1 oA kc)
def F_L_isSo_b281_body (ag281 : Int → Int → Int → AS → Nat → Option (Int × AS × Nat)) (l1 : Int) (l5 : Int) (l7 : Int) (oA : AS) (kc : Nat) : Option (Int × AS × Nat) :=
  G (kc + 1 ≤ 400) (Ob (dx_siphons oA) (fun r8 => (G (inR l7 ∧ inR r8.1) (if r8.1 ≤ l7 then (F_L_isSo_b379 l1 l5 r8.2 (kc + 1)) else (G (inR l7 ∧ inR 6) (if 6 ≤ l7 then (F_L_isSo_b379 l1 l5 r8.2 (kc + 1)) else (G (inR l5) (if l5 = 0 then (F_L_isSo_b379 l1 l5 r8.2 (kc + 1)) else G ((kc + 1) + 1 ≤ 400) (Ob (dx_siphon (sx l7) r8.2) (fun r10 => (G (inR r10.1) (if r10.1 ≤ 0 then (F_L_isSo_b370 ag281 l1 l7 r10.2 ((kc + 1) + 1)) else G (((kc + 1) + 1) + 1 ≤ 400) (Ob (dx_trap (sx r10.1) r10.2) (fun r12 => Bd (iAnd r12.1 (iXor r10.1 (-1))) (fun v14 => (G (inR v14) (if v14 = 0 then G ((((kc + 1) + 1) + 1) + 1 ≤ 400) (Ob (dx_trap (sx r10.1) r12.2) (fun r15 => G (((((kc + 1) + 1) + 1) + 1) + 1 ≤ 400) (Ob (dx_trap (sx r15.1) r15.2) (fun r17 => G ((((((kc + 1) + 1) + 1) + 1) + 1) + 1 ≤ 400) (Ob (dx_trap (sx r10.1) r17.2) (fun r19 => (G (inR r17.1 ∧ inR r19.1) (if r17.1 = r19.1 then (G (inR l7) (if l7 = 0 then (F_L_isSo_b366 ag281 l1 l7 r19.2 ((((((kc + 1) + 1) + 1) + 1) + 1) + 1)) else G (((((((kc + 1) + 1) + 1) + 1) + 1) + 1) + 1 ≤ 400) (Ob (dx_siphon (sx (l7 - 1)) r19.2) (fun r21 => (G (inR r10.1 ∧ inR r21.1) (if r10.1 ≤ r21.1 then (F_L_isSo_b370 ag281 l1 l7 r21.2 (((((((kc + 1) + 1) + 1) + 1) + 1) + 1) + 1)) else (F_L_isSo_b366 ag281 l1 l7 r21.2 (((((((kc + 1) + 1) + 1) + 1) + 1) + 1) + 1)))))))) else (F_L_isSo_b370 ag281 l1 l7 r19.2 ((((((kc + 1) + 1) + 1) + 1) + 1) + 1)))))))))) else (F_L_isSo_b370 ag281 l1 l7 r12.2 (((kc + 1) + 1) + 1)))))))))))))))))))
def F_L_isSo_b281  : Nat → Int → Int → Int → AS → Nat → Option (Int × AS × Nat)
  | 0, _, _, _, _, _ => none
  | n + 1, l1, l5, l7, oA, kc => F_L_isSo_b281_body (F_L_isSo_b281 n) l1 l5 l7 oA kc
def F_L_isSo_b278 (l1 : Int) (l5 : Int) (oA : AS) (kc : Nat) : Option (Int × AS × Nat) :=
  (F_L_isSo_b281 NN l1 l5 0 oA kc)
def F_L_isSo_b270 (ag220 : Int → Int → Int → AS → Nat → Option (Int × AS × Nat)) (l1 : Int) (l7 : Int) (s0 : Int) (oA : AS) (kc : Nat) : Option (Int × AS × Nat) :=
  Bd (l7 + 1) (fun v31 => (ag220 l1 s0 v31 oA kc))
def F_L_isSo_b265 (ag220 : Int → Int → Int → AS → Nat → Option (Int × AS × Nat)) (l1 : Int) (l7 : Int) (oA : AS) (kc : Nat) : Option (Int × AS × Nat) :=
  (F_L_isSo_b270 ag220 l1 l7 1 oA kc)
def F_L_isSo_b220_body (ag220 : Int → Int → Int → AS → Nat → Option (Int × AS × Nat)) (l1 : Int) (l5 : Int) (l7 : Int) (oA : AS) (kc : Nat) : Option (Int × AS × Nat) :=
  (G (inR l7 ∧ inR 6) (if 6 ≤ l7 then (F_L_isSo_b278 l1 l5 oA kc) else (G (inR l5) (if l5 = 0 then (F_L_isSo_b278 l1 l5 oA kc) else G (kc + 1 ≤ 400) (Ob (ax_most (sx l7) oA) (fun r32 => G ((kc + 1) + 1 ≤ 400) (Ob (ax_mostByRows (sx l7) r32.2) (fun r34 => (G (inR r32.1) (if r32.1 < 0 then (F_L_isSo_b265 ag220 l1 l7 r34.2 ((kc + 1) + 1)) else (G (inR r34.1) (if r34.1 < 0 then (F_L_isSo_b265 ag220 l1 l7 r34.2 ((kc + 1) + 1)) else (G (inR r32.1 ∧ inR r34.1) (if r34.1 < r32.1 then (F_L_isSo_b270 ag220 l1 l7 0 r34.2 ((kc + 1) + 1)) else (F_L_isSo_b265 ag220 l1 l7 r34.2 ((kc + 1) + 1))))))))))))))))
def F_L_isSo_b220  : Nat → Int → Int → Int → AS → Nat → Option (Int × AS × Nat)
  | 0, _, _, _, _, _ => none
  | n + 1, l1, l5, l7, oA, kc => F_L_isSo_b220_body (F_L_isSo_b220 n) l1 l5 l7 oA kc
def F_L_isSo_b215 (l1 : Int) (s0 : Int) (oA : AS) (kc : Nat) : Option (Int × AS × Nat) :=
  (F_L_isSo_b220 NN l1 s0 0 oA kc)
def F_L_isSo_b214 (l1 : Int) (oA : AS) (kc : Nat) : Option (Int × AS × Nat) :=
  (F_L_isSo_b215 l1 0 oA kc)
def F_L_isSo_b210 (l1 : Int) (oA : AS) (kc : Nat) : Option (Int × AS × Nat) :=
  (F_L_isSo_b215 l1 1 oA kc)
def F_L_isSo_b165 (l1 : Int) (s0 : Int) (oA : AS) (kc : Nat) : Option (Int × AS × Nat) :=
  G (kc + 1 ≤ 400) (Ob (dx_blank oA) (fun r41 => (G (inR s0) (if s0 = 0 then (F_L_isSo_b214 l1 r41.2 (kc + 1)) else G ((kc + 1) + 1 ≤ 400) (Ob (dx_goes r41.2) (fun r43 => (G (inR r43.1) (if r43.1 = 0 then G (((kc + 1) + 1) + 1 ≤ 400) (Ob (dx_graph 0 r43.2) (fun r45 => (G (inR r45.1) (if 0 ≤ r45.1 then G ((((kc + 1) + 1) + 1) + 1 ≤ 400) (Ob (dx_cost r45.2) (fun r47 => (G (inR r47.1) (if r47.1 = 0 then (F_L_isSo_b210 l1 r47.2 ((((kc + 1) + 1) + 1) + 1)) else (F_L_isSo_b214 l1 r47.2 ((((kc + 1) + 1) + 1) + 1)))))) else G ((((kc + 1) + 1) + 1) + 1 ≤ 400) (Ob (dx_cost r45.2) (fun r50 => (G (inR r50.1 ∧ inR (-1)) (if r50.1 = (-1) then (F_L_isSo_b210 l1 r50.2 ((((kc + 1) + 1) + 1) + 1)) else (F_L_isSo_b214 l1 r50.2 ((((kc + 1) + 1) + 1) + 1)))))))))) else (F_L_isSo_b214 l1 r43.2 ((kc + 1) + 1))))))))))
def F_L_isSo_b164 (l1 : Int) (oA : AS) (kc : Nat) : Option (Int × AS × Nat) :=
  (F_L_isSo_b165 l1 0 oA kc)
def F_L_isSo_b160 (l1 : Int) (oA : AS) (kc : Nat) : Option (Int × AS × Nat) :=
  (F_L_isSo_b165 l1 1 oA kc)
def F_L_isSo_b111 (l1 : Int) (l2 : Int) (l6 : Int) (oA : AS) (kc : Nat) : Option (Int × AS × Nat) :=
  (G (inR l6 ∧ inR 10) (if 10 < l6 then (F_L_isSo_b164 l1 oA kc) else (G (inR l2) (if l2 < 0 then (F_L_isSo_b160 l1 oA kc) else G (kc + 1 ≤ 400) (Ob (dx_graph 2 oA) (fun r56 => (G (inR r56.1 ∧ inR l2) (if l2 < r56.1 then (F_L_isSo_b164 l1 r56.2 (kc + 1)) else G ((kc + 1) + 1 ≤ 400) (Ob (dx_graph 1 r56.2) (fun r58 => G (((kc + 1) + 1) + 1 ≤ 400) (Ob (dx_graph 0 r58.2) (fun r60 => Bd (r60.1 - 1) (fun v62 => (G (inR r58.1 ∧ inR v62) (if r58.1 < v62 then (F_L_isSo_b164 l1 r60.2 (((kc + 1) + 1) + 1)) else G ((((kc + 1) + 1) + 1) + 1 ≤ 400) (Ob (dx_marking 0 0 r60.2) (fun r63 => G (((((kc + 1) + 1) + 1) + 1) + 1 ≤ 400) (Ob (dx_tokens 0 r63.2) (fun r65 => (G (inR r63.1 ∧ inR r65.1) (if r63.1 = r65.1 then (F_L_isSo_b160 l1 r65.2 (((((kc + 1) + 1) + 1) + 1) + 1)) else (F_L_isSo_b164 l1 r65.2 (((((kc + 1) + 1) + 1) + 1) + 1)))))))))))))))))))))))
def F_L_isSo_b74_body (ag74 : Int → Int → Int → Int → Int → AS → Nat → Option (Int × AS × Nat)) (l1 : Int) (l2 : Int) (l4 : Int) (l5 : Int) (l6 : Int) (oA : AS) (kc : Nat) : Option (Int × AS × Nat) :=
  G (kc + 1 ≤ 400) (Ob (ax_log 0 oA) (fun r72 => (G (inR r72.1) (if r72.1 ≤ 0 then (G (inR l5) (if l5 = 0 then (F_L_isSo_b164 l1 r72.2 (kc + 1)) else G ((kc + 1) + 1 ≤ 400) (Ob (ax_firing r72.2) (fun r74 => (G (inR r74.1) (if r74.1 < 0 then (F_L_isSo_b111 l1 l2 l6 r74.2 ((kc + 1) + 1)) else (G (inR l2) (if l2 < 0 then (F_L_isSo_b111 l1 l2 l6 r74.2 ((kc + 1) + 1)) else (G (inR l4 ∧ inR 10) (if 10 < l4 then (F_L_isSo_b164 l1 r74.2 ((kc + 1) + 1)) else (F_L_isSo_b111 l1 l2 l6 r74.2 ((kc + 1) + 1)))))))))))) else Bd (l6 + 1) (fun v80 => (ag74 l1 l2 l4 l5 v80 r72.2 (kc + 1)))))))
def F_L_isSo_b74  : Nat → Int → Int → Int → Int → Int → AS → Nat → Option (Int × AS × Nat)
  | 0, _, _, _, _, _, _, _ => none
  | n + 1, l1, l2, l4, l5, l6, oA, kc => F_L_isSo_b74_body (F_L_isSo_b74 n) l1 l2 l4 l5 l6 oA kc
def F_L_isSo_b69 (l1 : Int) (l2 : Int) (l4 : Int) (s0 : Int) (oA : AS) (kc : Nat) : Option (Int × AS × Nat) :=
  (F_L_isSo_b74 NN l1 l2 l4 s0 0 oA kc)
def F_L_isSo_b68 (l1 : Int) (l2 : Int) (l4 : Int) (oA : AS) (kc : Nat) : Option (Int × AS × Nat) :=
  (F_L_isSo_b69 l1 l2 l4 0 oA kc)
def F_L_isSo_b43 (l1 : Int) (l2 : Int) (l3 : Int) (l4 : Int) (s0 : Int) (s1 : Int) (oA : AS) (kc : Nat) : Option (Int × AS × Nat) :=
  (G (inR s0 ∧ inR s1) (if s0 = s1 then G (kc + 1 ≤ 400) (Ob (dx_trap 0 oA) (fun r82 => (G (inR r82.1) (if r82.1 = 0 then (G (inR l3) (if l3 < 0 then (F_L_isSo_b68 l1 l2 l4 r82.2 (kc + 1)) else (G (inR l3 ∧ inR 10) (if 10 < l3 then (F_L_isSo_b68 l1 l2 l4 r82.2 (kc + 1)) else (F_L_isSo_b69 l1 l2 l4 1 r82.2 (kc + 1)))))) else (F_L_isSo_b68 l1 l2 l4 r82.2 (kc + 1)))))) else (F_L_isSo_b68 l1 l2 l4 oA kc)))
def F_L_isSo_b33 (l1 : Int) (l2 : Int) (l3 : Int) (l4 : Int) (s0 : Int) (oA : AS) (kc : Nat) : Option (Int × AS × Nat) :=
  (G (inR l4) (if 0 ≤ l4 then (F_L_isSo_b43 l1 l2 l3 l4 s0 0 oA kc) else (F_L_isSo_b43 l1 l2 l3 l4 s0 1 oA kc)))
def F_L_isSo (x1 : Int) (oA : AS) (kc : Nat) : Option (Int × AS × Nat) :=
  G (kc + 1 ≤ 400) (Ob (dx_graph 0 oA) (fun r89 => G ((kc + 1) + 1 ≤ 400) (Ob (dx_goes r89.2) (fun r91 => G (((kc + 1) + 1) + 1 ≤ 400) (Ob (dx_cost r91.2) (fun r93 => G ((((kc + 1) + 1) + 1) + 1 ≤ 400) (Ob (dx_keeps r93.2) (fun r95 => (G (inR r95.1) (if r95.1 = 0 then (F_L_isSo_b68 x1 r89.1 r93.1 r95.2 ((((kc + 1) + 1) + 1) + 1)) else (G (inR r89.1) (if 0 ≤ r89.1 then (F_L_isSo_b33 x1 r89.1 r91.1 r93.1 0 r95.2 ((((kc + 1) + 1) + 1) + 1)) else (F_L_isSo_b33 x1 r89.1 r91.1 r93.1 1 r95.2 ((((kc + 1) + 1) + 1) + 1))))))))))))))
def F_L_law_b188 (cv : Int → Int) (oA : AS) (pA : AS) (kc : Nat) : Option (Int × AS × AS × Nat) :=
  (G (kc ≤ 40000) (G ((0 : Int) = 0 ∨ (0 : Int) = 1) (some (0, oA, pA, kc))))
def F_L_law_b167 (cv : Int → Int) (l3 : Int) (oA : AS) (pA : AS) (kc : Nat) : Option (Int × AS × AS × Nat) :=
  (G (inR l3) (if l3 = 0 then (F_L_law_b188 cv oA pA kc) else G ((0 ≤ (90 : Int) ∧ (90 : Int) ≤ 1000) ∧ kc ≤ 40000) (G (kc + 400 ≤ 40000) (Ob (F_L_isSo (sx (cv 90)) oA 0) (fun r1 => (G (inR r1.1) (if r1.1 = 0 then (F_L_law_b188 cv r1.2.1 pA (kc + 400)) else (G ((kc + 400) ≤ 40000) (G ((1 : Int) = 0 ∨ (1 : Int) = 1) (some (1, r1.2.1, pA, (kc + 400))))))))))))
def F_L_law_b160 (cv : Int → Int) (ag88 : Int → Int → AS → AS → Nat → Option (Int × AS × AS × Nat)) (l4 : Int) (s0 : Int) (oA : AS) (pA : AS) (kc : Nat) : Option (Int × AS × AS × Nat) :=
  Bd (l4 + 1) (fun v6 => (ag88 s0 v6 oA pA kc))
def F_L_law_b159 (cv : Int → Int) (ag88 : Int → Int → AS → AS → Nat → Option (Int × AS × AS × Nat)) (l4 : Int) (oA : AS) (pA : AS) (kc : Nat) : Option (Int × AS × AS × Nat) :=
  (F_L_law_b160 cv ag88 l4 0 oA pA kc)
def F_L_law_b155 (cv : Int → Int) (ag88 : Int → Int → AS → AS → Nat → Option (Int × AS × AS × Nat)) (l4 : Int) (oA : AS) (pA : AS) (kc : Nat) : Option (Int × AS × AS × Nat) :=
  (F_L_law_b160 cv ag88 l4 1 oA pA kc)
def F_L_law_b133 (cv : Int → Int) (ag88 : Int → Int → AS → AS → Nat → Option (Int × AS × AS × Nat)) (l4 : Int) (l5 : Int) (oA : AS) (pA : AS) (kc : Nat) : Option (Int × AS × AS × Nat) :=
  G (inR (30 : Int) ∧ (30 : Int) ≠ 0) (Bd (iRem l4 30) (fun v7 => (G (inR v7 ∧ inR 29) (if v7 < 29 then (F_L_law_b155 cv ag88 l4 oA pA kc) else G (kc + 100 ≤ 40000) (Ob (F_L_areAlike (sx (iShr l5 3)) oA pA 0) (fun r8 => (G (inR r8.1) (if r8.1 = 0 then (F_L_law_b159 cv ag88 l4 r8.2.1 r8.2.2.1 (kc + 100)) else (F_L_law_b155 cv ag88 l4 r8.2.1 r8.2.2.1 (kc + 100))))))))))
def F_L_law_b88_body (cv : Int → Int) (ag88 : Int → Int → AS → AS → Nat → Option (Int × AS × AS × Nat)) (l3 : Int) (l4 : Int) (oA : AS) (pA : AS) (kc : Nat) : Option (Int × AS × AS × Nat) :=
  (G (inR l4 ∧ inR 90) (if 90 ≤ l4 then (F_L_law_b167 cv l3 oA pA kc) else (G (inR l3) (if l3 = 0 then (F_L_law_b167 cv l3 oA pA kc) else G ((0 ≤ l4 ∧ l4 ≤ 1000) ∧ kc ≤ 40000) (Bd (cv l4) (fun v12 => G (kc + 1 ≤ 40000) (Ob (F_L_act (sx v12) oA 0) (fun r13 => (G (inR r13.1 ∧ inR (-99999999)) (if r13.1 = (-99999999) then (F_L_law_b133 cv ag88 l4 v12 r13.2.1 pA (kc + 1)) else G ((kc + 1) + 1 ≤ 40000) (Ob (F_L_act (sx v12) pA 0) (fun r16 => (G (inR r16.1 ∧ inR r13.1) (if r16.1 = r13.1 then (F_L_law_b133 cv ag88 l4 v12 r13.2.1 r16.2.1 ((kc + 1) + 1)) else (F_L_law_b159 cv ag88 l4 r13.2.1 r16.2.1 ((kc + 1) + 1))))))))))))))))
def F_L_law_b88 (cv : Int → Int) : Nat → Int → Int → AS → AS → Nat → Option (Int × AS × AS × Nat)
  | 0, _, _, _, _, _ => none
  | n + 1, l3, l4, oA, pA, kc => F_L_law_b88_body cv (F_L_law_b88 cv n) l3 l4 oA pA kc
def F_L_law_b78 (cv : Int → Int) (ag21 : Int → Int → AS → AS → Nat → Option (Int × AS × AS × Nat)) (l4 : Int) (s0 : Int) (oA : AS) (pA : AS) (kc : Nat) : Option (Int × AS × AS × Nat) :=
  Bd (l4 + 1) (fun v23 => (ag21 s0 v23 oA pA kc))
def F_L_law_b77 (cv : Int → Int) (ag21 : Int → Int → AS → AS → Nat → Option (Int × AS × AS × Nat)) (l4 : Int) (oA : AS) (pA : AS) (kc : Nat) : Option (Int × AS × AS × Nat) :=
  (F_L_law_b78 cv ag21 l4 0 oA pA kc)
def F_L_law_b21_body (cv : Int → Int) (ag21 : Int → Int → AS → AS → Nat → Option (Int × AS × AS × Nat)) (l3 : Int) (l4 : Int) (oA : AS) (pA : AS) (kc : Nat) : Option (Int × AS × AS × Nat) :=
  (G (inR l4 ∧ inR 3) (if 3 ≤ l4 then (F_L_law_b88 cv NN l3 1 oA pA kc) else G ((0 ≤ (0 : Int) ∧ (0 : Int) ≤ 1000) ∧ kc ≤ 40000) (G (kc ≤ 40000) (Ob (F_L_low (iShr (cv 0) (4 * l4)) 4) (fun r24 => (G (inR l3) (if l3 = 0 then (F_L_law_b77 cv ag21 l4 oA pA kc) else G (kc + 1 ≤ 40000) (Ob (dx_place (sx r24) oA) (fun r25 => G ((kc + 1) + 1 ≤ 40000) (Ob (dx_place (sx r24) pA) (fun r28 => (G (inR r25.1 ∧ inR r28.1) (if r25.1 = r28.1 then G (((kc + 1) + 1) + 1 ≤ 40000) (Ob (dx_firing r25.2) (fun r31 => G ((((kc + 1) + 1) + 1) + 1 ≤ 40000) (Ob (dx_firing r28.2) (fun r34 => (G (inR r31.1 ∧ inR r34.1) (if r31.1 = r34.1 then (F_L_law_b78 cv ag21 l4 1 r31.2 r34.2 ((((kc + 1) + 1) + 1) + 1)) else (F_L_law_b77 cv ag21 l4 r31.2 r34.2 ((((kc + 1) + 1) + 1) + 1)))))))) else (F_L_law_b77 cv ag21 l4 r25.2 r28.2 ((kc + 1) + 1)))))))))))))))
def F_L_law_b21 (cv : Int → Int) : Nat → Int → Int → AS → AS → Nat → Option (Int × AS × AS × Nat)
  | 0, _, _, _, _, _ => none
  | n + 1, l3, l4, oA, pA, kc => F_L_law_b21_body cv (F_L_law_b21 cv n) l3 l4 oA pA kc
def F_L_law (cv : Int → Int) (oA : AS) (pA : AS) (kc : Nat) : Option (Int × AS × AS × Nat) :=
  (F_L_law_b21 cv NN 1 0 oA pA kc)
