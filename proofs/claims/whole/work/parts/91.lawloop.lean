theorem l_gt {i L : Nat} (h : i ≤ L) (hi : ¬ i + 6 ≤ L) (hL : L ≤ 384) : Int32.ofNat L - 6 < nI i := by
  rw [Int32.lt_iff_toInt_lt, nI_toInt (by omega)]
  have := pk_sub_toInt (a := L) (b := 6) (by omega) (by omega)
  rw [show Int32.ofNat L - 6 = nI L - nI 6 from rfl, this]
  omega
set_option maxHeartbeats 4000000 in
set_option maxRecDepth 100000 in
theorem l_loop {p : Program} {l : Launch} {e : Env} {s : State} {m : MethodId} {below : List Frame} {meth : Method} {c : Code} {b L : Nat} {xs : Nat → Int32} {D : va_G} {K : Nat → ClassId} {Lx Lm : Nat → Nat} {t0 : Nat} {Q : State → Prop} (C0 : lw_At p s m meth c b L xs) (F : lF Lx Lm s) (hK : va_K D vwCl (tyG K) s) (hE : lE t0 s) (hL : L ≤ 384) (hQ : Q = lw_Z below #[Value.ref b] s) : ∀ (n i : Nat), L - i < n → ∀ (wx wm : St) (H : Heap) (locs : List Loc) (ls : Array Slot), i ≤ L → RR wx wm → lW D K Lx Lm s wx wm H locs → lv_has ls 4 [(0, .ref b), (1, .ref (Lx 0)), (2, .ref (Lm 0)), (3, .int (nI i))] → W p l e room_1 s m #[Value.ref b] below meth c H locs 93 1172 Q (F0 m 18 ls []) := by
  obtain ⟨hx, hb, hr, hml, hown, hts0, hX, hbl, hlocks, hgv⟩ := id C0
  have hbA : ¬ lA s b := Nat.not_le.mpr hbl
  intro n
  induction n with
  | zero => intro i h; omega
  | succ n ih =>
    intro i hn wx wm H locs ls hiL hR hW hl
    refine lv_iload_n hx hb dL_law_18 rfl (lv_at hl 3 rfl) ?_
    refine lv_aload_n hx hb dL_law_19 rfl (lv_at hl 0 rfl) ?_
    refine va_slen hx hb hX hbl hbA hW.2.2 dL_law_20 ?_
    refine lv_bipush (v := 6) hx hb dL_law_21 (by decide) ?_
    refine lv_isub hx hb dL_law_23 ?_
    by_cases hi : i + 6 ≤ L
    · have hsub : Int32.ofNat L - 6 = nI (L - 6) := pk_sub (a := L) (b := 6) (by omega)
      rw [hsub]
      refine lv_icmp_gt (tgt := 1033) hx hb dL_law_24 (by decide) (fun c9 => absurd c9 (nI_nlt (by omega) (by omega))) (fun _ => ?_)
      have kk : ∀ (wx wm : St) (H : Heap) (locs : List Loc) (ls : Array Slot), RR wx wm → lW D K Lx Lm s wx wm H locs → lv_has ls 4 [(0, .ref b), (1, .ref (Lx 0)), (2, .ref (Lm 0)), (3, .int (nI i))] → W p l e room_1 s m #[Value.ref b] below meth c H locs 93 1172 Q (F0 m 1027 ls []) := by
        intro wx wm H locs ls hR hW hl
        refine lv_iinc (v := nI i + 6) (lv' := [(3, .int (nI i + 6)), (0, .ref b), (1, .ref (Lx 0)), (2, .ref (Lm 0))]) hx hb dL_law_1027 hl (k := 3) rfl rfl (by decide) rfl (fun ls hl => ?_)
        refine lv_goto (tgt := 18) hx hb dL_law_1030 (by decide) ?_
        rw [show nI i + 6 = nI (i + 6) from nI_add i 6] at hl
        exact ih (i + 6) (by omega) wx wm H locs ls hi hR hW (lv_sub hl [1, 2, 3, 0] rfl)
      refine lv_aload_n hx hb dL_law_27 rfl (lv_at hl 0 rfl) ?_
      refine lv_iload_n hx hb dL_law_28 rfl (lv_at hl 3 rfl) ?_
      refine va_sld hx hb hX hbl hbA hW.2.2 (l_in0 hi hL) dL_law_29 ?_
      refine lv_bipush (v := 31) hx hb dL_law_30 (by decide) ?_
      refine lv_iand hx hb dL_law_32 ?_
      refine lv_topi (fun y ey => ?_)
      by_cases c0 : y = 0
      · refine lv_tableIn (x := y) (off := 119) (tgt := 152) hx hb dL_law_33 (by rw [c0]; decide) (by rw [c0]; decide) (by rw [c0]; rfl) (by decide) ?_
        exact l_c0 C0 F hK hE hL hi kk wx wm H locs ls hR hW hl
      · skip
        by_cases c1 : y = 1
        · refine lv_tableIn (x := y) (off := 142) (tgt := 175) hx hb dL_law_33 (by rw [c1]; decide) (by rw [c1]; decide) (by rw [c1]; rfl) (by decide) ?_
          exact l_c1 C0 F hK hE hL hi kk wx wm H locs ls hR hW hl
        · skip
          by_cases c2 : y = 2
          · refine lv_tableIn (x := y) (off := 155) (tgt := 188) hx hb dL_law_33 (by rw [c2]; decide) (by rw [c2]; decide) (by rw [c2]; rfl) (by decide) ?_
            exact l_c2 C0 F hK hE hL hi kk wx wm H locs ls hR hW hl
          · skip
            by_cases c3 : y = 3
            · refine lv_tableIn (x := y) (off := 168) (tgt := 201) hx hb dL_law_33 (by rw [c3]; decide) (by rw [c3]; decide) (by rw [c3]; rfl) (by decide) ?_
              exact l_c3 C0 F hK hE hL hi kk wx wm H locs ls hR hW hl
            · skip
              by_cases c4 : y = 4
              · refine lv_tableIn (x := y) (off := 181) (tgt := 214) hx hb dL_law_33 (by rw [c4]; decide) (by rw [c4]; decide) (by rw [c4]; rfl) (by decide) ?_
                exact l_c4 C0 F hK hE hL hi kk wx wm H locs ls hR hW hl
              · skip
                by_cases c5 : y = 5
                · refine lv_tableIn (x := y) (off := 214) (tgt := 247) hx hb dL_law_33 (by rw [c5]; decide) (by rw [c5]; decide) (by rw [c5]; rfl) (by decide) ?_
                  exact l_c5 C0 F hK hE hL hi kk wx wm H locs ls hR hW hl
                · skip
                  by_cases c6 : y = 6
                  · refine lv_tableIn (x := y) (off := 237) (tgt := 270) hx hb dL_law_33 (by rw [c6]; decide) (by rw [c6]; decide) (by rw [c6]; rfl) (by decide) ?_
                    exact l_c6 C0 F hK hE hL hi kk wx wm H locs ls hR hW hl
                  · skip
                    by_cases c7 : y = 7
                    · refine lv_tableIn (x := y) (off := 260) (tgt := 293) hx hb dL_law_33 (by rw [c7]; decide) (by rw [c7]; decide) (by rw [c7]; rfl) (by decide) ?_
                      exact l_c7 C0 F hK hE hL hi kk wx wm H locs ls hR hW hl
                    · skip
                      by_cases c8 : y = 8
                      · refine lv_tableIn (x := y) (off := 283) (tgt := 316) hx hb dL_law_33 (by rw [c8]; decide) (by rw [c8]; decide) (by rw [c8]; rfl) (by decide) ?_
                        exact l_c8 C0 F hK hE hL hi kk wx wm H locs ls hR hW hl
                      · skip
                        by_cases c9 : y = 9
                        · refine lv_tableIn (x := y) (off := 326) (tgt := 359) hx hb dL_law_33 (by rw [c9]; decide) (by rw [c9]; decide) (by rw [c9]; rfl) (by decide) ?_
                          exact l_c9 C0 F hK hE hL hi kk wx wm H locs ls hR hW hl
                        · skip
                          by_cases c10 : y = 10
                          · refine lv_tableIn (x := y) (off := 339) (tgt := 372) hx hb dL_law_33 (by rw [c10]; decide) (by rw [c10]; decide) (by rw [c10]; rfl) (by decide) ?_
                            exact l_c10 C0 F hK hE hL hi kk wx wm H locs ls hR hW hl
                          · skip
                            by_cases c11 : y = 11
                            · refine lv_tableIn (x := y) (off := 382) (tgt := 415) hx hb dL_law_33 (by rw [c11]; decide) (by rw [c11]; decide) (by rw [c11]; rfl) (by decide) ?_
                              exact l_c11 C0 F hK hE hL hi kk wx wm H locs ls hR hW hl
                            · skip
                              by_cases c12 : y = 12
                              · refine lv_tableIn (x := y) (off := 431) (tgt := 464) hx hb dL_law_33 (by rw [c12]; decide) (by rw [c12]; decide) (by rw [c12]; rfl) (by decide) ?_
                                exact l_c12 C0 F hK hE hL hi kk wx wm H locs ls hR hW hl
                              · skip
                                by_cases c13 : y = 13
                                · refine lv_tableIn (x := y) (off := 454) (tgt := 487) hx hb dL_law_33 (by rw [c13]; decide) (by rw [c13]; decide) (by rw [c13]; rfl) (by decide) ?_
                                  exact l_c13 C0 F hK hE hL hi kk wx wm H locs ls hR hW hl
                                · skip
                                  by_cases c14 : y = 14
                                  · refine lv_tableIn (x := y) (off := 503) (tgt := 536) hx hb dL_law_33 (by rw [c14]; decide) (by rw [c14]; decide) (by rw [c14]; rfl) (by decide) ?_
                                    exact l_c14 C0 F hK hE hL hi kk wx wm H locs ls hR hW hl
                                  · skip
                                    by_cases c15 : y = 15
                                    · refine lv_tableIn (x := y) (off := 516) (tgt := 549) hx hb dL_law_33 (by rw [c15]; decide) (by rw [c15]; decide) (by rw [c15]; rfl) (by decide) ?_
                                      exact l_c15 C0 F hK hE hL hi kk wx wm H locs ls hR hW hl
                                    · skip
                                      by_cases c16 : y = 16
                                      · refine lv_tableIn (x := y) (off := 565) (tgt := 598) hx hb dL_law_33 (by rw [c16]; decide) (by rw [c16]; decide) (by rw [c16]; rfl) (by decide) ?_
                                        exact l_c16 C0 F hK hE hL hi kk wx wm H locs ls hR hW hl
                                      · skip
                                        by_cases c17 : y = 17
                                        · refine lv_tableIn (x := y) (off := 608) (tgt := 641) hx hb dL_law_33 (by rw [c17]; decide) (by rw [c17]; decide) (by rw [c17]; rfl) (by decide) ?_
                                          exact l_c17 C0 F hK hE hL hi kk wx wm H locs ls hR hW hl
                                        · skip
                                          by_cases c18 : y = 18
                                          · refine lv_tableIn (x := y) (off := 667) (tgt := 700) hx hb dL_law_33 (by rw [c18]; decide) (by rw [c18]; decide) (by rw [c18]; rfl) (by decide) ?_
                                            exact l_c18 C0 F hK hE hL hi kk wx wm H locs ls hR hW hl
                                          · skip
                                            by_cases c19 : y = 19
                                            · refine lv_tableIn (x := y) (off := 726) (tgt := 759) hx hb dL_law_33 (by rw [c19]; decide) (by rw [c19]; decide) (by rw [c19]; rfl) (by decide) ?_
                                              exact l_c19 C0 F hK hE hL hi kk wx wm H locs ls hR hW hl
                                            · skip
                                              by_cases c20 : y = 20
                                              · refine lv_tableIn (x := y) (off := 789) (tgt := 822) hx hb dL_law_33 (by rw [c20]; decide) (by rw [c20]; decide) (by rw [c20]; rfl) (by decide) ?_
                                                exact l_c20 C0 F hK hE hL hi kk wx wm H locs ls hR hW hl
                                              · skip
                                                by_cases c21 : y = 21
                                                · refine lv_tableIn (x := y) (off := 848) (tgt := 881) hx hb dL_law_33 (by rw [c21]; decide) (by rw [c21]; decide) (by rw [c21]; rfl) (by decide) ?_
                                                  exact l_c21 C0 F hK hE hL hi kk wx wm H locs ls hR hW hl
                                                · skip
                                                  by_cases c22 : y = 22
                                                  · refine lv_tableIn (x := y) (off := 902) (tgt := 935) hx hb dL_law_33 (by rw [c22]; decide) (by rw [c22]; decide) (by rw [c22]; rfl) (by decide) ?_
                                                    exact l_c22 C0 F hK hE hL hi kk wx wm H locs ls hR hW hl
                                                  · skip
                                                    by_cases c23 : y = 23
                                                    · refine lv_tableIn (x := y) (off := 925) (tgt := 958) hx hb dL_law_33 (by rw [c23]; decide) (by rw [c23]; decide) (by rw [c23]; rfl) (by decide) ?_
                                                      exact l_c23 C0 F hK hE hL hi kk wx wm H locs ls hR hW hl
                                                    · skip
                                                      by_cases c24 : y = 24
                                                      · refine lv_tableIn (x := y) (off := 948) (tgt := 981) hx hb dL_law_33 (by rw [c24]; decide) (by rw [c24]; decide) (by rw [c24]; rfl) (by decide) ?_
                                                        exact l_c24 C0 F hK hE hL hi kk wx wm H locs ls hR hW hl
                                                      · skip
                                                        by_cases c25 : y = 25
                                                        · refine lv_tableIn (x := y) (off := 971) (tgt := 1004) hx hb dL_law_33 (by rw [c25]; decide) (by rw [c25]; decide) (by rw [c25]; rfl) (by decide) ?_
                                                          exact l_c25 C0 F hK hE hL hi kk wx wm H locs ls hR hW hl
                                                        · skip
                                                          have z9 : ∀ z, z < 26 → ¬ y = nI z := by
                                                            intro z hz
                                                            rcases (show z = 0 ∨ z = 1 ∨ z = 2 ∨ z = 3 ∨ z = 4 ∨ z = 5 ∨ z = 6 ∨ z = 7 ∨ z = 8 ∨ z = 9 ∨ z = 10 ∨ z = 11 ∨ z = 12 ∨ z = 13 ∨ z = 14 ∨ z = 15 ∨ z = 16 ∨ z = 17 ∨ z = 18 ∨ z = 19 ∨ z = 20 ∨ z = 21 ∨ z = 22 ∨ z = 23 ∨ z = 24 ∨ z = 25 by omega) with rfl | rfl | rfl | rfl | rfl | rfl | rfl | rfl | rfl | rfl | rfl | rfl | rfl | rfl | rfl | rfl | rfl | rfl | rfl | rfl | rfl | rfl | rfl | rfl | rfl | rfl
                                                            · exact c0
                                                            · exact c1
                                                            · exact c2
                                                            · exact c3
                                                            · exact c4
                                                            · exact c5
                                                            · exact c6
                                                            · exact c7
                                                            · exact c8
                                                            · exact c9
                                                            · exact c10
                                                            · exact c11
                                                            · exact c12
                                                            · exact c13
                                                            · exact c14
                                                            · exact c15
                                                            · exact c16
                                                            · exact c17
                                                            · exact c18
                                                            · exact c19
                                                            · exact c20
                                                            · exact c21
                                                            · exact c22
                                                            · exact c23
                                                            · exact c24
                                                            · exact c25
                                                          refine lv_tableOut (x := y) (tgt := 1027) hx hb dL_law_33 (z_out (by decide) z9 rfl) (by decide) ?_
                                                          exact kk wx wm H locs ls hR hW hl
    · refine lv_icmp_gt (tgt := 1033) hx hb dL_law_24 (by decide) (fun _ => ?_) (fun c9 => absurd (l_gt hiL hi hL) c9)
      refine W.widen (k := 600000) (n := 7302250) (Nat.le_of_ble_eq_true rfl) (Nat.le_of_ble_eq_true rfl) ?_
      refine va_forget hW.2.2.2.2 ?_
      refine lv_iconst (v := 1) hx hb dL_law_1033 (by decide) ?_
      rw [hQ]
      exact lw_ret hx hb hr hlocks dL_law_1034
