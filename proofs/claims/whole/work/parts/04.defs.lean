/-! what each method does to the values of its world; none: it does not come to an end so (an index out, a divisor 0, the count of rounds used up) -/
def ft_begin_19 : Nat → Nat → Int32 → St → Option St
  | 0, _, _, _ => none
  | fu + 1, x0, x1, w => if 7 ≤ x1 then (some w) else ((gu w (x0 + 1) 7 x1 0).bind fun w34 => ft_begin_19 fu x0 (x1 + 1) w34)
def ft_begin (x0 : Nat) (w : St) : Option St :=
  ft_begin_19 4096 x0 0 (wr (wr (wr w x0 0 0) x0 1 (-9)) x0 2 (-9))
def fd_begin (x0 : Nat) (w : St) : Option St :=
  (ft_begin (x0 + 1) w).bind fun w4 => some (wr (wr w4 x0 1 0) x0 2 0)
def ft_become_26 : Nat → Nat → Nat → Int32 → St → Option St
  | 0, _, _, _, _ => none
  | fu + 1, x0, x1, x2, w => if 7 ≤ x2 then (some w) else (if 7 ≤ x2 then (some w) else ((gr (w.1 (x1 + 1)) 7 x2).bind fun v54 => (gu w (x0 + 1) 7 x2 v54).bind fun w55 => ft_become_26 fu x0 x1 (x2 + 1) w55))
def ft_become (x0 : Nat) (x1 : Nat) (w : St) : Option St :=
  ft_become_26 4096 x0 x1 0 (wr (wr (wr w x0 0 (w.1 x1 0)) x0 1 ((wr w x0 0 (w.1 x1 0)).1 x1 1)) x0 2 ((wr (wr w x0 0 (w.1 x1 0)) x0 1 ((wr w x0 0 (w.1 x1 0)).1 x1 1)).1 x1 2))
def fd_become_29 : Nat → Nat → Nat → Int32 → St → Option St
  | 0, _, _, _, _ => none
  | fu + 1, x0, x1, x2, w => if 6 ≤ x2 then (some w) else (if 6 ≤ x2 then (some w) else ((gr (w.1 (x1 + 3)) 6 x2).bind fun v57 => (gu w (x0 + 3) 6 x2 v57).bind fun w58 => fd_become_29 fu x0 x1 (x2 + 1) w58))
def fd_become (x0 : Nat) (x1 : Nat) (w : St) : Option St :=
  (ft_become (x0 + 1) (x1 + 1) w).bind fun w8 => fd_become_29 4096 x0 x1 0 (wr (wr w8 x0 1 (w8.1 x1 1)) x0 2 ((wr w8 x0 1 (w8.1 x1 1)).1 x1 2))
def fx_has (x0 : Int32) (x1 : Int32) : Option Int32 :=
  if ((x0 >>> (x1 &&& 31)) &&& (1 : Int32)) = 1 then (some 1) else (some 0)
def fr_by_53 (k7 : Int32 → Int32 → St → Option St) (x1 : Int32) (x2 : Int32) (w : St) : Option St :=
  k7 x1 (x2 + 1) w
def fr_by_7 : Nat → Int32 → Int32 → St → Option St
  | 0, _, _, _ => none
  | fu + 1, x1, x2, w => if 7 ≤ x2 then (some w) else ((fx_has x1 x2).bind fun v15 => if v15 = 0 then (fr_by_53 (fr_by_7 fu) x1 x2 w) else (if 7 ≤ (w.1 9 1) then (fr_by_53 (fr_by_7 fu) x1 x2 w) else ((gu w 10 7 (w.1 9 1) x2).bind fun w42 => fr_by_53 (fr_by_7 fu) x1 x2 (wr w42 9 1 ((w42.1 9 1) + (1 : Int32))))))
def fr_by (x1 : Int32) (w : St) : Option St :=
  fr_by_7 4096 x1 0 (wr w 9 1 0)
def fx_power_4 : Nat → Int32 → Int32 → Int32 → Int32 → Option Int32
  | 0, _, _, _, _ => none
  | fu + 1, x0, x1, x2, x3 => if x1 ≤ x3 then (some x2) else (lb (x2 * x0) fun v12 => fx_power_4 fu x0 x1 v12 (x3 + 1))
def fx_power (x0 : Int32) (x1 : Int32) : Option Int32 :=
  fx_power_4 4096 x0 x1 1 0
def fr_many (x1 : Int32) (w : St) : Option (Int32 × St) :=
  (fx_power (w.1 9 1) x1).bind fun v5 => some (v5, w)
def fr_told_24 : Nat → Int32 → Int32 → Int32 → Int32 → Int32 → St → Option (Int32 × St)
  | 0, _, _, _, _, _, _ => none
  | fu + 1, x2, x3, x4, x5, x6, w => if x2 ≤ x6 then (some (x3, w)) else ((gm x4 (w.1 9 1)).bind fun v43 => (gr (w.1 10) 7 v43).bind fun v44 => lb (x3 + (x5 * (v44 + (1 : Int32)))) fun v49 => (gd x4 (w.1 9 1)).bind fun v56 => lb (x5 * (10 : Int32)) fun v64 => fr_told_24 fu x2 v49 v56 v64 (x6 + 1) w)
def fr_told (x1 : Int32) (x2 : Int32) (w : St) : Option (Int32 × St) :=
  if (w.1 9 1) ≤ 0 then (some (0, w)) else (if 0 ≤ x1 then (fr_told_24 4096 x2 0 x1 1 0 w) else (some (0, w)))
def ft_made (x0 : Int32) (x1 : Int32) : Option Int32 :=
  if x1 = (-9) then (some x0) else (lb (ir x1 10) fun v12 => if (x1 / 10) = 0 then (some v12) else (if (x1 / 10) = 1 then (some (ir (x0 + v12) 10)) else (if (x1 / 10) = 2 then (some ((9 : Int32) - x0)) else (some x0))))
def ft_utter_16 : Nat → Nat → Int32 → Int32 → Int32 → St → Option St
  | 0, _, _, _, _, _ => none
  | fu + 1, x0, x1, x3, x4, w => if x3 ≤ x4 then (if x1 < 0 then (some (wr w x0 1 x1)) else (if 7 ≤ x1 then (some (wr w x0 1 x1)) else ((gr ((wr w x0 1 x1).1 (x0 + 1)) 7 x1).bind fun v67 => (gu (wr w x0 1 x1) (x0 + 1) 7 x1 (v67 + (1 : Int32))).bind fun w70 => some w70))) else ((ft_made (w.1 x0 0) (w.1 x0 2)).bind fun v31 => ft_utter_16 fu x0 x1 x3 (x4 + 1) (wr w x0 0 v31))
def ft_utter_13 (x0 : Nat) (x1 : Int32) (x3 : Int32) (w : St) : Option St :=
  ft_utter_16 4096 x0 x1 x3 0 w
def ft_utter (x0 : Nat) (x1 : Int32) (x2 : Int32) (x3 : Int32) (w : St) : Option St :=
  if (x2 / 10) = 3 then (ft_utter_13 x0 x1 x3 w) else (ft_utter_13 x0 x1 x3 (wr w x0 2 x2))
def fx_write (x1 : Int32) (w : St) : Option (Int32 × St) :=
  if x1 < 0 then (some ((-2), w)) else (if x1 ≤ 255 then (if (w.1 0 1) < 0 then (some ((-4), w)) else (if (w.1 0 1) < 40 then ((gu w 1 40 (w.1 0 1) (i2c x1)).bind fun w46 => some (((wr w46 0 1 ((w46.1 0 1) + (1 : Int32))).1 0 1), (wr w46 0 1 ((w46.1 0 1) + (1 : Int32))))) else (some ((-4), w)))) else (some ((-2), w)))
def fx_wipe (w : St) : Option (Int32 × St) :=
  lb (w.1 0 1) fun v4 => some (v4, (wr w 0 1 0))
def fx_isFigure (x0 : Int32) (x1 : Int32) : Option Int32 :=
  if x0 < 48 then (some 0) else (if ((48 : Int32) + x1) < x0 then (some 0) else (some 1))
def fx_fits (x0 : Int32) (x1 : Int32) : Option Int32 :=
  if x0 = 0 then (if x1 = 73 then (some 1) else (some 0)) else (if x0 = 1 then ((fx_isFigure x1 9).bind fun v24 => (gz v24).bind fun v27 => some v27) else (if x0 < 32 then (if (ir (x0 - (2 : Int32)) 5) = 0 then (if x1 = 80 then (some 1) else (some 0)) else (if (ir (x0 - (2 : Int32)) 5) = 1 then ((fx_isFigure x1 9).bind fun v103 => (gz v103).bind fun v106 => some v106) else (if (ir (x0 - (2 : Int32)) 5) = 2 then ((fx_isFigure x1 3).bind fun v90 => (gz v90).bind fun v93 => some v93) else (if (ir (x0 - (2 : Int32)) 5) = 3 then ((fx_isFigure x1 9).bind fun v103 => (gz v103).bind fun v106 => some v106) else (if (ir (x0 - (2 : Int32)) 5) = 4 then ((fx_isFigure x1 3).bind fun v96 => (gz v96).bind fun v99 => some v99) else ((fx_isFigure x1 9).bind fun v103 => (gz v103).bind fun v106 => some v106)))))) else (some 0)))
def fx_firstFault_64 (s0 : Int32) (w : St) : Option (Int32 × St) :=
  if s0 = 0 then (some ((w.1 0 1), w)) else (some ((-9), w))
def fx_firstFault_63 (w : St) : Option (Int32 × St) :=
  fx_firstFault_64 0 w
def fx_firstFault_40 (w : St) : Option (Int32 × St) :=
  if (w.1 0 1) < 2 then (fx_firstFault_63 w) else (if (ir ((w.1 0 1) - (2 : Int32)) 5) = 0 then (fx_firstFault_64 1 w) else (fx_firstFault_63 w))
def fx_firstFault_2 : Nat → Int32 → St → Option (Int32 × St)
  | 0, _, _ => none
  | fu + 1, x1, w => if (w.1 0 1) ≤ x1 then (fx_firstFault_40 w) else (if 40 ≤ x1 then (fx_firstFault_40 w) else ((gr (w.1 1) 40 x1).bind fun v25 => (fx_fits x1 v25).bind fun v26 => if v26 = 0 then (some (x1, w)) else (fx_firstFault_2 fu (x1 + 1) w)))
def fx_firstFault (w : St) : Option (Int32 × St) :=
  fx_firstFault_2 4096 0 w
def fx_fault (w : St) : Option (Int32 × St) :=
  (fx_firstFault w).bind fun q1 => some (q1.1, q1.2)
def fx_figureIn (x1 : Int32) (w : St) : Option (Int32 × St) :=
  if x1 < 0 then (some (0, w)) else (if 40 ≤ x1 then (some (0, w)) else ((gr (w.1 1) 40 x1).bind fun v18 => some ((v18 - (48 : Int32)), w)))
def fx_settle (x1 : Int32) (x2 : Int32) (w : St) : Option St :=
  if x1 < 0 then (some w) else (if x1 < 6 then ((fx_figureIn (x2 + (1 : Int32)) w).bind fun q20 => (gu (q20.2) 2 7 x1 (q20.1)).bind fun w23 => (fx_figureIn (x2 + (2 : Int32)) w23).bind fun q38 => (fx_figureIn (x2 + (3 : Int32)) (q38.2)).bind fun q46 => (gu (q46.2) 16 6 x1 (((10 : Int32) * q38.1) + q46.1)).bind fun w50 => (fx_figureIn (x2 + (4 : Int32)) w50).bind fun q60 => (gu (q60.2) 3 7 x1 (q60.1)).bind fun w63 => (gr (w63.1 2) 7 x1).bind fun v69 => if v69 = (w63.1 0 2) then (some (wr w63 13 1 ((w63.1 13 1) ||| ((1 : Int32) <<< (x1 &&& 31))))) else (some w63)) else (some w))
def fx_forgetActs (w : St) : Option St :=
  some (wr (wr w 0 8 0) 0 9 0)
def fx_island_72 : Nat → Int32 → St → Option (Int32 × St)
  | 0, _, _ => none
  | fu + 1, x1, w => if 2 ≤ x1 then (some ((w.1 0 3), w)) else ((gu w 6 2 x1 0).bind fun w87 => fx_island_72 fu (x1 + 1) w87)
def fx_island_42 : Nat → Int32 → St → Option (Int32 × St)
  | 0, _, _ => none
  | fu + 1, x1, w => if (w.1 0 3) ≤ x1 then ((fx_forgetActs w).bind fun w67 => fx_island_72 4096 0 w67) else ((fx_settle x1 ((2 : Int32) + ((5 : Int32) * x1)) w).bind fun w57 => fx_island_42 fu (x1 + 1) w57)
def fx_island (w : St) : Option (Int32 × St) :=
  (fx_firstFault w).bind fun q1 => if q1.1 = (-9) then ((fx_figureIn 1 (q1.2)).bind fun q15 => (fd_begin 13 (wr (wr (q15.2) 0 2 (q15.1)) 0 3 ((((wr (q15.2) 0 2 (q15.1)).1 0 1) - (2 : Int32)) / 5))).bind fun w37 => fx_island_42 4096 0 w37) else (some ((-3), q1.2))
def fx_isThere (x1 : Int32) (w : St) : Option (Int32 × St) :=
  if x1 < 0 then (some (0, w)) else (if (w.1 0 3) ≤ x1 then (some (0, w)) else (if 6 ≤ x1 then (some (0, w)) else (some (1, w))))
def fx_maySpeak (x1 : Nat) (x2 : Int32) (x3 : Int32) (w : St) : Option (Int32 × St) :=
  if x3 < 0 then (some (0, w)) else (if 7 ≤ x3 then (some (0, w)) else ((fx_has x2 x3).bind fun v12 => if v12 = 0 then (some (0, w)) else ((gr (w.1 3) 7 x3).bind fun v25 => if v25 = 1 then (if (w.1 x1 1) = (-9) then (some (0, w)) else (if (w.1 x1 1) = x3 then (some (0, w)) else (some (1, w)))) else ((gr (w.1 3) 7 x3).bind fun v58 => if v58 = 3 then ((gr (w.1 (x1 + 1)) 7 x3).bind fun v68 => if v68 = 0 then (some (1, w)) else (some (0, w))) else (some (1, w))))))
def fx_person (x1 : Int32) (x2 : Int32) (w : St) : Option (Int32 × St) :=
  (fx_isThere x1 w).bind fun q2 => if q2.1 = 0 then (some ((-1), q2.2)) else (if x2 = 0 then ((gr ((q2.2).1 2) 7 x1).bind fun v57 => some (v57, q2.2)) else (if x2 = 1 then ((gr ((q2.2).1 16) 6 x1).bind fun v67 => some ((v67 / 10), q2.2)) else (if x2 = 2 then ((gr ((q2.2).1 16) 6 x1).bind fun v80 => some ((ir v80 10), q2.2)) else (if x2 = 3 then ((gr ((q2.2).1 3) 7 x1).bind fun v90 => some (v90, q2.2)) else (if x2 = 4 then ((fx_has ((q2.2).1 13 1) x1).bind fun v100 => if v100 = 0 then (some (0, q2.2)) else (some (1, q2.2))) else (if x2 = 5 then ((fx_maySpeak 14 ((q2.2).1 13 1) x1 (q2.2)).bind fun q128 => if q128.1 = 0 then (some (0, q128.2)) else (some (1, q128.2))) else (if x2 = 6 then ((gr ((q2.2).1 15) 7 x1).bind fun v151 => some (v151, q2.2)) else (some ((-2), q2.2)))))))))
def fx_remember_39 (w : St) : Option St :=
  if 14 ≤ (w.1 0 9) then (some (wr w 0 8 (ir ((w.1 0 8) + (1 : Int32)) 14))) else (some (wr w 0 9 ((w.1 0 9) + (1 : Int32))))
def fx_remember (w : St) : Option St :=
  lb (ir ((w.1 0 8) + (w.1 0 9)) 14) fun v12 => if v12 < 0 then (fx_remember_39 w) else (if 14 ≤ v12 then (fx_remember_39 w) else ((gq 14 v12).bind fun q31 => (fd_become (17 + 4 * q31) 13 w).bind fun w36 => fx_remember_39 w36))
def fx_hoursFrom (x1 : Int32) (w : St) : Option (Int32 × St) :=
  (fx_isThere x1 w).bind fun q2 => if q2.1 = 0 then (some (0, q2.2)) else ((gr ((q2.2).1 2) 7 x1).bind fun v13 => some ((iabs (v13 - ((q2.2).1 0 2))), q2.2))
def fx_fetch (x1 : Int32) (w : St) : Option (Int32 × St) :=
  (fx_isThere x1 w).bind fun q2 => if q2.1 = 0 then (some ((-1), q2.2)) else ((fx_has ((q2.2).1 13 1) x1).bind fun v18 => if v18 = 0 then ((fx_remember (q2.2)).bind fun w28 => (fx_hoursFrom x1 (wr w28 13 1 ((w28.1 13 1) ||| ((1 : Int32) <<< (x1 &&& 31))))).bind fun q56 => some (((wr (q56.2) 13 2 (((wr w28 13 1 ((w28.1 13 1) ||| ((1 : Int32) <<< (x1 &&& 31)))).1 13 2) + q56.1)).1 13 2), (wr (q56.2) 13 2 (((wr w28 13 1 ((w28.1 13 1) ||| ((1 : Int32) <<< (x1 &&& 31)))).1 13 2) + q56.1)))) else (some ((-3), q2.2)))
def fj_bitCount (x0 : Int32) : Option Int32 :=
  lb (x0 - ((ush x0 1) &&& (1431655765 : Int32))) fun v9 => lb ((v9 &&& (858993459 : Int32)) + ((ush v9 2) &&& (858993459 : Int32))) fun v23 => lb ((v23 + (ush v23 4)) &&& (252645135 : Int32)) fun v33 => lb (v33 + (ush v33 8)) fun v40 => lb (v40 + (ush v40 16)) fun v47 => some (v47 &&& (63 : Int32))
def fx_send (x1 : Int32) (w : St) : Option (Int32 × St) :=
  (fx_isThere x1 w).bind fun q2 => if q2.1 = 0 then (some ((-1), q2.2)) else ((fx_has ((q2.2).1 13 1) x1).bind fun v18 => if v18 = 0 then (some ((-3), q2.2)) else ((gr ((q2.2).1 2) 7 x1).bind fun v29 => if v29 = ((q2.2).1 0 2) then (some ((-3), q2.2)) else ((fx_remember (q2.2)).bind fun w41 => (fj_bitCount ((wr w41 13 1 ((w41.1 13 1) &&& (((1 : Int32) <<< (x1 &&& 31)) ^^^ (-1 : Int32)))).1 13 1)).bind fun v68 => some (v68, (wr w41 13 1 ((w41.1 13 1) &&& (((1 : Int32) <<< (x1 &&& 31)) ^^^ (-1 : Int32))))))))
def fx_sentenceOf (x1 : Int32) (w : St) : Option (Int32 × St) :=
  if x1 = 6 then (some ((w.1 0 15), w)) else (if x1 < 0 then (some ((-9), w)) else (if 6 ≤ x1 then (some ((-9), w)) else ((gr (w.1 16) 6 x1).bind fun v29 => some (v29, w))))
def fx_speak_42 (s0 : Nat) (s1 : Int32) (s2 : Int32) (s3 : Int32) (w : St) : Option St :=
  (ft_utter s0 s1 s2 s3 w).bind fun w42 => some w42
def fx_speak_25 (x1 : Nat) (x2 : Int32) (s0 : Int32) (w : St) : Option St :=
  (fx_sentenceOf x2 w).bind fun q30 => if s0 = 0 then (fx_speak_42 x1 x2 (q30.1) 1 (q30.2)) else (fx_speak_42 x1 x2 (q30.1) 2 (q30.2))
def fx_speak_24 (x1 : Nat) (x2 : Int32) (w : St) : Option St :=
  fx_speak_25 x1 x2 0 w
def fx_speak (x1 : Nat) (x2 : Int32) (w : St) : Option St :=
  if x2 < 0 then (fx_speak_24 x1 x2 w) else (if 7 ≤ x2 then (fx_speak_24 x1 x2 w) else ((gr (w.1 3) 7 x2).bind fun v15 => if v15 = 2 then (fx_speak_25 x1 x2 1 w) else (fx_speak_24 x1 x2 w)))
def fx_say (x1 : Int32) (w : St) : Option (Int32 × St) :=
  (fx_isThere x1 w).bind fun q2 => if q2.1 = 0 then (some ((-1), q2.2)) else ((fx_maySpeak 14 ((q2.2).1 13 1) x1 (q2.2)).bind fun q26 => if q26.1 = 0 then (some ((-3), q26.2)) else ((fx_remember (q26.2)).bind fun w36 => (fx_speak 14 x1 w36).bind fun w48 => some (((wr w48 13 2 ((w48.1 13 2) + (1 : Int32))).1 14 0), (wr w48 13 2 ((w48.1 13 2) + (1 : Int32))))))
def fx_name (x1 : Int32) (x2 : Int32) (x3 : Int32) (w : St) : Option (Int32 × St) :=
  (fx_isThere x1 w).bind fun q2 => if q2.1 = 0 then (some ((-1), q2.2)) else (if x2 < 0 then (some ((-2), q2.2)) else (if 3 < x2 then (some ((-2), q2.2)) else (if x3 < 0 then (some ((-2), q2.2)) else (if x3 ≤ 9 then ((gr ((q2.2).1 16) 6 x1).bind fun v40 => if v40 = (((10 : Int32) * x2) + x3) then (some ((-3), q2.2)) else ((fx_remember (q2.2)).bind fun w58 => (gu w58 16 6 x1 (((10 : Int32) * x2) + x3)).bind fun w75 => some (v40, w75))) else (some ((-2), q2.2))))))
def fx_undo_59 (w : St) : Option (Int32 × St) :=
  some ((w.1 0 9), w)
def fx_undo (w : St) : Option (Int32 × St) :=
  if 0 < (w.1 0 9) then (lb (ir (((wr w 0 9 ((w.1 0 9) - (1 : Int32))).1 0 8) + ((wr w 0 9 ((w.1 0 9) - (1 : Int32))).1 0 9)) 14) fun v32 => if v32 < 0 then (fx_undo_59 (wr w 0 9 ((w.1 0 9) - (1 : Int32)))) else (if 14 ≤ v32 then (fx_undo_59 (wr w 0 9 ((w.1 0 9) - (1 : Int32)))) else ((gq 14 v32).bind fun q55 => (fd_become 13 (17 + 4 * q55) (wr w 0 9 ((w.1 0 9) - (1 : Int32)))).bind fun w56 => fx_undo_59 w56))) else (some ((-3), w))
def fx_personIn_7 : Nat → Int32 → Int32 → Int32 → Option Int32
  | 0, _, _, _ => none
  | fu + 1, x2, x3, x4 => if x4 ≤ x2 then (some ((ir x3 10) - (1 : Int32))) else (lb (x3 / 10) fun v17 => fx_personIn_7 fu x2 v17 (x4 + (-1)))
def fx_personIn (x0 : Int32) (x1 : Int32) (x2 : Int32) : Option Int32 :=
  lb (x0 - (1 : Int32)) fun v5 => fx_personIn_7 4096 x2 x1 v5
def fx_play_17 : Nat → Int32 → Int32 → Int32 → Int32 → St → Option (Int32 × St)
  | 0, _, _, _, _, _ => none
  | fu + 1, x1, x2, x3, x4, w => if x1 ≤ x4 then (some ((-9), w)) else ((fx_personIn x1 x2 x4).bind fun v27 => (fx_maySpeak 11 x3 v27 w).bind fun q40 => if q40.1 = 0 then (some (x4, q40.2)) else ((fx_speak 11 v27 (q40.2)).bind fun w56 => fx_play_17 fu x1 x2 x3 (x4 + 1) w56))
def fx_play (x1 : Int32) (x2 : Int32) (x3 : Int32) (w : St) : Option (Int32 × St) :=
  (ft_become 11 14 w).bind fun w11 => fx_play_17 4096 x1 x2 x3 0 w11
def fx_comesTo (x1 : Int32) (x2 : Int32) (x3 : Int32) (w : St) : Option (Int32 × St) :=
  if x1 < 1 then (some ((-2), w)) else (if 5 < x1 then (some ((-2), w)) else (if x2 < 0 then (some ((-2), w)) else ((fx_power 10 x1).bind fun v18 => if v18 ≤ x2 then (some ((-2), w)) else (if x3 < 0 then (some ((-2), w)) else (if x3 ≤ 1 then ((fx_play x1 x2 (w.1 13 1) w).bind fun q46 => lb (q46.1) fun v49 => if x3 = 1 then (some (v49, q46.2)) else (if v49 = (-9) then (some (((q46.2).1 11 0), q46.2)) else (some ((-3), q46.2)))) else (some ((-2), w)))))))
def fx_isSense (x0 : Int32) : Option Int32 :=
  if x0 < 0 then (some 0) else (if 10 ≤ x0 then (some 0) else (some 1))
def fx_isTold (x1 : Int32) (x2 : Int32) (x3 : Int32) (x4 : Int32) (w : St) : Option (Int32 × St) :=
  (fx_play x1 x2 x3 w).bind fun q4 => if q4.1 = (-9) then (if ((q4.2).1 11 0) = x4 then (some (1, q4.2)) else (some (0, q4.2))) else (some (0, q4.2))
def fx_leastRow_12 : Nat → Int32 → Int32 → Int32 → Int32 → St → Option (Int32 × St)
  | 0, _, _, _, _, _ => none
  | fu + 1, x1, x2, x3, x4, w => if x3 ≤ x4 then (some ((-9), w)) else ((fr_told x4 x1 w).bind fun q25 => lb (q25.1) fun v28 => (fx_isTold x1 v28 ((q25.2).1 13 1) x2 (q25.2)).bind fun q42 => if q42.1 = 0 then (fx_leastRow_12 fu x1 x2 x3 (x4 + 1) (q42.2)) else (some (v28, q42.2)))
def fx_leastRow (x1 : Int32) (x2 : Int32) (w : St) : Option (Int32 × St) :=
  (fr_many x1 w).bind fun q5 => lb (q5.1) fun v8 => fx_leastRow_12 4096 x1 x2 v8 0 (q5.2)
def fx_fewest_26 : Nat → Int32 → Int32 → Int32 → St → Option (Int32 × St)
  | 0, _, _, _, _ => none
  | fu + 1, x1, x2, x3, w => if 4 < x3 then (some ((-9), w)) else ((fx_leastRow x3 x1 w).bind fun q34 => lb (q34.1) fun v37 => if v37 = (-9) then (fx_fewest_26 fu x1 x2 (x3 + 1) (q34.2)) else (if x2 = 0 then (some (x3, q34.2)) else (some (v37, q34.2))))
def fx_fewest (x1 : Int32) (x2 : Int32) (w : St) : Option (Int32 × St) :=
  (fx_isSense x1).bind fun v1 => if v1 = 0 then (some ((-2), w)) else ((fr_by (w.1 13 1) w).bind fun w21 => fx_fewest_26 4096 x1 x2 0 w21)
def fx_sensesBy_75 (k13 : Int32 → Int32 → Int32 → Int32 → St → Option (Int32 × St)) (k33 : Int32 → Int32 → Int32 → Int32 → Int32 → Int32 → St → Option (Int32 × St)) (x1 : Int32) (x2 : Int32) (x3 : Int32) (x4 : Int32) (x5 : Int32) (x6 : Int32) (w : St) : Option (Int32 × St) :=
  k33 x1 x2 x3 x4 x5 (x6 + 1) w
def fx_sensesBy_33 (k13 : Int32 → Int32 → Int32 → Int32 → St → Option (Int32 × St)) : Nat → Int32 → Int32 → Int32 → Int32 → Int32 → Int32 → St → Option (Int32 × St)
  | 0, _, _, _, _, _, _, _ => none
  | fu + 1, x1, x2, x3, x4, x5, x6, w => if x5 ≤ x6 then (k13 x1 x2 x3 (x4 + 1) w) else ((fr_told x6 x4 w).bind fun q51 => (fx_play x4 (q51.1) x1 (q51.2)).bind fun q55 => if q55.1 = (-9) then (lb (x3 ||| ((1 : Int32) <<< (((q55.2).1 11 0) &&& 31))) fun v74 => fx_sensesBy_75 k13 (fx_sensesBy_33 k13 fu) x1 x2 v74 x4 x5 x6 (q55.2)) else (fx_sensesBy_75 k13 (fx_sensesBy_33 k13 fu) x1 x2 x3 x4 x5 x6 (q55.2)))
def fx_sensesBy_13 : Nat → Int32 → Int32 → Int32 → Int32 → St → Option (Int32 × St)
  | 0, _, _, _, _, _ => none
  | fu + 1, x1, x2, x3, x4, w => if x2 < x4 then (some (x3, w)) else ((fr_many x4 w).bind fun q25 => lb (q25.1) fun v28 => fx_sensesBy_33 (fx_sensesBy_13 fu) 4096 x1 x2 x3 x4 v28 0 (q25.2))
def fx_sensesBy (x1 : Int32) (x2 : Int32) (w : St) : Option (Int32 × St) :=
  (fr_by x1 w).bind fun w5 => fx_sensesBy_13 4096 x1 x2 0 0 w5
def fx_can (x1 : Int32) (w : St) : Option (Int32 × St) :=
  if x1 < 0 then (some ((-2), w)) else (if x1 ≤ 3 then ((fx_sensesBy (w.1 13 1) x1 w).bind fun q21 => some (q21.1, q21.2)) else (some ((-2), w)))
def fx_everybody (w : St) : Option (Int32 × St) :=
  some ((((1 : Int32) <<< ((w.1 0 3) &&& 31)) - (1 : Int32)), w)
def fx_speakersIn_4 : Nat → Int32 → Int32 → Int32 → Int32 → Option Int32
  | 0, _, _, _, _ => none
  | fu + 1, x0, x1, x2, x3 => if x0 ≤ x3 then (some x2) else ((fx_personIn x0 x1 x3).bind fun v14 => lb (x2 ||| ((1 : Int32) <<< (v14 &&& 31))) fun v19 => fx_speakersIn_4 fu x0 x1 v19 (x3 + 1))
def fx_speakersIn (x0 : Int32) (x1 : Int32) : Option Int32 :=
  fx_speakersIn_4 4096 x0 x1 0 0
def fx_hoursFor_28 (k4 : Int32 → Int32 → Int32 → St → Option (Int32 × St)) (x1 : Int32) (x2 : Int32) (x3 : Int32) (w : St) : Option (Int32 × St) :=
  k4 x1 x2 (x3 + 1) w
def fx_hoursFor_4 : Nat → Int32 → Int32 → Int32 → St → Option (Int32 × St)
  | 0, _, _, _, _ => none
  | fu + 1, x1, x2, x3, w => if (w.1 0 3) ≤ x3 then (some (x2, w)) else ((fx_has x1 x3).bind fun v14 => if v14 = 0 then (fx_hoursFor_28 (fx_hoursFor_4 fu) x1 x2 x3 w) else ((fx_hoursFrom x3 w).bind fun q23 => lb (x2 + q23.1) fun v27 => fx_hoursFor_28 (fx_hoursFor_4 fu) x1 v27 x3 (q23.2)))
def fx_hoursFor (x1 : Int32) (w : St) : Option (Int32 × St) :=
  fx_hoursFor_4 4096 x1 0 0 w
def fj_compare (x0 : Int32) (x1 : Int32) : Option Int32 :=
  if x1 ≤ x0 then (if x0 = x1 then (some 0) else (some 1)) else (some (-1))
def fx_isCheaper (x1 : Int32) (x2 : Int32) (w : St) : Option (Int32 × St) :=
  (fx_hoursFor x1 w).bind fun q2 => (fx_hoursFor x2 (q2.2)).bind fun q7 => (fj_compare (q2.1) (q7.1)).bind fun v10 => if v10 = 0 then ((fj_bitCount x1).bind fun v29 => (fj_bitCount x2).bind fun v33 => (fj_compare v29 v33).bind fun v36 => if v36 = 0 then (if x2 ≤ x1 then (some (0, q7.2)) else (some (1, q7.2))) else (if 0 ≤ v36 then (some (0, q7.2)) else (some (1, q7.2)))) else (if 0 ≤ v10 then (some (0, q7.2)) else (some (1, q7.2)))
def fx_bestFetch_90 (k16 : Int32 → Int32 → Int32 → Int32 → Int32 → St → Option (Int32 × St)) (x1 : Int32) (x2 : Int32) (x4 : Int32) (x5 : Int32) (x6 : Int32) (w : St) : Option (Int32 × St) :=
  k16 x1 x2 x4 x5 (x6 + 1) w
def fx_bestFetch_86 (k16 : Int32 → Int32 → Int32 → Int32 → Int32 → St → Option (Int32 × St)) (x1 : Int32) (x2 : Int32) (x5 : Int32) (x6 : Int32) (x8 : Int32) (w : St) : Option (Int32 × St) :=
  fx_bestFetch_90 k16 x1 x2 x8 x5 x6 w
def fx_bestFetch_16 : Nat → Int32 → Int32 → Int32 → Int32 → Int32 → St → Option (Int32 × St)
  | 0, _, _, _, _, _, _ => none
  | fu + 1, x1, x2, x4, x5, x6, w => if x5 ≤ x6 then (some (x4, w)) else ((fr_told x6 x1 w).bind fun q30 => lb (q30.1) fun v33 => (fx_everybody (q30.2)).bind fun q40 => (fx_isTold x1 v33 (q40.1) x2 (q40.2)).bind fun q44 => if q44.1 = 0 then (fx_bestFetch_90 (fx_bestFetch_16 fu) x1 x2 x4 x5 x6 (q44.2)) else ((fx_speakersIn x1 v33).bind fun v53 => lb (v53 &&& (((q44.2).1 13 1) ^^^ (-1 : Int32))) fun v66 => if x4 = (-9) then (fx_bestFetch_86 (fx_bestFetch_16 fu) x1 x2 x5 x6 v66 (q44.2)) else ((fx_isCheaper v66 x4 (q44.2)).bind fun q80 => if q80.1 = 0 then (fx_bestFetch_90 (fx_bestFetch_16 fu) x1 x2 x4 x5 x6 (q80.2)) else (fx_bestFetch_86 (fx_bestFetch_16 fu) x1 x2 x5 x6 v66 (q80.2)))))
def fx_bestFetch (x1 : Int32) (x2 : Int32) (x3 : Int32) (w : St) : Option (Int32 × St) :=
  (fr_many x1 w).bind fun q8 => lb (q8.1) fun v11 => fx_bestFetch_16 4096 x1 x2 x3 v11 0 (q8.2)
def fx_toFetch_27 : Nat → Int32 → Int32 → Int32 → Int32 → St → Option (Int32 × St)
  | 0, _, _, _, _, _ => none
  | fu + 1, x1, x2, x3, x4, w => if 4 < x4 then (if x3 = (-9) then (some ((-9), w)) else (if x2 = 0 then (some (x3, w)) else ((fx_hoursFor x3 w).bind fun q63 => some (q63.1, q63.2)))) else ((fx_bestFetch x4 x1 x3 w).bind fun q38 => lb (q38.1) fun v41 => fx_toFetch_27 fu x1 x2 v41 (x4 + 1) (q38.2))
def fx_toFetch (x1 : Int32) (x2 : Int32) (w : St) : Option (Int32 × St) :=
  (fx_isSense x1).bind fun v1 => if v1 = 0 then (some ((-2), w)) else ((fx_everybody w).bind fun q15 => (fr_by (q15.1) (q15.2)).bind fun w18 => fx_toFetch_27 4096 x1 x2 (-9) 0 w18)
def fx_needed_61 (k20 : Int32 → Int32 → Int32 → Int32 → St → Option (Int32 × St)) (x1 : Int32) (x2 : Int32) (x3 : Int32) (x4 : Int32) (w : St) : Option (Int32 × St) :=
  k20 x1 x2 x3 (x4 + 1) w
def fx_needed_20 : Nat → Int32 → Int32 → Int32 → Int32 → St → Option (Int32 × St)
  | 0, _, _, _, _, _ => none
  | fu + 1, x1, x2, x3, x4, w => if x1 < x4 then (some (x3, w)) else (if (x4 &&& (x1 ^^^ (-1 : Int32))) = 0 then ((fj_bitCount x4).bind fun v37 => (fj_bitCount x3).bind fun v41 => if v41 ≤ v37 then (fx_needed_61 (fx_needed_20 fu) x1 x2 x3 x4 w) else ((fx_sensesBy x4 3 w).bind fun q51 => if q51.1 = x2 then (fx_needed_61 (fx_needed_20 fu) x1 x2 x4 x4 (q51.2)) else (fx_needed_61 (fx_needed_20 fu) x1 x2 x3 x4 (q51.2)))) else (fx_needed_61 (fx_needed_20 fu) x1 x2 x3 x4 w))
def fx_needed (w : St) : Option (Int32 × St) :=
  lb (w.1 13 1) fun v7 => (fx_sensesBy v7 3 w).bind fun q11 => lb (q11.1) fun v14 => fx_needed_20 4096 v7 v14 v7 0 (q11.2)
def fx_naming_68 (k21 : Int32 → Int32 → Int32 → Int32 → Int32 → St → Option (Int32 × St)) (x1 : Int32) (x2 : Int32) (x3 : Int32) (x4 : Int32) (x5 : Int32) (w : St) : Option (Int32 × St) :=
  k21 x1 x2 x3 x4 (x5 + 1) w
def fx_naming_21 : Nat → Int32 → Int32 → Int32 → Int32 → Int32 → St → Option (Int32 × St)
  | 0, _, _, _, _, _, _ => none
  | fu + 1, x1, x2, x3, x4, x5, w => if 40 ≤ x5 then (if x2 = 0 then (some (x3, w)) else (some (x4, w))) else ((fx_sensesBy (((wr w 0 15 x5).1 13 1) ||| (64 : Int32)) x1 (wr w 0 15 x5)).bind fun q46 => (fj_bitCount (q46.1)).bind fun v49 => if v49 ≤ x4 then (fx_naming_68 (fx_naming_21 fu) x1 x2 x3 x4 x5 (q46.2)) else (fx_naming_68 (fx_naming_21 fu) x1 x2 x5 v49 x5 (q46.2)))
def fx_naming (x1 : Int32) (x2 : Int32) (w : St) : Option (Int32 × St) :=
  if x1 < 1 then (some ((-2), w)) else (if x1 ≤ 3 then (fx_naming_21 4096 x1 x2 0 0 0 w) else (some ((-2), w)))
def fx_spoken_141 (k77 : Int32 → Int32 → Int32 → Int32 → Int32 → Int32 → Int32 → Int32 → St → Option (Int32 × St)) (x1 : Int32) (x2 : Int32) (x3 : Int32) (x4 : Int32) (x5 : Int32) (x6 : Int32) (x7 : Int32) (x8 : Int32) (w : St) : Option (Int32 × St) :=
  k77 x1 x2 x3 x4 x5 x6 x7 (x8 + 1) w
def fx_spoken_77 : Nat → Int32 → Int32 → Int32 → Int32 → Int32 → Int32 → Int32 → Int32 → St → Option (Int32 × St)
  | 0, _, _, _, _, _, _, _, _, _ => none
  | fu + 1, x1, x2, x3, x4, x5, x6, x7, x8, w => if x7 ≤ x8 then (if x3 = 0 then (some (x4, w)) else (if x4 = 0 then (some ((-9), w)) else (if x3 = 1 then (some (x5, w)) else (some (x6, w))))) else ((fr_told x8 x1 w).bind fun q91 => lb (q91.1) fun v94 => (fx_isTold x1 v94 ((q91.2).1 13 1) x2 (q91.2)).bind fun q108 => if q108.1 = 0 then (fx_spoken_141 (fx_spoken_77 fu) x1 x2 x3 x4 x5 x6 x7 x8 (q108.2)) else ((fx_speakersIn x1 v94).bind fun v122 => lb (x5 &&& v122) fun v126 => (fx_speakersIn x1 v94).bind fun v133 => lb (x6 &&& (v133 ^^^ (-1 : Int32))) fun v139 => fx_spoken_141 (fx_spoken_77 fu) x1 x2 x3 (x4 + 1) v126 v139 x7 x8 (q108.2)))
def fx_spoken (x1 : Int32) (x2 : Int32) (x3 : Int32) (w : St) : Option (Int32 × St) :=
  if x1 < 1 then (some ((-2), w)) else (if 4 < x1 then (some ((-2), w)) else ((fx_isSense x2).bind fun v11 => if v11 = 0 then (some ((-2), w)) else (if x3 < 0 then (some ((-2), w)) else (if x3 ≤ 2 then ((fr_by (w.1 13 1) w).bind fun w40 => lb (w40.1 13 1) fun v53 => lb (w40.1 13 1) fun v62 => (fr_many x1 w40).bind fun q69 => lb (q69.1) fun v72 => fx_spoken_77 4096 x1 x2 x3 0 v53 v62 v72 0 (q69.2)) else (some ((-2), w))))))
def fx_quarrel_71 : Nat → Int32 → Int32 → Int32 → Int32 → St → Option (Int32 × St)
  | 0, _, _, _, _, _ => none
  | fu + 1, x1, x2, x3, x4, w => if 10 < x4 then (some ((-9), w)) else (lb (w.1 11 0) fun v85 => (fx_isSense v85).bind fun v89 => if v89 = 0 then (some ((-9), w)) else ((gr (w.1 7) 10 v85).bind fun v104 => if v104 = (-9) then ((gu w 7 10 v85 x4).bind fun w135 => (fx_sentenceOf x1 w135).bind fun q143 => (ft_utter 11 x1 (q143.1) 1 (q143.2)).bind fun w147 => (fx_sentenceOf x2 w147).bind fun q157 => (ft_utter 11 x2 (q157.1) 1 (q157.2)).bind fun w161 => fx_quarrel_71 fu x1 x2 x3 (x4 + 1) w161) else (if x3 = 0 then (some (x4, w)) else ((gr (w.1 7) 10 v85).bind fun v120 => some (v120, w)))))
def fx_quarrel_43 : Nat → Int32 → Int32 → Int32 → Int32 → St → Option (Int32 × St)
  | 0, _, _, _, _, _ => none
  | fu + 1, x1, x2, x3, x4, w => if 10 ≤ x4 then (fx_quarrel_71 4096 x1 x2 x3 0 w) else ((gu w 7 10 x4 (-9)).bind fun w61 => fx_quarrel_43 fu x1 x2 x3 (x4 + 1) w61)
def fx_quarrel (x1 : Int32) (x2 : Int32) (x3 : Int32) (w : St) : Option (Int32 × St) :=
  (fx_isThere x1 w).bind fun q2 => if q2.1 = 0 then (some ((-1), q2.2)) else ((fx_isThere x2 (q2.2)).bind fun q10 => if q10.1 = 0 then (some ((-1), q10.2)) else (if x1 = x2 then (some ((-2), q10.2)) else ((ft_become 11 14 (q10.2)).bind fun w37 => fx_quarrel_43 4096 x1 x2 x3 0 w37)))
def fx_common_7 : Nat → Int32 → Int32 → Int32 → Option Int32
  | 0, _, _, _ => none
  | fu + 1, x2, x3, x4 => if 50 ≤ x4 then (some x2) else (if x3 = 0 then (some x2) else ((gm x2 x3).bind fun v20 => fx_common_7 fu x3 v20 (x4 + 1)))
def fx_common (x0 : Int32) (x1 : Int32) : Option Int32 :=
  fx_common_7 4096 x0 x1 0
def fx_fraction (x0 : Int32) (x1 : Int32) (x2 : Int32) : Option Int32 :=
  (fx_common x0 x1).bind fun v2 => if 0 < v2 then (if x2 = 0 then ((gd x1 v2).bind fun v32 => some v32) else ((gd x0 v2).bind fun v26 => some v26)) else (if x2 = 0 then (some x1) else (some x0))
def fx_orders (x0 : Int32) (w : St) : Option (Int32 × St) :=
  if x0 < 0 then (some (1, w)) else (if 7 ≤ x0 then (some (1, w)) else ((gr ordF 7 x0).bind fun v16 => some (v16, w)))
def fx_gain (x1 : Int32) (x2 : Int32) (x3 : Int32) (w : St) : Option (Int32 × St) :=
  (fx_sensesBy (x1 ||| ((1 : Int32) <<< (x2 &&& 31))) x3 w).bind fun q7 => (fj_bitCount (q7.1)).bind fun v10 => (fx_sensesBy x1 x3 (q7.2)).bind fun q20 => (fj_bitCount (q20.1)).bind fun v23 => some ((v10 - v23), q20.2)
def fx_share_124 (k72 : Int32 → Int32 → Int32 → Int32 → Int32 → Int32 → Int32 → St → Option (Int32 × St)) (x1 : Int32) (x2 : Int32) (x3 : Int32) (x4 : Int32) (x5 : Int32) (x6 : Int32) (x7 : Int32) (w : St) : Option (Int32 × St) :=
  k72 x1 x2 x3 x4 x5 x6 (x7 + 1) w
def fx_share_72 : Nat → Int32 → Int32 → Int32 → Int32 → Int32 → Int32 → Int32 → St → Option (Int32 × St)
  | 0, _, _, _, _, _, _, _, _ => none
  | fu + 1, x1, x2, x3, x4, x5, x6, x7, w => if x4 < x7 then ((fx_orders (x5 + (1 : Int32)) w).bind fun q136 => (fx_fraction x6 (q136.1) x3).bind fun v140 => some (v140, q136.2)) else (if (x7 &&& (x4 ^^^ (-1 : Int32))) = 0 then ((fj_bitCount x7).bind fun v91 => (fx_orders v91 w).bind fun q100 => (fx_orders (x5 - v91) (q100.2)).bind fun q108 => (fx_gain x7 x1 x2 (q108.2)).bind fun q117 => lb (x6 + ((q100.1 * q108.1) * q117.1)) fun v122 => fx_share_124 (fx_share_72 fu) x1 x2 x3 x4 x5 v122 x7 (q117.2)) else (fx_share_124 (fx_share_72 fu) x1 x2 x3 x4 x5 x6 x7 w))
def fx_share (x1 : Int32) (x2 : Int32) (x3 : Int32) (w : St) : Option (Int32 × St) :=
  (fx_isThere x1 w).bind fun q2 => if q2.1 = 0 then (some ((-1), q2.2)) else (if x2 < 1 then (some ((-2), q2.2)) else (if x2 ≤ 3 then ((fx_has ((q2.2).1 13 1) x1).bind fun v31 => if v31 = 0 then ((fx_fraction 0 1 x3).bind fun v40 => some (v40, q2.2)) else (lb (((q2.2).1 13 1) &&& (((1 : Int32) <<< (x1 &&& 31)) ^^^ (-1 : Int32))) fun v57 => (fj_bitCount v57).bind fun v61 => fx_share_72 4096 x1 x2 x3 v57 v61 0 0 (q2.2))) else (some ((-2), q2.2))))
def fx_playOutcomes_59 (k2 : Int32 → Int32 → Int32 → St → Option St) : Nat → Int32 → Int32 → Int32 → Int32 → St → Option St
  | 0, _, _, _, _, _ => none
  | fu + 1, x1, x2, x3, x4, w => if (ir x3 4) ≤ x4 then ((gu w 8 16 x3 (w.1 11 0)).bind fun w99 => k2 x1 x2 (x3 + 1) w99) else ((fx_sentenceOf x2 w).bind fun q74 => (ft_utter 11 x2 (q74.1) 1 (q74.2)).bind fun w78 => fx_playOutcomes_59 k2 fu x1 x2 x3 (x4 + 1) w78)
def fx_playOutcomes_28 (k2 : Int32 → Int32 → Int32 → St → Option St) : Nat → Int32 → Int32 → Int32 → Int32 → St → Option St
  | 0, _, _, _, _, _ => none
  | fu + 1, x1, x2, x3, x4, w => if (x3 / 4) ≤ x4 then (fx_playOutcomes_59 k2 4096 x1 x2 x3 0 w) else ((fx_sentenceOf x1 w).bind fun q43 => (ft_utter 11 x1 (q43.1) 1 (q43.2)).bind fun w47 => fx_playOutcomes_28 k2 fu x1 x2 x3 (x4 + 1) w47)
def fx_playOutcomes_2 : Nat → Int32 → Int32 → Int32 → St → Option St
  | 0, _, _, _, _ => none
  | fu + 1, x1, x2, x3, w => if 16 ≤ x3 then (some w) else ((ft_become 11 14 w).bind fun w22 => fx_playOutcomes_28 (fx_playOutcomes_2 fu) 4096 x1 x2 x3 0 w22)
def fx_playOutcomes (x1 : Int32) (x2 : Int32) (w : St) : Option St :=
  fx_playOutcomes_2 4096 x1 x2 0 w
def fx_apart (x1 : Int32) (x2 : Int32) (x3 : Int32) (w : St) : Option (Int32 × St) :=
  lb ((x1 * (4 : Int32)) + x2) fun v5 => if v5 < 0 then (some (0, w)) else (if 16 ≤ v5 then (some (0, w)) else ((gr (w.1 8) 16 v5).bind fun v28 => some ((iabs (v28 - x3)), w)))
def fx_isRest_3 : Nat → Int32 → Int32 → Int32 → Int32 → Int32 → St → Option (Int32 × St)
  | 0, _, _, _, _, _, _ => none
  | fu + 1, x1, x2, x3, x4, x5, w => if 4 ≤ x5 then (some (1, w)) else ((fx_apart x5 x2 x3 w).bind fun q14 => (fx_apart x1 x2 x3 (q14.2)).bind fun q24 => if (q14.1 + x5) < (q24.1 + x1) then (some (0, q24.2)) else ((fx_apart x1 x5 x4 (q24.2)).bind fun q38 => (fx_apart x1 x2 x4 (q38.2)).bind fun q49 => if (q49.1 + x2) ≤ (q38.1 + x5) then (fx_isRest_3 fu x1 x2 x3 x4 (x5 + 1) (q49.2)) else (some (0, q49.2))))
def fx_isRest (x1 : Int32) (x2 : Int32) (x3 : Int32) (x4 : Int32) (w : St) : Option (Int32 × St) :=
  fx_isRest_3 4096 x1 x2 x3 x4 0 w
def fx_rests_120 (k68 : Int32 → Int32 → Int32 → Int32 → Int32 → Int32 → St → Option (Int32 × St)) (k77 : Int32 → Int32 → Int32 → Int32 → Int32 → Int32 → Int32 → St → Option (Int32 × St)) (x3 : Int32) (x4 : Int32) (x5 : Int32) (x6 : Int32) (x7 : Int32) (x8 : Int32) (x9 : Int32) (w : St) : Option (Int32 × St) :=
  k77 x3 x4 x5 x6 x7 x8 (x9 + 1) w
def fx_rests_115 (k68 : Int32 → Int32 → Int32 → Int32 → Int32 → Int32 → St → Option (Int32 × St)) (k77 : Int32 → Int32 → Int32 → Int32 → Int32 → Int32 → Int32 → St → Option (Int32 × St)) (x3 : Int32) (x4 : Int32) (x5 : Int32) (x6 : Int32) (x8 : Int32) (x9 : Int32) (s0 : Int32) (w : St) : Option (Int32 × St) :=
  fx_rests_120 k68 k77 x3 x4 x5 (x6 + 1) s0 x8 x9 w
def fx_rests_77 (k68 : Int32 → Int32 → Int32 → Int32 → Int32 → Int32 → St → Option (Int32 × St)) : Nat → Int32 → Int32 → Int32 → Int32 → Int32 → Int32 → Int32 → St → Option (Int32 × St)
  | 0, _, _, _, _, _, _, _, _ => none
  | fu + 1, x3, x4, x5, x6, x7, x8, x9, w => if 4 ≤ x9 then (k68 x3 x4 x5 x6 x7 (x8 + 1) w) else ((fx_isRest x8 x9 x3 x4 w).bind fun q91 => if q91.1 = 0 then (fx_rests_120 k68 (fx_rests_77 k68 fu) x3 x4 x5 x6 x7 x8 x9 (q91.2)) else (if x6 = 0 then (fx_rests_115 k68 (fx_rests_77 k68 fu) x3 x4 x5 x6 x8 x9 (((10 : Int32) * x8) + x9) (q91.2)) else (fx_rests_115 k68 (fx_rests_77 k68 fu) x3 x4 x5 x6 x8 x9 x7 (q91.2))))
def fx_rests_68 : Nat → Int32 → Int32 → Int32 → Int32 → Int32 → Int32 → St → Option (Int32 × St)
  | 0, _, _, _, _, _, _, _ => none
  | fu + 1, x3, x4, x5, x6, x7, x8, w => if 4 ≤ x8 then (if x5 = 0 then (some (x6, w)) else (some (x7, w))) else (fx_rests_77 (fx_rests_68 fu) 4096 x3 x4 x5 x6 x7 x8 0 w)
def fx_rests (x1 : Int32) (x2 : Int32) (x3 : Int32) (x4 : Int32) (x5 : Int32) (w : St) : Option (Int32 × St) :=
  (fx_isThere x1 w).bind fun q2 => if q2.1 = 0 then (some ((-1), q2.2)) else ((fx_isThere x2 (q2.2)).bind fun q10 => if q10.1 = 0 then (some ((-1), q10.2)) else (if x1 = x2 then (some ((-2), q10.2)) else ((fx_isSense x3).bind fun v24 => if v24 = 0 then (some ((-2), q10.2)) else ((fx_isSense x4).bind fun v32 => if v32 = 0 then (some ((-2), q10.2)) else (if x5 < 0 then (some ((-2), q10.2)) else (if x5 ≤ 1 then ((fx_playOutcomes x1 x2 (q10.2)).bind fun w55 => fx_rests_68 4096 x3 x4 x5 0 (-9) 0 w55) else (some ((-2), q10.2))))))))
def fx_playWhoMay_59 (k16 : Int32 → Int32 → Int32 → St → Option St) (x1 : Int32) (x2 : Int32) (x3 : Int32) (w : St) : Option St :=
  k16 x1 x2 (x3 + 1) w
def fx_playWhoMay_16 : Nat → Int32 → Int32 → Int32 → St → Option St
  | 0, _, _, _, _ => none
  | fu + 1, x1, x2, x3, w => if x1 ≤ x3 then (some w) else ((fx_personIn x1 x2 x3).bind fun v24 => (fx_maySpeak 11 (w.1 13 1) v24 w).bind fun q43 => if q43.1 = 0 then (fx_playWhoMay_59 (fx_playWhoMay_16 fu) x1 x2 x3 (q43.2)) else ((fx_speak 11 v24 (q43.2)).bind fun w56 => fx_playWhoMay_59 (fx_playWhoMay_16 fu) x1 x2 x3 w56))
def fx_playWhoMay (x1 : Int32) (x2 : Int32) (w : St) : Option St :=
  (ft_become 11 14 w).bind fun w11 => fx_playWhoMay_16 4096 x1 x2 0 w11
def fx_chance_121 (k85 : Int32 → Int32 → Int32 → Int32 → Int32 → Int32 → St → Option (Int32 × St)) (x1 : Int32) (x2 : Int32) (x3 : Int32) (x4 : Int32) (x5 : Int32) (x6 : Int32) (w : St) : Option (Int32 × St) :=
  k85 x1 x2 x3 x4 x5 (x6 + 1) w
def fx_chance_85 : Nat → Int32 → Int32 → Int32 → Int32 → Int32 → Int32 → St → Option (Int32 × St)
  | 0, _, _, _, _, _, _, _ => none
  | fu + 1, x1, x2, x3, x4, x5, x6, w => if x5 ≤ x6 then ((fx_fraction x4 x5 x3).bind fun v132 => some (v132, w)) else ((fr_told x6 x1 w).bind fun q101 => (fx_playWhoMay x1 (q101.1) (q101.2)).bind fun w104 => if (w104.1 11 0) = x2 then (fx_chance_121 (fx_chance_85 fu) x1 x2 x3 (x4 + 1) x5 x6 w104) else (fx_chance_121 (fx_chance_85 fu) x1 x2 x3 x4 x5 x6 w104))
def fx_chance_49 (x3 : Int32) (s0 : Int32) (w : St) : Option (Int32 × St) :=
  (fx_fraction s0 1 x3).bind fun v51 => some (v51, w)
def fx_chance (x1 : Int32) (x2 : Int32) (x3 : Int32) (w : St) : Option (Int32 × St) :=
  if x1 < 1 then (some ((-2), w)) else (if 4 < x1 then (some ((-2), w)) else ((fx_isSense x2).bind fun v11 => if v11 = 0 then (some ((-2), w)) else (if (w.1 13 1) = 0 then (if (w.1 14 0) = x2 then (fx_chance_49 x3 1 w) else (fx_chance_49 x3 0 w)) else ((fr_by (w.1 13 1) w).bind fun w66 => (fr_many x1 w66).bind fun q77 => lb (q77.1) fun v80 => fx_chance_85 4096 x1 x2 x3 0 v80 0 (q77.2)))))
def fx_seed (x1 : Int64) (w : St) : Option (Int64 × St) :=
  lb (w.2) fun v4 => some (v4, (wz w x1))
def fx_nights_97 (k32 : Int32 → Int32 → Int32 → St → Option (Int32 × St)) (x1 : Int32) (x2 : Int32) (x3 : Int32) (w : St) : Option (Int32 × St) :=
  lb (x2 + (w.1 11 0)) fun v106 => k32 x1 v106 (x3 + 1) w
def fx_nights_32 : Nat → Int32 → Int32 → Int32 → St → Option (Int32 × St)
  | 0, _, _, _, _ => none
  | fu + 1, x1, x2, x3, w => if x1 ≤ x3 then (some (x2, w)) else (lb ((lr (lush ((wz w ((w.2 * (6364136223846793005 : Int64)) + (1442695040888963407 : Int64))).2) 33) 6).toInt32) fun v65 => (fx_maySpeak 11 ((wz w ((w.2 * (6364136223846793005 : Int64)) + (1442695040888963407 : Int64))).1 13 1) v65 (wz w ((w.2 * (6364136223846793005 : Int64)) + (1442695040888963407 : Int64)))).bind fun q81 => if q81.1 = 0 then (fx_nights_97 (fx_nights_32 fu) x1 x2 x3 (q81.2)) else ((fx_speak 11 v65 (q81.2)).bind fun w94 => fx_nights_97 (fx_nights_32 fu) x1 x2 x3 w94))
def fx_nights (x1 : Int32) (w : St) : Option (Int32 × St) :=
  if x1 < 1 then (some ((-2), w)) else (if x1 ≤ 30 then ((ft_become 11 14 w).bind fun w25 => fx_nights_32 4096 x1 0 0 w25) else (some ((-2), w)))
def fx_keep (x1 : Int32) (w : St) : Option (Int32 × St) :=
  if x1 < 0 then (some ((-1), w)) else (if x1 < 2 then ((gq 2 x1).bind fun q16 => (fd_become (73 + 4 * q16) 13 w).bind fun w21 => (gu w21 6 2 x1 1).bind fun w30 => some ((w30.1 13 2), w30)) else (some ((-1), w)))
def fx_again (x1 : Int32) (w : St) : Option (Int32 × St) :=
  if x1 < 0 then (some ((-1), w)) else (if x1 < 2 then ((gr (w.1 6) 2 x1).bind fun v16 => if v16 = 0 then (some ((-3), w)) else ((gq 2 x1).bind fun q32 => (fd_become 13 (73 + 4 * q32) w).bind fun w33 => (fx_forgetActs w33).bind fun w37 => some ((w37.1 13 2), w37))) else (some ((-1), w)))
def fx_whoMay_40 (k4 : Int32 → Int32 → St → Option (Int32 × St)) (x1 : Int32) (x2 : Int32) (w : St) : Option (Int32 × St) :=
  k4 x1 (x2 + 1) w
def fx_whoMay_4 : Nat → Int32 → Int32 → St → Option (Int32 × St)
  | 0, _, _, _ => none
  | fu + 1, x1, x2, w => if (w.1 0 3) ≤ x2 then (some (x1, w)) else ((fx_maySpeak 14 (w.1 13 1) x2 w).bind fun q28 => if q28.1 = 0 then (fx_whoMay_40 (fx_whoMay_4 fu) x1 x2 (q28.2)) else (lb (x1 ||| ((1 : Int32) <<< (x2 &&& 31))) fun v39 => fx_whoMay_40 (fx_whoMay_4 fu) v39 x2 (q28.2)))
def fx_whoMay (w : St) : Option (Int32 × St) :=
  fx_whoMay_4 4096 0 0 w
def fx_count (x1 : Int32) (w : St) : Option (Int32 × St) :=
  if x1 = 0 then (some ((w.1 0 1), w)) else (if x1 = 1 then (some ((w.1 0 3), w)) else (if x1 = 2 then (some ((w.1 0 2), w)) else (if x1 = 3 then (some ((w.1 14 0), w)) else (if x1 = 4 then (some ((w.1 13 2), w)) else (if x1 = 5 then (some ((w.1 13 1), w)) else (if x1 = 6 then ((fx_whoMay w).bind fun q95 => some (q95.1, q95.2)) else (if x1 = 7 then (some ((w.1 14 1), w)) else (if x1 = 8 then (some ((w.1 0 9), w)) else (some ((-2), w))))))))))
def fm_in (x0 : Int64) (x2 : Int64) (x4 : Int64) : Option Int32 :=
  if (lg_cmp x0 x2) < 0 then (some 0) else (if 0 < (lg_cmp x0 x4) then (some 0) else (some 1))
def fm_has (x0 : Int32) (x1 : Int32) : Option Int32 :=
  if ((x0 >>> (x1 &&& 31)) &&& (1 : Int32)) = 1 then (some 1) else (some 0)
def fm_ones_4 : Nat → Int32 → Int32 → Int32 → Option Int32
  | 0, _, _, _ => none
  | fu + 1, x0, x1, x2 => if 10 ≤ x2 then (some x1) else (lb (x1 + ((x0 >>> (x2 &&& 31)) &&& (1 : Int32))) fun v17 => fm_ones_4 fu x0 v17 (x2 + 1))
def fm_ones (x0 : Int32) : Option Int32 :=
  fm_ones_4 4096 x0 0 0
def fm_write (x1 : Int32) (w : St) : Option (Int32 × St) :=
  (fm_in (x1.toInt64) 0 255).bind fun v6 => if v6 = 0 then (some ((-2), w)) else (if (w.1 0 9) = 40 then (some ((-4), w)) else ((gu w 5 40 (w.1 0 9) x1).bind fun w36 => some (((wr w36 0 9 ((w36.1 0 9) + (1 : Int32))).1 0 9), (wr w36 0 9 ((w36.1 0 9) + (1 : Int32))))))
def fm_wipe (w : St) : Option (Int32 × St) :=
  lb (w.1 0 9) fun v4 => some (v4, (wr w 0 9 0))
def fm_figure_70 (s1 : Int32) (w : St) : Option (Int32 × St) :=
  some (0, (wr w 0 11 s1))
def fm_figure_37 (x1 : Int32) (s0 : Int32) (w : St) : Option (Int32 × St) :=
  (fm_in (s0.toInt64) 0 (x1.toInt64)).bind fun v43 => if v43 = 0 then (if (w.1 0 11) = (-9) then (fm_figure_70 (w.1 0 10) w) else (fm_figure_70 (w.1 0 11) w)) else (some (s0, (wr w 0 10 ((w.1 0 10) + (1 : Int32)))))
def fm_figure_35 (x1 : Int32) (w : St) : Option (Int32 × St) :=
  fm_figure_37 x1 (-9) w
def fm_figure (x1 : Int32) (w : St) : Option (Int32 × St) :=
  if (w.1 0 11) = (-9) then (if (w.1 0 9) ≤ (w.1 0 10) then (fm_figure_35 x1 w) else ((gr (w.1 5) 40 (w.1 0 10)).bind fun v28 => fm_figure_37 x1 (v28 - (48 : Int32)) w)) else (fm_figure_35 x1 w)
def fm_readText_200 (w : St) : Option (Int32 × St) :=
  some ((w.1 0 11), w)
def fm_readText_189 (k51 : St → Option (Int32 × St)) (w : St) : Option (Int32 × St) :=
  k51 (wr w 0 11 (w.1 0 10))
def fm_readText_51 : Nat → St → Option (Int32 × St)
  | 0, _ => none
  | fu + 1, w => if (w.1 0 11) = (-9) then (if (w.1 0 9) ≤ (w.1 0 10) then (fm_readText_200 w) else ((gr (w.1 5) 40 (w.1 0 10)).bind fun v79 => if v79 = 80 then (if 6 ≤ (w.1 0 6) then (fm_readText_189 (fm_readText_51 fu) w) else ((fm_figure 9 (wr w 0 10 ((w.1 0 10) + (1 : Int32)))).bind fun q117 => (gu (q117.2) 4 24 ((4 : Int32) * ((wr w 0 10 ((w.1 0 10) + (1 : Int32))).1 0 6)) (q117.1)).bind fun w120 => (fm_figure 3 w120).bind fun q135 => (gu (q135.2) 4 24 (((4 : Int32) * (w120.1 0 6)) + (1 : Int32)) (q135.1)).bind fun w138 => (fm_figure 9 w138).bind fun q154 => (gu (q154.2) 4 24 (((4 : Int32) * (w138.1 0 6)) + (2 : Int32)) (q154.1)).bind fun w157 => (fm_figure 3 w157).bind fun q172 => (gu (q172.2) 4 24 (((4 : Int32) * (w157.1 0 6)) + (3 : Int32)) (q172.1)).bind fun w175 => fm_readText_51 fu (wr w175 0 6 ((w175.1 0 6) + (1 : Int32))))) else (fm_readText_189 (fm_readText_51 fu) w))) else (fm_readText_200 w)
def fm_readText (w : St) : Option (Int32 × St) :=
  if ((wr (wr (wr w 0 10 0) 0 11 (-9)) 0 6 0).1 0 9) = 0 then (some (0, (wr (wr (wr w 0 10 0) 0 11 (-9)) 0 6 0))) else ((gr ((wr (wr (wr w 0 10 0) 0 11 (-9)) 0 6 0).1 5) 40 0).bind fun v28 => if v28 = 73 then ((fm_figure 9 (wr (wr (wr (wr w 0 10 0) 0 11 (-9)) 0 6 0) 0 10 1)).bind fun q45 => fm_readText_51 4096 (wr (q45.2) 0 7 (q45.1))) else (some (0, (wr (wr (wr w 0 10 0) 0 11 (-9)) 0 6 0))))
def fm_fault (w : St) : Option (Int32 × St) :=
  (fm_readText w).bind fun q1 => some (q1.1, q1.2)
def fm_island_171 (k69 : Int32 → St → Option (Int32 × St)) (x1 : Int32) (s1 : Int32) (s2 : Int32) (s3 : Int32) (w : St) : Option (Int32 × St) :=
  (gu w 3 54 s1 (s2 ||| s3)).bind fun w172 => k69 (x1 + 1) w172
def fm_island_69 : Nat → Int32 → St → Option (Int32 × St)
  | 0, _, _ => none
  | fu + 1, x1, w => if (w.1 0 0) ≤ x1 then ((gu (wr w 0 12 0) 10 2 0 0).bind fun w190 => (gu w190 10 2 1 0).bind fun w197 => some ((w197.1 0 0), w197)) else ((gr (w.1 4) 24 ((4 : Int32) * x1)).bind fun v89 => (gu w 1 6 x1 v89).bind fun w90 => (gr (w90.1 4) 24 (((4 : Int32) * x1) + (1 : Int32))).bind fun v107 => (gu w90 3 54 ((1 : Int32) + x1) v107).bind fun w108 => (gr (w108.1 4) 24 (((4 : Int32) * x1) + (2 : Int32))).bind fun v126 => (gu w108 3 54 ((8 : Int32) + x1) v126).bind fun w127 => (gr (w127.1 4) 24 (((4 : Int32) * x1) + (3 : Int32))).bind fun v142 => (gu w127 2 7 x1 v142).bind fun w143 => (gr (w143.1 3) 54 0).bind fun v150 => (gr (w143.1 1) 6 x1).bind fun v156 => if v156 = (w143.1 0 1) then (fm_island_171 (fm_island_69 fu) x1 0 v150 ((1 : Int32) <<< (x1 &&& 31)) w143) else (fm_island_171 (fm_island_69 fu) x1 0 v150 0 w143))
def fm_island_30 : Nat → Int32 → St → Option (Int32 × St)
  | 0, _, _ => none
  | fu + 1, x1, w => if 27 ≤ x1 then ((gu w 3 54 23 (-9)).bind fun w57 => (gu w57 3 54 24 (-9)).bind fun w66 => fm_island_69 4096 0 w66) else ((gu w 3 54 x1 0).bind fun w42 => fm_island_30 fu (x1 + 1) w42)
def fm_island (w : St) : Option (Int32 × St) :=
  (fm_readText w).bind fun q1 => if q1.1 = (-9) then (fm_island_30 4096 0 (wr (wr (q1.2) 0 0 ((q1.2).1 0 6)) 0 1 ((wr (q1.2) 0 0 ((q1.2).1 0 6)).1 0 7))) else (some ((-3), q1.2))
def fm_isPerson (x1 : Int32) (w : St) : Option (Int32 × St) :=
  (fm_in (x1.toInt64) 0 (((w.1 0 0) - (1 : Int32)).toInt64)).bind fun v10 => (gz v10).bind fun v13 => some (v13, w)
def fm_may_52 (x2 : Int32) (x3 : Int32) (s0 : Int32) (w : St) : Option (Int32 × St) :=
  (gr (w.1 2) 7 x2).bind fun v59 => if v59 = 1 then ((gz s0).bind fun v98 => some (v98, w)) else ((gr (w.1 2) 7 x2).bind fun v74 => if v74 = 3 then ((gr (w.1 3) 54 ((x3 + (15 : Int32)) + x2)).bind fun v89 => if v89 = 0 then (some (1, w)) else (some (0, w))) else (some (1, w)))
def fm_may_51 (x2 : Int32) (x3 : Int32) (w : St) : Option (Int32 × St) :=
  fm_may_52 x2 x3 0 w
def fm_may (x1 : Int32) (x2 : Int32) (w : St) : Option (Int32 × St) :=
  lb ((27 : Int32) * x1) fun v4 => (gr (w.1 3) 54 v4).bind fun v10 => (fm_has v10 x2).bind fun v12 => if v12 = 0 then (some (0, w)) else ((gr (w.1 3) 54 (v4 + (23 : Int32))).bind fun v28 => if v28 = (-9) then (fm_may_51 x2 v4 w) else ((gr (w.1 3) 54 (v4 + (23 : Int32))).bind fun v42 => if v42 = x2 then (fm_may_51 x2 v4 w) else (fm_may_52 x2 v4 1 w)))
def fm_made (x0 : Int32) (x1 : Int32) (x2 : Int32) : Option Int32 :=
  if x1 = 0 then (some x2) else (if x1 = 1 then (some (ir (x0 + x2) 10)) else (if x1 = 2 then (some ((9 : Int32) - x0)) else (some x0)))
def fm_speakOn_58 (x3 : Int32) (w : St) : Option St :=
  (gr (w.1 3) 54 (x3 + (24 : Int32))).bind fun v66 => if v66 = (-9) then (some w) else ((gr (w.1 3) 54 (x3 + (22 : Int32))).bind fun v88 => (gr (w.1 3) 54 (x3 + (24 : Int32))).bind fun v97 => (gr (w.1 3) 54 (x3 + (25 : Int32))).bind fun v106 => (fm_made v88 v97 v106).bind fun v107 => (gu w 3 54 (x3 + (22 : Int32)) v107).bind fun w110 => some w110)
def fm_speakOn (x1 : Int32) (x2 : Int32) (w : St) : Option St :=
  lb ((27 : Int32) * x1) fun v4 => (gr (w.1 3) 54 ((v4 + (1 : Int32)) + x2)).bind fun v14 => if v14 = 3 then (fm_speakOn_58 v4 w) else ((gr (w.1 3) 54 ((v4 + (1 : Int32)) + x2)).bind fun v36 => (gu w 3 54 (v4 + (24 : Int32)) v36).bind fun w37 => (gr (w37.1 3) 54 ((v4 + (8 : Int32)) + x2)).bind fun v56 => (gu w37 3 54 (v4 + (25 : Int32)) v56).bind fun w57 => fm_speakOn_58 v4 w57)
def fm_sayOn_22 (x1 : Int32) (x2 : Int32) (w : St) : Option St :=
  (gr (w.1 3) 54 ((((27 : Int32) * x1) + (15 : Int32)) + x2)).bind fun v36 => (gu w 3 54 ((((27 : Int32) * x1) + (15 : Int32)) + x2) (v36 + (1 : Int32))).bind fun w39 => (gu w39 3 54 (((27 : Int32) * x1) + (23 : Int32)) x2).bind fun w52 => some w52
def fm_sayOn (x1 : Int32) (x2 : Int32) (w : St) : Option St :=
  (fm_speakOn x1 x2 w).bind fun w3 => (gr (w3.1 2) 7 x2).bind fun v11 => if v11 = 2 then ((fm_speakOn x1 x2 w3).bind fun w19 => fm_sayOn_22 x1 x2 w19) else (fm_sayOn_22 x1 x2 w3)
def fm_person (x1 : Int32) (x2 : Int32) (w : St) : Option (Int32 × St) :=
  (fm_isPerson x1 w).bind fun q2 => if q2.1 = 0 then (some ((-1), q2.2)) else (if x2 = 0 then ((gr ((q2.2).1 1) 6 x1).bind fun v57 => some (v57, q2.2)) else (if x2 = 1 then ((gr ((q2.2).1 3) 54 ((1 : Int32) + x1)).bind fun v66 => some (v66, q2.2)) else (if x2 = 2 then ((gr ((q2.2).1 3) 54 ((8 : Int32) + x1)).bind fun v76 => some (v76, q2.2)) else (if x2 = 3 then ((gr ((q2.2).1 2) 7 x1).bind fun v83 => some (v83, q2.2)) else (if x2 = 4 then ((gr ((q2.2).1 3) 54 0).bind fun v90 => some (((v90 >>> (x1 &&& 31)) &&& (1 : Int32)), q2.2)) else (if x2 = 5 then ((fm_may 0 x1 (q2.2)).bind fun q99 => if q99.1 = 0 then (some (0, q99.2)) else (some (1, q99.2))) else (if x2 = 6 then ((gr ((q2.2).1 3) 54 ((15 : Int32) + x1)).bind fun v119 => some (v119, q2.2)) else (some ((-2), q2.2)))))))))
def fm_keepAct_68 (s1 : Int32) (w : St) : Option St :=
  some (wr w 0 12 s1)
def fm_keepAct_2 : Nat → Int32 → St → Option St
  | 0, _, _ => none
  | fu + 1, x1, w => if 27 ≤ x1 then (if 14 ≤ ((wr w 0 13 (ir ((w.1 0 13) + (1 : Int32)) 14)).1 0 12) then (fm_keepAct_68 14 (wr w 0 13 (ir ((w.1 0 13) + (1 : Int32)) 14))) else (fm_keepAct_68 (((wr w 0 13 (ir ((w.1 0 13) + (1 : Int32)) 14)).1 0 12) + (1 : Int32)) (wr w 0 13 (ir ((w.1 0 13) + (1 : Int32)) 14)))) else ((gr (w.1 3) 54 x1).bind fun v26 => (gu w 6 378 (((27 : Int32) * (w.1 0 13)) + x1) v26).bind fun w27 => fm_keepAct_2 fu (x1 + 1) w27)
def fm_keepAct (w : St) : Option St :=
  fm_keepAct_2 4096 0 w
def fm_far (x1 : Int32) (w : St) : Option (Int32 × St) :=
  (gr (w.1 1) 6 x1).bind fun v5 => if (w.1 0 1) ≤ v5 then ((gr (w.1 1) 6 x1).bind fun v32 => some ((v32 - (w.1 0 1)), w)) else ((gr (w.1 1) 6 x1).bind fun v22 => some (((w.1 0 1) - v22), w))
def fm_fetch (x1 : Int32) (w : St) : Option (Int32 × St) :=
  (fm_isPerson x1 w).bind fun q2 => if q2.1 = 0 then (some ((-1), q2.2)) else ((gr ((q2.2).1 3) 54 0).bind fun v15 => (fm_has v15 x1).bind fun v17 => if v17 = 0 then ((fm_keepAct (q2.2)).bind fun w27 => (gr (w27.1 3) 54 0).bind fun v36 => (gu w27 3 54 0 (v36 ||| ((1 : Int32) <<< (x1 &&& 31)))).bind fun w41 => (gr (w41.1 3) 54 26).bind fun v49 => (fm_far x1 w41).bind fun q52 => (gu (q52.2) 3 54 26 (v49 + q52.1)).bind fun w56 => (gr (w56.1 3) 54 26).bind fun v63 => some (v63, w56)) else (some ((-3), q2.2)))
def fm_send (x1 : Int32) (w : St) : Option (Int32 × St) :=
  (fm_isPerson x1 w).bind fun q2 => if q2.1 = 0 then (some ((-1), q2.2)) else ((gr ((q2.2).1 3) 54 0).bind fun v15 => (fm_has v15 x1).bind fun v17 => if v17 = 0 then (some ((-3), q2.2)) else ((gr ((q2.2).1 1) 6 x1).bind fun v28 => if v28 = ((q2.2).1 0 1) then (some ((-3), q2.2)) else ((fm_keepAct (q2.2)).bind fun w40 => (gr (w40.1 3) 54 0).bind fun v49 => (gu w40 3 54 0 (v49 &&& (((1 : Int32) <<< (x1 &&& 31)) ^^^ (-1 : Int32)))).bind fun w56 => (gr (w56.1 3) 54 0).bind fun v62 => (fm_ones v62).bind fun v63 => some (v63, w56))))
def fm_say (x1 : Int32) (w : St) : Option (Int32 × St) :=
  (fm_isPerson x1 w).bind fun q2 => if q2.1 = 0 then (some ((-1), q2.2)) else ((fm_may 0 x1 (q2.2)).bind fun q13 => if q13.1 = 0 then (some ((-3), q13.2)) else ((fm_keepAct (q13.2)).bind fun w23 => (fm_sayOn 0 x1 w23).bind fun w29 => (gr (w29.1 3) 54 26).bind fun v39 => (gu w29 3 54 26 (v39 + (1 : Int32))).bind fun w42 => (gr (w42.1 3) 54 22).bind fun v49 => some (v49, w42)))
def fm_name (x1 : Int32) (x2 : Int32) (x3 : Int32) (w : St) : Option (Int32 × St) :=
  (fm_isPerson x1 w).bind fun q2 => if q2.1 = 0 then (some ((-1), q2.2)) else ((fm_in (x2.toInt64) 0 3).bind fun v16 => if v16 = 0 then (some ((-2), q2.2)) else ((fm_in (x3.toInt64) 0 9).bind fun v28 => if v28 = 0 then (some ((-2), q2.2)) else ((gr ((q2.2).1 3) 54 ((1 : Int32) + x1)).bind fun v46 => (gr ((q2.2).1 3) 54 ((8 : Int32) + x1)).bind fun v56 => lb (((10 : Int32) * v46) + v56) fun v58 => if v58 = (((10 : Int32) * x2) + x3) then (some ((-3), q2.2)) else ((fm_keepAct (q2.2)).bind fun w75 => (gu w75 3 54 ((1 : Int32) + x1) x2).bind fun w86 => (gu w86 3 54 ((8 : Int32) + x1) x3).bind fun w96 => some (v58, w96)))))
def fm_undo_36 : Nat → Int32 → St → Option (Int32 × St)
  | 0, _, _ => none
  | fu + 1, x1, w => if 27 ≤ x1 then (some ((w.1 0 12), w)) else ((gr (w.1 6) 378 (((27 : Int32) * (w.1 0 13)) + x1)).bind fun v60 => (gu w 3 54 x1 v60).bind fun w61 => fm_undo_36 fu (x1 + 1) w61)
def fm_undo (w : St) : Option (Int32 × St) :=
  if (w.1 0 12) = 0 then (some ((-3), w)) else (fm_undo_36 4096 0 (wr (wr w 0 12 ((w.1 0 12) - (1 : Int32))) 0 13 (ir (((wr w 0 12 ((w.1 0 12) - (1 : Int32))).1 0 13) + (13 : Int32)) 14)))
def fm_layTrial_2 : Nat → Int32 → Int32 → St → Option St
  | 0, _, _, _ => none
  | fu + 1, x1, x2, w => if 27 ≤ x2 then ((gu w 3 54 27 x1).bind fun w36 => (gu w36 3 54 34 (w36.1 0 15)).bind fun w47 => (gu w47 3 54 41 (w47.1 0 16)).bind fun w58 => (gu w58 3 54 48 0).bind fun w66 => some w66) else ((gr (w.1 3) 54 x2).bind fun v21 => (gu w 3 54 ((27 : Int32) + x2) v21).bind fun w22 => fm_layTrial_2 fu x1 (x2 + 1) w22)
def fm_layTrial (x1 : Int32) (w : St) : Option St :=
  fm_layTrial_2 4096 x1 0 w
def fm_tenTo_4 : Nat → Int32 → Int32 → Int32 → Option Int32
  | 0, _, _, _ => none
  | fu + 1, x0, x1, x2 => if x0 ≤ x2 then (some x1) else (lb (x1 * (10 : Int32)) fun v13 => fm_tenTo_4 fu x0 v13 (x2 + 1))
def fm_tenTo (x0 : Int32) : Option Int32 :=
  fm_tenTo_4 4096 x0 1 0
def fm_sayRow_8 : Nat → Int32 → Int32 → Int32 → St → Option (Int32 × St)
  | 0, _, _, _, _ => none
  | fu + 1, x2, x3, x4, w => if x2 ≤ x4 then (some ((-9), w)) else ((fm_tenTo ((x2 - (1 : Int32)) - x4)).bind fun v21 => (gd x3 v21).bind fun v24 => lb ((ir v24 10) - (1 : Int32)) fun v30 => (fm_in (v30.toInt64) 0 6).bind fun v39 => if v39 = 0 then (some (x4, w)) else ((fm_may 1 v30 w).bind fun q49 => if q49.1 = 0 then (some (x4, q49.2)) else ((fm_sayOn 1 v30 (q49.2)).bind fun w62 => fm_sayRow_8 fu x2 x3 (x4 + 1) w62)))
def fm_sayRow (x1 : Int32) (x2 : Int32) (x3 : Int32) (w : St) : Option (Int32 × St) :=
  (fm_layTrial x1 w).bind fun w2 => fm_sayRow_8 4096 x2 x3 0 w2
def fm_comesTo (x1 : Int32) (x2 : Int32) (x3 : Int32) (w : St) : Option (Int32 × St) :=
  (fm_in (x1.toInt64) 1 5).bind fun v6 => if v6 = 0 then (some ((-2), w)) else ((fm_tenTo x1).bind fun v16 => (fm_in (x2.toInt64) 0 ((v16 - (1 : Int32)).toInt64)).bind fun v22 => if v22 = 0 then (some ((-2), w)) else ((fm_in (x3.toInt64) 0 1).bind fun v32 => if v32 = 0 then (some ((-2), w)) else ((gr (w.1 3) 54 0).bind fun v47 => (fm_sayRow v47 x1 x2 w).bind fun q50 => lb (q50.1) fun v53 => if x3 = 1 then (some (v53, q50.2)) else (if v53 = (-9) then ((gr ((q50.2).1 3) 54 49).bind fun v78 => some (v78, q50.2)) else (some ((-3), q50.2))))))
def fm_rowOf_10 : Nat → Int32 → Int32 → Int32 → Int32 → Int32 → Option Int32
  | 0, _, _, _, _, _ => none
  | fu + 1, x1, x2, x3, x4, x5 => if x1 ≤ x5 then (some x3) else (lb (x3 + (x4 * ((ir x2 7) + (1 : Int32)))) fun v27 => lb (x2 / 7) fun v32 => lb (x4 * (10 : Int32)) fun v38 => fm_rowOf_10 fu x1 v32 v27 v38 (x5 + 1))
def fm_rowOf (x0 : Int32) (x1 : Int32) : Option Int32 :=
  fm_rowOf_10 4096 x1 x0 0 1 0
def fm_sevens_4 : Nat → Int32 → Int32 → Int32 → Option Int32
  | 0, _, _, _ => none
  | fu + 1, x0, x1, x2 => if x0 ≤ x2 then (some x1) else (lb (x1 * (7 : Int32)) fun v13 => fm_sevens_4 fu x0 v13 (x2 + 1))
def fm_sevens (x0 : Int32) : Option Int32 :=
  fm_sevens_4 4096 x0 1 0
def fm_layFewest_57 (k2 : Int32 → Int32 → Int32 → St → Option (Int32 × St)) (k10 : Int32 → Int32 → Int32 → Int32 → St → Option (Int32 × St)) (x1 : Int32) (x2 : Int32) (x3 : Int32) (x4 : Int32) (w : St) : Option (Int32 × St) :=
  k10 x1 x2 x3 (x4 + 1) w
def fm_layFewest_10 (k2 : Int32 → Int32 → Int32 → St → Option (Int32 × St)) : Nat → Int32 → Int32 → Int32 → Int32 → St → Option (Int32 × St)
  | 0, _, _, _, _, _ => none
  | fu + 1, x1, x2, x3, x4, w => (fm_sevens x3).bind fun v13 => if v13 ≤ x4 then (k2 x1 x2 (x3 + 1) w) else ((fm_rowOf x4 x3).bind fun v23 => (fm_sayRow x1 x3 ((wr w 0 17 v23).1 0 17) (wr w 0 17 v23)).bind fun q36 => if q36.1 = (-9) then ((gr ((q36.2).1 3) 54 49).bind fun v50 => if v50 = x2 then (some (x3, q36.2)) else (fm_layFewest_57 k2 (fm_layFewest_10 k2 fu) x1 x2 x3 x4 (q36.2))) else (fm_layFewest_57 k2 (fm_layFewest_10 k2 fu) x1 x2 x3 x4 (q36.2)))
def fm_layFewest_2 : Nat → Int32 → Int32 → Int32 → St → Option (Int32 × St)
  | 0, _, _, _, _ => none
  | fu + 1, x1, x2, x3, w => if 5 ≤ x3 then (some ((-9), (wr w 0 17 (-9)))) else (fm_layFewest_10 (fm_layFewest_2 fu) 4096 x1 x2 x3 0 w)
def fm_layFewest (x1 : Int32) (x2 : Int32) (w : St) : Option (Int32 × St) :=
  fm_layFewest_2 4096 x1 x2 0 w
def fm_fewest (x1 : Int32) (x2 : Int32) (w : St) : Option (Int32 × St) :=
  (fm_in (x1.toInt64) 0 9).bind fun v6 => if v6 = 0 then (some ((-2), w)) else ((gr (w.1 3) 54 0).bind fun v21 => (fm_layFewest v21 x1 w).bind fun q23 => lb (q23.1) fun v26 => if x2 = 0 then (some (v26, q23.2)) else (some (((q23.2).1 0 17), q23.2)))
def fm_canBy_57 (k5 : Int32 → Int32 → Int32 → Int32 → St → Option (Int32 × St)) (k14 : Int32 → Int32 → Int32 → Int32 → Int32 → St → Option (Int32 × St)) (x1 : Int32) (x2 : Int32) (x4 : Int32) (x5 : Int32) (s0 : Int32) (s1 : Int32) (w : St) : Option (Int32 × St) :=
  lb (s0 ||| s1) fun v58 => k14 x1 x2 v58 x4 (x5 + 1) w
def fm_canBy_14 (k5 : Int32 → Int32 → Int32 → Int32 → St → Option (Int32 × St)) : Nat → Int32 → Int32 → Int32 → Int32 → Int32 → St → Option (Int32 × St)
  | 0, _, _, _, _, _, _ => none
  | fu + 1, x1, x2, x3, x4, x5, w => (fm_sevens x4).bind fun v18 => if v18 ≤ x5 then (k5 x1 x2 x3 (x4 + 1) w) else ((fm_rowOf x5 x4).bind fun v33 => (fm_sayRow x1 x4 v33 w).bind fun q36 => if q36.1 = (-9) then ((gr ((q36.2).1 3) 54 49).bind fun v51 => fm_canBy_57 k5 (fm_canBy_14 k5 fu) x1 x2 x4 x5 x3 ((1 : Int32) <<< (v51 &&& 31)) (q36.2)) else (fm_canBy_57 k5 (fm_canBy_14 k5 fu) x1 x2 x4 x5 x3 0 (q36.2)))
def fm_canBy_5 : Nat → Int32 → Int32 → Int32 → Int32 → St → Option (Int32 × St)
  | 0, _, _, _, _, _ => none
  | fu + 1, x1, x2, x3, x4, w => if x2 < x4 then (some (x3, w)) else (fm_canBy_14 (fm_canBy_5 fu) 4096 x1 x2 x3 x4 0 w)
def fm_canBy (x1 : Int32) (x2 : Int32) (w : St) : Option (Int32 × St) :=
  fm_canBy_5 4096 x1 x2 0 0 w
def fm_can (x1 : Int32) (w : St) : Option (Int32 × St) :=
  (fm_in (x1.toInt64) 0 3).bind fun v6 => if v6 = 0 then (some ((-2), w)) else ((gr (w.1 3) 54 0).bind fun v18 => (fm_canBy v18 x1 w).bind fun q20 => some (q20.1, q20.2))
def fm_hoursOf_30 (k4 : Int32 → Int32 → Int32 → St → Option (Int32 × St)) (x1 : Int32) (x3 : Int32) (s0 : Int32) (s1 : Int32) (w : St) : Option (Int32 × St) :=
  lb (s0 + s1) fun v31 => k4 x1 v31 (x3 + 1) w
def fm_hoursOf_4 : Nat → Int32 → Int32 → Int32 → St → Option (Int32 × St)
  | 0, _, _, _, _ => none
  | fu + 1, x1, x2, x3, w => if (w.1 0 0) ≤ x3 then (some (x2, w)) else ((fm_has x1 x3).bind fun v15 => if v15 = 0 then (fm_hoursOf_30 (fm_hoursOf_4 fu) x1 x3 x2 0 w) else ((fm_far x3 w).bind fun q23 => fm_hoursOf_30 (fm_hoursOf_4 fu) x1 x3 x2 (q23.1) (q23.2)))
def fm_hoursOf (x1 : Int32) (w : St) : Option (Int32 × St) :=
  fm_hoursOf_4 4096 x1 0 0 w
def fm_toFetch_139 (k21 : Int32 → Int32 → Int32 → Int32 → St → Option (Int32 × St)) (x1 : Int32) (x2 : Int32) (x4 : Int32) (s0 : Int32) (w : St) : Option (Int32 × St) :=
  k21 x1 x2 s0 (x4 + 1) w
def fm_toFetch_138 (k21 : Int32 → Int32 → Int32 → Int32 → St → Option (Int32 × St)) (x1 : Int32) (x2 : Int32) (x3 : Int32) (x4 : Int32) (w : St) : Option (Int32 × St) :=
  fm_toFetch_139 k21 x1 x2 x4 x3 w
def fm_toFetch_107 (k21 : Int32 → Int32 → Int32 → Int32 → St → Option (Int32 × St)) (x1 : Int32) (x2 : Int32) (x3 : Int32) (x4 : Int32) (s0 : Int32) (w : St) : Option (Int32 × St) :=
  if s0 = 0 then (fm_toFetch_138 k21 x1 x2 x3 x4 w) else ((gr (w.1 3) 54 0).bind fun v120 => (fm_layFewest (v120 ||| x4) x1 w).bind fun q125 => if q125.1 = (-9) then (fm_toFetch_138 k21 x1 x2 x3 x4 (q125.2)) else (fm_toFetch_139 k21 x1 x2 x4 x4 (q125.2)))
def fm_toFetch_106 (k21 : Int32 → Int32 → Int32 → Int32 → St → Option (Int32 × St)) (x1 : Int32) (x2 : Int32) (x3 : Int32) (x4 : Int32) (w : St) : Option (Int32 × St) :=
  fm_toFetch_107 k21 x1 x2 x3 x4 0 w
def fm_toFetch_102 (k21 : Int32 → Int32 → Int32 → Int32 → St → Option (Int32 × St)) (x1 : Int32) (x2 : Int32) (x3 : Int32) (x4 : Int32) (w : St) : Option (Int32 × St) :=
  fm_toFetch_107 k21 x1 x2 x3 x4 1 w
def fm_toFetch_73 (k21 : Int32 → Int32 → Int32 → Int32 → St → Option (Int32 × St)) (x1 : Int32) (x2 : Int32) (x3 : Int32) (x4 : Int32) (x5 : Int32) (s0 : Int32) (w : St) : Option (Int32 × St) :=
  if x5 = 0 then (fm_toFetch_106 k21 x1 x2 x3 x4 w) else (if 0 < s0 then (fm_toFetch_102 k21 x1 x2 x3 x4 w) else (if s0 = 0 then ((fm_ones x4).bind fun v92 => (fm_ones x3).bind fun v96 => if v96 ≤ v92 then (fm_toFetch_106 k21 x1 x2 x3 x4 w) else (fm_toFetch_102 k21 x1 x2 x3 x4 w)) else (fm_toFetch_106 k21 x1 x2 x3 x4 w)))
def fm_toFetch_49 (k21 : Int32 → Int32 → Int32 → Int32 → St → Option (Int32 × St)) (x1 : Int32) (x2 : Int32) (x3 : Int32) (x4 : Int32) (s0 : Int32) (w : St) : Option (Int32 × St) :=
  if x3 = (-9) then (fm_toFetch_73 k21 x1 x2 x3 x4 s0 1 w) else ((fm_hoursOf x3 w).bind fun q63 => (fm_hoursOf x4 (q63.2)).bind fun q69 => fm_toFetch_73 k21 x1 x2 x3 x4 s0 (q63.1 - q69.1) (q69.2))
def fm_toFetch_21 : Nat → Int32 → Int32 → Int32 → Int32 → St → Option (Int32 × St)
  | 0, _, _, _, _, _ => none
  | fu + 1, x1, x2, x3, x4, w => if ((1 : Int32) <<< ((w.1 0 0) &&& 31)) ≤ x4 then (if x3 = (-9) then (some (x3, w)) else (if x2 = 0 then (some (x3, w)) else ((fm_hoursOf x3 w).bind fun q162 => some (q162.1, q162.2)))) else ((gr (w.1 3) 54 0).bind fun v39 => if (x4 &&& v39) = 0 then (fm_toFetch_49 (fm_toFetch_21 fu) x1 x2 x3 x4 1 w) else (fm_toFetch_49 (fm_toFetch_21 fu) x1 x2 x3 x4 0 w))
def fm_toFetch (x1 : Int32) (x2 : Int32) (w : St) : Option (Int32 × St) :=
  (fm_in (x1.toInt64) 0 9).bind fun v6 => if v6 = 0 then (some ((-2), w)) else (fm_toFetch_21 4096 x1 x2 (-9) 0 w)
def fm_needed_82 (k21 : Int32 → Int32 → Int32 → St → Option (Int32 × St)) (x1 : Int32) (x3 : Int32) (s0 : Int32) (w : St) : Option (Int32 × St) :=
  k21 x1 s0 (x3 + 1) w
def fm_needed_81 (k21 : Int32 → Int32 → Int32 → St → Option (Int32 × St)) (x1 : Int32) (x2 : Int32) (x3 : Int32) (w : St) : Option (Int32 × St) :=
  fm_needed_82 k21 x1 x3 x2 w
def fm_needed_60 (k21 : Int32 → Int32 → Int32 → St → Option (Int32 × St)) (x1 : Int32) (x2 : Int32) (x3 : Int32) (s0 : Int32) (w : St) : Option (Int32 × St) :=
  if s0 = 0 then (fm_needed_81 k21 x1 x2 x3 w) else ((fm_canBy x3 3 w).bind fun q70 => if q70.1 = x1 then (fm_needed_82 k21 x1 x3 x3 (q70.2)) else (fm_needed_81 k21 x1 x2 x3 (q70.2)))
def fm_needed_59 (k21 : Int32 → Int32 → Int32 → St → Option (Int32 × St)) (x1 : Int32) (x2 : Int32) (x3 : Int32) (w : St) : Option (Int32 × St) :=
  fm_needed_60 k21 x1 x2 x3 0 w
def fm_needed_21 : Nat → Int32 → Int32 → Int32 → St → Option (Int32 × St)
  | 0, _, _, _, _ => none
  | fu + 1, x1, x2, x3, w => if ((1 : Int32) <<< ((w.1 0 0) &&& 31)) ≤ x3 then (some (x2, w)) else ((gr (w.1 3) 54 0).bind fun v37 => if (x3 &&& (v37 ^^^ (-1 : Int32))) = 0 then ((fm_ones x3).bind fun v45 => (fm_ones x2).bind fun v49 => if v49 ≤ v45 then (fm_needed_59 (fm_needed_21 fu) x1 x2 x3 w) else (fm_needed_60 (fm_needed_21 fu) x1 x2 x3 1 w)) else (fm_needed_59 (fm_needed_21 fu) x1 x2 x3 w))
def fm_needed (w : St) : Option (Int32 × St) :=
  (gr (w.1 3) 54 0).bind fun v6 => (fm_canBy v6 3 w).bind fun q8 => lb (q8.1) fun v11 => (gr ((q8.2).1 3) 54 0).bind fun v17 => fm_needed_21 4096 v11 v17 0 (q8.2)
def fm_naming_95 (k23 : Int32 → Int32 → Int32 → Int32 → Int32 → St → Option (Int32 × St)) (x1 : Int32) (x2 : Int32) (x3 : Int32) (x5 : Int32) (s0 : Int32) (w : St) : Option (Int32 × St) :=
  k23 x1 x2 x3 s0 (x5 + 1) w
def fm_naming_80 (k23 : Int32 → Int32 → Int32 → Int32 → Int32 → St → Option (Int32 × St)) (x1 : Int32) (x2 : Int32) (x4 : Int32) (x5 : Int32) (x6 : Int32) (s0 : Int32) (w : St) : Option (Int32 × St) :=
  if x6 ≤ x4 then (fm_naming_95 k23 x1 x2 s0 x5 x4 w) else (fm_naming_95 k23 x1 x2 s0 x5 x6 w)
def fm_naming_23 : Nat → Int32 → Int32 → Int32 → Int32 → Int32 → St → Option (Int32 × St)
  | 0, _, _, _, _, _, _ => none
  | fu + 1, x1, x2, x3, x4, x5, w => if 40 ≤ x5 then (if x2 = 0 then (some (x3, w)) else (some (x4, w))) else ((gr ((wr (wr w 0 15 (x5 / 10)) 0 16 (ir x5 10)).1 3) 54 0).bind fun v54 => (fm_canBy (v54 ||| (64 : Int32)) x1 (wr (wr w 0 15 (x5 / 10)) 0 16 (ir x5 10))).bind fun q59 => (fm_ones (q59.1)).bind fun v62 => if v62 ≤ x4 then (fm_naming_80 (fm_naming_23 fu) x1 x2 x4 x5 v62 x3 (q59.2)) else (fm_naming_80 (fm_naming_23 fu) x1 x2 x4 x5 v62 x5 (q59.2)))
def fm_naming (x1 : Int32) (x2 : Int32) (w : St) : Option (Int32 × St) :=
  (fm_in (x1.toInt64) 1 3).bind fun v6 => if v6 = 0 then (some ((-2), w)) else (fm_naming_23 4096 x1 x2 0 0 0 w)
def fm_whoIn_4 : Nat → Int32 → Int32 → Option Int32
  | 0, _, _ => none
  | fu + 1, x1, x2 => if x2 ≤ 0 then (some x1) else (lb (x1 ||| ((1 : Int32) <<< (((ir x2 10) - (1 : Int32)) &&& 31))) fun v18 => lb (x2 / 10) fun v23 => fm_whoIn_4 fu v18 v23)
def fm_whoIn (x0 : Int32) : Option Int32 :=
  fm_whoIn_4 4096 0 x0
def fm_spoken_125 (k56 : Int32 → Int32 → Int32 → Int32 → Int32 → Int32 → Int32 → St → Option (Int32 × St)) (x1 : Int32) (x2 : Int32) (x3 : Int32) (x4 : Int32) (x5 : Int32) (x6 : Int32) (x7 : Int32) (w : St) : Option (Int32 × St) :=
  k56 x1 x2 x3 x4 x5 x6 (x7 + 1) w
def fm_spoken_56 : Nat → Int32 → Int32 → Int32 → Int32 → Int32 → Int32 → Int32 → St → Option (Int32 × St)
  | 0, _, _, _, _, _, _, _, _ => none
  | fu + 1, x1, x2, x3, x4, x5, x6, x7, w => (fm_sevens x1).bind fun v59 => if v59 ≤ x7 then (if x3 = 0 then (some (x4, w)) else (if x4 = 0 then (some ((-9), w)) else (if x3 = 1 then (some (x5, w)) else ((gr (w.1 3) 54 0).bind fun v165 => some ((v165 &&& (x6 ^^^ (-1 : Int32))), w))))) else ((fm_rowOf x7 x1).bind fun v68 => (gr (w.1 3) 54 0).bind fun v79 => (fm_sayRow v79 x1 v68 w).bind fun q83 => if q83.1 = (-9) then ((gr ((q83.2).1 3) 54 49).bind fun v97 => if v97 = x2 then ((fm_whoIn v68).bind fun v109 => lb (x5 &&& v109) fun v113 => (fm_whoIn v68).bind fun v119 => lb (x6 ||| v119) fun v123 => fm_spoken_125 (fm_spoken_56 fu) x1 x2 x3 (x4 + 1) v113 v123 x7 (q83.2)) else (fm_spoken_125 (fm_spoken_56 fu) x1 x2 x3 x4 x5 x6 x7 (q83.2))) else (fm_spoken_125 (fm_spoken_56 fu) x1 x2 x3 x4 x5 x6 x7 (q83.2)))
def fm_spoken (x1 : Int32) (x2 : Int32) (x3 : Int32) (w : St) : Option (Int32 × St) :=
  (fm_in (x1.toInt64) 1 4).bind fun v6 => if v6 = 0 then (some ((-2), w)) else ((fm_in (x2.toInt64) 0 9).bind fun v18 => if v18 = 0 then (some ((-2), w)) else ((fm_in (x3.toInt64) 0 2).bind fun v30 => if v30 = 0 then (some ((-2), w)) else ((gr (w.1 3) 54 0).bind fun v47 => fm_spoken_56 4096 x1 x2 x3 0 v47 0 0 w)))
def fm_quarrel_64 : Nat → Int32 → Int32 → Int32 → Int32 → St → Option (Int32 × St)
  | 0, _, _, _, _, _ => none
  | fu + 1, x1, x2, x3, x4, w => (gr (w.1 3) 54 49).bind fun v74 => (gr (w.1 7) 10 v74).bind fun v75 => if v75 = (-9) then ((gr (w.1 3) 54 49).bind fun v91 => (gu w 7 10 v91 x4).bind fun w94 => (fm_speakOn 1 x1 w94).bind fun w98 => (fm_speakOn 1 x2 w98).bind fun w104 => fm_quarrel_64 fu x1 x2 x3 (x4 + 1) w104) else (if x3 = 0 then (some (x4, w)) else ((gr (w.1 3) 54 49).bind fun v127 => (gr (w.1 7) 10 v127).bind fun v128 => some (v128, w)))
def fm_quarrel_29 : Nat → Int32 → Int32 → Int32 → Int32 → St → Option (Int32 × St)
  | 0, _, _, _, _, _ => none
  | fu + 1, x1, x2, x3, x4, w => if 10 ≤ x4 then ((gr (w.1 3) 54 0).bind fun v57 => (fm_layTrial v57 w).bind fun w58 => fm_quarrel_64 4096 x1 x2 x3 0 w58) else ((gu w 7 10 x4 (-9)).bind fun w44 => fm_quarrel_29 fu x1 x2 x3 (x4 + 1) w44)
def fm_quarrel (x1 : Int32) (x2 : Int32) (x3 : Int32) (w : St) : Option (Int32 × St) :=
  (fm_isPerson x1 w).bind fun q2 => if q2.1 = 0 then (some ((-1), q2.2)) else ((fm_isPerson x2 (q2.2)).bind fun q10 => if q10.1 = 0 then (some ((-1), q10.2)) else (if x1 = x2 then (some ((-2), q10.2)) else (fm_quarrel_29 4096 x1 x2 x3 0 (q10.2))))
def fm_factorial_4 : Nat → Int32 → Int32 → Int32 → Option Int32
  | 0, _, _, _ => none
  | fu + 1, x0, x1, x2 => if x0 < x2 then (some x1) else (lb (x1 * x2) fun v12 => fm_factorial_4 fu x0 v12 (x2 + 1))
def fm_factorial (x0 : Int32) : Option Int32 :=
  fm_factorial_4 4096 x0 1 2
def fm_common_13 : Nat → Int32 → Int32 → Option Int32
  | 0, _, _ => none
  | fu + 1, x2, x3 => if x3 = 0 then (some x2) else ((gm x2 x3).bind fun v19 => fm_common_13 fu x3 v19)
def fm_common_10 (x1 : Int32) (s0 : Int32) : Option Int32 :=
  fm_common_13 4096 s0 x1
def fm_common (x0 : Int32) (x1 : Int32) : Option Int32 :=
  if 0 ≤ x0 then (fm_common_10 x1 x0) else (fm_common_10 x1 (-x0))
def fm_share_185 (k105 : Int32 → Int32 → Int32 → Int32 → Int32 → St → Option (Int32 × St)) (x1 : Int32) (x3 : Int32) (x4 : Int32) (x5 : Int32) (x6 : Int32) (w : St) : Option (Int32 × St) :=
  k105 x1 x3 x4 x5 (x6 + 1) w
def fm_share_105 : Nat → Int32 → Int32 → Int32 → Int32 → Int32 → St → Option (Int32 × St)
  | 0, _, _, _, _, _, _ => none
  | fu + 1, x1, x3, x4, x5, x6, w => if x4 < x6 then ((fm_ones x4).bind fun v195 => (fm_factorial v195).bind fun v198 => (fm_common x5 v198).bind fun v201 => if x3 = 0 then ((fm_ones x4).bind fun v220 => (fm_factorial v220).bind fun v223 => (gd v223 v201).bind fun v228 => some (v228, w)) else ((gd x5 v201).bind fun v214 => some (v214, w))) else (if (x6 &&& (x4 ^^^ (-1 : Int32))) = 0 then ((fm_has x6 x1).bind fun v125 => if v125 = 0 then ((fm_ones x6).bind fun v133 => (fm_factorial v133).bind fun v136 => (fm_ones x4).bind fun v141 => (fm_ones x6).bind fun v148 => (fm_factorial ((v141 - (1 : Int32)) - v148)).bind fun v152 => lb (v136 * v152) fun v156 => (gr (w.1 8) 64 (x6 ||| ((1 : Int32) <<< (x1 &&& 31)))).bind fun v172 => (gr (w.1 8) 64 x6).bind fun v179 => lb (x5 + (v156 * (v172 - v179))) fun v183 => fm_share_185 (fm_share_105 fu) x1 x3 x4 v183 x6 w) else (fm_share_185 (fm_share_105 fu) x1 x3 x4 x5 x6 w)) else (fm_share_185 (fm_share_105 fu) x1 x3 x4 x5 x6 w))
def fm_share_92 (k55 : Int32 → Int32 → Int32 → Int32 → Int32 → St → Option (Int32 × St)) (x1 : Int32) (x2 : Int32) (x3 : Int32) (x4 : Int32) (x5 : Int32) (s1 : Int32) (s2 : Int32) (w : St) : Option (Int32 × St) :=
  (gu w 8 64 s1 s2).bind fun w92 => k55 x1 x2 x3 x4 (x5 + 1) w92
def fm_share_55 : Nat → Int32 → Int32 → Int32 → Int32 → Int32 → St → Option (Int32 × St)
  | 0, _, _, _, _, _, _ => none
  | fu + 1, x1, x2, x3, x4, x5, w => if x4 < x5 then (fm_share_105 4096 x1 x3 x4 0 0 w) else (if (x5 &&& (x4 ^^^ (-1 : Int32))) = 0 then ((fm_canBy x5 x2 w).bind fun q82 => (fm_ones (q82.1)).bind fun v85 => fm_share_92 (fm_share_55 fu) x1 x2 x3 x4 x5 x5 v85 (q82.2)) else (fm_share_92 (fm_share_55 fu) x1 x2 x3 x4 x5 x5 0 w))
def fm_share (x1 : Int32) (x2 : Int32) (x3 : Int32) (w : St) : Option (Int32 × St) :=
  (fm_isPerson x1 w).bind fun q2 => if q2.1 = 0 then (some ((-1), q2.2)) else ((fm_in (x2.toInt64) 1 3).bind fun v16 => if v16 = 0 then (some ((-2), q2.2)) else ((gr ((q2.2).1 3) 54 0).bind fun v30 => (fm_has v30 x1).bind fun v36 => if v36 = 0 then (if x3 = 0 then (some (1, q2.2)) else (some (0, q2.2))) else (fm_share_55 4096 x1 x2 x3 v30 0 (q2.2))))
def fm_apart (x0 : Int32) (x1 : Int32) : Option Int32 :=
  if x1 ≤ x0 then (some (x0 - x1)) else (some (x1 - x0))
def fm_isRest_108 (k6 : Int32 → Int32 → Int32 → Int32 → Int32 → St → Option (Int32 × St)) (x1 : Int32) (x2 : Int32) (x3 : Int32) (x5 : Int32) (s0 : Int32) (w : St) : Option (Int32 × St) :=
  k6 x1 x2 x3 s0 (x5 + 1) w
def fm_isRest_107 (k6 : Int32 → Int32 → Int32 → Int32 → Int32 → St → Option (Int32 × St)) (x1 : Int32) (x2 : Int32) (x3 : Int32) (x5 : Int32) (w : St) : Option (Int32 × St) :=
  fm_isRest_108 k6 x1 x2 x3 x5 0 w
def fm_isRest_59 (k6 : Int32 → Int32 → Int32 → Int32 → Int32 → St → Option (Int32 × St)) (x1 : Int32) (x2 : Int32) (x3 : Int32) (x5 : Int32) (s0 : Int32) (w : St) : Option (Int32 × St) :=
  if s0 = 0 then (fm_isRest_107 k6 x1 x2 x3 x5 w) else ((gr (w.1 9) 16 ((x1 - (ir x1 4)) + x5)).bind fun v78 => (fm_apart v78 x3).bind fun v80 => (gr (w.1 9) 16 x1).bind fun v91 => (fm_apart v91 x3).bind fun v93 => if (v80 + x5) < (v93 + (ir x1 4)) then (fm_isRest_107 k6 x1 x2 x3 x5 w) else (fm_isRest_108 k6 x1 x2 x3 x5 1 w))
def fm_isRest_58 (k6 : Int32 → Int32 → Int32 → Int32 → Int32 → St → Option (Int32 × St)) (x1 : Int32) (x2 : Int32) (x3 : Int32) (x5 : Int32) (w : St) : Option (Int32 × St) :=
  fm_isRest_59 k6 x1 x2 x3 x5 0 w
def fm_isRest_6 : Nat → Int32 → Int32 → Int32 → Int32 → Int32 → St → Option (Int32 × St)
  | 0, _, _, _, _, _, _ => none
  | fu + 1, x1, x2, x3, x4, x5, w => if 4 ≤ x5 then ((gz x4).bind fun v118 => some (v118, w)) else (if x4 = 0 then (fm_isRest_58 (fm_isRest_6 fu) x1 x2 x3 x5 w) else ((gr (w.1 9) 16 (((4 : Int32) * x5) + (ir x1 4))).bind fun v29 => (fm_apart v29 x2).bind fun v31 => (gr (w.1 9) 16 x1).bind fun v42 => (fm_apart v42 x2).bind fun v44 => if (v31 + x5) < (v44 + (x1 / 4)) then (fm_isRest_58 (fm_isRest_6 fu) x1 x2 x3 x5 w) else (fm_isRest_59 (fm_isRest_6 fu) x1 x2 x3 x5 1 w)))
def fm_isRest (x1 : Int32) (x2 : Int32) (x3 : Int32) (w : St) : Option (Int32 × St) :=
  fm_isRest_6 4096 x1 x2 x3 1 0 w
def fm_laySenses_44 (k2 : Int32 → Int32 → Int32 → St → Option St) : Nat → Int32 → Int32 → Int32 → Int32 → St → Option St
  | 0, _, _, _, _, _ => none
  | fu + 1, x1, x2, x3, x4, w => if (ir x3 4) ≤ x4 then ((gr (w.1 3) 54 49).bind fun v75 => (gu w 9 16 x3 v75).bind fun w76 => k2 x1 x2 (x3 + 1) w76) else ((fm_speakOn 1 x2 w).bind fun w55 => fm_laySenses_44 k2 fu x1 x2 x3 (x4 + 1) w55)
def fm_laySenses_21 (k2 : Int32 → Int32 → Int32 → St → Option St) : Nat → Int32 → Int32 → Int32 → Int32 → St → Option St
  | 0, _, _, _, _, _ => none
  | fu + 1, x1, x2, x3, x4, w => if (x3 / 4) ≤ x4 then (fm_laySenses_44 k2 4096 x1 x2 x3 0 w) else ((fm_speakOn 1 x1 w).bind fun w32 => fm_laySenses_21 k2 fu x1 x2 x3 (x4 + 1) w32)
def fm_laySenses_2 : Nat → Int32 → Int32 → Int32 → St → Option St
  | 0, _, _, _, _ => none
  | fu + 1, x1, x2, x3, w => if 16 ≤ x3 then (some w) else ((gr (w.1 3) 54 0).bind fun v14 => (fm_layTrial v14 w).bind fun w15 => fm_laySenses_21 (fm_laySenses_2 fu) 4096 x1 x2 x3 0 w15)
def fm_laySenses (x1 : Int32) (x2 : Int32) (w : St) : Option St :=
  fm_laySenses_2 4096 x1 x2 0 w
def fm_rests_124 (k78 : Int32 → Int32 → Int32 → Int32 → Int32 → Int32 → St → Option (Int32 × St)) (x3 : Int32) (x4 : Int32) (x5 : Int32) (x6 : Int32) (x7 : Int32) (x8 : Int32) (w : St) : Option (Int32 × St) :=
  k78 x3 x4 x5 x6 x7 (x8 + 1) w
def fm_rests_119 (k78 : Int32 → Int32 → Int32 → Int32 → Int32 → Int32 → St → Option (Int32 × St)) (x3 : Int32) (x4 : Int32) (x5 : Int32) (x6 : Int32) (x8 : Int32) (s0 : Int32) (w : St) : Option (Int32 × St) :=
  fm_rests_124 k78 x3 x4 x5 (x6 + 1) s0 x8 w
def fm_rests_78 : Nat → Int32 → Int32 → Int32 → Int32 → Int32 → Int32 → St → Option (Int32 × St)
  | 0, _, _, _, _, _, _, _ => none
  | fu + 1, x3, x4, x5, x6, x7, x8, w => if 16 ≤ x8 then (if x5 = 0 then (some (x6, w)) else (some (x7, w))) else ((fm_isRest x8 x3 x4 w).bind fun q91 => if q91.1 = 0 then (fm_rests_124 (fm_rests_78 fu) x3 x4 x5 x6 x7 x8 (q91.2)) else (if x6 = 0 then (fm_rests_119 (fm_rests_78 fu) x3 x4 x5 x6 x8 (((10 : Int32) * (x8 / 4)) + (ir x8 4)) (q91.2)) else (fm_rests_119 (fm_rests_78 fu) x3 x4 x5 x6 x8 x7 (q91.2))))
def fm_rests (x1 : Int32) (x2 : Int32) (x3 : Int32) (x4 : Int32) (x5 : Int32) (w : St) : Option (Int32 × St) :=
  (fm_isPerson x1 w).bind fun q2 => if q2.1 = 0 then (some ((-1), q2.2)) else ((fm_isPerson x2 (q2.2)).bind fun q10 => if q10.1 = 0 then (some ((-1), q10.2)) else (if x1 = x2 then (some ((-2), q10.2)) else ((fm_in (x3.toInt64) 0 9).bind fun v29 => if v29 = 0 then (some ((-2), q10.2)) else ((fm_in (x4.toInt64) 0 9).bind fun v42 => if v42 = 0 then (some ((-2), q10.2)) else ((fm_in (x5.toInt64) 0 1).bind fun v53 => if v53 = 0 then (some ((-2), q10.2)) else ((fm_laySenses x1 x2 (q10.2)).bind fun w65 => fm_rests_78 4096 x3 x4 x5 0 (-9) 0 w65))))))
def fm_chance_186 (k70 : Int32 → Int32 → Int32 → Int32 → Int32 → Int32 → St → Option (Int32 × St)) (x1 : Int32) (x2 : Int32) (x3 : Int32) (x4 : Int32) (x5 : Int32) (x6 : Int32) (w : St) : Option (Int32 × St) :=
  k70 x1 x2 x3 x4 x5 (x6 + 1) w
def fm_chance_183 (k70 : Int32 → Int32 → Int32 → Int32 → Int32 → Int32 → St → Option (Int32 × St)) (x1 : Int32) (x2 : Int32) (x3 : Int32) (x5 : Int32) (x6 : Int32) (s0 : Int32) (s1 : Int32) (w : St) : Option (Int32 × St) :=
  lb (s0 + s1) fun v184 => fm_chance_186 k70 x1 x2 x3 v184 x5 x6 w
def fm_chance_156 (k70 : Int32 → Int32 → Int32 → Int32 → Int32 → Int32 → St → Option (Int32 × St)) (k119 : Int32 → Int32 → Int32 → Int32 → Int32 → Int32 → Int32 → Int32 → St → Option (Int32 × St)) (x1 : Int32) (x2 : Int32) (x3 : Int32) (x4 : Int32) (x5 : Int32) (x6 : Int32) (x7 : Int32) (x8 : Int32) (w : St) : Option (Int32 × St) :=
  k119 x1 x2 x3 x4 x5 x6 x7 (x8 + (-1)) w
def fm_chance_119 (k70 : Int32 → Int32 → Int32 → Int32 → Int32 → Int32 → St → Option (Int32 × St)) : Nat → Int32 → Int32 → Int32 → Int32 → Int32 → Int32 → Int32 → Int32 → St → Option (Int32 × St)
  | 0, _, _, _, _, _, _, _, _, _ => none
  | fu + 1, x1, x2, x3, x4, x5, x6, x7, x8, w => if x8 < 0 then ((gr (w.1 3) 54 49).bind fun v173 => if v173 = x2 then (fm_chance_183 k70 x1 x2 x3 (x5 + 1) x6 x4 1 w) else (fm_chance_183 k70 x1 x2 x3 (x5 + 1) x6 x4 0 w)) else ((fm_tenTo x8).bind fun v128 => (gd x7 v128).bind fun v131 => lb ((ir v131 10) - (1 : Int32)) fun v137 => (fm_may 1 v137 w).bind fun q143 => if q143.1 = 0 then (fm_chance_156 k70 (fm_chance_119 k70 fu) x1 x2 x3 x4 x5 x6 x7 x8 (q143.2)) else ((fm_sayOn 1 v137 (q143.2)).bind fun w153 => fm_chance_156 k70 (fm_chance_119 k70 fu) x1 x2 x3 x4 x5 x6 x7 x8 w153))
def fm_chance_70 : Nat → Int32 → Int32 → Int32 → Int32 → Int32 → Int32 → St → Option (Int32 × St)
  | 0, _, _, _, _, _, _, _ => none
  | fu + 1, x1, x2, x3, x4, x5, x6, w => (fm_sevens x1).bind fun v73 => if v73 ≤ x6 then ((fm_common x4 x5).bind fun v196 => if x3 = 0 then ((gd x5 v196).bind fun v217 => some (v217, w)) else ((gd x4 v196).bind fun v209 => some (v209, w))) else ((fm_rowOf x6 x1).bind fun v82 => (fm_whoIn v82).bind fun v89 => (gr (w.1 3) 54 0).bind fun v97 => if (v89 &&& (v97 ^^^ (-1 : Int32))) = 0 then ((gr (w.1 3) 54 0).bind fun v110 => (fm_layTrial v110 w).bind fun w111 => lb (x1 - (1 : Int32)) fun v117 => fm_chance_119 (fm_chance_70 fu) 4096 x1 x2 x3 x4 x5 x6 v82 v117 w111) else (fm_chance_186 (fm_chance_70 fu) x1 x2 x3 x4 x5 x6 w))
def fm_chance (x1 : Int32) (x2 : Int32) (x3 : Int32) (w : St) : Option (Int32 × St) :=
  (fm_in (x1.toInt64) 1 4).bind fun v6 => if v6 = 0 then (some ((-2), w)) else ((fm_in (x2.toInt64) 0 9).bind fun v18 => if v18 = 0 then (some ((-2), w)) else ((gr (w.1 3) 54 0).bind fun v32 => if v32 = 0 then (if x3 = 0 then (some (1, w)) else ((gr (w.1 3) 54 22).bind fun v46 => if v46 = x2 then (some (1, w)) else (some (0, w)))) else (fm_chance_70 4096 x1 x2 x3 0 0 0 w)))
def fm_seed (x1 : Int64) (w : St) : Option (Int64 × St) :=
  lb (w.2) fun v4 => some (v4, (wz w x1))
def fm_nights_90 (k29 : Int32 → Int32 → Int32 → St → Option (Int32 × St)) (x1 : Int32) (x2 : Int32) (x3 : Int32) (w : St) : Option (Int32 × St) :=
  (gr (w.1 3) 54 49).bind fun v97 => lb (x2 + v97) fun v99 => k29 x1 v99 (x3 + 1) w
def fm_nights_29 : Nat → Int32 → Int32 → Int32 → St → Option (Int32 × St)
  | 0, _, _, _, _ => none
  | fu + 1, x1, x2, x3, w => if x1 ≤ x3 then (some (x2, w)) else (lb ((lr (lush ((wz w ((w.2 * (6364136223846793005 : Int64)) + (1442695040888963407 : Int64))).2) 33) 6).toInt32) fun v62 => (fm_isPerson v62 (wz w ((w.2 * (6364136223846793005 : Int64)) + (1442695040888963407 : Int64)))).bind fun q67 => if q67.1 = 0 then (fm_nights_90 (fm_nights_29 fu) x1 x2 x3 (q67.2)) else ((fm_may 1 v62 (q67.2)).bind fun q77 => if q77.1 = 0 then (fm_nights_90 (fm_nights_29 fu) x1 x2 x3 (q77.2)) else ((fm_sayOn 1 v62 (q77.2)).bind fun w87 => fm_nights_90 (fm_nights_29 fu) x1 x2 x3 w87)))
def fm_nights (x1 : Int32) (w : St) : Option (Int32 × St) :=
  (fm_in (x1.toInt64) 1 30).bind fun v6 => if v6 = 0 then (some ((-2), w)) else ((gr (w.1 3) 54 0).bind fun v21 => (fm_layTrial v21 w).bind fun w22 => fm_nights_29 4096 x1 0 0 w22)
def fm_keep_21 : Nat → Int32 → Int32 → St → Option (Int32 × St)
  | 0, _, _, _ => none
  | fu + 1, x1, x2, w => if 27 ≤ x2 then ((gr (w.1 3) 54 26).bind fun v56 => some (v56, w)) else ((gr (w.1 3) 54 x2).bind fun v42 => (gu w 11 54 (((27 : Int32) * x1) + x2) v42).bind fun w43 => fm_keep_21 fu x1 (x2 + 1) w43)
def fm_keep (x1 : Int32) (w : St) : Option (Int32 × St) :=
  (fm_in (x1.toInt64) 0 1).bind fun v4 => if v4 = 0 then (some ((-1), w)) else ((gu w 10 2 x1 1).bind fun w18 => fm_keep_21 4096 x1 0 w18)
def fm_again_26 : Nat → Int32 → Int32 → St → Option (Int32 × St)
  | 0, _, _, _ => none
  | fu + 1, x1, x2, w => if 27 ≤ x2 then ((gr ((wr w 0 12 0).1 3) 54 26).bind fun v66 => some (v66, (wr w 0 12 0))) else ((gr (w.1 11) 54 (((27 : Int32) * x1) + x2)).bind fun v47 => (gu w 3 54 x2 v47).bind fun w48 => fm_again_26 fu x1 (x2 + 1) w48)
def fm_again (x1 : Int32) (w : St) : Option (Int32 × St) :=
  (fm_in (x1.toInt64) 0 1).bind fun v4 => if v4 = 0 then (some ((-1), w)) else ((gr (w.1 10) 2 x1).bind fun v17 => if v17 = 0 then (some ((-3), w)) else (fm_again_26 4096 x1 0 w))
def fm_count_29 (k4 : Int32 → Int32 → Int32 → St → Option (Int32 × St)) (x1 : Int32) (x3 : Int32) (s0 : Int32) (s1 : Int32) (w : St) : Option (Int32 × St) :=
  lb (s0 ||| s1) fun v30 => k4 x1 v30 (x3 + 1) w
def fm_count_4 : Nat → Int32 → Int32 → Int32 → St → Option (Int32 × St)
  | 0, _, _, _, _ => none
  | fu + 1, x1, x2, x3, w => if (w.1 0 0) ≤ x3 then (if x1 = 0 then (some ((w.1 0 9), w)) else (if x1 = 1 then (some ((w.1 0 0), w)) else (if x1 = 2 then (some ((w.1 0 1), w)) else (if x1 = 3 then ((gr (w.1 3) 54 22).bind fun v109 => some (v109, w)) else (if x1 = 4 then ((gr (w.1 3) 54 26).bind fun v117 => some (v117, w)) else (if x1 = 5 then ((gr (w.1 3) 54 0).bind fun v124 => some (v124, w)) else (if x1 = 6 then (some (x2, w)) else (if x1 = 7 then ((gr (w.1 3) 54 23).bind fun v134 => some (v134, w)) else (if x1 = 8 then (some ((w.1 0 12), w)) else (some ((-2), w))))))))))) else ((fm_may 0 x3 w).bind fun q16 => if q16.1 = 0 then (fm_count_29 (fm_count_4 fu) x1 x3 x2 0 (q16.2)) else (fm_count_29 (fm_count_4 fu) x1 x3 x2 ((1 : Int32) <<< (x3 &&& 31)) (q16.2)))
def fm_count (x1 : Int32) (w : St) : Option (Int32 × St) :=
  fm_count_4 4096 x1 0 0 w
