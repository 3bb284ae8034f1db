def tb_Log_tableOf (ad : Nat → Nat) (q : Nat) : Value := if q = 1 then .ref (ad 21) else if q = 2 then .ref (ad 27) else .null
noncomputable def m_Bytes_size (x : St_Bytes)  : Option (Int32) :=
  some x.2
noncomputable def m_Bytes_putByte (x : St_Bytes) (p1 : Int32) (p2 : Int64) : Option (St_Bytes) :=
  if p1 < 0 then
  (some x)
  else
  (if p1 < (nI x.1.1) then
    (if p1 < 0 ∨ x.1.1 ≤ (p1).toNatClampNeg then none else some ((x.1.1, upd x.1.2 (p1).toNatClampNeg (vp_nar .byte ((((p2).toInt32)).toInt8.toInt32))), (jmax x.2 (p1 + 1))))
    else
    (some x))
noncomputable def m_Bytes_put_L3  : Nat → St_Bytes → Int32 → Int64 → Int32 → Int32 → Option (St_Bytes)
  | 0, _, _, _, _, _ => none
  | n + 1, x, v1, v2, v4, v5 => if v4 ≤ v5 then
    (some x)
    else
    ((m_Bytes_putByte x (v1 + v5) (jlushr v2 (8 * ((v4 - 1) - v5)))).bind fun q2 => m_Bytes_put_L3 n q2 v1 v2 v4 (v5 + 1))
noncomputable def m_Bytes_put (x : St_Bytes) (p1 : Int32) (p2 : Int64) (p4 : Int32) : Option (St_Bytes) :=
  m_Bytes_put_L3 FU x p1 p2 p4 0
noncomputable def m_Bytes_add (x : St_Bytes) (p1 : Int64) (p3 : Int32) : Option (St_Bytes) :=
  (m_Bytes_put x x.2 p1 p3).bind fun q1 => some q1
noncomputable def m_Log_feed_L35  : Nat → St_Log → Int64 → Int32 → Int32 → Option (Int32 × St_Log)
  | 0, _, _, _, _ => none
  | n + 1, g, v1, v3, v4 => if v3 ≤ v4 then
    ((m_Bytes_size (g_tape g)).bind fun q6 => some (q6, g))
    else
    ((m_Bytes_add (g_tape g) (jlushr v1 (8 * v4)) 1).bind fun q7 => m_Log_feed_L35 n (s_tape g q7) v1 v3 (v4 + 1))
noncomputable def m_Log_feed (g : St_Log) (p1 : Int64) (p3 : Int32) : Option (Int32 × St_Log) :=
  if p3 < 1 then
  (some ((-2), g))
  else
  (if p3 ≤ 8 then
    ((m_Bytes_size (g_tape g)).bind fun q3 => if (q3 + p3) ≤ 2000 then
      (m_Log_feed_L35 FU g p1 p3 0)
      else
      (some ((-4), g)))
    else
    (some ((-2), g)))
noncomputable def m_Bytes_clear_L2  : Nat → St_Bytes → Int32 → Option (St_Bytes)
  | 0, _, _ => none
  | n + 1, x, v1 => if x.2 ≤ v1 then
    (some (x.1, 0))
    else
    (if (nI x.1.1) ≤ v1 then
      (some (x.1, 0))
      else
      (if v1 < 0 ∨ x.1.1 ≤ (v1).toNatClampNeg then none else m_Bytes_clear_L2 n ((x.1.1, upd x.1.2 (v1).toNatClampNeg (vp_nar .byte 0)), x.2) (v1 + 1)))
noncomputable def m_Bytes_clear (x : St_Bytes)  : Option (St_Bytes) :=
  m_Bytes_clear_L2 FU x 0
noncomputable def m_Log_wipe (g : St_Log)  : Option (Int32 × St_Log) :=
  (m_Bytes_size (g_tape g)).bind fun q1 => (m_Bytes_clear (g_tape g)).bind fun q2 => some (q1, (s_tape g q2))
noncomputable def m_Log_isGroup  (p0 : Int32) : Option (Int32) :=
  if p0 < 0 then
  (some 0)
  else
  (if 8 ≤ p0 then
    (some 0)
    else
    (some 1))
noncomputable def m_Log_bodiesOf  (p0 : Int32) : Option (Int32) :=
  some (((p0 + 31) - 1) / 31)
noncomputable def m_Log_rowsOfPart  (p0 : Int32) : Option (Int32) :=
  (m_Log_bodiesOf p0).bind fun q1 => some (1 + q1)
noncomputable def m_Room_firstRun_L4 (x : St_Room) : Nat → Int32 → Int32 → Int32 → Option (Int32)
  | 0, _, _, _ => none
  | n + 1, v1, v2, v3 => if (nI x.1) ≤ v3 then
    (some (-1))
    else
    (if v3 < 0 ∨ x.1 ≤ (v3).toNatClampNeg then none else if (x.2 (v3).toNatClampNeg) = 0 then
      (if (v2 + 1) = v1 then
        (some ((v3 - v1) + 1))
        else
        (m_Room_firstRun_L4 x n v1 (v2 + 1) (v3 + 1)))
      else
      (if 0 = v1 then
        (some ((v3 - v1) + 1))
        else
        (m_Room_firstRun_L4 x n v1 0 (v3 + 1))))
noncomputable def m_Room_firstRun (x : St_Room) (p1 : Int32) : Option (Int32) :=
  m_Room_firstRun_L4 x FU p1 0 2
noncomputable def m_Bytes_at (x : St_Bytes) (p1 : Int32) : Option (Int32) :=
  if p1 < 0 then
  (some 0)
  else
  (if x.2 ≤ p1 then
    (some 0)
    else
    (if (nI x.1.1) ≤ p1 then
      (some 0)
      else
      (if p1 < 0 ∨ x.1.1 ≤ (p1).toNatClampNeg then none else some ((x.1.2 (p1).toNatClampNeg) &&& 255))))
noncomputable def m_Log_digestStep  (p0 : Int64) (p2 : Int32) : Option (Int64) :=
  some (((jlshl (p0 ^^^ ((p2).toInt64)) 53) ||| (jlushr (p0 ^^^ ((p2).toInt64)) 11)) * (-4417276706812531889))
noncomputable def m_Bytes_digest_L5 (x : St_Bytes) : Nat → Int32 → Int64 → Int32 → Option (Int64)
  | 0, _, _, _ => none
  | n + 1, v2, v3, v5 => if v2 ≤ v5 then
    (some v3)
    else
    ((m_Bytes_at x v5).bind fun q2 => (m_Log_digestStep v3 q2).bind fun q3 => m_Bytes_digest_L5 x n v2 q3 (v5 + 1))
noncomputable def m_Bytes_digest (x : St_Bytes) (p1 : Int32) (p2 : Int32) : Option (Int64) :=
  m_Bytes_digest_L5 x FU p2 0 p1
noncomputable def m_Log_drawSum (g : St_Log)  : Option (St_Log) :=
  (m_Bytes_digest (g_image g) 0 24).bind fun q1 => (m_Bytes_put (g_image g) 24 q1 8).bind fun q2 => some (s_image g q2)
noncomputable def m_Log_drawPart_L45  : Nat → St_Log → Int32 → Int32 → Int64 → Int32 → Int32 → Int32 → Option (St_Log)
  | 0, _, _, _, _, _, _, _ => none
  | n + 1, g, v1, v2, v3, v5, v6, v7 => if v6 ≤ v7 then
    ((m_Bytes_put (g_image g) 0 1 1).bind fun q5 => (m_Bytes_put q5 1 ((v2).toInt64) 1).bind fun q6 => (m_Bytes_put q6 2 ((v6).toInt64) 2).bind fun q7 => (m_Bytes_put q7 4 ((v1).toInt64) 4).bind fun q8 => (m_Bytes_put q8 8 v3 8).bind fun q9 => (m_Log_rowsOfPart v6).bind fun q10 => (m_Bytes_digest q9 32 (32 * q10)).bind fun q11 => (m_Bytes_put q9 16 q11 8).bind fun q12 => (m_Log_drawSum (s_image (s_image (s_image (s_image (s_image (s_image g q5) q6) q7) q8) q9) q12)).bind fun q13 => some q13)
    else
    ((m_Bytes_at (g_tape g) (v5 + v7)).bind fun q14 => (m_Bytes_put (g_image g) (((32 * (1 + (v7 / 31))) + 1) + (jrem v7 31)) ((q14).toInt64) 1).bind fun q15 => m_Log_drawPart_L45 n (s_image g q15) v1 v2 v3 v5 v6 (v7 + 1))
noncomputable def m_Log_drawPart_L10  : Nat → St_Log → Int32 → Int32 → Int64 → Int32 → Int32 → Int32 → Option (St_Log)
  | 0, _, _, _, _, _, _, _ => none
  | n + 1, g, v1, v2, v3, v5, v6, v7 => (m_Log_bodiesOf v6).bind fun q2 => if q2 < v7 then
    (m_Log_drawPart_L45 FU g v1 v2 v3 v5 v6 0)
    else
    ((m_Bytes_put (g_image g) (v7 * 32) 5 1).bind fun q16 => m_Log_drawPart_L10 n (s_image g q16) v1 v2 v3 v5 v6 (v7 + 1))
noncomputable def m_Log_drawPart (g : St_Log) (p1 : Int32) (p2 : Int32) (p3 : Int64) (p5 : Int32) (p6 : Int32) : Option (St_Log) :=
  (m_Bytes_clear (g_image g)).bind fun q1 => m_Log_drawPart_L10 FU (s_image g q1) p1 p2 p3 p5 p6 1
noncomputable def m_Room_set_L3  : Nat → St_Room → Int32 → Int32 → Int32 → Int32 → Option (St_Room)
  | 0, _, _, _, _, _ => none
  | n + 1, x, v1, v2, v3, v4 => if v2 ≤ v4 then
    (some x)
    else
    (if (v1 + v4) < 0 then
      (m_Room_set_L3 n x v1 v2 v3 (v4 + 1))
      else
      (if (nI x.1) ≤ (v1 + v4) then
        (m_Room_set_L3 n x v1 v2 v3 (v4 + 1))
        else
        (if (v1 + v4) < 0 ∨ x.1 ≤ ((v1 + v4)).toNatClampNeg then none else m_Room_set_L3 n (x.1, upd x.2 ((v1 + v4)).toNatClampNeg (vp_nar .boolean v3)) v1 v2 v3 (v4 + 1))))
noncomputable def m_Room_set (x : St_Room) (p1 : Int32) (p2 : Int32) (p3 : Int32) : Option (St_Room) :=
  m_Room_set_L3 FU x p1 p2 p3 0
noncomputable def m_Room_take (x : St_Room) (p1 : Int32) (p2 : Int32) : Option (St_Room) :=
  (m_Room_set x p1 p2 1).bind fun q1 => some q1
noncomputable def m_Medium_has (x : St_Medium) (p1 : Int32) (p2 : Int32) : Option (Int32) :=
  if p1 < 0 then
  (some 0)
  else
  (if x.1 ≤ p1 then
    (some 0)
    else
    (if p2 < 0 then
      (some 0)
      else
      (if 32 ≤ p2 then
        (some 0)
        else
        (some 1))))
noncomputable def m_Medium_writeByte (x : St_Medium) (p1 : Int32) (p2 : Int32) (p3 : Int32) : Option (Int32 × St_Medium) :=
  if x.2.2.1 = 0 then
  (some (0, (x.1, x.2.1, (-1), x.2.2.2)))
  else
  (if x.2.2.1 ≤ 0 then
    ((m_Medium_has x p1 p2).bind fun q3 => if q3 = 0 then
      (some (1, (x.1, x.2.1, x.2.2.1, (x.2.2.2 + 1))))
      else
      (if ((p1 * 32) + p2) < 0 ∨ x.2.1.1 ≤ (((p1 * 32) + p2)).toNatClampNeg then none else some (1, (x.1, (x.2.1.1, upd x.2.1.2 (((p1 * 32) + p2)).toNatClampNeg (vp_nar .byte ((p3).toInt8.toInt32))), x.2.2.1, (x.2.2.2 + 1)))))
    else
    ((m_Medium_has (x.1, x.2.1, (x.2.2.1 - 1), x.2.2.2) p1 p2).bind fun q6 => if q6 = 0 then
      (some (1, (x.1, x.2.1, (x.2.2.1 - 1), (x.2.2.2 + 1))))
      else
      (if ((p1 * 32) + p2) < 0 ∨ x.2.1.1 ≤ (((p1 * 32) + p2)).toNatClampNeg then none else some (1, (x.1, (x.2.1.1, upd x.2.1.2 (((p1 * 32) + p2)).toNatClampNeg (vp_nar .byte ((p3).toInt8.toInt32))), (x.2.2.1 - 1), (x.2.2.2 + 1))))))
noncomputable def m_Medium_write_L3 (y : St_Bytes) : Nat → St_Medium → Int32 → Int32 → Int32 → Option (Int32 × St_Medium)
  | 0, _, _, _, _ => none
  | n + 1, x, v1, v3, v4 => if 32 ≤ v4 then
    (some (1, x))
    else
    ((m_Bytes_at y (v3 + v4)).bind fun q2 => (m_Medium_writeByte x v1 v4 q2).bind fun q3 => if q3.1 = 0 then
      (some (0, q3.2))
      else
      (m_Medium_write_L3 y n q3.2 v1 v3 (v4 + 1)))
noncomputable def m_Medium_write (x : St_Medium) (y : St_Bytes) (p1 : Int32) (p3 : Int32) : Option (Int32 × St_Medium) :=
  m_Medium_write_L3 y FU x p1 p3 0
noncomputable def m_Log_writeImage_L2  : Nat → St_Log → Int32 → Int32 → Int32 → Option (Int32 × St_Log)
  | 0, _, _, _, _ => none
  | n + 1, g, v1, v2, v3 => if v2 ≤ v3 then
    (if (g_isOpen g) = 0 then
      ((m_Room_take (g_room g) v1 v2).bind fun q3 => if ¬ ((g_isOpen g) = 0 ∨ (g_isOpen g) = 1) then none else some ((g_isOpen g), (s_room g q3)))
      else
      ((m_Medium_write (g_medium g) (g_image g) v1 0).bind fun q5 => if ¬ (q5.1 = 0 ∨ q5.1 = 1) then none else (m_Room_take (g_room g) v1 v2).bind fun q7 => if ¬ (q5.1 = 0 ∨ q5.1 = 1) then none else some (q5.1, (s_room (s_isOpen (s_medium g q5.2) q5.1) q7))))
    else
    (if (g_isOpen g) = 0 then
      (if (g_isOpen g) = 0 then
        ((m_Room_take (g_room g) v1 v2).bind fun q11 => if ¬ ((g_isOpen g) = 0 ∨ (g_isOpen g) = 1) then none else some ((g_isOpen g), (s_room g q11)))
        else
        ((m_Medium_write (g_medium g) (g_image g) v1 0).bind fun q13 => if ¬ (q13.1 = 0 ∨ q13.1 = 1) then none else (m_Room_take (g_room g) v1 v2).bind fun q15 => if ¬ (q13.1 = 0 ∨ q13.1 = 1) then none else some (q13.1, (s_room (s_isOpen (s_medium g q13.2) q13.1) q15))))
      else
      ((m_Medium_write (g_medium g) (g_image g) (v1 + v3) (v3 * 32)).bind fun q17 => if ¬ (q17.1 = 0 ∨ q17.1 = 1) then none else m_Log_writeImage_L2 n (s_isOpen (s_medium g q17.2) q17.1) v1 v2 (v3 + 1)))
noncomputable def m_Log_writeImage (g : St_Log) (p1 : Int32) (p2 : Int32) : Option (Int32 × St_Log) :=
  m_Log_writeImage_L2 FU g p1 p2 1
noncomputable def m_Log_placeOf_L10 (x : AI) : Nat → Int32 → Int32 → Int32 → Option (Int32)
  | 0, _, _, _ => none
  | n + 1, v2, v3, v4 => if v4 ≤ v3 then
    (some v3)
    else
    (if (jiushr (v3 + v4) 1) < 0 ∨ x.1 ≤ ((jiushr (v3 + v4) 1)).toNatClampNeg then none else if v2 ≤ (x.2 ((jiushr (v3 + v4) 1)).toNatClampNeg) then
      (m_Log_placeOf_L10 x n v2 v3 (jiushr (v3 + v4) 1))
      else
      (m_Log_placeOf_L10 x n v2 ((jiushr (v3 + v4) 1) + 1) v4))
noncomputable def m_Log_placeOf (x : AI) (p1 : Int32) (p2 : Int32) : Option (Int32) :=
  m_Log_placeOf_L10 x FU p2 0 (jmin p1 (nI x.1))
noncomputable def m_Parts_has (x : St_Parts) (p1 : Int32) : Option (Int32) :=
  if p1 < 0 then
  (some 0)
  else
  (if x.2.2.2.2.2 ≤ p1 then
    (some 0)
    else
    (if (nI x.1.1) ≤ p1 then
      (some 0)
      else
      (some 1)))
noncomputable def m_Parts_move (x : St_Parts) (p1 : Int32) (p2 : Int32) : Option (St_Parts) :=
  (m_Parts_has x p1).bind fun q1 => if q1 = 0 then
  (some x)
  else
  ((m_Parts_has x p2).bind fun q3 => if q3 = 0 then
    (some x)
    else
    (if p1 < 0 ∨ x.1.1 ≤ (p1).toNatClampNeg then none else if p2 < 0 ∨ x.1.1 ≤ (p2).toNatClampNeg then none else if p1 < 0 ∨ x.2.1.1 ≤ (p1).toNatClampNeg then none else if p2 < 0 ∨ x.2.1.1 ≤ (p2).toNatClampNeg then none else if p1 < 0 ∨ x.2.2.1.1 ≤ (p1).toNatClampNeg then none else if p2 < 0 ∨ x.2.2.1.1 ≤ (p2).toNatClampNeg then none else if p1 < 0 ∨ x.2.2.2.1.1 ≤ (p1).toNatClampNeg then none else if p2 < 0 ∨ x.2.2.2.1.1 ≤ (p2).toNatClampNeg then none else if p1 < 0 ∨ x.2.2.2.2.1.1 ≤ (p1).toNatClampNeg then none else if p2 < 0 ∨ x.2.2.2.2.1.1 ≤ (p2).toNatClampNeg then none else some ((x.1.1, upd x.1.2 (p2).toNatClampNeg (x.1.2 (p1).toNatClampNeg)), (x.2.1.1, upd x.2.1.2 (p2).toNatClampNeg (x.2.1.2 (p1).toNatClampNeg)), (x.2.2.1.1, upd x.2.2.1.2 (p2).toNatClampNeg (x.2.2.1.2 (p1).toNatClampNeg)), (x.2.2.2.1.1, upd x.2.2.2.1.2 (p2).toNatClampNeg (x.2.2.2.1.2 (p1).toNatClampNeg)), (x.2.2.2.2.1.1, vp_updL x.2.2.2.2.1.2 (p2).toNatClampNeg (x.2.2.2.2.1.2 (p1).toNatClampNeg)), x.2.2.2.2.2)))
noncomputable def m_Parts_add_L45  : Nat → St_Parts → Int32 → Int32 → Int32 → Int32 → Int64 → Int32 → Int32 → Option (St_Parts)
  | 0, _, _, _, _, _, _, _, _ => none
  | n + 1, x, v1, v2, v3, v4, v5, v7, v8 => if v8 ≤ v7 then
    ((m_Parts_has x v7).bind fun q4 => if q4 = 0 then
      (some x)
      else
      (if v7 < 0 ∨ x.1.1 ≤ (v7).toNatClampNeg then none else if v7 < 0 ∨ x.2.1.1 ≤ (v7).toNatClampNeg then none else if v7 < 0 ∨ x.2.2.1.1 ≤ (v7).toNatClampNeg then none else if v7 < 0 ∨ x.2.2.2.1.1 ≤ (v7).toNatClampNeg then none else if v7 < 0 ∨ x.2.2.2.2.1.1 ≤ (v7).toNatClampNeg then none else some ((x.1.1, upd x.1.2 (v7).toNatClampNeg v1), (x.2.1.1, upd x.2.1.2 (v7).toNatClampNeg v2), (x.2.2.1.1, upd x.2.2.1.2 (v7).toNatClampNeg v3), (x.2.2.2.1.1, upd x.2.2.2.1.2 (v7).toNatClampNeg v4), (x.2.2.2.2.1.1, vp_updL x.2.2.2.2.1.2 (v7).toNatClampNeg v5), x.2.2.2.2.2)))
    else
    ((m_Parts_move x (v8 - 1) v8).bind fun q11 => m_Parts_add_L45 n q11 v1 v2 v3 v4 v5 v7 (v8 + (-1)))
noncomputable def m_Parts_add (x : St_Parts) (p1 : Int32) (p2 : Int32) (p3 : Int32) (p4 : Int32) (p5 : Int64) : Option (St_Parts) :=
  if x.2.2.2.2.2 < (nI x.1.1) then
  ((m_Log_placeOf x.1 x.2.2.2.2.2 p1).bind fun q2 => m_Parts_add_L45 FU (x.1, x.2.1, x.2.2.1, x.2.2.2.1, x.2.2.2.2.1, (x.2.2.2.2.2 + 1)) p1 p2 p3 p4 p5 q2 ((x.2.2.2.2.2 + 1) - 1))
  else
  (some x)
noncomputable def m_Log_writePart (g : St_Log) (p1 : Int32) (p2 : Int32) (p3 : Int64) (p5 : Int32) (p6 : Int32) : Option (Int32 × St_Log) :=
  (m_Log_drawPart g ((g_greatestPart g) + 1) p2 p3 p5 p6).bind fun q1 => (m_Log_rowsOfPart p6).bind fun q2 => (m_Log_writeImage q1 p1 q2).bind fun q3 => if q3.1 = 0 then
  (some (0, q3.2))
  else
  ((m_Parts_add (g_parts q3.2) ((g_greatestPart g) + 1) p2 p6 p1 p3).bind fun q5 => some (1, (s_greatestPart (s_parts q3.2 q5) ((g_greatestPart g) + 1))))
noncomputable def m_Log_writeTape (g : St_Log) (p1 : Int32) (p2 : Int64) : Option (Int32 × St_Log) :=
  (m_Bytes_size (g_tape g)).bind fun q1 => (m_Log_isGroup p1).bind fun q2 => if q2 = 0 then
  (some ((-2), g))
  else
  (if q1 ≤ 155 then
    (if (g_greatestPart g) < 1000000000 then
      ((m_Log_rowsOfPart q1).bind fun q6 => (m_Room_firstRun (g_room g) q6).bind fun q7 => if q7 = (-1) then
        (some ((-4), g))
        else
        ((m_Log_writePart g q7 p1 p2 0 q1).bind fun q9 => if q9.1 = 0 then
          (some ((-5), q9.2))
          else
          (some ((g_greatestPart q9.2), q9.2))))
      else
      (some ((-4), g)))
    else
    (some ((-2), g)))
noncomputable def m_Log_part (g : St_Log) (p1 : Int32) (p2 : Int64) : Option (Int32 × St_Log) :=
  if (g_isOpen g) = 0 then
  ((m_Bytes_clear (g_tape g)).bind fun q2 => some ((-3), (s_tape g q2)))
  else
  ((m_Log_writeTape g p1 p2).bind fun q3 => (m_Bytes_clear (g_tape q3.2)).bind fun q4 => some (q3.1, (s_tape q3.2 q4)))
noncomputable def m_Parts_size (x : St_Parts)  : Option (Int32) :=
  some x.2.2.2.2.2
noncomputable def m_Marks_size (x : St_Marks)  : Option (Int32) :=
  some x.2.2.2.2.2
noncomputable def m_Marks_has (x : St_Marks) (p1 : Int32) : Option (Int32) :=
  if p1 < 0 then
  (some 0)
  else
  (if x.2.2.2.2.2 ≤ p1 then
    (some 0)
    else
    (if (nI x.1.1) ≤ p1 then
      (some 0)
      else
      (some 1)))
noncomputable def m_Marks_move_L67  : Nat → St_Marks → Int32 → Int32 → Int32 → Option (St_Marks)
  | 0, _, _, _, _ => none
  | n + 1, x, v1, v2, v3 => if v1 < 0 ∨ x.2.1.1 ≤ (v1).toNatClampNeg then none else if (x.2.1.2 (v1).toNatClampNeg) ≤ v3 then
    (some x)
    else
    (if ((v1 * 12) + v3) < 0 ∨ x.2.2.2.1.1 ≤ (((v1 * 12) + v3)).toNatClampNeg then none else if ((v2 * 12) + v3) < 0 ∨ x.2.2.2.1.1 ≤ (((v2 * 12) + v3)).toNatClampNeg then none else m_Marks_move_L67 n (x.1, x.2.1, x.2.2.1, (x.2.2.2.1.1, upd x.2.2.2.1.2 (((v2 * 12) + v3)).toNatClampNeg (x.2.2.2.1.2 (((v1 * 12) + v3)).toNatClampNeg)), x.2.2.2.2.1, x.2.2.2.2.2) v1 v2 (v3 + 1))
noncomputable def m_Marks_move (x : St_Marks) (p1 : Int32) (p2 : Int32) : Option (St_Marks) :=
  (m_Marks_has x p1).bind fun q1 => if q1 = 0 then
  (some x)
  else
  ((m_Marks_has x p2).bind fun q3 => if q3 = 0 then
    (some x)
    else
    (if p1 < 0 ∨ x.1.1 ≤ (p1).toNatClampNeg then none else if p2 < 0 ∨ x.1.1 ≤ (p2).toNatClampNeg then none else if p1 < 0 ∨ x.2.1.1 ≤ (p1).toNatClampNeg then none else if p2 < 0 ∨ x.2.1.1 ≤ (p2).toNatClampNeg then none else if p1 < 0 ∨ x.2.2.1.1 ≤ (p1).toNatClampNeg then none else if p2 < 0 ∨ x.2.2.1.1 ≤ (p2).toNatClampNeg then none else if p1 < 0 ∨ x.2.2.2.2.1.1 ≤ (p1).toNatClampNeg then none else if p2 < 0 ∨ x.2.2.2.2.1.1 ≤ (p2).toNatClampNeg then none else m_Marks_move_L67 FU ((x.1.1, upd x.1.2 (p2).toNatClampNeg (x.1.2 (p1).toNatClampNeg)), (x.2.1.1, upd x.2.1.2 (p2).toNatClampNeg (x.2.1.2 (p1).toNatClampNeg)), (x.2.2.1.1, upd x.2.2.1.2 (p2).toNatClampNeg (x.2.2.1.2 (p1).toNatClampNeg)), x.2.2.2.1, (x.2.2.2.2.1.1, vp_updL x.2.2.2.2.1.2 (p2).toNatClampNeg (x.2.2.2.2.1.2 (p1).toNatClampNeg)), x.2.2.2.2.2) p1 p2 0))
noncomputable def m_Marks_add_L46  : Nat → St_Marks → Int32 → Int32 → Int32 → Int64 → Int32 → Int32 → Option (Int32 × St_Marks)
  | 0, _, _, _, _, _, _, _ => none
  | n + 1, x, v1, v2, v3, v4, v6, v7 => if v7 ≤ v6 then
    ((m_Marks_has x v6).bind fun q4 => if q4 = 0 then
      (some ((-1), x))
      else
      (if v6 < 0 ∨ x.1.1 ≤ (v6).toNatClampNeg then none else if v6 < 0 ∨ x.2.1.1 ≤ (v6).toNatClampNeg then none else if v6 < 0 ∨ x.2.2.1.1 ≤ (v6).toNatClampNeg then none else if v6 < 0 ∨ x.2.2.2.2.1.1 ≤ (v6).toNatClampNeg then none else some (v6, ((x.1.1, upd x.1.2 (v6).toNatClampNeg v1), (x.2.1.1, upd x.2.1.2 (v6).toNatClampNeg (jmax 0 (jmin 12 v2))), (x.2.2.1.1, upd x.2.2.1.2 (v6).toNatClampNeg v3), x.2.2.2.1, (x.2.2.2.2.1.1, vp_updL x.2.2.2.2.1.2 (v6).toNatClampNeg v4), x.2.2.2.2.2))))
    else
    ((m_Marks_move x (v7 - 1) v7).bind fun q10 => m_Marks_add_L46 n q10 v1 v2 v3 v4 v6 (v7 + (-1)))
noncomputable def m_Marks_add (x : St_Marks) (p1 : Int32) (p2 : Int32) (p3 : Int32) (p4 : Int64) : Option (Int32 × St_Marks) :=
  if x.2.2.2.2.2 < (nI x.1.1) then
  ((m_Log_placeOf x.1 x.2.2.2.2.2 p1).bind fun q2 => m_Marks_add_L46 FU (x.1, x.2.1, x.2.2.1, x.2.2.2.1, x.2.2.2.2.1, (x.2.2.2.2.2 + 1)) p1 p2 p3 p4 q2 ((x.2.2.2.2.2 + 1) - 1))
  else
  (some ((-1), x))
noncomputable def m_Parts_numberAt (x : St_Parts) (p1 : Int32) : Option (Int32) :=
  (m_Parts_has x p1).bind fun q1 => if q1 = 0 then
  (some (-1))
  else
  (if p1 < 0 ∨ x.1.1 ≤ (p1).toNatClampNeg then none else some (x.1.2 (p1).toNatClampNeg))
noncomputable def m_Marks_countAt (x : St_Marks) (p1 : Int32) : Option (Int32) :=
  (m_Marks_has x p1).bind fun q1 => if q1 = 0 then
  (some 0)
  else
  (if p1 < 0 ∨ x.2.1.1 ≤ (p1).toNatClampNeg then none else some (x.2.1.2 (p1).toNatClampNeg))
noncomputable def m_Marks_setPart (x : St_Marks) (p1 : Int32) (p2 : Int32) (p3 : Int32) : Option (St_Marks) :=
  if p2 < 0 then
  (some x)
  else
  ((m_Marks_countAt x p1).bind fun q2 => if q2 ≤ p2 then
    (some x)
    else
    (if ((p1 * 12) + p2) < 0 ∨ x.2.2.2.1.1 ≤ (((p1 * 12) + p2)).toNatClampNeg then none else some (x.1, x.2.1, x.2.2.1, (x.2.2.2.1.1, upd x.2.2.2.1.2 (((p1 * 12) + p2)).toNatClampNeg p3), x.2.2.2.2.1, x.2.2.2.2.2)))
noncomputable def m_Log_makeMark_L38  : Nat → St_Log → Int32 → Int32 → Int32 → Int32 → Option (Int32 × St_Log)
  | 0, _, _, _, _, _ => none
  | n + 1, g, v1, v2, v3, v4 => if v1 ≤ v4 then
    (some ((g_greatestMark g), g))
    else
    ((m_Parts_numberAt (g_parts g) (v3 + v4)).bind fun q4 => (m_Marks_setPart (g_made g) v2 v4 q4).bind fun q5 => m_Log_makeMark_L38 n (s_made g q5) v1 v2 v3 (v4 + 1))
noncomputable def m_Log_makeMark (g : St_Log) (p1 : Int32) : Option (Int32 × St_Log) :=
  (m_Marks_add (g_made g) ((g_greatestMark g) + 1) p1 (-1) 0).bind fun q1 => (m_Parts_size (g_parts g)).bind fun q2 => m_Log_makeMark_L38 FU (s_made (s_greatestMark g ((g_greatestMark g) + 1)) q1.2) p1 q1.1 (q2 - p1) 0
noncomputable def m_Log_mark (g : St_Log) (p1 : Int32) : Option (Int32 × St_Log) :=
  if (g_isOpen g) = 0 then
  (some ((-3), g))
  else
  (if p1 < 1 then
    (some ((-2), g))
    else
    (if p1 ≤ 12 then
      ((m_Parts_size (g_parts g)).bind fun q4 => if p1 ≤ q4 then
        ((m_Marks_size (g_made g)).bind fun q6 => if 6 ≤ q6 then
          (some ((-4), g))
          else
          (if (g_greatestMark g) < 1000000000 then
            ((m_Log_makeMark g p1).bind fun q9 => some (q9.1, q9.2))
            else
            (some ((-4), g))))
        else
        (some ((-1), g)))
      else
      (some ((-2), g))))
noncomputable def m_Marks_numberAt (x : St_Marks) (p1 : Int32) : Option (Int32) :=
  (m_Marks_has x p1).bind fun q1 => if q1 = 0 then
  (some (-1))
  else
  (if p1 < 0 ∨ x.1.1 ≤ (p1).toNatClampNeg then none else some (x.1.2 (p1).toNatClampNeg))
noncomputable def m_Marks_find (x : St_Marks) (p1 : Int32) : Option (Int32) :=
  (m_Log_placeOf x.1 x.2.2.2.2.2 p1).bind fun q1 => (m_Marks_numberAt x q1).bind fun q2 => if q2 = p1 then
  (if x.2.2.2.2.2 ≤ q1 then
    (some (-1))
    else
    (some q1))
  else
  (some (-1))
noncomputable def m_Log_entriesOf  (p0 : Int32) : Option (Int32) :=
  some (((p0 + 2) - 1) / 2)
noncomputable def m_Log_rowsOfMark  (p0 : Int32) : Option (Int32) :=
  (m_Log_entriesOf p0).bind fun q1 => some (1 + q1)
noncomputable def m_Marks_partAt (x : St_Marks) (p1 : Int32) (p2 : Int32) : Option (Int32) :=
  if p2 < 0 then
  (some (-1))
  else
  ((m_Marks_countAt x p1).bind fun q2 => if q2 ≤ p2 then
    (some (-1))
    else
    (if ((p1 * 12) + p2) < 0 ∨ x.2.2.2.1.1 ≤ (((p1 * 12) + p2)).toNatClampNeg then none else some (x.2.2.2.1.2 (((p1 * 12) + p2)).toNatClampNeg)))
noncomputable def m_Parts_find (x : St_Parts) (p1 : Int32) : Option (Int32) :=
  (m_Log_placeOf x.1 x.2.2.2.2.2 p1).bind fun q1 => (m_Parts_numberAt x q1).bind fun q2 => if q2 = p1 then
  (if x.2.2.2.2.2 ≤ q1 then
    (some (-1))
    else
    (some q1))
  else
  (some (-1))
noncomputable def m_Parts_rowAt (x : St_Parts) (p1 : Int32) : Option (Int32) :=
  (m_Parts_has x p1).bind fun q1 => if q1 = 0 then
  (some (-1))
  else
  (if p1 < 0 ∨ x.2.2.2.1.1 ≤ (p1).toNatClampNeg then none else some (x.2.2.2.1.2 (p1).toNatClampNeg))
noncomputable def m_Log_entryRow  (p0 : Int32) (p1 : Int32) : Option (Int32) :=
  some ((p0 + 1) + (p1 / 2))
noncomputable def m_Log_entryByte  (p0 : Int32) : Option (Int32) :=
  some (1 + (14 * (jrem p0 2)))
noncomputable def m_Medium_at (x : St_Medium) (p1 : Int32) (p2 : Int32) : Option (Int32) :=
  (m_Medium_has x p1 p2).bind fun q1 => if q1 = 0 then
  (some 0)
  else
  (if ((p1 * 32) + p2) < 0 ∨ x.2.1.1 ≤ (((p1 * 32) + p2)).toNatClampNeg then none else some ((x.2.1.2 (((p1 * 32) + p2)).toNatClampNeg) &&& 255))
noncomputable def m_Medium_number_L6 (x : St_Medium) : Nat → Int32 → Int32 → Int32 → Int64 → Int32 → Option (Int64)
  | 0, _, _, _, _, _ => none
  | n + 1, v1, v2, v3, v4, v6 => if v3 ≤ v6 then
    (some v4)
    else
    ((m_Medium_at x v1 (v2 + v6)).bind fun q2 => m_Medium_number_L6 x n v1 v2 v3 ((jlshl v4 8) ||| ((q2).toInt64)) (v6 + 1))
noncomputable def m_Medium_number (x : St_Medium) (p1 : Int32) (p2 : Int32) (p3 : Int32) : Option (Int64) :=
  m_Medium_number_L6 x FU p1 p2 p3 0 0
noncomputable def m_Log_drawEntry (g : St_Log) (p1 : Int32) (p2 : Int32) : Option (St_Log) :=
  (m_Parts_find (g_parts g) p2).bind fun q1 => (m_Parts_rowAt (g_parts g) q1).bind fun q2 => (m_Log_entryRow 0 p1).bind fun q3 => (m_Bytes_put (g_image g) (32 * q3) 6 1).bind fun q4 => (m_Log_entryByte p1).bind fun q5 => (m_Bytes_put q4 ((32 * q3) + q5) ((p2).toInt64) 4).bind fun q6 => (m_Bytes_put q6 (((32 * q3) + q5) + 4) ((q2).toInt64) 2).bind fun q7 => (m_Medium_number (g_medium g) q2 16 8).bind fun q8 => (m_Bytes_put q7 (((32 * q3) + q5) + 6) q8 8).bind fun q9 => some (s_image (s_image (s_image (s_image g q4) q6) q7) q9)
noncomputable def m_Log_drawMark_L18  : Nat → St_Log → Int32 → Int32 → Int32 → Option (Int64 × St_Log)
  | 0, _, _, _, _ => none
  | n + 1, g, v1, v2, v3 => if v2 ≤ v3 then
    ((m_Log_rowsOfMark v2).bind fun q4 => (m_Bytes_digest (g_image g) 32 (32 * q4)).bind fun q5 => (m_Bytes_put (g_image g) 0 2 1).bind fun q6 => (m_Bytes_put q6 1 ((v2).toInt64) 1).bind fun q7 => (m_Marks_numberAt (g_made g) v1).bind fun q8 => (m_Bytes_put q7 4 ((q8).toInt64) 4).bind fun q9 => (m_Bytes_put q9 8 q5 8).bind fun q10 => (m_Log_drawSum (s_image (s_image (s_image (s_image g q6) q7) q9) q10)).bind fun q11 => some (q5, q11))
    else
    ((m_Marks_partAt (g_made g) v1 v3).bind fun q12 => (m_Log_drawEntry g v3 q12).bind fun q13 => m_Log_drawMark_L18 n q13 v1 v2 (v3 + 1))
noncomputable def m_Log_drawMark (g : St_Log) (p1 : Int32) : Option (Int64 × St_Log) :=
  (m_Marks_countAt (g_made g) p1).bind fun q1 => (m_Bytes_clear (g_image g)).bind fun q2 => m_Log_drawMark_L18 FU (s_image g q2) p1 q1 0
noncomputable def m_Marks_remove_L13  : Nat → St_Marks → Int32 → Option (St_Marks)
  | 0, _, _ => none
  | n + 1, x, v2 => if x.2.2.2.2.2 ≤ v2 then
    (some (x.1, x.2.1, x.2.2.1, x.2.2.2.1, x.2.2.2.2.1, (x.2.2.2.2.2 - 1)))
    else
    ((m_Marks_move x v2 (v2 - 1)).bind fun q4 => m_Marks_remove_L13 n q4 (v2 + 1))
noncomputable def m_Marks_remove (x : St_Marks) (p1 : Int32) : Option (St_Marks) :=
  (m_Marks_has x p1).bind fun q1 => if q1 = 0 then
  (some x)
  else
  (m_Marks_remove_L13 FU x (p1 + 1))
noncomputable def m_Log_keep_L98  : Nat → St_Log → Int32 → Int32 → Int32 → Int32 → Option (Int32 × St_Log)
  | 0, _, _, _, _, _ => none
  | n + 1, g, v2, v3, v7, v8 => if v3 ≤ v8 then
    ((m_Marks_remove (g_made g) v2).bind fun q14 => some (1, (s_made g q14)))
    else
    ((m_Marks_partAt (g_made g) v2 v8).bind fun q15 => (m_Marks_setPart (g_kept g) v7 v8 q15).bind fun q16 => m_Log_keep_L98 n (s_kept g q16) v2 v3 v7 (v8 + 1))
noncomputable def m_Log_keep (g : St_Log) (p1 : Int32) : Option (Int32 × St_Log) :=
  if (g_isOpen g) = 0 then
  (some ((-3), g))
  else
  ((m_Marks_find (g_made g) p1).bind fun q2 => if q2 = (-1) then
    (some ((-1), g))
    else
    ((m_Marks_countAt (g_made g) q2).bind fun q4 => (m_Log_rowsOfMark q4).bind fun q5 => (m_Room_firstRun (g_room g) q5).bind fun q6 => if q6 = (-1) then
      (some ((-4), g))
      else
      ((m_Log_drawMark g q2).bind fun q8 => (m_Log_rowsOfMark q4).bind fun q9 => (m_Log_writeImage q8.2 q6 q9).bind fun q10 => if q10.1 = 0 then
        (some ((-5), q10.2))
        else
        ((m_Marks_add (g_kept q10.2) p1 q4 q6 q8.1).bind fun q12 => m_Log_keep_L98 FU (s_kept q10.2 q12.2) q2 q4 q12.1 0))))
noncomputable def m_Log_give (g : St_Log) (p1 : Int32) : Option (Int32 × St_Log) :=
  if (g_isOpen g) = 0 then
  (some ((-3), g))
  else
  ((m_Marks_find (g_made g) p1).bind fun q2 => if q2 = (-1) then
    (some ((-1), g))
    else
    ((m_Marks_remove (g_made g) q2).bind fun q4 => some (1, (s_made g q4))))
noncomputable def m_Log_drawHead_L35  : Nat → St_Log → Int32 → Option (St_Log)
  | 0, _, _ => none
  | n + 1, g, v1 => if 8 ≤ v1 then
    ((m_Log_drawSum g).bind fun q5 => some q5)
    else
    (if v1 < 0 ∨ (g_owners g).1 ≤ (v1).toNatClampNeg then none else (m_Bytes_put (g_image g) (8 + (2 * v1)) ((((g_owners g).2 (v1).toNatClampNeg)).toInt64) 2).bind fun q7 => m_Log_drawHead_L35 n (s_image g q7) (v1 + 1))
noncomputable def m_Log_drawHead (g : St_Log)  : Option (St_Log) :=
  (m_Bytes_clear (g_image g)).bind fun q1 => (m_Bytes_put q1 0 4 1).bind fun q2 => (m_Bytes_put q2 4 (((g_serial g)).toInt64) 4).bind fun q3 => m_Log_drawHead_L35 FU (s_image (s_image (s_image g q1) q2) q3) 0
noncomputable def m_Log_owner (g : St_Log) (p1 : Int32) : Option (Int32 × St_Log) :=
  if (g_isOpen g) = 0 then
  (some ((-3), g))
  else
  ((m_Log_isGroup p1).bind fun q2 => if q2 = 0 then
    (some ((-2), g))
    else
    (if p1 < 0 ∨ (g_owners g).1 ≤ (p1).toNatClampNeg then none else if 65535 ≤ ((g_owners g).2 (p1).toNatClampNeg) then
      (some ((-4), g))
      else
      (if (g_serial g) < 1000000000 then
        (if p1 < 0 ∨ (g_owners g).1 ≤ (p1).toNatClampNeg then none else if p1 < 0 ∨ (g_owners g).1 ≤ (p1).toNatClampNeg then none else (m_Log_drawHead (s_serial (s_owners g ((g_owners g).1, upd (g_owners g).2 (p1).toNatClampNeg (((g_owners g).2 (p1).toNatClampNeg) + 1))) ((g_serial g) + 1))).bind fun q9 => (m_Log_writeImage q9 (jrem (g_serial q9) 2) 1).bind fun q10 => if q10.1 = 0 then
          (some ((-5), q10.2))
          else
          (if p1 < 0 ∨ (g_owners q10.2).1 ≤ (p1).toNatClampNeg then none else some (((g_owners q10.2).2 (p1).toNatClampNeg), q10.2)))
        else
        (some ((-4), g)))))
noncomputable def m_Marks_greatestPart_L4 (x : St_Marks) : Nat → Int32 → Int32 → Option (Int32)
  | 0, _, _ => none
  | n + 1, v1, v2 => if x.2.2.2.2.2 ≤ v2 then
    (some v1)
    else
    ((m_Marks_countAt x v2).bind fun q2 => (m_Marks_partAt x v2 (q2 - 1)).bind fun q3 => m_Marks_greatestPart_L4 x n (jmax v1 q3) (v2 + 1))
noncomputable def m_Marks_greatestPart (x : St_Marks)  : Option (Int32) :=
  m_Marks_greatestPart_L4 x FU 0 0
noncomputable def m_Marks_removeFirst_L7  : Nat → St_Marks → Int32 → Int32 → Option (St_Marks)
  | 0, _, _, _ => none
  | n + 1, x, v1, v2 => if x.2.2.2.2.2 ≤ v2 then
    (some (x.1, x.2.1, x.2.2.1, x.2.2.2.1, x.2.2.2.2.1, (jmax 0 (x.2.2.2.2.2 - v1))))
    else
    ((m_Marks_move x v2 (v2 - v1)).bind fun q3 => m_Marks_removeFirst_L7 n q3 v1 (v2 + 1))
noncomputable def m_Marks_removeFirst (x : St_Marks) (p1 : Int32) : Option (St_Marks) :=
  if 0 < p1 then
  (m_Marks_removeFirst_L7 FU x p1 p1)
  else
  (some x)
noncomputable def m_Marks_rowAt (x : St_Marks) (p1 : Int32) : Option (Int32) :=
  (m_Marks_has x p1).bind fun q1 => if q1 = 0 then
  (some (-1))
  else
  (if p1 < 0 ∨ x.2.2.1.1 ≤ (p1).toNatClampNeg then none else some (x.2.2.1.2 (p1).toNatClampNeg))
noncomputable def m_Room_free (x : St_Room) (p1 : Int32) (p2 : Int32) : Option (St_Room) :=
  (m_Room_set x p1 p2 0).bind fun q1 => some q1
noncomputable def m_Medium_erase_L2  : Nat → St_Medium → Int32 → Int32 → Option (Int32 × St_Medium)
  | 0, _, _, _ => none
  | n + 1, x, v1, v2 => if 32 ≤ v2 then
    (some (1, x))
    else
    ((m_Medium_writeByte x v1 v2 0).bind fun q2 => if q2.1 = 0 then
      (some (0, q2.2))
      else
      (m_Medium_erase_L2 n q2.2 v1 (v2 + 1)))
noncomputable def m_Medium_erase (x : St_Medium) (p1 : Int32) : Option (Int32 × St_Medium) :=
  m_Medium_erase_L2 FU x p1 0
noncomputable def m_Log_takeBack_L2  : Nat → St_Log → Int32 → Int32 → Int32 → Option (Int32 × St_Log)
  | 0, _, _, _, _ => none
  | n + 1, g, v1, v2, v3 => if v2 ≤ v3 then
    ((m_Room_free (g_room g) v1 v2).bind fun q2 => if ¬ ((g_isOpen g) = 0 ∨ (g_isOpen g) = 1) then none else some ((g_isOpen g), (s_room g q2)))
    else
    (if (g_isOpen g) = 0 then
      ((m_Room_free (g_room g) v1 v2).bind fun q5 => if ¬ ((g_isOpen g) = 0 ∨ (g_isOpen g) = 1) then none else some ((g_isOpen g), (s_room g q5)))
      else
      ((m_Medium_erase (g_medium g) (v1 + v3)).bind fun q7 => if ¬ (q7.1 = 0 ∨ q7.1 = 1) then none else m_Log_takeBack_L2 n (s_isOpen (s_medium g q7.2) q7.1) v1 v2 (v3 + 1)))
noncomputable def m_Log_takeBack (g : St_Log) (p1 : Int32) (p2 : Int32) : Option (Int32 × St_Log) :=
  m_Log_takeBack_L2 FU g p1 p2 0
noncomputable def m_Log_dropMarks_L2  : Nat → St_Log → Int32 → Int32 → Option (Int32 × St_Log)
  | 0, _, _, _ => none
  | n + 1, g, v1, v2 => if v1 ≤ v2 then
    ((m_Marks_removeFirst (g_kept g) v1).bind fun q2 => if ¬ ((g_isOpen g) = 0 ∨ (g_isOpen g) = 1) then none else some ((g_isOpen g), (s_kept g q2)))
    else
    (if (g_isOpen g) = 0 then
      ((m_Marks_removeFirst (g_kept g) v1).bind fun q5 => if ¬ ((g_isOpen g) = 0 ∨ (g_isOpen g) = 1) then none else some ((g_isOpen g), (s_kept g q5)))
      else
      ((m_Marks_rowAt (g_kept g) v2).bind fun q7 => (m_Marks_countAt (g_kept g) v2).bind fun q8 => (m_Log_rowsOfMark q8).bind fun q9 => (m_Log_takeBack g q7 q9).bind fun q10 => m_Log_dropMarks_L2 n q10.2 v1 (v2 + 1)))
noncomputable def m_Log_dropMarks (g : St_Log) (p1 : Int32) : Option (Int32 × St_Log) :=
  m_Log_dropMarks_L2 FU g p1 0
noncomputable def m_Parts_shorten (x : St_Parts) (p1 : Int32) : Option (St_Parts) :=
  some (x.1, x.2.1, x.2.2.1, x.2.2.2.1, x.2.2.2.2.1, (jmax 0 (jmin x.2.2.2.2.2 p1)))
noncomputable def m_Marks_isNaming_L2 (x : St_Marks) : Nat → Int32 → Int32 → Int32 → Option (Int32)
  | 0, _, _, _ => none
  | n + 1, v1, v2, v3 => (m_Marks_countAt x v1).bind fun q1 => if q1 ≤ v3 then
    (some 0)
    else
    ((m_Marks_partAt x v1 v3).bind fun q3 => if q3 = v2 then
      (some 1)
      else
      (m_Marks_isNaming_L2 x n v1 v2 (v3 + 1)))
noncomputable def m_Marks_isNaming (x : St_Marks) (p1 : Int32) (p2 : Int32) : Option (Int32) :=
  m_Marks_isNaming_L2 x FU p1 p2 0
noncomputable def m_Marks_countNaming_L4 (x : St_Marks) : Nat → Int32 → Int32 → Int32 → Option (Int32)
  | 0, _, _, _ => none
  | n + 1, v1, v2, v3 => if x.2.2.2.2.2 ≤ v3 then
    (some v2)
    else
    ((m_Marks_isNaming x v3 v1).bind fun q2 => if q2 = 0 then
      (m_Marks_countNaming_L4 x n v1 v2 (v3 + 1))
      else
      (m_Marks_countNaming_L4 x n v1 (v2 + 1) (v3 + 1)))
noncomputable def m_Marks_countNaming (x : St_Marks) (p1 : Int32) : Option (Int32) :=
  m_Marks_countNaming_L4 x FU p1 0 0
noncomputable def m_Log_countNaming (g : St_Log) (p1 : Int32) : Option (Int32) :=
  (m_Marks_countNaming (g_kept g) p1).bind fun q1 => (m_Marks_countNaming (g_made g) p1).bind fun q2 => some (q1 + q2)
noncomputable def m_Parts_lengthAt (x : St_Parts) (p1 : Int32) : Option (Int32) :=
  (m_Parts_has x p1).bind fun q1 => if q1 = 0 then
  (some 0)
  else
  (if p1 < 0 ∨ x.2.2.1.1 ≤ (p1).toNatClampNeg then none else some (x.2.2.1.2 (p1).toNatClampNeg))
noncomputable def m_Log_dropParts_L7  : Nat → St_Log → Int32 → Int32 → Int32 → Int32 → Option (Int32 × St_Log)
  | 0, _, _, _, _, _ => none
  | n + 1, g, v1, v2, v3, v4 => (m_Parts_size (g_parts g)).bind fun q1 => if q1 ≤ v4 then
    ((m_Parts_shorten (g_parts g) v2).bind fun q3 => some (v3, (s_parts g q3)))
    else
    (if (g_isOpen g) = 0 then
      ((m_Parts_shorten (g_parts g) v2).bind fun q5 => some (v3, (s_parts g q5)))
      else
      ((m_Parts_numberAt (g_parts g) v4).bind fun q6 => if v1 < q6 then
        ((m_Parts_move (g_parts g) v4 v2).bind fun q8 => m_Log_dropParts_L7 n (s_parts g q8) v1 (v2 + 1) v3 (v4 + 1))
        else
        ((m_Log_countNaming g q6).bind fun q9 => if q9 = 0 then
          ((m_Parts_rowAt (g_parts g) v4).bind fun q12 => (m_Parts_lengthAt (g_parts g) v4).bind fun q13 => (m_Log_rowsOfPart q13).bind fun q14 => (m_Log_takeBack g q12 q14).bind fun q15 => m_Log_dropParts_L7 n q15.2 v1 v2 (v3 + 1) (v4 + 1))
          else
          ((m_Parts_move (g_parts g) v4 v2).bind fun q11 => m_Log_dropParts_L7 n (s_parts g q11) v1 (v2 + 1) v3 (v4 + 1)))))
noncomputable def m_Log_dropParts (g : St_Log) (p1 : Int32) : Option (Int32 × St_Log) :=
  m_Log_dropParts_L7 FU g p1 0 0 0
noncomputable def m_Log_drop (g : St_Log) (p1 : Int32) : Option (Int32 × St_Log) :=
  if (g_isOpen g) = 0 then
  (some ((-3), g))
  else
  (if 0 ≤ p1 then
    ((m_Marks_greatestPart (g_kept g)).bind fun q3 => (m_Marks_size (g_kept g)).bind fun q4 => (m_Log_dropMarks g (q4 - p1)).bind fun q5 => if q5.1 = 0 then
      (some ((-5), q5.2))
      else
      ((m_Log_dropParts q5.2 q3).bind fun q7 => if (g_isOpen q7.2) = 0 then
        (some ((-5), q7.2))
        else
        (some (q7.1, q7.2))))
    else
    (some ((-2), g)))
noncomputable def m_Medium_setPower (x : St_Medium) (p1 : Int32) : Option (St_Medium) :=
  some (x.1, x.2.1, p1, x.2.2.2)
noncomputable def m_Log_cut (g : St_Log) (p1 : Int32) : Option (Int32 × St_Log) :=
  if p1 < (-1) then
  (some (0, g))
  else
  (if p1 ≤ 20000 then
    ((m_Medium_setPower (g_medium g) p1).bind fun q3 => some (1, (s_medium g q3)))
    else
    (some (0, g)))
noncomputable def m_Log_close (g : St_Log)  : Option (Int32 × St_Log) :=
  if ¬ ((g_isOpen g) = 0 ∨ (g_isOpen g) = 1) then none else some ((g_isOpen g), (s_isOpen g 0))
noncomputable def m_Medium_rows (x : St_Medium)  : Option (Int32) :=
  some x.1
noncomputable def m_Log_forget (g : St_Log)  : Option (St_Log) :=
  (m_Parts_shorten (g_parts g) 0).bind fun q1 => (m_Marks_size (g_kept g)).bind fun q2 => (m_Marks_removeFirst (g_kept g) q2).bind fun q3 => (m_Marks_size (g_made g)).bind fun q4 => (m_Marks_removeFirst (g_made g) q4).bind fun q5 => (m_Medium_rows (g_medium g)).bind fun q6 => (m_Room_free (g_room g) 0 q6).bind fun q7 => some (s_greatestMark (s_greatestPart (s_room (s_made (s_kept (s_parts g q1) q3) q5) q7) 0) 0)
noncomputable def m_Medium_isSumRight_L5 (x : St_Medium) : Nat → Int32 → Int64 → Int32 → Option (Int32)
  | 0, _, _, _ => none
  | n + 1, v1, v2, v4 => if 24 ≤ v4 then
    ((m_Medium_number x v1 24 8).bind fun q2 => if (lg_cmp q2 v2) = 0 then
      (some 1)
      else
      (some 0))
    else
    ((m_Medium_at x v1 v4).bind fun q4 => (m_Log_digestStep v2 q4).bind fun q5 => m_Medium_isSumRight_L5 x n v1 q5 (v4 + 1))
noncomputable def m_Medium_isSumRight (x : St_Medium) (p1 : Int32) : Option (Int32) :=
  m_Medium_isSumRight_L5 x FU p1 0 0
noncomputable def m_Log_isNumber  (p0 : Int64) : Option (Int32) :=
  if (lg_cmp p0 1) < 0 then
  (some 0)
  else
  (if 0 < (lg_cmp p0 1000000000) then
    (some 0)
    else
    (some 1))
noncomputable def m_Log_isGoodHead (g : St_Log) (p1 : Int32) : Option (Int32) :=
  (m_Medium_at (g_medium g) p1 0).bind fun q1 => if q1 = 4 then
  ((m_Medium_isSumRight (g_medium g) p1).bind fun q3 => if q3 = 0 then
    (some 0)
    else
    ((m_Medium_number (g_medium g) p1 4 4).bind fun q5 => (m_Log_isNumber q5).bind fun q6 => if q6 = 0 then
      (some 0)
      else
      (some 1)))
  else
  (some 0)
noncomputable def m_Log_headThatCounts (g : St_Log)  : Option (Int32) :=
  (m_Log_isGoodHead g 0).bind fun q1 => if q1 = 0 then
  ((m_Log_isGoodHead g 1).bind fun q8 => if q8 = 0 then
    (some (-1))
    else
    (some 1))
  else
  ((m_Log_isGoodHead g 1).bind fun q3 => if q3 = 0 then
    (some 0)
    else
    ((m_Medium_number (g_medium g) 1 4 4).bind fun q5 => (m_Medium_number (g_medium g) 0 4 4).bind fun q6 => if (lg_cmp q5 q6) ≤ 0 then
      (some 0)
      else
      (some 1)))
noncomputable def m_Log_readHeads_L31  : Nat → St_Log → Int32 → Int32 → Option (St_Log)
  | 0, _, _, _ => none
  | n + 1, g, v1, v2 => if 8 ≤ v2 then
    (some g)
    else
    (if v1 = (-1) then
      (if v2 < 0 ∨ (g_owners g).1 ≤ (v2).toNatClampNeg then none else m_Log_readHeads_L31 n (s_owners g ((g_owners g).1, upd (g_owners g).2 (v2).toNatClampNeg 0)) v1 (v2 + 1))
      else
      ((m_Medium_number (g_medium g) v1 (8 + (2 * v2)) 2).bind fun q6 => if v2 < 0 ∨ (g_owners g).1 ≤ (v2).toNatClampNeg then none else m_Log_readHeads_L31 n (s_owners g ((g_owners g).1, upd (g_owners g).2 (v2).toNatClampNeg ((q6).toInt32))) v1 (v2 + 1)))
noncomputable def m_Log_readHeads (g : St_Log)  : Option (St_Log) :=
  (m_Log_headThatCounts g).bind fun q1 => if q1 = (-1) then
  (m_Log_readHeads_L31 FU (s_serial g 0) q1 0)
  else
  ((m_Medium_number (g_medium g) q1 4 4).bind fun q3 => m_Log_readHeads_L31 FU (s_serial g ((q3).toInt32)) q1 0)
noncomputable def m_Log_isPartThere (g : St_Log) (p1 : Int32) : Option (Int32) :=
  (m_Medium_at (g_medium g) p1 0).bind fun q1 => if q1 = 1 then
  ((m_Medium_isSumRight (g_medium g) p1).bind fun q3 => if q3 = 0 then
    (some 0)
    else
    ((m_Medium_number (g_medium g) p1 2 2).bind fun q5 => (m_Medium_at (g_medium g) p1 1).bind fun q6 => (m_Log_isGroup q6).bind fun q7 => if q7 = 0 then
      (some 0)
      else
      (if 155 < ((q5).toInt32) then
        (some 0)
        else
        ((m_Medium_number (g_medium g) p1 4 4).bind fun q10 => (m_Log_isNumber q10).bind fun q11 => if q11 = 0 then
          (some 0)
          else
          ((m_Log_rowsOfPart ((q5).toInt32)).bind fun q13 => (m_Medium_rows (g_medium g)).bind fun q14 => if q14 < (p1 + q13) then
            (some 0)
            else
            (some 1))))))
  else
  (some 0)
noncomputable def m_Medium_digest_L16 (x : St_Medium) (k : Int32 → Int32 → Int64 → Int32 → Option (Int64)) : Nat → Int32 → Int32 → Int64 → Int32 → Int32 → Option (Int64)
  | 0, _, _, _, _, _ => none
  | n + 1, v1, v2, v3, v5, v6 => if 32 ≤ v6 then
    (k v1 v2 v3 v5)
    else
    ((m_Medium_at x v5 v6).bind fun q3 => (m_Log_digestStep v3 q3).bind fun q4 => m_Medium_digest_L16 x k n v1 v2 q4 v5 (v6 + 1))
noncomputable def m_Medium_digest_L5 (x : St_Medium) : Nat → Int32 → Int32 → Int64 → Int32 → Option (Int64)
  | 0, _, _, _, _ => none
  | n + 1, v1, v2, v3, v5 => if (v1 + v2) ≤ v5 then
    (some v3)
    else
    (m_Medium_digest_L16 x (fun (v1_5 : Int32) (v2_6 : Int32) (v3_7 : Int64) (v5_8 : Int32) => m_Medium_digest_L5 x n v1_5 v2_6 v3_7 (v5_8 + 1)) FU  v1 v2 v3 v5 0)
noncomputable def m_Medium_digest (x : St_Medium) (p1 : Int32) (p2 : Int32) : Option (Int64) :=
  m_Medium_digest_L5 x FU p1 p2 0 p1
noncomputable def m_Log_areEntriesRising_L5 (g : St_Log) : Nat → Int32 → Int32 → Int64 → Int32 → Option (Int32)
  | 0, _, _, _, _ => none
  | n + 1, v1, v2, v3, v5 => if v2 ≤ v5 then
    (some 1)
    else
    ((m_Log_entryRow v1 v5).bind fun q2 => (m_Log_entryByte v5).bind fun q3 => (m_Medium_number (g_medium g) q2 q3 4).bind fun q4 => if (lg_cmp q4 v3) ≤ 0 then
      (some 0)
      else
      ((m_Log_isNumber q4).bind fun q6 => if q6 = 0 then
        (some 0)
        else
        (m_Log_areEntriesRising_L5 g n v1 v2 q4 (v5 + 1))))
noncomputable def m_Log_areEntriesRising (g : St_Log) (p1 : Int32) (p2 : Int32) : Option (Int32) :=
  m_Log_areEntriesRising_L5 g FU p1 p2 0 0
noncomputable def m_Log_isMarkThere (g : St_Log) (p1 : Int32) : Option (Int32) :=
  (m_Medium_at (g_medium g) p1 0).bind fun q1 => if q1 = 2 then
  ((m_Medium_isSumRight (g_medium g) p1).bind fun q3 => if q3 = 0 then
    (some 0)
    else
    ((m_Medium_at (g_medium g) p1 1).bind fun q5 => if q5 < 1 then
      (some 0)
      else
      (if 12 < q5 then
        (some 0)
        else
        ((m_Medium_number (g_medium g) p1 4 4).bind fun q8 => (m_Log_isNumber q8).bind fun q9 => if q9 = 0 then
          (some 0)
          else
          ((m_Log_rowsOfMark q5).bind fun q11 => (m_Medium_rows (g_medium g)).bind fun q12 => if q12 < (p1 + q11) then
            (some 0)
            else
            ((m_Medium_number (g_medium g) p1 8 8).bind fun q14 => (m_Log_entriesOf q5).bind fun q15 => (m_Medium_digest (g_medium g) (p1 + 1) q15).bind fun q16 => if (lg_cmp q14 q16) = 0 then
              ((m_Log_areEntriesRising g p1 q5).bind fun q18 => if q18 = 0 then
                (some 0)
                else
                (some 1))
              else
              (some 0)))))))
  else
  (some 0)
noncomputable def m_Log_learnMark_L61  : Nat → St_Log → Int32 → Int32 → Int32 → Int32 → Int32 → Option (Int32 × St_Log)
  | 0, _, _, _, _, _, _ => none
  | n + 1, g, v1, v2, v3, v4, v5 => if v3 ≤ v5 then
    ((m_Log_rowsOfMark v3).bind fun q9 => (m_Room_take (g_room g) v1 q9).bind fun q10 => (m_Log_rowsOfMark v3).bind fun q11 => some (q11, (s_greatestMark (s_room g q10) (jmax (g_greatestMark g) v2))))
    else
    ((m_Log_entryRow v1 v5).bind fun q12 => (m_Log_entryByte v5).bind fun q13 => (m_Medium_number (g_medium g) q12 q13 4).bind fun q14 => (m_Marks_setPart (g_kept g) v4 v5 ((q14).toInt32)).bind fun q15 => m_Log_learnMark_L61 n (s_greatestPart (s_kept g q15) (jmax (g_greatestPart g) ((q14).toInt32))) v1 v2 v3 v4 (v5 + 1))
noncomputable def m_Log_learnMark (g : St_Log) (p1 : Int32) : Option (Int32 × St_Log) :=
  (m_Medium_number (g_medium g) p1 4 4).bind fun q1 => (m_Medium_at (g_medium g) p1 1).bind fun q2 => (m_Marks_find (g_kept g) ((q1).toInt32)).bind fun q3 => if q3 = (-1) then
  ((m_Medium_number (g_medium g) p1 8 8).bind fun q6 => (m_Marks_add (g_kept g) ((q1).toInt32) q2 p1 q6).bind fun q7 => m_Log_learnMark_L61 FU (s_kept g q7.2) p1 ((q1).toInt32) q2 q7.1 0)
  else
  ((m_Log_rowsOfMark q2).bind fun q5 => some (q5, g))
noncomputable def m_Log_learnPart (g : St_Log) (p1 : Int32) : Option (Int32 × St_Log) :=
  (m_Medium_number (g_medium g) p1 4 4).bind fun q1 => (m_Medium_number (g_medium g) p1 2 2).bind fun q2 => (m_Parts_find (g_parts g) ((q1).toInt32)).bind fun q3 => if q3 = (-1) then
  ((m_Medium_at (g_medium g) p1 1).bind fun q6 => (m_Medium_number (g_medium g) p1 8 8).bind fun q7 => (m_Parts_add (g_parts g) ((q1).toInt32) q6 ((q2).toInt32) p1 q7).bind fun q8 => (m_Log_rowsOfPart ((q2).toInt32)).bind fun q9 => (m_Room_take (g_room g) p1 q9).bind fun q10 => (m_Log_rowsOfPart ((q2).toInt32)).bind fun q11 => some (q11, (s_greatestPart (s_room (s_parts g q8) q10) (jmax (g_greatestPart g) ((q1).toInt32)))))
  else
  ((m_Log_rowsOfPart ((q2).toInt32)).bind fun q5 => some (q5, g))
noncomputable def m_Log_learnRow (g : St_Log) (p1 : Int32) : Option (Int32 × St_Log) :=
  (m_Log_isPartThere g p1).bind fun q1 => if q1 = 0 then
  ((m_Log_isMarkThere g p1).bind fun q3 => if q3 = 0 then
    (some (1, g))
    else
    ((m_Log_learnMark g p1).bind fun q5 => some (q5.1, q5.2)))
  else
  ((m_Log_learnPart g p1).bind fun q6 => some (q6.1, q6.2))
noncomputable def m_Log_open__L12  : Nat → St_Log → Int32 → Option (Int32 × St_Log)
  | 0, _, _ => none
  | n + 1, g, v2 => (m_Medium_rows (g_medium g)).bind fun q3 => if q3 ≤ v2 then
    ((m_Marks_size (g_kept g)).bind fun q5 => some (q5, (s_isOpen g 1)))
    else
    ((m_Log_learnRow g v2).bind fun q6 => m_Log_open__L12 n q6.2 (v2 + (jmax 1 q6.1)))
noncomputable def m_Log_open_ (g : St_Log)  : Option (Int32 × St_Log) :=
  (m_Log_forget g).bind fun q1 => (m_Log_readHeads q1).bind fun q2 => m_Log_open__L12 FU q2 2
noncomputable def m_Marks_digestAt (x : St_Marks) (p1 : Int32) : Option (Int64) :=
  (m_Marks_has x p1).bind fun q1 => if q1 = 0 then
  (some 0)
  else
  (if p1 < 0 ∨ x.2.2.2.2.1.1 ≤ (p1).toNatClampNeg then none else some (x.2.2.2.2.1.2 (p1).toNatClampNeg))
noncomputable def m_Log_isKeptAsFound (g : St_Log) (p1 : Int32) : Option (Int32) :=
  (m_Marks_rowAt (g_kept g) p1).bind fun q1 => (m_Marks_countAt (g_kept g) p1).bind fun q2 => (m_Marks_digestAt (g_kept g) p1).bind fun q3 => (m_Medium_at (g_medium g) q1 0).bind fun q4 => if q4 = 2 then
  ((m_Medium_isSumRight (g_medium g) q1).bind fun q6 => if q6 = 0 then
    (some 0)
    else
    ((m_Medium_number (g_medium g) q1 4 4).bind fun q8 => (m_Marks_numberAt (g_kept g) p1).bind fun q9 => if (lg_cmp q8 ((q9).toInt64)) = 0 then
      ((m_Medium_at (g_medium g) q1 1).bind fun q11 => if q11 = q2 then
        ((m_Medium_number (g_medium g) q1 8 8).bind fun q13 => if (lg_cmp q13 q3) = 0 then
          ((m_Log_entriesOf q2).bind fun q15 => (m_Medium_digest (g_medium g) (q1 + 1) q15).bind fun q16 => if (lg_cmp q16 q3) = 0 then
            (some 1)
            else
            (some 0))
          else
          (some 0))
        else
        (some 0))
      else
      (some 0)))
  else
  (some 0)
noncomputable def m_Log_isEntryRight (g : St_Log) (p1 : Int32) (p2 : Int32) (p3 : Int32) : Option (Int32) :=
  (m_Log_entryRow p1 p2).bind fun q1 => (m_Log_entryByte p2).bind fun q2 => (m_Parts_rowAt (g_parts g) p3).bind fun q3 => (m_Medium_number (g_medium g) q1 (q2 + 4) 2).bind fun q4 => if (lg_cmp q4 ((q3).toInt64)) = 0 then
  ((m_Medium_number (g_medium g) q1 (q2 + 6) 8).bind fun q6 => (m_Medium_number (g_medium g) q3 16 8).bind fun q7 => if (lg_cmp q6 q7) = 0 then
    (some 1)
    else
    (some 0))
  else
  (some 0)
noncomputable def m_Log_isPartWhole (g : St_Log) (p1 : Int32) : Option (Int32) :=
  (m_Parts_rowAt (g_parts g) p1).bind fun q1 => (m_Parts_lengthAt (g_parts g) p1).bind fun q2 => (m_Medium_at (g_medium g) q1 0).bind fun q3 => if q3 = 1 then
  ((m_Medium_isSumRight (g_medium g) q1).bind fun q5 => if q5 = 0 then
    (some 0)
    else
    ((m_Medium_number (g_medium g) q1 4 4).bind fun q7 => (m_Parts_numberAt (g_parts g) p1).bind fun q8 => if (lg_cmp q7 ((q8).toInt64)) = 0 then
      ((m_Medium_number (g_medium g) q1 2 2).bind fun q10 => if (lg_cmp q10 ((q2).toInt64)) = 0 then
        ((m_Medium_number (g_medium g) q1 16 8).bind fun q12 => (m_Log_bodiesOf q2).bind fun q13 => (m_Medium_digest (g_medium g) (q1 + 1) q13).bind fun q14 => if (lg_cmp q12 q14) = 0 then
          (some 1)
          else
          (some 0))
        else
        (some 0))
      else
      (some 0)))
  else
  (some 0)
noncomputable def m_Log_isKeptWhole_L21 (g : St_Log) : Nat → Int32 → Int32 → Int32 → Option (Int32)
  | 0, _, _, _ => none
  | n + 1, v1, v2, v3 => (m_Marks_countAt (g_kept g) v1).bind fun q4 => if q4 ≤ v3 then
    (some 1)
    else
    ((m_Marks_partAt (g_kept g) v1 v3).bind fun q6 => (m_Parts_find (g_parts g) q6).bind fun q7 => if q7 = (-1) then
      (some 0)
      else
      ((m_Log_isEntryRight g v2 v3 q7).bind fun q9 => if q9 = 0 then
        (some 0)
        else
        ((m_Log_isPartWhole g q7).bind fun q11 => if q11 = 0 then
          (some 0)
          else
          (m_Log_isKeptWhole_L21 g n v1 v2 (v3 + 1)))))
noncomputable def m_Log_isKeptWhole (g : St_Log) (p1 : Int32) : Option (Int32) :=
  (m_Log_isKeptAsFound g p1).bind fun q1 => if q1 = 0 then
  (some 0)
  else
  ((m_Marks_rowAt (g_kept g) p1).bind fun q3 => m_Log_isKeptWhole_L21 g FU p1 q3 0)
noncomputable def m_Log_usable_L20 (g : St_Log) : Nat → Int32 → Option (Int32)
  | 0, _ => none
  | n + 1, v1 => if v1 < 0 then
    (some (-1))
    else
    ((m_Log_isKeptWhole g v1).bind fun q4 => if q4 = 0 then
      (m_Log_usable_L20 g n (v1 + (-1)))
      else
      ((m_Marks_numberAt (g_kept g) v1).bind fun q6 => some q6))
noncomputable def m_Log_usable (g : St_Log)  : Option (Int32) :=
  if (g_isOpen g) = 0 then
  (some (-3))
  else
  ((m_Marks_size (g_kept g)).bind fun q2 => m_Log_usable_L20 g FU (q2 - 1))
noncomputable def m_Log_tableOf (g : St_Log) (p1 : Int32) : Option (Nat) :=
  (m_Marks_find (g_kept g) p1).bind fun q1 => if q1 = (-1) then
  ((m_Marks_find (g_made g) p1).bind fun q3 => if q3 = (-1) then
    (some 0)
    else
    (some 2))
  else
  (some 1)
noncomputable def m_Log_isMadeWhole_L2 (g : St_Log) : Nat → Int32 → Int32 → Option (Int32)
  | 0, _, _ => none
  | n + 1, v1, v2 => (m_Marks_countAt (g_made g) v1).bind fun q1 => if q1 ≤ v2 then
    (some 1)
    else
    ((m_Marks_partAt (g_made g) v1 v2).bind fun q3 => (m_Parts_find (g_parts g) q3).bind fun q4 => if q4 = (-1) then
      (some 0)
      else
      ((m_Log_isPartWhole g q4).bind fun q6 => if q6 = 0 then
        (some 0)
        else
        (m_Log_isMadeWhole_L2 g n v1 (v2 + 1))))
noncomputable def m_Log_isMadeWhole (g : St_Log) (p1 : Int32) : Option (Int32) :=
  m_Log_isMadeWhole_L2 g FU p1 0
noncomputable def m_Log_isMarkWhole (g : St_Log) (p1 : Int32) : Option (Int32) :=
  (m_Marks_find (g_kept g) p1).bind fun q1 => if q1 = (-1) then
  ((m_Marks_find (g_made g) p1).bind fun q3 => if q3 = (-1) then
    (some 0)
    else
    ((m_Log_isMadeWhole g q3).bind fun q5 => if q5 = 0 then
      (some 0)
      else
      (some 1)))
  else
  ((m_Log_isKeptWhole g q1).bind fun q7 => if ¬ (q7 = 0 ∨ q7 = 1) then none else some q7)
noncomputable def m_Log_whole (g : St_Log) (p1 : Int32) : Option (Int32) :=
  if (g_isOpen g) = 0 then
  (some (-3))
  else
  ((m_Log_tableOf g p1).bind fun q2 => if q2 = 1 then
    ((m_Log_isMarkWhole g p1).bind fun q4 => if q4 = 0 then
      (some 0)
      else
      (some 1))
    else if q2 = 2 then
    ((m_Log_isMarkWhole g p1).bind fun q7 => if q7 = 0 then
      (some 0)
      else
      (some 1))
    else some (-1))
noncomputable def m_Log_marks (g : St_Log) (p1 : Int32) : Option (Int32) :=
  if (g_isOpen g) = 0 then
  (some (-3))
  else
  (if p1 = (-1) then
    ((m_Marks_size (g_kept g)).bind fun q4 => some q4)
    else
    ((m_Marks_numberAt (g_kept g) p1).bind fun q3 => some q3))
noncomputable def m_Log_markOf (g : St_Log) (p1 : Int32) (p2 : Int32) : Option (Int32) :=
  if (g_isOpen g) = 0 then
  (some (-3))
  else
  ((m_Log_tableOf g p1).bind fun q2 => if q2 = 1 then
    ((m_Marks_find (g_kept g) p1).bind fun q4 => if p2 = (-1) then
      ((m_Marks_countAt (g_kept g) q4).bind fun q7 => some q7)
      else
      ((m_Marks_partAt (g_kept g) q4 p2).bind fun q6 => some q6))
    else if q2 = 2 then
    ((m_Marks_find (g_made g) p1).bind fun q9 => if p2 = (-1) then
      ((m_Marks_countAt (g_made g) q9).bind fun q12 => some q12)
      else
      ((m_Marks_partAt (g_made g) q9 p2).bind fun q11 => some q11))
    else some (-1))
noncomputable def m_Parts_groupAt (x : St_Parts) (p1 : Int32) : Option (Int32) :=
  (m_Parts_has x p1).bind fun q1 => if q1 = 0 then
  (some (-1))
  else
  (if p1 < 0 ∨ x.2.1.1 ≤ (p1).toNatClampNeg then none else some (x.2.1.2 (p1).toNatClampNeg))
noncomputable def m_Parts_positionAt (x : St_Parts) (p1 : Int32) : Option (Int64) :=
  (m_Parts_has x p1).bind fun q1 => if q1 = 0 then
  (some (-1))
  else
  (if p1 < 0 ∨ x.2.2.2.2.1.1 ≤ (p1).toNatClampNeg then none else some (x.2.2.2.2.1.2 (p1).toNatClampNeg))
noncomputable def m_Log_partOf (g : St_Log) (p1 : Int32) (p2 : Int32) : Option (Int64) :=
  if (g_isOpen g) = 0 then
  (some (-3))
  else
  (if p2 < 0 then
    (some (-2))
    else
    (if p2 ≤ 5 then
      ((m_Parts_find (g_parts g) p1).bind fun q4 => if q4 = (-1) then
        (some (-1))
        else
        (if p2 = 0 then
          ((m_Parts_groupAt (g_parts g) q4).bind fun q7 => some ((q7).toInt64))
          else if p2 = 1 then
          ((m_Parts_positionAt (g_parts g) q4).bind fun q9 => some q9)
          else if p2 = 2 then
          ((m_Parts_lengthAt (g_parts g) q4).bind fun q11 => some ((q11).toInt64))
          else if p2 = 3 then
          ((m_Parts_rowAt (g_parts g) q4).bind fun q13 => some ((q13).toInt64))
          else if p2 = 4 then
          ((m_Log_isPartWhole g q4).bind fun q15 => if q15 = 0 then
            (some 0)
            else
            (some 1))
          else (m_Log_countNaming g p1).bind fun q17 => some ((q17).toInt64)))
      else
      (some (-2))))
noncomputable def m_Log_byteOfPart (g : St_Log) (p1 : Int32) (p2 : Int32) : Option (Int32) :=
  (m_Parts_rowAt (g_parts g) p1).bind fun q1 => (m_Medium_at (g_medium g) ((q1 + 1) + (p2 / 31)) (1 + (jrem p2 31))).bind fun q2 => some q2
noncomputable def m_Log_partByte (g : St_Log) (p1 : Int32) (p2 : Int32) : Option (Int32) :=
  if (g_isOpen g) = 0 then
  (some (-3))
  else
  ((m_Parts_find (g_parts g) p1).bind fun q2 => if q2 = (-1) then
    (some (-1))
    else
    (if p2 < 0 then
      (some (-1))
      else
      ((m_Parts_lengthAt (g_parts g) q2).bind fun q5 => if p2 < q5 then
        ((m_Log_byteOfPart g q2 p2).bind fun q7 => some q7)
        else
        (some (-1)))))
noncomputable def m_Log_named (g : St_Log) (p1 : Int32) : Option (Int32) :=
  if (g_isOpen g) = 0 then
  (some (-3))
  else
  ((m_Log_countNaming g p1).bind fun q2 => some q2)
noncomputable def m_Medium_isClear_L2 (x : St_Medium) : Nat → Int32 → Int32 → Option (Int32)
  | 0, _, _ => none
  | n + 1, v1, v2 => if 32 ≤ v2 then
    (some 1)
    else
    ((m_Medium_at x v1 v2).bind fun q2 => if q2 = 0 then
      (m_Medium_isClear_L2 x n v1 (v2 + 1))
      else
      (some 0))
noncomputable def m_Medium_isClear (x : St_Medium) (p1 : Int32) : Option (Int32) :=
  m_Medium_isClear_L2 x FU p1 0
noncomputable def m_Log_badAt_L102 (g : St_Log) : Nat → Int32 → Int32 → Option (Int32)
  | 0, _, _ => none
  | n + 1, v1, v2 => (m_Marks_size (g_kept g)).bind fun q6 => if q6 ≤ v2 then
    ((m_Medium_rows (g_medium g)).bind fun q8 => if q8 ≤ v1 then
      (some (-1))
      else
      (some v1))
    else
    ((m_Marks_rowAt (g_kept g) v2).bind fun q10 => if v1 ≤ q10 then
      (m_Log_badAt_L102 g n v1 (v2 + 1))
      else
      ((m_Log_isKeptAsFound g v2).bind fun q12 => if q12 = 0 then
        ((m_Marks_rowAt (g_kept g) v2).bind fun q14 => m_Log_badAt_L102 g n q14 (v2 + 1))
        else
        (m_Log_badAt_L102 g n v1 (v2 + 1))))
noncomputable def m_Log_badAt_L54 (g : St_Log) : Nat → Int32 → Int32 → Option (Int32)
  | 0, _, _ => none
  | n + 1, v1, v2 => (m_Parts_size (g_parts g)).bind fun q4 => if q4 ≤ v2 then
    (m_Log_badAt_L102 g FU v1 0)
    else
    ((m_Parts_rowAt (g_parts g) v2).bind fun q15 => if v1 ≤ q15 then
      (m_Log_badAt_L54 g n v1 (v2 + 1))
      else
      ((m_Log_isPartWhole g v2).bind fun q17 => if q17 = 0 then
        ((m_Parts_rowAt (g_parts g) v2).bind fun q19 => m_Log_badAt_L54 g n q19 (v2 + 1))
        else
        (m_Log_badAt_L54 g n v1 (v2 + 1))))
noncomputable def m_Log_badAt_L12 (g : St_Log) : Nat → Int32 → Option (Int32)
  | 0, _ => none
  | n + 1, v1 => if 2 ≤ v1 then
    ((m_Medium_rows (g_medium g)).bind fun q3 => m_Log_badAt_L54 g FU q3 0)
    else
    ((m_Medium_isClear (g_medium g) v1).bind fun q20 => if q20 = 0 then
      ((m_Log_isGoodHead g v1).bind fun q22 => if q22 = 0 then
        (some v1)
        else
        (m_Log_badAt_L12 g n (v1 + 1)))
      else
      (m_Log_badAt_L12 g n (v1 + 1)))
noncomputable def m_Log_badAt (g : St_Log)  : Option (Int32) :=
  if (g_isOpen g) = 0 then
  (some (-3))
  else
  (m_Log_badAt_L12 g FU 0)
noncomputable def m_Medium_alter (x : St_Medium) (p1 : Int32) (p2 : Int32) (p3 : Int32) : Option (St_Medium) :=
  (m_Medium_has x p1 p2).bind fun q1 => if q1 = 0 then
  (some x)
  else
  (if ((p1 * 32) + p2) < 0 ∨ x.2.1.1 ≤ (((p1 * 32) + p2)).toNatClampNeg then none else if ((p1 * 32) + p2) < 0 ∨ x.2.1.1 ≤ (((p1 * 32) + p2)).toNatClampNeg then none else some (x.1, (x.2.1.1, upd x.2.1.2 (((p1 * 32) + p2)).toNatClampNeg (vp_nar .byte ((((x.2.1.2 (((p1 * 32) + p2)).toNatClampNeg) ^^^ ((p3).toInt8.toInt32))).toInt8.toInt32))), x.2.2.1, x.2.2.2))
noncomputable def m_Log_poke (g : St_Log) (p1 : Int32) (p2 : Int32) (p3 : Int32) : Option (Int32 × St_Log) :=
  (m_Medium_has (g_medium g) p1 p2).bind fun q1 => if q1 = 0 then
  (some ((-2), g))
  else
  (if p3 < 1 then
    (some ((-2), g))
    else
    (if p3 ≤ 255 then
      ((m_Medium_alter (g_medium g) p1 p2 p3).bind fun q5 => (m_Medium_at q5 p1 p2).bind fun q6 => some (q6, (s_medium g q5)))
      else
      (some ((-2), g))))
noncomputable def m_Log_byteAt (g : St_Log) (p1 : Int32) (p2 : Int32) : Option (Int32) :=
  (m_Medium_has (g_medium g) p1 p2).bind fun q1 => if q1 = 0 then
  (some (-2))
  else
  ((m_Medium_at (g_medium g) p1 p2).bind fun q3 => some q3)
noncomputable def m_Room_countFree_L4 (x : St_Room) : Nat → Int32 → Int32 → Option (Int32)
  | 0, _, _ => none
  | n + 1, v1, v2 => if (nI x.1) ≤ v2 then
    (some v1)
    else
    (if v2 < 0 ∨ x.1 ≤ (v2).toNatClampNeg then none else if (x.2 (v2).toNatClampNeg) = 0 then
      (m_Room_countFree_L4 x n (v1 + 1) (v2 + 1))
      else
      (m_Room_countFree_L4 x n v1 (v2 + 1)))
noncomputable def m_Room_countFree (x : St_Room)  : Option (Int32) :=
  m_Room_countFree_L4 x FU 0 2
noncomputable def m_Log_toldOpen (g : St_Log) (p1 : Int32) : Option (Int32) :=
  if p1 = 3 then
  ((m_Room_countFree (g_room g)).bind fun q2 => some q2)
  else if p1 = 4 then
  ((m_Parts_size (g_parts g)).bind fun q4 => some q4)
  else if p1 = 5 then
  (some (g_greatestPart g))
  else if p1 = 6 then
  (some (g_greatestMark g))
  else if p1 = 7 then
  (some (g_serial g))
  else if p1 = 8 then
  ((m_Marks_size (g_made g)).bind fun q9 => some q9)
  else (m_Log_isGroup (p1 - 9)).bind fun q10 => if q10 = 0 then
  (some (-2))
  else
  (if (p1 - 9) < 0 ∨ (g_owners g).1 ≤ ((p1 - 9)).toNatClampNeg then none else some ((g_owners g).2 ((p1 - 9)).toNatClampNeg))
noncomputable def m_Medium_written (x : St_Medium)  : Option (Int32) :=
  some x.2.2.2
noncomputable def m_Log_told (g : St_Log) (p1 : Int32) : Option (Int32) :=
  if p1 < 0 then
  (some (-2))
  else
  (if p1 < 17 then
    (if p1 = 0 then
      (if (g_isOpen g) = 0 then
        (some 0)
        else
        (some 1))
      else
      (if p1 = 1 then
        ((m_Medium_rows (g_medium g)).bind fun q9 => some q9)
        else
        (if p1 = 2 then
          ((m_Medium_written (g_medium g)).bind fun q8 => some q8)
          else
          (if (g_isOpen g) = 0 then
            (some 0)
            else
            ((m_Log_toldOpen g p1).bind fun q7 => some q7)))))
    else
    (some (-2)))
noncomputable def m_Log_drawPartOut_savepoint_L47  : Nat → St_Log → Int32 → Int32 → Int32 → Option (St_Log)
  | 0, _, _, _, _ => none
  | n + 1, g, v2, v3, v4 => if v3 ≤ v4 then
    (some g)
    else
    ((m_Log_byteOfPart g v2 v4).bind fun q8 => (m_Bytes_add (g_savepoint g) ((q8).toInt64) 1).bind fun q9 => m_Log_drawPartOut_savepoint_L47 n (s_savepoint g q9) v2 v3 (v4 + 1))
noncomputable def m_Log_drawPartOut_savepoint (g : St_Log) (p2 : Int32) : Option (St_Log) :=
  (m_Parts_lengthAt (g_parts g) p2).bind fun q1 => (m_Parts_groupAt (g_parts g) p2).bind fun q2 => (m_Bytes_add (g_savepoint g) ((q2).toInt64) 1).bind fun q3 => (m_Parts_positionAt (g_parts g) p2).bind fun q4 => (m_Bytes_add q3 q4 8).bind fun q5 => (m_Bytes_add q5 ((q1).toInt64) 2).bind fun q6 => m_Log_drawPartOut_savepoint_L47 FU (s_savepoint (s_savepoint (s_savepoint g q3) q5) q6) p2 q1 0
noncomputable def m_Log_drawSavepoint_savepoint_L49  : Nat → St_Log → Int32 → Int32 → Int32 → Option (St_Log)
  | 0, _, _, _, _ => none
  | n + 1, g, v4, v5, v6 => if v5 ≤ v6 then
    ((m_Bytes_size (g_savepoint g)).bind fun q9 => (m_Bytes_digest (g_savepoint g) 0 q9).bind fun q10 => (m_Bytes_add (g_savepoint g) q10 8).bind fun q11 => some (s_savepoint g q11))
    else
    ((m_Marks_partAt (g_kept g) v4 v6).bind fun q12 => (m_Parts_find (g_parts g) q12).bind fun q13 => (m_Log_drawPartOut_savepoint g q13).bind fun q14 => m_Log_drawSavepoint_savepoint_L49 n q14 v4 v5 (v6 + 1))
noncomputable def m_Log_drawSavepoint_savepoint_L49a  : Nat → St_Log → Int32 → Int32 → Int32 → Option (St_Log)
  | 0, _, _, _, _ => none
  | n + 1, g, v4, v5, v6 => if v5 ≤ v6 then
    ((m_Bytes_size (g_savepoint g)).bind fun q21 => (m_Bytes_digest (g_savepoint g) 0 q21).bind fun q22 => (m_Bytes_add (g_savepoint g) q22 8).bind fun q23 => some (s_savepoint g q23))
    else
    ((m_Marks_partAt (g_made g) v4 v6).bind fun q24 => (m_Parts_find (g_parts g) q24).bind fun q25 => (m_Log_drawPartOut_savepoint g q25).bind fun q26 => m_Log_drawSavepoint_savepoint_L49a n q26 v4 v5 (v6 + 1))
noncomputable def m_Log_drawSavepoint_savepoint (g : St_Log) (p2 : Int32) : Option (St_Log) :=
  (m_Bytes_clear (g_savepoint g)).bind fun q1 => (m_Log_tableOf (s_savepoint g q1) p2).bind fun q2 => if q2 = 1 then
  ((m_Marks_find (g_kept g) p2).bind fun q4 => (m_Marks_countAt (g_kept g) q4).bind fun q5 => (m_Bytes_add q1 77 1).bind fun q6 => (m_Bytes_add q6 ((q5).toInt64) 1).bind fun q7 => m_Log_drawSavepoint_savepoint_L49 FU (s_savepoint (s_savepoint (s_savepoint g q1) q6) q7) q4 q5 0)
  else if q2 = 2 then
  ((m_Marks_find (g_made g) p2).bind fun q16 => (m_Marks_countAt (g_made g) q16).bind fun q17 => (m_Bytes_add q1 77 1).bind fun q18 => (m_Bytes_add q18 ((q17).toInt64) 1).bind fun q19 => m_Log_drawSavepoint_savepoint_L49a FU (s_savepoint (s_savepoint (s_savepoint g q1) q18) q19) q16 q17 0)
  else some (s_savepoint g q1)
noncomputable def m_Log_out (g : St_Log) (p1 : Int32) (p2 : Int32) : Option (Int32 × St_Log) :=
  if (g_isOpen g) = 0 then
  (some ((-3), g))
  else
  ((m_Log_tableOf g p1).bind fun q2 => if q2 = 1 then
    ((m_Log_isMarkWhole g p1).bind fun q4 => if q4 = 0 then
      (some ((-2), g))
      else
      ((m_Log_drawSavepoint_savepoint g p1).bind fun q6 => if p2 = (-1) then
        ((m_Bytes_size (g_savepoint q6)).bind fun q12 => some (q12, q6))
        else
        (if p2 < 0 then
          (some ((-1), q6))
          else
          ((m_Bytes_size (g_savepoint q6)).bind fun q9 => if q9 ≤ p2 then
            (some ((-1), q6))
            else
            ((m_Bytes_at (g_savepoint q6) p2).bind fun q11 => some (q11, q6))))))
    else if q2 = 2 then
    ((m_Log_isMarkWhole g p1).bind fun q14 => if q14 = 0 then
      (some ((-2), g))
      else
      ((m_Log_drawSavepoint_savepoint g p1).bind fun q16 => if p2 = (-1) then
        ((m_Bytes_size (g_savepoint q16)).bind fun q22 => some (q22, q16))
        else
        (if p2 < 0 then
          (some ((-1), q16))
          else
          ((m_Bytes_size (g_savepoint q16)).bind fun q19 => if q19 ≤ p2 then
            (some ((-1), q16))
            else
            ((m_Bytes_at (g_savepoint q16) p2).bind fun q21 => some (q21, q16))))))
    else some ((-1), g))
noncomputable def m_Bytes_number_L5 (x : St_Bytes) : Nat → Int32 → Int32 → Int64 → Int32 → Option (Int64)
  | 0, _, _, _, _ => none
  | n + 1, v1, v2, v3, v5 => if v2 ≤ v5 then
    (some v3)
    else
    ((m_Bytes_at x (v1 + v5)).bind fun q2 => m_Bytes_number_L5 x n v1 v2 ((jlshl v3 8) ||| ((q2).toInt64)) (v5 + 1))
noncomputable def m_Bytes_number (x : St_Bytes) (p1 : Int32) (p2 : Int32) : Option (Int64) :=
  m_Bytes_number_L5 x FU p1 p2 0 0
noncomputable def m_Log_lengthOnTape (g : St_Log) (p1 : Int32) : Option (Int32) :=
  (m_Bytes_number (g_tape g) (p1 + 9) 2).bind fun q1 => some ((q1).toInt32)
noncomputable def m_Log_behindPart (g : St_Log) (p1 : Int32) : Option (Int32) :=
  (m_Log_lengthOnTape g p1).bind fun q1 => some ((p1 + 11) + q1)
noncomputable def m_Log_isPartOnTape (g : St_Log) (p1 : Int32) : Option (Int32) :=
  (m_Bytes_size (g_tape g)).bind fun q1 => if q1 < (p1 + 11) then
  (some 0)
  else
  ((m_Bytes_at (g_tape g) p1).bind fun q3 => (m_Log_isGroup q3).bind fun q4 => if q4 = 0 then
    (some 0)
    else
    ((m_Log_lengthOnTape g p1).bind fun q6 => if 155 < q6 then
      (some 0)
      else
      ((m_Log_behindPart g p1).bind fun q8 => (m_Bytes_size (g_tape g)).bind fun q9 => if q9 < q8 then
        (some 0)
        else
        (some 1))))
noncomputable def m_Log_isSavepointOnTape_L39 (g : St_Log) : Nat → Int32 → Int32 → Int32 → Option (Int32)
  | 0, _, _, _ => none
  | n + 1, v1, v2, v3 => if v1 ≤ v3 then
    ((m_Bytes_size (g_tape g)).bind fun q7 => if (v2 + 8) = q7 then
      ((m_Bytes_number (g_tape g) v2 8).bind fun q9 => (m_Bytes_digest (g_tape g) 0 v2).bind fun q10 => if (lg_cmp q9 q10) = 0 then
        (some 1)
        else
        (some 0))
      else
      (some 0))
    else
    ((m_Log_isPartOnTape g v2).bind fun q12 => if q12 = 0 then
      (some 0)
      else
      ((m_Log_behindPart g v2).bind fun q14 => m_Log_isSavepointOnTape_L39 g n v1 q14 (v3 + 1)))
noncomputable def m_Log_isSavepointOnTape (g : St_Log)  : Option (Int32) :=
  (m_Bytes_at (g_tape g) 1).bind fun q1 => (m_Bytes_at (g_tape g) 0).bind fun q2 => if q2 = 77 then
  (if q1 < 1 then
    (some 0)
    else
    (if q1 ≤ 12 then
      (m_Log_isSavepointOnTape_L39 g FU q1 2 0)
      else
      (some 0)))
  else
  (some 0)
noncomputable def m_Room_copyFrom_L7 (y : St_Room) : Nat → St_Room → Int32 → Option (St_Room)
  | 0, _, _ => none
  | n + 1, x, v2 => if (nI x.1) ≤ v2 then
    (some x)
    else
    (if (nI y.1) ≤ v2 then
      (some x)
      else
      (if v2 < 0 ∨ y.1 ≤ (v2).toNatClampNeg then none else if v2 < 0 ∨ x.1 ≤ (v2).toNatClampNeg then none else m_Room_copyFrom_L7 y n (x.1, upd x.2 (v2).toNatClampNeg (vp_nar .boolean (y.2 (v2).toNatClampNeg))) (v2 + 1)))
noncomputable def m_Room_copyFrom (x : St_Room) (y : St_Room)  : Option (St_Room) :=
  m_Room_copyFrom_L7 y FU x 0
noncomputable def m_Log_isRoomForSavepoint_L51  : Nat → St_Log → Int32 → Int32 → Int32 → Option (Int32 × St_Log)
  | 0, _, _, _, _ => none
  | n + 1, g, v1, v2, v3 => if v1 ≤ v3 then
    (some (1, g))
    else
    ((m_Log_lengthOnTape g v2).bind fun q7 => (m_Log_rowsOfPart q7).bind fun q8 => (m_Room_firstRun (g_trial g) q8).bind fun q9 => if q9 = (-1) then
      (some (0, g))
      else
      ((m_Room_take (g_trial g) q9 q8).bind fun q11 => (m_Log_behindPart (s_trial g q11) v2).bind fun q12 => m_Log_isRoomForSavepoint_L51 n (s_trial g q11) v1 q12 (v3 + 1)))
noncomputable def m_Log_isRoomForSavepoint (g : St_Log) (p1 : Int32) : Option (Int32 × St_Log) :=
  (m_Marks_size (g_made g)).bind fun q1 => if 6 ≤ q1 then
  (some (0, g))
  else
  (if (g_greatestMark g) < 1000000000 then
    (if (g_greatestPart g) ≤ (1000000000 - p1) then
      ((m_Room_copyFrom (g_trial g) (g_room g)).bind fun q5 => m_Log_isRoomForSavepoint_L51 FU (s_trial g q5) p1 2 0)
      else
      (some (0, g)))
    else
    (some (0, g)))
noncomputable def m_Log_writeSavepoint_L4  : Nat → St_Log → Int32 → Int32 → Int32 → Option (Int32 × St_Log)
  | 0, _, _, _, _ => none
  | n + 1, g, v1, v2, v3 => if v1 ≤ v3 then
    (if (g_isOpen g) = 0 then
      (some ((-5), g))
      else
      ((m_Log_makeMark g v1).bind fun q3 => some (q3.1, q3.2)))
    else
    (if (g_isOpen g) = 0 then
      (if (g_isOpen g) = 0 then
        (some ((-5), g))
        else
        ((m_Log_makeMark g v1).bind fun q6 => some (q6.1, q6.2)))
      else
      ((m_Log_lengthOnTape g v2).bind fun q7 => (m_Log_rowsOfPart q7).bind fun q8 => (m_Room_firstRun (g_room g) q8).bind fun q9 => (m_Bytes_at (g_tape g) v2).bind fun q10 => (m_Bytes_number (g_tape g) (v2 + 1) 8).bind fun q11 => (m_Log_writePart g q9 q10 q11 (v2 + 11) q7).bind fun q12 => (m_Log_behindPart q12.2 v2).bind fun q13 => m_Log_writeSavepoint_L4 n q12.2 v1 q13 (v3 + 1)))
noncomputable def m_Log_writeSavepoint (g : St_Log) (p1 : Int32) : Option (Int32 × St_Log) :=
  m_Log_writeSavepoint_L4 FU g p1 2 0
noncomputable def m_Log_in_ (g : St_Log)  : Option (Int32 × St_Log) :=
  (m_Bytes_at (g_tape g) 1).bind fun q1 => if (g_isOpen g) = 0 then
  ((m_Bytes_clear (g_tape g)).bind fun q11 => some ((-3), (s_tape g q11)))
  else
  ((m_Log_isSavepointOnTape g).bind fun q3 => if q3 = 0 then
    ((m_Bytes_clear (g_tape g)).bind fun q10 => some ((-2), (s_tape g q10)))
    else
    ((m_Log_isRoomForSavepoint g q1).bind fun q5 => if q5.1 = 0 then
      ((m_Bytes_clear (g_tape q5.2)).bind fun q9 => some ((-4), (s_tape q5.2 q9)))
      else
      ((m_Log_writeSavepoint q5.2 q1).bind fun q7 => (m_Bytes_clear (g_tape q7.2)).bind fun q8 => some (q7.1, (s_tape q7.2 q8)))))
noncomputable def m_Log_drawPartOut_otherSavepoint_L47  : Nat → St_Log → Int32 → Int32 → Int32 → Option (St_Log)
  | 0, _, _, _, _ => none
  | n + 1, g, v2, v3, v4 => if v3 ≤ v4 then
    (some g)
    else
    ((m_Log_byteOfPart g v2 v4).bind fun q8 => (m_Bytes_add (g_otherSavepoint g) ((q8).toInt64) 1).bind fun q9 => m_Log_drawPartOut_otherSavepoint_L47 n (s_otherSavepoint g q9) v2 v3 (v4 + 1))
noncomputable def m_Log_drawPartOut_otherSavepoint (g : St_Log) (p2 : Int32) : Option (St_Log) :=
  (m_Parts_lengthAt (g_parts g) p2).bind fun q1 => (m_Parts_groupAt (g_parts g) p2).bind fun q2 => (m_Bytes_add (g_otherSavepoint g) ((q2).toInt64) 1).bind fun q3 => (m_Parts_positionAt (g_parts g) p2).bind fun q4 => (m_Bytes_add q3 q4 8).bind fun q5 => (m_Bytes_add q5 ((q1).toInt64) 2).bind fun q6 => m_Log_drawPartOut_otherSavepoint_L47 FU (s_otherSavepoint (s_otherSavepoint (s_otherSavepoint g q3) q5) q6) p2 q1 0
noncomputable def m_Log_drawSavepoint_otherSavepoint_L49  : Nat → St_Log → Int32 → Int32 → Int32 → Option (St_Log)
  | 0, _, _, _, _ => none
  | n + 1, g, v4, v5, v6 => if v5 ≤ v6 then
    ((m_Bytes_size (g_otherSavepoint g)).bind fun q9 => (m_Bytes_digest (g_otherSavepoint g) 0 q9).bind fun q10 => (m_Bytes_add (g_otherSavepoint g) q10 8).bind fun q11 => some (s_otherSavepoint g q11))
    else
    ((m_Marks_partAt (g_kept g) v4 v6).bind fun q12 => (m_Parts_find (g_parts g) q12).bind fun q13 => (m_Log_drawPartOut_otherSavepoint g q13).bind fun q14 => m_Log_drawSavepoint_otherSavepoint_L49 n q14 v4 v5 (v6 + 1))
noncomputable def m_Log_drawSavepoint_otherSavepoint_L49a  : Nat → St_Log → Int32 → Int32 → Int32 → Option (St_Log)
  | 0, _, _, _, _ => none
  | n + 1, g, v4, v5, v6 => if v5 ≤ v6 then
    ((m_Bytes_size (g_otherSavepoint g)).bind fun q21 => (m_Bytes_digest (g_otherSavepoint g) 0 q21).bind fun q22 => (m_Bytes_add (g_otherSavepoint g) q22 8).bind fun q23 => some (s_otherSavepoint g q23))
    else
    ((m_Marks_partAt (g_made g) v4 v6).bind fun q24 => (m_Parts_find (g_parts g) q24).bind fun q25 => (m_Log_drawPartOut_otherSavepoint g q25).bind fun q26 => m_Log_drawSavepoint_otherSavepoint_L49a n q26 v4 v5 (v6 + 1))
noncomputable def m_Log_drawSavepoint_otherSavepoint (g : St_Log) (p2 : Int32) : Option (St_Log) :=
  (m_Bytes_clear (g_otherSavepoint g)).bind fun q1 => (m_Log_tableOf (s_otherSavepoint g q1) p2).bind fun q2 => if q2 = 1 then
  ((m_Marks_find (g_kept g) p2).bind fun q4 => (m_Marks_countAt (g_kept g) q4).bind fun q5 => (m_Bytes_add q1 77 1).bind fun q6 => (m_Bytes_add q6 ((q5).toInt64) 1).bind fun q7 => m_Log_drawSavepoint_otherSavepoint_L49 FU (s_otherSavepoint (s_otherSavepoint (s_otherSavepoint g q1) q6) q7) q4 q5 0)
  else if q2 = 2 then
  ((m_Marks_find (g_made g) p2).bind fun q16 => (m_Marks_countAt (g_made g) q16).bind fun q17 => (m_Bytes_add q1 77 1).bind fun q18 => (m_Bytes_add q18 ((q17).toInt64) 1).bind fun q19 => m_Log_drawSavepoint_otherSavepoint_L49a FU (s_otherSavepoint (s_otherSavepoint (s_otherSavepoint g q1) q18) q19) q16 q17 0)
  else some (s_otherSavepoint g q1)
noncomputable def m_Bytes_isSame_L19 (x : St_Bytes) (y : St_Bytes) : Nat → Int32 → Option (Int32)
  | 0, _ => none
  | n + 1, v2 => if x.2 ≤ v2 then
    (some 1)
    else
    ((m_Bytes_at x v2).bind fun q3 => (m_Bytes_at y v2).bind fun q4 => if q3 = q4 then
      (m_Bytes_isSame_L19 x y n (v2 + 1))
      else
      (some 0))
noncomputable def m_Bytes_isSame (x : St_Bytes) (y : St_Bytes)  : Option (Int32) :=
  if y.2 = x.2 then
  (m_Bytes_isSame_L19 x y FU 0)
  else
  (some 0)
noncomputable def m_Log_equal (g : St_Log) (p1 : Int32) (p2 : Int32) : Option (Int32 × St_Log) :=
  if (g_isOpen g) = 0 then
  (some ((-3), g))
  else
  ((m_Log_tableOf g p1).bind fun q2 => if q2 = 1 then
    ((m_Log_tableOf g p2).bind fun q4 => if q4 = 1 then
      ((m_Log_isMarkWhole g p1).bind fun q6 => if q6 = 0 then
        (some ((-2), g))
        else
        ((m_Log_isMarkWhole g p2).bind fun q8 => if q8 = 0 then
          (some ((-2), g))
          else
          ((m_Log_drawSavepoint_savepoint g p1).bind fun q10 => (m_Log_drawSavepoint_otherSavepoint q10 p2).bind fun q11 => (m_Bytes_isSame (g_savepoint q11) (g_otherSavepoint q11)).bind fun q12 => if q12 = 0 then
            (some (0, q11))
            else
            (some (1, q11)))))
      else if q4 = 2 then
      ((m_Log_isMarkWhole g p1).bind fun q15 => if q15 = 0 then
        (some ((-2), g))
        else
        ((m_Log_isMarkWhole g p2).bind fun q17 => if q17 = 0 then
          (some ((-2), g))
          else
          ((m_Log_drawSavepoint_savepoint g p1).bind fun q19 => (m_Log_drawSavepoint_otherSavepoint q19 p2).bind fun q20 => (m_Bytes_isSame (g_savepoint q20) (g_otherSavepoint q20)).bind fun q21 => if q21 = 0 then
            (some (0, q20))
            else
            (some (1, q20)))))
      else some ((-1), g))
    else if q2 = 2 then
    ((m_Log_tableOf g p2).bind fun q24 => if q24 = 1 then
      ((m_Log_isMarkWhole g p1).bind fun q26 => if q26 = 0 then
        (some ((-2), g))
        else
        ((m_Log_isMarkWhole g p2).bind fun q28 => if q28 = 0 then
          (some ((-2), g))
          else
          ((m_Log_drawSavepoint_savepoint g p1).bind fun q30 => (m_Log_drawSavepoint_otherSavepoint q30 p2).bind fun q31 => (m_Bytes_isSame (g_savepoint q31) (g_otherSavepoint q31)).bind fun q32 => if q32 = 0 then
            (some (0, q31))
            else
            (some (1, q31)))))
      else if q24 = 2 then
      ((m_Log_isMarkWhole g p1).bind fun q35 => if q35 = 0 then
        (some ((-2), g))
        else
        ((m_Log_isMarkWhole g p2).bind fun q37 => if q37 = 0 then
          (some ((-2), g))
          else
          ((m_Log_drawSavepoint_savepoint g p1).bind fun q39 => (m_Log_drawSavepoint_otherSavepoint q39 p2).bind fun q40 => (m_Bytes_isSame (g_savepoint q40) (g_otherSavepoint q40)).bind fun q41 => if q41 = 0 then
            (some (0, q40))
            else
            (some (1, q40)))))
      else some ((-1), g))
    else some ((-1), g))
noncomputable def m_Medium_init (p1 : Int32) : Option St_Medium :=
  if ((jmax 4 (jmin 512 p1)) * 32) < 0 ∨ 16384 < (((jmax 4 (jmin 512 p1)) * 32)).toNatClampNeg then none else some ((jmax 4 (jmin 512 p1)), ((((jmax 4 (jmin 512 p1)) * 32)).toNatClampNeg, fun _ => 0), (-1), 0)
noncomputable def m_Bytes_init (p1 : Int32) : Option St_Bytes :=
  if (jmax 0 p1) < 0 ∨ 2048 < ((jmax 0 p1)).toNatClampNeg then none else some ((((jmax 0 p1)).toNatClampNeg, fun _ => 0), 0)
noncomputable def m_Room_init (p1 : Int32) : Option St_Room :=
  if (jmax 0 p1) < 0 ∨ 512 < ((jmax 0 p1)).toNatClampNeg then none else some (((jmax 0 p1)).toNatClampNeg, fun _ => 0)
noncomputable def m_Parts_init (p1 : Int32) : Option St_Parts :=
  if (jmax 0 p1) < 0 ∨ 512 < ((jmax 0 p1)).toNatClampNeg then none else if (jmax 0 p1) < 0 ∨ 512 < ((jmax 0 p1)).toNatClampNeg then none else if (jmax 0 p1) < 0 ∨ 512 < ((jmax 0 p1)).toNatClampNeg then none else if (jmax 0 p1) < 0 ∨ 512 < ((jmax 0 p1)).toNatClampNeg then none else if (jmax 0 p1) < 0 ∨ 512 < ((jmax 0 p1)).toNatClampNeg then none else some ((((jmax 0 p1)).toNatClampNeg, fun _ => 0), (((jmax 0 p1)).toNatClampNeg, fun _ => 0), (((jmax 0 p1)).toNatClampNeg, fun _ => 0), (((jmax 0 p1)).toNatClampNeg, fun _ => 0), (((jmax 0 p1)).toNatClampNeg, fun _ => 0), 0)
noncomputable def m_Marks_init (p1 : Int32) : Option St_Marks :=
  if (jmax 0 p1) < 0 ∨ 256 < ((jmax 0 p1)).toNatClampNeg then none else if (jmax 0 p1) < 0 ∨ 256 < ((jmax 0 p1)).toNatClampNeg then none else if (jmax 0 p1) < 0 ∨ 256 < ((jmax 0 p1)).toNatClampNeg then none else if (jmax 0 p1) < 0 ∨ 256 < ((jmax 0 p1)).toNatClampNeg then none else if ((jmax 0 p1) * 12) < 0 ∨ 3072 < (((jmax 0 p1) * 12)).toNatClampNeg then none else some ((((jmax 0 p1)).toNatClampNeg, fun _ => 0), (((jmax 0 p1)).toNatClampNeg, fun _ => 0), (((jmax 0 p1)).toNatClampNeg, fun _ => 0), ((((jmax 0 p1) * 12)).toNatClampNeg, fun _ => 0), (((jmax 0 p1)).toNatClampNeg, fun _ => 0), 0)
noncomputable def m_Log_init (p1 : Int32) : Option St_Log :=
  (m_Medium_init p1).bind fun q2 => (m_Bytes_init 2000).bind fun q5 => (m_Bytes_init 224).bind fun q8 => (m_Bytes_init 2002).bind fun q11 => (m_Bytes_init 2002).bind fun q14 => (m_Medium_rows q2).bind fun q17 => (m_Room_init q17).bind fun q18 => (m_Medium_rows q2).bind fun q21 => (m_Room_init q21).bind fun q22 => (m_Medium_rows q2).bind fun q25 => (m_Parts_init q25).bind fun q26 => (m_Medium_rows q2).bind fun q29 => (m_Marks_init (q29 / 2)).bind fun q30 => (m_Marks_init 6).bind fun q33 => if (8 : Int32) < 0 ∨ 8 < ((8 : Int32)).toNatClampNeg then none else some (q2, q5, q8, q11, q14, q18, q22, q26, q30, q33, (((8 : Int32)).toNatClampNeg, fun _ => 0), 0, 0, 0, 1)
