noncomputable def m_RRef_number_L5 (x : AI) : Nat → Int32 → Int32 → Int64 → Int32 → Option (Int64)
  | 0, _, _, _, _ => none
  | n + 1, v1, v2, v3, v5 => if v2 ≤ v5 then
    (some v3)
    else
    (if (v1 + v5) < 0 ∨ x.1 ≤ ((v1 + v5)).toNatClampNeg then none else m_RRef_number_L5 x n v1 v2 ((jlshl v3 8) ||| ((((x.2 ((v1 + v5)).toNatClampNeg)).toInt64) &&& 255)) (v5 + 1))
noncomputable def m_RRef_number (x : AI) (p1 : Int32) (p2 : Int32) : Option (Int64) :=
  m_RRef_number_L5 x FU p1 p2 0 0
noncomputable def m_RRef_kind (g : St_Ref) (p1 : Int32) : Option (Int32) :=
  if (32 * p1) < 0 ∨ (g_Rmedium g).1 ≤ ((32 * p1)).toNatClampNeg then none else some (((g_Rmedium g).2 ((32 * p1)).toNatClampNeg) &&& 255)
noncomputable def m_RRef_digest_L5 (x : AI) : Nat → Int32 → Int32 → Int64 → Int32 → Option (Int64)
  | 0, _, _, _, _ => none
  | n + 1, v1, v2, v3, v5 => if v2 ≤ v5 then
    (some v3)
    else
    (if (v1 + v5) < 0 ∨ x.1 ≤ ((v1 + v5)).toNatClampNeg then none else m_RRef_digest_L5 x n v1 v2 (((jlshl (v3 ^^^ ((((x.2 ((v1 + v5)).toNatClampNeg)).toInt64) &&& 255)) 53) ||| (jlushr (v3 ^^^ ((((x.2 ((v1 + v5)).toNatClampNeg)).toInt64) &&& 255)) 11)) * (-4417276706812531889)) (v5 + 1))
noncomputable def m_RRef_digest (x : AI) (p1 : Int32) (p2 : Int32) : Option (Int64) :=
  m_RRef_digest_L5 x FU p1 p2 0 0
noncomputable def m_RRef_isSummed (g : St_Ref) (p1 : Int32) : Option (Int32) :=
  (m_RRef_number (g_Rmedium g) ((32 * p1) + 24) 8).bind fun q1 => (m_RRef_digest (g_Rmedium g) (32 * p1) 24).bind fun q2 => if (lg_cmp q1 q2) = 0 then
  (some 1)
  else
  (some 0)
noncomputable def m_RRef_isGood (g : St_Ref) (p1 : Int32) : Option (Int32) :=
  (m_RRef_number (g_Rmedium g) ((32 * p1) + 4) 4).bind fun q1 => (m_RRef_kind g p1).bind fun q2 => if q2 = 4 then
  ((m_RRef_isSummed g p1).bind fun q4 => if q4 = 0 then
    (some 0)
    else
    (if (lg_cmp q1 1) < 0 then
      (some 0)
      else
      (if 0 < (lg_cmp q1 1000000000) then
        (some 0)
        else
        (some 1))))
  else
  (some 0)
noncomputable def m_RRef_heads_L65  : Nat → St_Ref → Int32 → Int32 → Option (St_Ref)
  | 0, _, _, _ => none
  | n + 1, g, v1, v2 => if 8 ≤ v2 then
    (some g)
    else
    (if v1 = (-1) then
      (if v2 < 0 ∨ (g_Rowners g).1 ≤ (v2).toNatClampNeg then none else m_RRef_heads_L65 n (s_Rowners g ((g_Rowners g).1, upd (g_Rowners g).2 (v2).toNatClampNeg 0)) v1 (v2 + 1))
      else
      ((m_RRef_number (g_Rmedium g) (((32 * v1) + 8) + (2 * v2)) 2).bind fun q4 => if v2 < 0 ∨ (g_Rowners g).1 ≤ (v2).toNatClampNeg then none else m_RRef_heads_L65 n (s_Rowners g ((g_Rowners g).1, upd (g_Rowners g).2 (v2).toNatClampNeg ((q4).toInt32))) v1 (v2 + 1)))
noncomputable def m_RRef_heads_L9  : Nat → St_Ref → Int32 → Int32 → Option (St_Ref)
  | 0, _, _, _ => none
  | n + 1, g, v1, v2 => if 2 ≤ v2 then
    (m_RRef_heads_L65 FU g v1 0)
    else
    ((m_RRef_isGood g v2).bind fun q7 => if q7 = 0 then
      (if 0 ≤ (g_Rserial g) then
        (m_RRef_heads_L9 n g v1 (v2 + 1))
        else
        (m_RRef_heads_L9 n (s_Rserial g 0) v2 (v2 + 1)))
      else
      ((m_RRef_number (g_Rmedium g) ((32 * v2) + 4) 4).bind fun q10 => if ((q10).toInt32) ≤ (g_Rserial g) then
        (m_RRef_heads_L9 n g v1 (v2 + 1))
        else
        (m_RRef_heads_L9 n (s_Rserial g ((q10).toInt32)) v2 (v2 + 1))))
noncomputable def m_RRef_heads (g : St_Ref)  : Option (St_Ref) :=
  m_RRef_heads_L9 FU (s_Rserial g 0) (-1) 0
noncomputable def m_RRef_bodies  (p0 : Int32) : Option (Int32) :=
  some ((p0 + 30) / 31)
noncomputable def m_RRef_partAt (g : St_Ref) (p1 : Int32) : Option (Int32) :=
  (m_RRef_number (g_Rmedium g) ((32 * p1) + 4) 4).bind fun q1 => (m_RRef_number (g_Rmedium g) ((32 * p1) + 2) 2).bind fun q2 => (m_RRef_kind g p1).bind fun q3 => if q3 = 1 then
  ((m_RRef_isSummed g p1).bind fun q6 => if q6 = 0 then
    ((m_RRef_bodies ((q2).toInt32)).bind fun q8 => some 0)
    else
    (if ((32 * p1) + 1) < 0 ∨ (g_Rmedium g).1 ≤ (((32 * p1) + 1)).toNatClampNeg then none else if 8 ≤ (((g_Rmedium g).2 (((32 * p1) + 1)).toNatClampNeg) &&& 255) then
      ((m_RRef_bodies ((q2).toInt32)).bind fun q11 => some 0)
      else
      (if 155 < ((q2).toInt32) then
        ((m_RRef_bodies ((q2).toInt32)).bind fun q13 => some 0)
        else
        (if (lg_cmp q1 1) < 0 then
          ((m_RRef_bodies ((q2).toInt32)).bind fun q15 => some 0)
          else
          (if 0 < (lg_cmp q1 1000000000) then
            ((m_RRef_bodies ((q2).toInt32)).bind fun q17 => some 0)
            else
            ((m_RRef_bodies ((q2).toInt32)).bind fun q18 => if (g_Rrows g) < (p1 + (1 + q18)) then
              (some 0)
              else
              (some (1 + q18))))))))
  else
  ((m_RRef_bodies ((q2).toInt32)).bind fun q5 => some 0)
noncomputable def m_RRef_findPart_L2 (g : St_Ref) : Nat → Int32 → Int32 → Option (Int32)
  | 0, _, _ => none
  | n + 1, v1, v2 => if (g_Rparts g) ≤ v2 then
    (some (-1))
    else
    (if v2 < 0 ∨ (g_RpNumber g).1 ≤ (v2).toNatClampNeg then none else if ((g_RpNumber g).2 (v2).toNatClampNeg) = v1 then
      (some v2)
      else
      (m_RRef_findPart_L2 g n v1 (v2 + 1)))
noncomputable def m_RRef_findPart (g : St_Ref) (p1 : Int32) : Option (Int32) :=
  m_RRef_findPart_L2 g FU p1 0
noncomputable def m_RRef_learnPart (g : St_Ref) (p1 : Int32) : Option (St_Ref) :=
  (m_RRef_number (g_Rmedium g) ((32 * p1) + 4) 4).bind fun q1 => (m_RRef_findPart g ((q1).toInt32)).bind fun q2 => if q2 = (-1) then
  (if (g_Rparts g) < 0 ∨ (g_RpNumber g).1 ≤ ((g_Rparts g)).toNatClampNeg then none else if ((32 * p1) + 1) < 0 ∨ (g_Rmedium g).1 ≤ (((32 * p1) + 1)).toNatClampNeg then none else if (g_Rparts g) < 0 ∨ (g_RpGroup g).1 ≤ ((g_Rparts g)).toNatClampNeg then none else (m_RRef_number (g_Rmedium g) ((32 * p1) + 8) 8).bind fun q7 => if (g_Rparts g) < 0 ∨ (g_RpPosition g).1 ≤ ((g_Rparts g)).toNatClampNeg then none else (m_RRef_number (g_Rmedium g) ((32 * p1) + 2) 2).bind fun q9 => if (g_Rparts g) < 0 ∨ (g_RpLength g).1 ≤ ((g_Rparts g)).toNatClampNeg then none else if (g_Rparts g) < 0 ∨ (g_RpRow g).1 ≤ ((g_Rparts g)).toNatClampNeg then none else if ((q1).toInt32) ≤ (g_RlastPart g) then
    (some (s_RlastPart (s_Rparts (s_RpRow (s_RpLength (s_RpPosition (s_RpGroup (s_RpNumber g ((g_RpNumber g).1, upd (g_RpNumber g).2 ((g_Rparts g)).toNatClampNeg ((q1).toInt32))) ((g_RpGroup g).1, upd (g_RpGroup g).2 ((g_Rparts g)).toNatClampNeg (((g_Rmedium g).2 (((32 * p1) + 1)).toNatClampNeg) &&& 255))) ((g_RpPosition g).1, vp_updL (g_RpPosition g).2 ((g_Rparts g)).toNatClampNeg q7)) ((g_RpLength g).1, upd (g_RpLength g).2 ((g_Rparts g)).toNatClampNeg ((q9).toInt32))) ((g_RpRow g).1, upd (g_RpRow g).2 ((g_Rparts g)).toNatClampNeg p1)) ((g_Rparts g) + 1)) (g_RlastPart g)))
    else
    (some (s_RlastPart (s_Rparts (s_RpRow (s_RpLength (s_RpPosition (s_RpGroup (s_RpNumber g ((g_RpNumber g).1, upd (g_RpNumber g).2 ((g_Rparts g)).toNatClampNeg ((q1).toInt32))) ((g_RpGroup g).1, upd (g_RpGroup g).2 ((g_Rparts g)).toNatClampNeg (((g_Rmedium g).2 (((32 * p1) + 1)).toNatClampNeg) &&& 255))) ((g_RpPosition g).1, vp_updL (g_RpPosition g).2 ((g_Rparts g)).toNatClampNeg q7)) ((g_RpLength g).1, upd (g_RpLength g).2 ((g_Rparts g)).toNatClampNeg ((q9).toInt32))) ((g_RpRow g).1, upd (g_RpRow g).2 ((g_Rparts g)).toNatClampNeg p1)) ((g_Rparts g) + 1)) ((q1).toInt32))))
  else
  (some g)
noncomputable def m_RRef_entries  (p0 : Int32) : Option (Int32) :=
  some ((p0 + 1) / 2)
noncomputable def m_RRef_entryAt  (p0 : Int32) (p1 : Int32) : Option (Int32) :=
  some (((32 * ((p0 + 1) + (p1 / 2))) + 1) + (14 * (jrem p1 2)))
noncomputable def m_RRef_markAt_L156 (g : St_Ref) : Nat → Int32 → Int32 → Int32 → Int32 → Int64 → Int32 → Option (Int32)
  | 0, _, _, _, _, _, _ => none
  | n + 1, v1, v5, v6, v7, v8, v10 => if v5 ≤ v10 then
    (if v7 = 0 then
      (some 0)
      else
      (some v6))
    else
    (if v7 = 0 then
      (if v7 = 0 then
        (some 0)
        else
        (some v6))
      else
      ((m_RRef_entryAt v1 v10).bind fun q10 => (m_RRef_number (g_Rmedium g) q10 4).bind fun q11 => if (lg_cmp q11 v8) ≤ 0 then
        (m_RRef_markAt_L156 g n v1 v5 v6 0 q11 (v10 + 1))
        else
        (if 0 < (lg_cmp q11 1000000000) then
          (m_RRef_markAt_L156 g n v1 v5 v6 0 q11 (v10 + 1))
          else
          (m_RRef_markAt_L156 g n v1 v5 v6 1 q11 (v10 + 1)))))
noncomputable def m_RRef_markAt (g : St_Ref) (p1 : Int32) : Option (Int32) :=
  (m_RRef_number (g_Rmedium g) ((32 * p1) + 4) 4).bind fun q1 => if ((32 * p1) + 1) < 0 ∨ (g_Rmedium g).1 ≤ (((32 * p1) + 1)).toNatClampNeg then none else (m_RRef_entries (((g_Rmedium g).2 (((32 * p1) + 1)).toNatClampNeg) &&& 255)).bind fun q3 => (m_RRef_kind g p1).bind fun q4 => if q4 = 2 then
  ((m_RRef_isSummed g p1).bind fun q14 => if q14 = 0 then
    (m_RRef_markAt_L156 g FU p1 (((g_Rmedium g).2 (((32 * p1) + 1)).toNatClampNeg) &&& 255) (1 + q3) 0 0 0)
    else
    (if (((g_Rmedium g).2 (((32 * p1) + 1)).toNatClampNeg) &&& 255) < 1 then
      (m_RRef_markAt_L156 g FU p1 (((g_Rmedium g).2 (((32 * p1) + 1)).toNatClampNeg) &&& 255) (1 + q3) 0 0 0)
      else
      (if 12 < (((g_Rmedium g).2 (((32 * p1) + 1)).toNatClampNeg) &&& 255) then
        (m_RRef_markAt_L156 g FU p1 (((g_Rmedium g).2 (((32 * p1) + 1)).toNatClampNeg) &&& 255) (1 + q3) 0 0 0)
        else
        (if (lg_cmp q1 1) < 0 then
          (m_RRef_markAt_L156 g FU p1 (((g_Rmedium g).2 (((32 * p1) + 1)).toNatClampNeg) &&& 255) (1 + q3) 0 0 0)
          else
          (if 0 < (lg_cmp q1 1000000000) then
            (m_RRef_markAt_L156 g FU p1 (((g_Rmedium g).2 (((32 * p1) + 1)).toNatClampNeg) &&& 255) (1 + q3) 0 0 0)
            else
            (if (g_Rrows g) < (p1 + (1 + q3)) then
              (m_RRef_markAt_L156 g FU p1 (((g_Rmedium g).2 (((32 * p1) + 1)).toNatClampNeg) &&& 255) (1 + q3) 0 0 0)
              else
              ((m_RRef_number (g_Rmedium g) ((32 * p1) + 8) 8).bind fun q21 => (m_RRef_entries (((g_Rmedium g).2 (((32 * p1) + 1)).toNatClampNeg) &&& 255)).bind fun q22 => (m_RRef_digest (g_Rmedium g) ((32 * p1) + 32) (32 * q22)).bind fun q23 => if (lg_cmp q21 q23) = 0 then
                (m_RRef_markAt_L156 g FU p1 (((g_Rmedium g).2 (((32 * p1) + 1)).toNatClampNeg) &&& 255) (1 + q3) 1 0 0)
                else
                (m_RRef_markAt_L156 g FU p1 (((g_Rmedium g).2 (((32 * p1) + 1)).toNatClampNeg) &&& 255) (1 + q3) 0 0 0))))))))
  else
  (m_RRef_markAt_L156 g FU p1 (((g_Rmedium g).2 (((32 * p1) + 1)).toNatClampNeg) &&& 255) (1 + q3) 0 0 0)
noncomputable def m_RRef_findMark_L2 (g : St_Ref) : Nat → Int32 → Int32 → Option (Int32)
  | 0, _, _ => none
  | n + 1, v1, v2 => if (g_Rmarks g) ≤ v2 then
    (some (-1))
    else
    (if v2 < 0 ∨ (g_RmNumber g).1 ≤ (v2).toNatClampNeg then none else if ((g_RmNumber g).2 (v2).toNatClampNeg) = v1 then
      (some v2)
      else
      (m_RRef_findMark_L2 g n v1 (v2 + 1)))
noncomputable def m_RRef_findMark (g : St_Ref) (p1 : Int32) : Option (Int32) :=
  m_RRef_findMark_L2 g FU p1 0
noncomputable def m_RRef_learnMark_L94  : Nat → St_Ref → Int32 → Int32 → Int32 → Option (St_Ref)
  | 0, _, _, _, _ => none
  | n + 1, g, v1, v3, v4 => if (g_Rmarks g) < 0 ∨ (g_RmCount g).1 ≤ ((g_Rmarks g)).toNatClampNeg then none else if ((g_RmCount g).2 ((g_Rmarks g)).toNatClampNeg) ≤ v4 then
    (if v3 ≤ (g_RlastMark g) then
      (some (s_RlastMark (s_Rmarks g ((g_Rmarks g) + 1)) (g_RlastMark g)))
      else
      (some (s_RlastMark (s_Rmarks g ((g_Rmarks g) + 1)) v3)))
    else
    ((m_RRef_entryAt v1 v4).bind fun q13 => (m_RRef_number (g_Rmedium g) q13 4).bind fun q14 => if ((12 * (g_Rmarks g)) + v4) < 0 ∨ (g_RmPart g).1 ≤ (((12 * (g_Rmarks g)) + v4)).toNatClampNeg then none else (m_RRef_number (g_Rmedium g) (q13 + 4) 2).bind fun q16 => if ((12 * (g_Rmarks g)) + v4) < 0 ∨ (g_RmPartRow g).1 ≤ (((12 * (g_Rmarks g)) + v4)).toNatClampNeg then none else (m_RRef_number (g_Rmedium g) (q13 + 6) 8).bind fun q18 => if ((12 * (g_Rmarks g)) + v4) < 0 ∨ (g_RmPartDigest g).1 ≤ (((12 * (g_Rmarks g)) + v4)).toNatClampNeg then none else if ((q14).toInt32) ≤ (g_RlastPart g) then
      (m_RRef_learnMark_L94 n (s_RlastPart (s_RmPartDigest (s_RmPartRow (s_RmPart g ((g_RmPart g).1, upd (g_RmPart g).2 (((12 * (g_Rmarks g)) + v4)).toNatClampNeg ((q14).toInt32))) ((g_RmPartRow g).1, upd (g_RmPartRow g).2 (((12 * (g_Rmarks g)) + v4)).toNatClampNeg ((q16).toInt32))) ((g_RmPartDigest g).1, vp_updL (g_RmPartDigest g).2 (((12 * (g_Rmarks g)) + v4)).toNatClampNeg q18)) (g_RlastPart g)) v1 v3 (v4 + 1))
      else
      (m_RRef_learnMark_L94 n (s_RlastPart (s_RmPartDigest (s_RmPartRow (s_RmPart g ((g_RmPart g).1, upd (g_RmPart g).2 (((12 * (g_Rmarks g)) + v4)).toNatClampNeg ((q14).toInt32))) ((g_RmPartRow g).1, upd (g_RmPartRow g).2 (((12 * (g_Rmarks g)) + v4)).toNatClampNeg ((q16).toInt32))) ((g_RmPartDigest g).1, vp_updL (g_RmPartDigest g).2 (((12 * (g_Rmarks g)) + v4)).toNatClampNeg q18)) ((q14).toInt32)) v1 v3 (v4 + 1)))
noncomputable def m_RRef_learnMark (g : St_Ref) (p1 : Int32) : Option (St_Ref) :=
  (m_RRef_number (g_Rmedium g) ((32 * p1) + 4) 4).bind fun q1 => (m_RRef_findMark g ((q1).toInt32)).bind fun q2 => if q2 = (-1) then
  (if (g_Rmarks g) < 0 ∨ (g_RmNumber g).1 ≤ ((g_Rmarks g)).toNatClampNeg then none else if (g_Rmarks g) < 0 ∨ (g_RmRow g).1 ≤ ((g_Rmarks g)).toNatClampNeg then none else if ((32 * p1) + 1) < 0 ∨ (g_Rmedium g).1 ≤ (((32 * p1) + 1)).toNatClampNeg then none else if (g_Rmarks g) < 0 ∨ (g_RmCount g).1 ≤ ((g_Rmarks g)).toNatClampNeg then none else (m_RRef_number (g_Rmedium g) ((32 * p1) + 8) 8).bind fun q8 => if (g_Rmarks g) < 0 ∨ (g_RmDigest g).1 ≤ ((g_Rmarks g)).toNatClampNeg then none else m_RRef_learnMark_L94 FU (s_RmDigest (s_RmCount (s_RmRow (s_RmNumber g ((g_RmNumber g).1, upd (g_RmNumber g).2 ((g_Rmarks g)).toNatClampNeg ((q1).toInt32))) ((g_RmRow g).1, upd (g_RmRow g).2 ((g_Rmarks g)).toNatClampNeg p1)) ((g_RmCount g).1, upd (g_RmCount g).2 ((g_Rmarks g)).toNatClampNeg (((g_Rmedium g).2 (((32 * p1) + 1)).toNatClampNeg) &&& 255))) ((g_RmDigest g).1, vp_updL (g_RmDigest g).2 ((g_Rmarks g)).toNatClampNeg q8)) p1 ((q1).toInt32) 0)
  else
  (some g)
noncomputable def m_RRef_open__L31  : Nat → St_Ref → Int32 → Option (Int32 × St_Ref)
  | 0, _, _ => none
  | n + 1, g, v1 => if (g_Rrows g) ≤ v1 then
    (some ((g_Rmarks g), g))
    else
    ((m_RRef_partAt g v1).bind fun q3 => if q3 = 0 then
      ((m_RRef_markAt g v1).bind fun q9 => if q3 ≤ 0 then
        (if q9 ≤ 0 then
          (if (q3 + q9) = 0 then
            (m_RRef_open__L31 n g (v1 + 1))
            else
            (m_RRef_open__L31 n g (v1 + (q3 + q9))))
          else
          ((m_RRef_learnMark g v1).bind fun q13 => if (q3 + q9) = 0 then
            (m_RRef_open__L31 n q13 (v1 + 1))
            else
            (m_RRef_open__L31 n q13 (v1 + (q3 + q9)))))
        else
        ((m_RRef_learnPart g v1).bind fun q15 => if (q3 + q9) = 0 then
          (m_RRef_open__L31 n q15 (v1 + 1))
          else
          (m_RRef_open__L31 n q15 (v1 + (q3 + q9)))))
      else
      (if q3 ≤ 0 then
        (if (q3 + 0) = 0 then
          (m_RRef_open__L31 n g (v1 + 1))
          else
          (m_RRef_open__L31 n g (v1 + (q3 + 0))))
        else
        ((m_RRef_learnPart g v1).bind fun q7 => if (q3 + 0) = 0 then
          (m_RRef_open__L31 n q7 (v1 + 1))
          else
          (m_RRef_open__L31 n q7 (v1 + (q3 + 0))))))
noncomputable def m_RRef_open_ (g : St_Ref)  : Option (Int32 × St_Ref) :=
  (m_RRef_heads (s_RlastMark (s_RlastPart (s_Rmarks (s_Rparts (s_Ropen g 1) 0) 0) 0) 0)).bind fun q1 => m_RRef_open__L31 FU q1 2
noncomputable def m_RRef_isIn  (p0 : Int32) (p1 : Int32) (p2 : Int32) : Option (Int32) :=
  if p0 < p1 then
  (some 0)
  else
  (if p2 < p0 then
    (some 0)
    else
    (some 1))
noncomputable def m_RRef_feed_L31  : Nat → St_Ref → Int64 → Int32 → Int32 → Option (Int32 × St_Ref)
  | 0, _, _, _, _ => none
  | n + 1, g, v1, v3, v4 => if v3 ≤ v4 then
    (some ((g_Rtaped g), g))
    else
    (if (g_Rtaped g) < 0 ∨ (g_Rtape g).1 ≤ ((g_Rtaped g)).toNatClampNeg then none else m_RRef_feed_L31 n (s_Rtaped (s_Rtape g ((g_Rtape g).1, upd (g_Rtape g).2 ((g_Rtaped g)).toNatClampNeg (vp_nar .byte (((((jlshr v1 (8 * v4))).toInt32)).toInt8.toInt32)))) ((g_Rtaped g) + 1)) v1 v3 (v4 + 1))
noncomputable def m_RRef_feed (g : St_Ref) (p1 : Int64) (p3 : Int32) : Option (Int32 × St_Ref) :=
  (m_RRef_isIn p3 1 8).bind fun q1 => if q1 = 0 then
  (some ((-2), g))
  else
  (if ((g_Rtaped g) + p3) ≤ 2000 then
    (m_RRef_feed_L31 FU g p1 p3 0)
    else
    (some ((-4), g)))
noncomputable def m_RRef_wipe (g : St_Ref)  : Option (Int32 × St_Ref) :=
  some ((g_Rtaped g), (s_Rtaped g 0))
noncomputable def m_RRef_marksUsed_L102  (k : St_Ref → Int32 → Option (St_Ref)) : Nat → St_Ref → Int32 → Int32 → Option (St_Ref)
  | 0, _, _, _ => none
  | n + 1, g, v1, v2 => if v1 < 0 ∨ (g_RmRow g).1 ≤ (v1).toNatClampNeg then none else if ((g_RmRow g).2 (v1).toNatClampNeg) = (-1) then
    (k g v1)
    else
    (if v1 < 0 ∨ (g_RmCount g).1 ≤ (v1).toNatClampNeg then none else (m_RRef_entries ((g_RmCount g).2 (v1).toNatClampNeg)).bind fun q7 => if q7 < v2 then
      (k g v1)
      else
      (if v1 < 0 ∨ (g_RmRow g).1 ≤ (v1).toNatClampNeg then none else if (((g_RmRow g).2 (v1).toNatClampNeg) + v2) < 0 ∨ (g_Rused g).1 ≤ ((((g_RmRow g).2 (v1).toNatClampNeg) + v2)).toNatClampNeg then none else m_RRef_marksUsed_L102 k n (s_Rused g ((g_Rused g).1, upd (g_Rused g).2 ((((g_RmRow g).2 (v1).toNatClampNeg) + v2)).toNatClampNeg (vp_nar .boolean 1))) v1 (v2 + 1)))
noncomputable def m_RRef_marksUsed_L92  : Nat → St_Ref → Int32 → Option (St_Ref)
  | 0, _, _ => none
  | n + 1, g, v1 => if (g_Rmarks g) ≤ v1 then
    (some g)
    else
    (m_RRef_marksUsed_L102  (fun (g11 : St_Ref) (v1_12 : Int32) => m_RRef_marksUsed_L92 n g11 (v1_12 + 1)) FU g v1 0)
noncomputable def m_RRef_marksUsed_L51  (k : St_Ref → Int32 → Option (St_Ref)) : Nat → St_Ref → Int32 → Int32 → Option (St_Ref)
  | 0, _, _, _ => none
  | n + 1, g, v1, v2 => if v1 < 0 ∨ (g_RpLength g).1 ≤ (v1).toNatClampNeg then none else (m_RRef_bodies ((g_RpLength g).2 (v1).toNatClampNeg)).bind fun q14 => if q14 < v2 then
    (k g v1)
    else
    (if v1 < 0 ∨ (g_RpRow g).1 ≤ (v1).toNatClampNeg then none else if (((g_RpRow g).2 (v1).toNatClampNeg) + v2) < 0 ∨ (g_Rused g).1 ≤ ((((g_RpRow g).2 (v1).toNatClampNeg) + v2)).toNatClampNeg then none else m_RRef_marksUsed_L51 k n (s_Rused g ((g_Rused g).1, upd (g_Rused g).2 ((((g_RpRow g).2 (v1).toNatClampNeg) + v2)).toNatClampNeg (vp_nar .boolean 1))) v1 (v2 + 1))
noncomputable def m_RRef_marksUsed_L41  : Nat → St_Ref → Int32 → Option (St_Ref)
  | 0, _, _ => none
  | n + 1, g, v1 => if (g_Rparts g) ≤ v1 then
    (m_RRef_marksUsed_L92 FU g 0)
    else
    (m_RRef_marksUsed_L51  (fun (g18 : St_Ref) (v1_19 : Int32) => m_RRef_marksUsed_L41 n g18 (v1_19 + 1)) FU g v1 0)
noncomputable def m_RRef_marksUsed_L2  : Nat → St_Ref → Int32 → Option (St_Ref)
  | 0, _, _ => none
  | n + 1, g, v1 => if 512 ≤ v1 then
    (m_RRef_marksUsed_L41 FU g 0)
    else
    (if v1 < 2 then
      (if v1 < 0 ∨ (g_Rused g).1 ≤ (v1).toNatClampNeg then none else m_RRef_marksUsed_L2 n (s_Rused g ((g_Rused g).1, upd (g_Rused g).2 (v1).toNatClampNeg (vp_nar .boolean 1))) (v1 + 1))
      else
      (if v1 < (g_Rrows g) then
        (if v1 < 0 ∨ (g_Rused g).1 ≤ (v1).toNatClampNeg then none else m_RRef_marksUsed_L2 n (s_Rused g ((g_Rused g).1, upd (g_Rused g).2 (v1).toNatClampNeg (vp_nar .boolean 0))) (v1 + 1))
        else
        (if v1 < 0 ∨ (g_Rused g).1 ≤ (v1).toNatClampNeg then none else m_RRef_marksUsed_L2 n (s_Rused g ((g_Rused g).1, upd (g_Rused g).2 (v1).toNatClampNeg (vp_nar .boolean 1))) (v1 + 1))))
noncomputable def m_RRef_marksUsed (g : St_Ref)  : Option (St_Ref) :=
  m_RRef_marksUsed_L2 FU g 0
noncomputable def m_RRef_room_L4 (g : St_Ref) : Nat → Int32 → Int32 → Int32 → Option (Int32)
  | 0, _, _, _ => none
  | n + 1, v1, v2, v3 => if (g_Rrows g) ≤ v3 then
    (some (-1))
    else
    (if v3 < 0 ∨ (g_Rused g).1 ≤ (v3).toNatClampNeg then none else if ((g_Rused g).2 (v3).toNatClampNeg) = 0 then
      (if (v2 + 1) = v1 then
        (some ((v3 - v1) + 1))
        else
        (m_RRef_room_L4 g n v1 (v2 + 1) (v3 + 1)))
      else
      (if 0 = v1 then
        (some ((v3 - v1) + 1))
        else
        (m_RRef_room_L4 g n v1 0 (v3 + 1))))
noncomputable def m_RRef_room (g : St_Ref) (p1 : Int32) : Option (Int32) :=
  m_RRef_room_L4 g FU p1 0 2
noncomputable def m_RRef_clearDraft_L2  : Nat → St_Ref → Int32 → Option (St_Ref)
  | 0, _, _ => none
  | n + 1, g, v1 => if 256 ≤ v1 then
    (some g)
    else
    (if v1 < 0 ∨ (g_Rdraft g).1 ≤ (v1).toNatClampNeg then none else m_RRef_clearDraft_L2 n (s_Rdraft g ((g_Rdraft g).1, upd (g_Rdraft g).2 (v1).toNatClampNeg (vp_nar .byte 0))) (v1 + 1))
noncomputable def m_RRef_clearDraft (g : St_Ref)  : Option (St_Ref) :=
  m_RRef_clearDraft_L2 FU g 0
noncomputable def m_RRef_put_L3  : Nat → AI → Int32 → Int32 → Int64 → Int32 → Option (AI)
  | 0, _, _, _, _, _ => none
  | n + 1, x, v1, v2, v3, v5 => if v2 ≤ v5 then
    (some x)
    else
    (if (v1 + v5) < 0 ∨ x.1 ≤ ((v1 + v5)).toNatClampNeg then none else m_RRef_put_L3 n (x.1, upd x.2 ((v1 + v5)).toNatClampNeg (vp_nar .byte (((((jlshr v3 (8 * ((v2 - 1) - v5)))).toInt32)).toInt8.toInt32))) v1 v2 v3 (v5 + 1))
noncomputable def m_RRef_put (x : AI) (p1 : Int32) (p2 : Int32) (p3 : Int64) : Option (AI) :=
  m_RRef_put_L3 FU x p1 p2 p3 0
noncomputable def m_RRef_sumDraft (g : St_Ref)  : Option (St_Ref) :=
  (m_RRef_digest (g_Rdraft g) 0 24).bind fun q1 => (m_RRef_put (g_Rdraft g) 24 8 q1).bind fun q2 => some (s_Rdraft g q2)
noncomputable def m_RRef_write_L2  : Nat → St_Ref → Int32 → Int32 → Int32 → Option (Int32 × St_Ref)
  | 0, _, _, _, _ => none
  | n + 1, g, v1, v2, v3 => if 32 ≤ v3 then
    (some (1, g))
    else
    (if (g_RcutIn g) = 0 then
      (some (0, (s_Ropen (s_RcutIn g (-1)) 0)))
      else
      (if (g_RcutIn g) = (-1) then
        (if (v2 + v3) < 0 ∨ (g_Rdraft g).1 ≤ ((v2 + v3)).toNatClampNeg then none else if ((32 * v1) + v3) < 0 ∨ (g_Rmedium g).1 ≤ (((32 * v1) + v3)).toNatClampNeg then none else m_RRef_write_L2 n (s_Rwritten (s_Rmedium (s_RcutIn g (-1)) ((g_Rmedium g).1, upd (g_Rmedium g).2 (((32 * v1) + v3)).toNatClampNeg (vp_nar .byte ((g_Rdraft g).2 ((v2 + v3)).toNatClampNeg)))) ((g_Rwritten g) + 1)) v1 v2 (v3 + 1))
        else
        (if (v2 + v3) < 0 ∨ (g_Rdraft g).1 ≤ ((v2 + v3)).toNatClampNeg then none else if ((32 * v1) + v3) < 0 ∨ (g_Rmedium g).1 ≤ (((32 * v1) + v3)).toNatClampNeg then none else m_RRef_write_L2 n (s_Rwritten (s_Rmedium (s_RcutIn g ((g_RcutIn g) - 1)) ((g_Rmedium g).1, upd (g_Rmedium g).2 (((32 * v1) + v3)).toNatClampNeg (vp_nar .byte ((g_Rdraft g).2 ((v2 + v3)).toNatClampNeg)))) ((g_Rwritten g) + 1)) v1 v2 (v3 + 1))))
noncomputable def m_RRef_write (g : St_Ref) (p1 : Int32) (p2 : Int32) : Option (Int32 × St_Ref) :=
  m_RRef_write_L2 FU g p1 p2 0
noncomputable def m_RRef_writeAll_L5  : Nat → St_Ref → Int32 → Int32 → Int32 → Int32 → Option (Int32 × St_Ref)
  | 0, _, _, _, _, _ => none
  | n + 1, g, v1, v2, v3, v4 => if v2 ≤ v4 then
    (if v3 = 0 then
      (some (0, g))
      else
      ((m_RRef_write g v1 0).bind fun q3 => if q3.1 = 0 then
        (some (0, q3.2))
        else
        (some (1, q3.2))))
    else
    (if v3 = 0 then
      (if v3 = 0 then
        (some (0, g))
        else
        ((m_RRef_write g v1 0).bind fun q7 => if q7.1 = 0 then
          (some (0, q7.2))
          else
          (some (1, q7.2))))
      else
      ((m_RRef_write g (v1 + v4) (32 * v4)).bind fun q9 => m_RRef_writeAll_L5 n q9.2 v1 v2 q9.1 (v4 + 1)))
noncomputable def m_RRef_writeAll (g : St_Ref) (p1 : Int32) (p2 : Int32) : Option (Int32 × St_Ref) :=
  m_RRef_writeAll_L5 FU g p1 p2 1 1
noncomputable def m_RRef_writePart_tape_L54  : Nat → St_Ref → Int32 → Int64 → Int32 → Int32 → Int32 → Option (Int32 × St_Ref)
  | 0, _, _, _, _, _, _ => none
  | n + 1, g, v1, v2, v6, v7, v8 => (m_RRef_bodies v6).bind fun q3 => if q3 < v8 then
    (if (0 : Int32) < 0 ∨ (g_Rdraft g).1 ≤ (0 : Int32).toNatClampNeg then none else if (1 : Int32) < 0 ∨ ((g_Rdraft g).1, upd (g_Rdraft g).2 (0 : Int32).toNatClampNeg (vp_nar .byte 1)).1 ≤ (1 : Int32).toNatClampNeg then none else (m_RRef_put (((g_Rdraft g).1, upd (g_Rdraft g).2 (0 : Int32).toNatClampNeg (vp_nar .byte 1)).1, upd ((g_Rdraft g).1, upd (g_Rdraft g).2 (0 : Int32).toNatClampNeg (vp_nar .byte 1)).2 (1 : Int32).toNatClampNeg (vp_nar .byte ((v1).toInt8.toInt32))) 2 2 ((v6).toInt64)).bind fun q7 => (m_RRef_put q7 4 4 ((((g_RlastPart g) + 1)).toInt64)).bind fun q8 => (m_RRef_put q8 8 8 v2).bind fun q9 => (m_RRef_bodies v6).bind fun q10 => (m_RRef_digest q9 32 (32 * q10)).bind fun q11 => (m_RRef_put q9 16 8 q11).bind fun q12 => (m_RRef_sumDraft (s_Rdraft (s_Rdraft (s_Rdraft (s_Rdraft (s_Rdraft (s_Rdraft g ((g_Rdraft g).1, upd (g_Rdraft g).2 (0 : Int32).toNatClampNeg (vp_nar .byte 1))) (((g_Rdraft g).1, upd (g_Rdraft g).2 (0 : Int32).toNatClampNeg (vp_nar .byte 1)).1, upd ((g_Rdraft g).1, upd (g_Rdraft g).2 (0 : Int32).toNatClampNeg (vp_nar .byte 1)).2 (1 : Int32).toNatClampNeg (vp_nar .byte ((v1).toInt8.toInt32)))) q7) q8) q9) q12)).bind fun q13 => (m_RRef_bodies v6).bind fun q14 => (m_RRef_writeAll q13 v7 (1 + q14)).bind fun q15 => if q15.1 = 0 then
      (some ((-5), q15.2))
      else
      (if (g_Rparts q15.2) < 0 ∨ (g_RpNumber q15.2).1 ≤ ((g_Rparts q15.2)).toNatClampNeg then none else if (g_Rparts q15.2) < 0 ∨ (g_RpGroup q15.2).1 ≤ ((g_Rparts q15.2)).toNatClampNeg then none else if (g_Rparts q15.2) < 0 ∨ (g_RpPosition q15.2).1 ≤ ((g_Rparts q15.2)).toNatClampNeg then none else if (g_Rparts q15.2) < 0 ∨ (g_RpLength q15.2).1 ≤ ((g_Rparts q15.2)).toNatClampNeg then none else if (g_Rparts q15.2) < 0 ∨ (g_RpRow q15.2).1 ≤ ((g_Rparts q15.2)).toNatClampNeg then none else some (((g_RlastPart q15.2) + 1), (s_Rparts (s_RpRow (s_RpLength (s_RpPosition (s_RpGroup (s_RpNumber (s_RlastPart q15.2 ((g_RlastPart q15.2) + 1)) ((g_RpNumber q15.2).1, upd (g_RpNumber q15.2).2 ((g_Rparts q15.2)).toNatClampNeg ((g_RlastPart q15.2) + 1))) ((g_RpGroup q15.2).1, upd (g_RpGroup q15.2).2 ((g_Rparts q15.2)).toNatClampNeg v1)) ((g_RpPosition q15.2).1, vp_updL (g_RpPosition q15.2).2 ((g_Rparts q15.2)).toNatClampNeg v2)) ((g_RpLength q15.2).1, upd (g_RpLength q15.2).2 ((g_Rparts q15.2)).toNatClampNeg v6)) ((g_RpRow q15.2).1, upd (g_RpRow q15.2).2 ((g_Rparts q15.2)).toNatClampNeg v7)) ((g_Rparts q15.2) + 1)))))
    else
    (if (32 * v8) < 0 ∨ (g_Rdraft g).1 ≤ ((32 * v8)).toNatClampNeg then none else m_RRef_writePart_tape_L54 n (s_Rdraft g ((g_Rdraft g).1, upd (g_Rdraft g).2 ((32 * v8)).toNatClampNeg (vp_nar .byte 5))) v1 v2 v6 v7 (v8 + 1))
noncomputable def m_RRef_writePart_tape_L7  : Nat → St_Ref → Int32 → Int64 → Int32 → Int32 → Int32 → Int32 → Option (Int32 × St_Ref)
  | 0, _, _, _, _, _, _, _ => none
  | n + 1, g, v1, v2, v5, v6, v7, v8 => if v6 ≤ v8 then
    (m_RRef_writePart_tape_L54 FU g v1 v2 v6 v7 1)
    else
    (if (v5 + v8) < 0 ∨ (g_Rtape g).1 ≤ ((v5 + v8)).toNatClampNeg then none else if (((32 * (1 + (v8 / 31))) + 1) + (jrem v8 31)) < 0 ∨ (g_Rdraft g).1 ≤ ((((32 * (1 + (v8 / 31))) + 1) + (jrem v8 31))).toNatClampNeg then none else m_RRef_writePart_tape_L7 n (s_Rdraft g ((g_Rdraft g).1, upd (g_Rdraft g).2 ((((32 * (1 + (v8 / 31))) + 1) + (jrem v8 31))).toNatClampNeg (vp_nar .byte ((g_Rtape g).2 ((v5 + v8)).toNatClampNeg)))) v1 v2 v5 v6 v7 (v8 + 1))
noncomputable def m_RRef_writePart_tape (g : St_Ref) (p1 : Int32) (p2 : Int64) (p5 : Int32) (p6 : Int32) (p7 : Int32) : Option (Int32 × St_Ref) :=
  (m_RRef_clearDraft g).bind fun q1 => m_RRef_writePart_tape_L7 FU q1 p1 p2 p5 p6 p7 0
noncomputable def m_RRef_part (g : St_Ref) (p1 : Int32) (p2 : Int64) : Option (Int32 × St_Ref) :=
  if (g_Ropen g) = 0 then
  (some ((-3), (s_Rtaped g 0)))
  else
  ((m_RRef_isIn p1 0 7).bind fun q2 => if q2 = 0 then
    (some ((-2), (s_Rtaped g 0)))
    else
    (if (g_Rtaped g) ≤ 155 then
      ((m_RRef_marksUsed (s_Rtaped g 0)).bind fun q5 => (m_RRef_bodies (g_Rtaped g)).bind fun q6 => (m_RRef_room q5 (1 + q6)).bind fun q7 => if q7 = (-1) then
        (some ((-4), q5))
        else
        (if (g_RlastPart q5) = 1000000000 then
          (some ((-4), q5))
          else
          ((m_RRef_writePart_tape q5 p1 p2 0 (g_Rtaped g) q7).bind fun q10 => some (q10.1, q10.2))))
      else
      (some ((-2), (s_Rtaped g 0)))))
noncomputable def m_RRef_count_L4 (g : St_Ref) : Nat → Int32 → Int32 → Int32 → Option (Int32)
  | 0, _, _, _ => none
  | n + 1, v1, v2, v3 => if (g_Rmarks g) ≤ v3 then
    (some v2)
    else
    (if v3 < 0 ∨ (g_RmRow g).1 ≤ (v3).toNatClampNeg then none else if ((g_RmRow g).2 (v3).toNatClampNeg) = (-1) then
      (if 0 = v1 then
        (m_RRef_count_L4 g n v1 (v2 + 1) (v3 + 1))
        else
        (m_RRef_count_L4 g n v1 (v2 + 0) (v3 + 1)))
      else
      (if 1 = v1 then
        (m_RRef_count_L4 g n v1 (v2 + 1) (v3 + 1))
        else
        (m_RRef_count_L4 g n v1 (v2 + 0) (v3 + 1))))
noncomputable def m_RRef_count (g : St_Ref) (p1 : Int32) : Option (Int32) :=
  m_RRef_count_L4 g FU p1 0 0
noncomputable def m_RRef_newMark (g : St_Ref) (p1 : Int32) : Option (Int32 × St_Ref) :=
  if (g_Rmarks g) < 0 ∨ (g_RmNumber g).1 ≤ ((g_Rmarks g)).toNatClampNeg then none else if (g_Rmarks g) < 0 ∨ (g_RmRow g).1 ≤ ((g_Rmarks g)).toNatClampNeg then none else if (g_Rmarks g) < 0 ∨ (g_RmCount g).1 ≤ ((g_Rmarks g)).toNatClampNeg then none else if (g_Rmarks g) < 0 ∨ (g_RmDigest g).1 ≤ ((g_Rmarks g)).toNatClampNeg then none else some (((g_RlastMark g) + 1), (s_Rmarks (s_RmDigest (s_RmCount (s_RmRow (s_RmNumber (s_RlastMark g ((g_RlastMark g) + 1)) ((g_RmNumber g).1, upd (g_RmNumber g).2 ((g_Rmarks g)).toNatClampNeg ((g_RlastMark g) + 1))) ((g_RmRow g).1, upd (g_RmRow g).2 ((g_Rmarks g)).toNatClampNeg (-1))) ((g_RmCount g).1, upd (g_RmCount g).2 ((g_Rmarks g)).toNatClampNeg p1)) ((g_RmDigest g).1, vp_updL (g_RmDigest g).2 ((g_Rmarks g)).toNatClampNeg 0)) ((g_Rmarks g) + 1)))
noncomputable def m_RRef_below_L4 (g : St_Ref) : Nat → Int32 → Int32 → Int32 → Option (Int32)
  | 0, _, _, _ => none
  | n + 1, v1, v2, v3 => if (g_Rparts g) ≤ v3 then
    (some v2)
    else
    (if v3 < 0 ∨ (g_RpNumber g).1 ≤ (v3).toNatClampNeg then none else if v1 ≤ ((g_RpNumber g).2 (v3).toNatClampNeg) then
      (m_RRef_below_L4 g n v1 v2 (v3 + 1))
      else
      (if v3 < 0 ∨ (g_RpNumber g).1 ≤ (v3).toNatClampNeg then none else if ((g_RpNumber g).2 (v3).toNatClampNeg) ≤ v2 then
        (m_RRef_below_L4 g n v1 v2 (v3 + 1))
        else
        (if v3 < 0 ∨ (g_RpNumber g).1 ≤ (v3).toNatClampNeg then none else m_RRef_below_L4 g n v1 ((g_RpNumber g).2 (v3).toNatClampNeg) (v3 + 1))))
noncomputable def m_RRef_below (g : St_Ref) (p1 : Int32) : Option (Int32) :=
  m_RRef_below_L4 g FU p1 0 0
noncomputable def m_RRef_mark_L62  : Nat → St_Ref → Int32 → Int32 → Int32 → Option (Int32 × St_Ref)
  | 0, _, _, _, _ => none
  | n + 1, g, v1, v2, v3 => if v3 < 0 then
    ((m_RRef_newMark g v1).bind fun q9 => some (q9.1, q9.2))
    else
    ((m_RRef_below g v2).bind fun q10 => if ((12 * (g_Rmarks g)) + v3) < 0 ∨ (g_RmPart g).1 ≤ (((12 * (g_Rmarks g)) + v3)).toNatClampNeg then none else m_RRef_mark_L62 n (s_RmPart g ((g_RmPart g).1, upd (g_RmPart g).2 (((12 * (g_Rmarks g)) + v3)).toNatClampNeg q10)) v1 q10 (v3 + (-1)))
noncomputable def m_RRef_mark (g : St_Ref) (p1 : Int32) : Option (Int32 × St_Ref) :=
  if (g_Ropen g) = 0 then
  (some ((-3), g))
  else
  ((m_RRef_isIn p1 1 12).bind fun q2 => if q2 = 0 then
    (some ((-2), g))
    else
    (if p1 ≤ (g_Rparts g) then
      ((m_RRef_count g 0).bind fun q5 => if q5 = 6 then
        (some ((-4), g))
        else
        (if (g_RlastMark g) = 1000000000 then
          (some ((-4), g))
          else
          (m_RRef_mark_L62 FU g p1 1000000001 (p1 - 1))))
      else
      (some ((-1), g))))
noncomputable def m_RRef_keep_L72  : Nat → St_Ref → Int32 → Int32 → Int32 → Int32 → Int32 → Option (Int32 × St_Ref)
  | 0, _, _, _, _, _, _ => none
  | n + 1, g, v1, v2, v3, v4, v5 => if v2 < 0 ∨ (g_RmCount g).1 ≤ (v2).toNatClampNeg then none else if ((g_RmCount g).2 (v2).toNatClampNeg) ≤ v5 then
    ((m_RRef_digest (g_Rdraft g) 32 (32 * v3)).bind fun q14 => if v2 < 0 ∨ (g_RmDigest g).1 ≤ (v2).toNatClampNeg then none else if (0 : Int32) < 0 ∨ (g_Rdraft g).1 ≤ (0 : Int32).toNatClampNeg then none else if v2 < 0 ∨ (g_RmCount g).1 ≤ (v2).toNatClampNeg then none else if (1 : Int32) < 0 ∨ ((g_Rdraft g).1, upd (g_Rdraft g).2 (0 : Int32).toNatClampNeg (vp_nar .byte 2)).1 ≤ (1 : Int32).toNatClampNeg then none else (m_RRef_put (((g_Rdraft g).1, upd (g_Rdraft g).2 (0 : Int32).toNatClampNeg (vp_nar .byte 2)).1, upd ((g_Rdraft g).1, upd (g_Rdraft g).2 (0 : Int32).toNatClampNeg (vp_nar .byte 2)).2 (1 : Int32).toNatClampNeg (vp_nar .byte ((((g_RmCount g).2 (v2).toNatClampNeg)).toInt8.toInt32))) 4 4 ((v1).toInt64)).bind fun q19 => if v2 < 0 ∨ ((g_RmDigest g).1, vp_updL (g_RmDigest g).2 (v2).toNatClampNeg q14).1 ≤ (v2).toNatClampNeg then none else (m_RRef_put q19 8 8 (((g_RmDigest g).1, vp_updL (g_RmDigest g).2 (v2).toNatClampNeg q14).2 (v2).toNatClampNeg)).bind fun q21 => (m_RRef_sumDraft (s_Rdraft (s_Rdraft (s_Rdraft (s_Rdraft (s_RmDigest g ((g_RmDigest g).1, vp_updL (g_RmDigest g).2 (v2).toNatClampNeg q14)) ((g_Rdraft g).1, upd (g_Rdraft g).2 (0 : Int32).toNatClampNeg (vp_nar .byte 2))) (((g_Rdraft g).1, upd (g_Rdraft g).2 (0 : Int32).toNatClampNeg (vp_nar .byte 2)).1, upd ((g_Rdraft g).1, upd (g_Rdraft g).2 (0 : Int32).toNatClampNeg (vp_nar .byte 2)).2 (1 : Int32).toNatClampNeg (vp_nar .byte ((((g_RmCount g).2 (v2).toNatClampNeg)).toInt8.toInt32)))) q19) q21)).bind fun q22 => (m_RRef_writeAll q22 v4 (1 + v3)).bind fun q23 => if q23.1 = 0 then
      (some ((-5), q23.2))
      else
      (if v2 < 0 ∨ (g_RmRow q23.2).1 ≤ (v2).toNatClampNeg then none else some (1, (s_RmRow q23.2 ((g_RmRow q23.2).1, upd (g_RmRow q23.2).2 (v2).toNatClampNeg v4)))))
    else
    (if ((12 * v2) + v5) < 0 ∨ (g_RmPart g).1 ≤ (((12 * v2) + v5)).toNatClampNeg then none else (m_RRef_findPart g ((g_RmPart g).2 (((12 * v2) + v5)).toNatClampNeg)).bind fun q27 => (m_RRef_entryAt 0 v5).bind fun q28 => if q27 < 0 ∨ (g_RpRow g).1 ≤ (q27).toNatClampNeg then none else if ((12 * v2) + v5) < 0 ∨ (g_RmPartRow g).1 ≤ (((12 * v2) + v5)).toNatClampNeg then none else if q27 < 0 ∨ (g_RpRow g).1 ≤ (q27).toNatClampNeg then none else (m_RRef_number (g_Rmedium g) ((32 * ((g_RpRow g).2 (q27).toNatClampNeg)) + 16) 8).bind fun q32 => if ((12 * v2) + v5) < 0 ∨ (g_RmPartDigest g).1 ≤ (((12 * v2) + v5)).toNatClampNeg then none else if (32 * (1 + (v5 / 2))) < 0 ∨ (g_Rdraft g).1 ≤ ((32 * (1 + (v5 / 2)))).toNatClampNeg then none else if q27 < 0 ∨ (g_RpNumber g).1 ≤ (q27).toNatClampNeg then none else (m_RRef_put ((g_Rdraft g).1, upd (g_Rdraft g).2 ((32 * (1 + (v5 / 2)))).toNatClampNeg (vp_nar .byte 6)) q28 4 ((((g_RpNumber g).2 (q27).toNatClampNeg)).toInt64)).bind fun q36 => if q27 < 0 ∨ (g_RpRow g).1 ≤ (q27).toNatClampNeg then none else (m_RRef_put q36 (q28 + 4) 2 ((((g_RpRow g).2 (q27).toNatClampNeg)).toInt64)).bind fun q38 => if ((12 * v2) + v5) < 0 ∨ ((g_RmPartDigest g).1, vp_updL (g_RmPartDigest g).2 (((12 * v2) + v5)).toNatClampNeg q32).1 ≤ (((12 * v2) + v5)).toNatClampNeg then none else (m_RRef_put q38 (q28 + 6) 8 (((g_RmPartDigest g).1, vp_updL (g_RmPartDigest g).2 (((12 * v2) + v5)).toNatClampNeg q32).2 (((12 * v2) + v5)).toNatClampNeg)).bind fun q40 => m_RRef_keep_L72 n (s_Rdraft (s_Rdraft (s_Rdraft (s_Rdraft (s_RmPartDigest (s_RmPartRow g ((g_RmPartRow g).1, upd (g_RmPartRow g).2 (((12 * v2) + v5)).toNatClampNeg ((g_RpRow g).2 (q27).toNatClampNeg))) ((g_RmPartDigest g).1, vp_updL (g_RmPartDigest g).2 (((12 * v2) + v5)).toNatClampNeg q32)) ((g_Rdraft g).1, upd (g_Rdraft g).2 ((32 * (1 + (v5 / 2)))).toNatClampNeg (vp_nar .byte 6))) q36) q38) q40) v1 v2 v3 v4 (v5 + 1))
noncomputable def m_RRef_keep (g : St_Ref) (p1 : Int32) : Option (Int32 × St_Ref) :=
  if (g_Ropen g) = 0 then
  (some ((-3), g))
  else
  ((m_RRef_findMark g p1).bind fun q2 => if q2 = (-1) then
    (some ((-1), g))
    else
    (if q2 < 0 ∨ (g_RmRow g).1 ≤ (q2).toNatClampNeg then none else if ((g_RmRow g).2 (q2).toNatClampNeg) = (-1) then
      ((m_RRef_marksUsed g).bind fun q6 => if q2 < 0 ∨ (g_RmCount q6).1 ≤ (q2).toNatClampNeg then none else (m_RRef_entries ((g_RmCount q6).2 (q2).toNatClampNeg)).bind fun q8 => (m_RRef_room q6 (1 + q8)).bind fun q9 => if q9 = (-1) then
        (some ((-4), q6))
        else
        ((m_RRef_clearDraft q6).bind fun q11 => m_RRef_keep_L72 FU q11 p1 q2 q8 q9 0))
      else
      (some ((-1), g))))
noncomputable def m_RRef_forgetMark_L72  : Nat → St_Ref → Int32 → Int32 → Option (St_Ref)
  | 0, _, _, _ => none
  | n + 1, g, v1, v2 => if 12 ≤ v2 then
    (some g)
    else
    (if ((12 * (g_Rmarks g)) + v2) < 0 ∨ (g_RmPart g).1 ≤ (((12 * (g_Rmarks g)) + v2)).toNatClampNeg then none else if ((12 * v1) + v2) < 0 ∨ (g_RmPart g).1 ≤ (((12 * v1) + v2)).toNatClampNeg then none else if ((12 * (g_Rmarks g)) + v2) < 0 ∨ (g_RmPartRow g).1 ≤ (((12 * (g_Rmarks g)) + v2)).toNatClampNeg then none else if ((12 * v1) + v2) < 0 ∨ (g_RmPartRow g).1 ≤ (((12 * v1) + v2)).toNatClampNeg then none else if ((12 * (g_Rmarks g)) + v2) < 0 ∨ (g_RmPartDigest g).1 ≤ (((12 * (g_Rmarks g)) + v2)).toNatClampNeg then none else if ((12 * v1) + v2) < 0 ∨ (g_RmPartDigest g).1 ≤ (((12 * v1) + v2)).toNatClampNeg then none else m_RRef_forgetMark_L72 n (s_RmPartDigest (s_RmPartRow (s_RmPart g ((g_RmPart g).1, upd (g_RmPart g).2 (((12 * v1) + v2)).toNatClampNeg ((g_RmPart g).2 (((12 * (g_Rmarks g)) + v2)).toNatClampNeg))) ((g_RmPartRow g).1, upd (g_RmPartRow g).2 (((12 * v1) + v2)).toNatClampNeg ((g_RmPartRow g).2 (((12 * (g_Rmarks g)) + v2)).toNatClampNeg))) ((g_RmPartDigest g).1, vp_updL (g_RmPartDigest g).2 (((12 * v1) + v2)).toNatClampNeg ((g_RmPartDigest g).2 (((12 * (g_Rmarks g)) + v2)).toNatClampNeg))) v1 (v2 + 1))
noncomputable def m_RRef_forgetMark (g : St_Ref) (p1 : Int32) : Option (St_Ref) :=
  if ((g_Rmarks g) - 1) < 0 ∨ (g_RmNumber g).1 ≤ (((g_Rmarks g) - 1)).toNatClampNeg then none else if p1 < 0 ∨ (g_RmNumber g).1 ≤ (p1).toNatClampNeg then none else if ((g_Rmarks g) - 1) < 0 ∨ (g_RmRow g).1 ≤ (((g_Rmarks g) - 1)).toNatClampNeg then none else if p1 < 0 ∨ (g_RmRow g).1 ≤ (p1).toNatClampNeg then none else if ((g_Rmarks g) - 1) < 0 ∨ (g_RmCount g).1 ≤ (((g_Rmarks g) - 1)).toNatClampNeg then none else if p1 < 0 ∨ (g_RmCount g).1 ≤ (p1).toNatClampNeg then none else if ((g_Rmarks g) - 1) < 0 ∨ (g_RmDigest g).1 ≤ (((g_Rmarks g) - 1)).toNatClampNeg then none else if p1 < 0 ∨ (g_RmDigest g).1 ≤ (p1).toNatClampNeg then none else m_RRef_forgetMark_L72 FU (s_RmDigest (s_RmCount (s_RmRow (s_RmNumber (s_Rmarks g ((g_Rmarks g) - 1)) ((g_RmNumber g).1, upd (g_RmNumber g).2 (p1).toNatClampNeg ((g_RmNumber g).2 (((g_Rmarks g) - 1)).toNatClampNeg))) ((g_RmRow g).1, upd (g_RmRow g).2 (p1).toNatClampNeg ((g_RmRow g).2 (((g_Rmarks g) - 1)).toNatClampNeg))) ((g_RmCount g).1, upd (g_RmCount g).2 (p1).toNatClampNeg ((g_RmCount g).2 (((g_Rmarks g) - 1)).toNatClampNeg))) ((g_RmDigest g).1, vp_updL (g_RmDigest g).2 (p1).toNatClampNeg ((g_RmDigest g).2 (((g_Rmarks g) - 1)).toNatClampNeg))) p1 0
noncomputable def m_RRef_give (g : St_Ref) (p1 : Int32) : Option (Int32 × St_Ref) :=
  if (g_Ropen g) = 0 then
  (some ((-3), g))
  else
  ((m_RRef_findMark g p1).bind fun q2 => if q2 = (-1) then
    (some ((-1), g))
    else
    (if q2 < 0 ∨ (g_RmRow g).1 ≤ (q2).toNatClampNeg then none else if ((g_RmRow g).2 (q2).toNatClampNeg) = (-1) then
      ((m_RRef_forgetMark g q2).bind fun q6 => some (1, q6))
      else
      (some ((-1), g))))
noncomputable def m_RRef_owner_L93  : Nat → St_Ref → Int32 → Int32 → Option (Int32 × St_Ref)
  | 0, _, _, _ => none
  | n + 1, g, v1, v2 => if 8 ≤ v2 then
    ((m_RRef_sumDraft g).bind fun q13 => (m_RRef_write q13 (jrem (g_Rserial q13) 2) 0).bind fun q14 => if q14.1 = 0 then
      (some ((-5), q14.2))
      else
      (if v1 < 0 ∨ (g_Rowners q14.2).1 ≤ (v1).toNatClampNeg then none else some (((g_Rowners q14.2).2 (v1).toNatClampNeg), q14.2)))
    else
    (if v2 < 0 ∨ (g_Rowners g).1 ≤ (v2).toNatClampNeg then none else (m_RRef_put (g_Rdraft g) (8 + (2 * v2)) 2 ((((g_Rowners g).2 (v2).toNatClampNeg)).toInt64)).bind fun q18 => m_RRef_owner_L93 n (s_Rdraft g q18) v1 (v2 + 1))
noncomputable def m_RRef_owner (g : St_Ref) (p1 : Int32) : Option (Int32 × St_Ref) :=
  if (g_Ropen g) = 0 then
  (some ((-3), g))
  else
  ((m_RRef_isIn p1 0 7).bind fun q2 => if q2 = 0 then
    (some ((-2), g))
    else
    (if p1 < 0 ∨ (g_Rowners g).1 ≤ (p1).toNatClampNeg then none else if ((g_Rowners g).2 (p1).toNatClampNeg) = 65535 then
      (some ((-4), g))
      else
      (if (g_Rserial g) = 1000000000 then
        (some ((-4), g))
        else
        ((m_RRef_clearDraft g).bind fun q7 => if p1 < 0 ∨ (g_Rowners q7).1 ≤ (p1).toNatClampNeg then none else if p1 < 0 ∨ (g_Rowners q7).1 ≤ (p1).toNatClampNeg then none else if (0 : Int32) < 0 ∨ (g_Rdraft q7).1 ≤ (0 : Int32).toNatClampNeg then none else (m_RRef_put ((g_Rdraft q7).1, upd (g_Rdraft q7).2 (0 : Int32).toNatClampNeg (vp_nar .byte 4)) 4 4 ((((g_Rserial q7) + 1)).toInt64)).bind fun q11 => m_RRef_owner_L93 FU (s_Rdraft (s_Rdraft (s_Rserial (s_Rowners q7 ((g_Rowners q7).1, upd (g_Rowners q7).2 (p1).toNatClampNeg (((g_Rowners q7).2 (p1).toNatClampNeg) + 1))) ((g_Rserial q7) + 1)) ((g_Rdraft q7).1, upd (g_Rdraft q7).2 (0 : Int32).toNatClampNeg (vp_nar .byte 4))) q11) p1 0))))
noncomputable def m_RRef_named0_L15 (g : St_Ref) (k : Int32 → Int32 → Int32 → Option (Int32)) : Nat → Int32 → Int32 → Int32 → Int32 → Option (Int32)
  | 0, _, _, _, _ => none
  | n + 1, v1, v2, v3, v4 => if v3 < 0 ∨ (g_RmCount g).1 ≤ (v3).toNatClampNeg then none else if ((g_RmCount g).2 (v3).toNatClampNeg) ≤ v4 then
    (k v1 v2 v3)
    else
    (if ((12 * v3) + v4) < 0 ∨ (g_RmPart g).1 ≤ (((12 * v3) + v4)).toNatClampNeg then none else if ((g_RmPart g).2 (((12 * v3) + v4)).toNatClampNeg) = v1 then
      (m_RRef_named0_L15 g k n v1 (v2 + 1) v3 (v4 + 1))
      else
      (m_RRef_named0_L15 g k n v1 (v2 + 0) v3 (v4 + 1)))
noncomputable def m_RRef_named0_L4 (g : St_Ref) : Nat → Int32 → Int32 → Int32 → Option (Int32)
  | 0, _, _, _ => none
  | n + 1, v1, v2, v3 => if (g_Rmarks g) ≤ v3 then
    (some v2)
    else
    (m_RRef_named0_L15 g (fun (v1_6 : Int32) (v2_7 : Int32) (v3_8 : Int32) => m_RRef_named0_L4 g n v1_6 v2_7 (v3_8 + 1)) FU  v1 v2 v3 0)
noncomputable def m_RRef_named0 (g : St_Ref) (p1 : Int32) : Option (Int32) :=
  m_RRef_named0_L4 g FU p1 0 0
noncomputable def m_RRef_takeBack_L9  : Nat → St_Ref → Int32 → Int32 → Int32 → Int32 → Option (Int32 × St_Ref)
  | 0, _, _, _, _, _ => none
  | n + 1, g, v1, v2, v3, v4 => if v2 ≤ v4 then
    (if ¬ (v3 = 0 ∨ v3 = 1) then none else some (v3, g))
    else
    (if v3 = 0 then
      (if ¬ (v3 = 0 ∨ v3 = 1) then none else some (v3, g))
      else
      ((m_RRef_write g (v1 + v4) 0).bind fun q6 => m_RRef_takeBack_L9 n q6.2 v1 v2 q6.1 (v4 + 1)))
noncomputable def m_RRef_takeBack (g : St_Ref) (p1 : Int32) (p2 : Int32) : Option (Int32 × St_Ref) :=
  (m_RRef_clearDraft g).bind fun q1 => m_RRef_takeBack_L9 FU q1 p1 p2 1 0
noncomputable def m_RRef_forgetPart (g : St_Ref) (p1 : Int32) : Option (St_Ref) :=
  if ((g_Rparts g) - 1) < 0 ∨ (g_RpNumber g).1 ≤ (((g_Rparts g) - 1)).toNatClampNeg then none else if p1 < 0 ∨ (g_RpNumber g).1 ≤ (p1).toNatClampNeg then none else if ((g_Rparts g) - 1) < 0 ∨ (g_RpGroup g).1 ≤ (((g_Rparts g) - 1)).toNatClampNeg then none else if p1 < 0 ∨ (g_RpGroup g).1 ≤ (p1).toNatClampNeg then none else if ((g_Rparts g) - 1) < 0 ∨ (g_RpPosition g).1 ≤ (((g_Rparts g) - 1)).toNatClampNeg then none else if p1 < 0 ∨ (g_RpPosition g).1 ≤ (p1).toNatClampNeg then none else if ((g_Rparts g) - 1) < 0 ∨ (g_RpLength g).1 ≤ (((g_Rparts g) - 1)).toNatClampNeg then none else if p1 < 0 ∨ (g_RpLength g).1 ≤ (p1).toNatClampNeg then none else if ((g_Rparts g) - 1) < 0 ∨ (g_RpRow g).1 ≤ (((g_Rparts g) - 1)).toNatClampNeg then none else if p1 < 0 ∨ (g_RpRow g).1 ≤ (p1).toNatClampNeg then none else some (s_RpRow (s_RpLength (s_RpPosition (s_RpGroup (s_RpNumber (s_Rparts g ((g_Rparts g) - 1)) ((g_RpNumber g).1, upd (g_RpNumber g).2 (p1).toNatClampNeg ((g_RpNumber g).2 (((g_Rparts g) - 1)).toNatClampNeg))) ((g_RpGroup g).1, upd (g_RpGroup g).2 (p1).toNatClampNeg ((g_RpGroup g).2 (((g_Rparts g) - 1)).toNatClampNeg))) ((g_RpPosition g).1, vp_updL (g_RpPosition g).2 (p1).toNatClampNeg ((g_RpPosition g).2 (((g_Rparts g) - 1)).toNatClampNeg))) ((g_RpLength g).1, upd (g_RpLength g).2 (p1).toNatClampNeg ((g_RpLength g).2 (((g_Rparts g) - 1)).toNatClampNeg))) ((g_RpRow g).1, upd (g_RpRow g).2 (p1).toNatClampNeg ((g_RpRow g).2 (((g_Rparts g) - 1)).toNatClampNeg)))
noncomputable def m_RRef_oldest_L4 (g : St_Ref) : Nat → Int32 → Int32 → Option (Int32)
  | 0, _, _ => none
  | n + 1, v1, v2 => if (g_Rmarks g) ≤ v2 then
    (some v1)
    else
    (if v2 < 0 ∨ (g_RmRow g).1 ≤ (v2).toNatClampNeg then none else if ((g_RmRow g).2 (v2).toNatClampNeg) = (-1) then
      (m_RRef_oldest_L4 g n v1 (v2 + 1))
      else
      (if v1 = (-1) then
        (m_RRef_oldest_L4 g n v2 (v2 + 1))
        else
        (if v2 < 0 ∨ (g_RmNumber g).1 ≤ (v2).toNatClampNeg then none else if v1 < 0 ∨ (g_RmNumber g).1 ≤ (v1).toNatClampNeg then none else if ((g_RmNumber g).2 (v1).toNatClampNeg) ≤ ((g_RmNumber g).2 (v2).toNatClampNeg) then
          (m_RRef_oldest_L4 g n v1 (v2 + 1))
          else
          (m_RRef_oldest_L4 g n v2 (v2 + 1)))))
noncomputable def m_RRef_oldest (g : St_Ref)  : Option (Int32) :=
  m_RRef_oldest_L4 g FU (-1) 0
noncomputable def m_RRef_drop_L146  (k : St_Ref → Int32 → Int32 → Int32 → Int32 → Option (Int32 × St_Ref)) : Nat → St_Ref → Int32 → Int32 → Int32 → Int32 → Int32 → Option (Int32 × St_Ref)
  | 0, _, _, _, _, _, _ => none
  | n + 1, g, v2, v3, v4, v6, v7 => if (g_Rparts g) ≤ v7 then
    (k g v2 v3 v4 v6)
    else
    (if v7 < 0 ∨ (g_RpNumber g).1 ≤ (v7).toNatClampNeg then none else if ((g_RpNumber g).2 (v7).toNatClampNeg) ≤ v4 then
      (m_RRef_drop_L146 k n g v2 v3 v4 v6 (v7 + 1))
      else
      (if v7 < 0 ∨ (g_RpNumber g).1 ≤ (v7).toNatClampNeg then none else if v2 < ((g_RpNumber g).2 (v7).toNatClampNeg) then
        (m_RRef_drop_L146 k n g v2 v3 v4 v6 (v7 + 1))
        else
        (if v7 < 0 ∨ (g_RpNumber g).1 ≤ (v7).toNatClampNeg then none else (m_RRef_named0 g ((g_RpNumber g).2 (v7).toNatClampNeg)).bind fun q13 => if q13 = 0 then
          (if v6 = (-1) then
            (m_RRef_drop_L146 k n g v2 v3 v4 v7 (v7 + 1))
            else
            (if v7 < 0 ∨ (g_RpNumber g).1 ≤ (v7).toNatClampNeg then none else if v6 < 0 ∨ (g_RpNumber g).1 ≤ (v6).toNatClampNeg then none else if ((g_RpNumber g).2 (v6).toNatClampNeg) ≤ ((g_RpNumber g).2 (v7).toNatClampNeg) then
              (m_RRef_drop_L146 k n g v2 v3 v4 v6 (v7 + 1))
              else
              (m_RRef_drop_L146 k n g v2 v3 v4 v7 (v7 + 1))))
          else
          (m_RRef_drop_L146 k n g v2 v3 v4 v6 (v7 + 1)))))
noncomputable def m_RRef_drop_L135  : Nat → St_Ref → Int32 → Int32 → Int32 → Int32 → Option (Int32 × St_Ref)
  | 0, _, _, _, _, _ => none
  | n + 1, g, v2, v3, v4, v5 => if v5 = 0 then
    (some (v3, g))
    else
    (m_RRef_drop_L146  (fun (g19 : St_Ref) (v2_20 : Int32) (v3_21 : Int32) (v4_22 : Int32) (v6_23 : Int32) => if v6_23 = (-1) then
        (m_RRef_drop_L135 n g19 v2_20 v3_21 v4_22 0)
        else
        (if v6_23 < 0 ∨ (g_RpNumber g19).1 ≤ (v6_23).toNatClampNeg then none else if v6_23 < 0 ∨ (g_RpRow g19).1 ≤ (v6_23).toNatClampNeg then none else if v6_23 < 0 ∨ (g_RpLength g19).1 ≤ (v6_23).toNatClampNeg then none else (m_RRef_bodies ((g_RpLength g19).2 (v6_23).toNatClampNeg)).bind fun q28 => (m_RRef_takeBack g19 ((g_RpRow g19).2 (v6_23).toNatClampNeg) (1 + q28)).bind fun q29 => if q29.1 = 0 then
          (some ((-5), q29.2))
          else
          ((m_RRef_forgetPart q29.2 v6_23).bind fun q31 => m_RRef_drop_L135 n q31 v2_20 (v3_21 + 1) ((g_RpNumber g19).2 (v6_23).toNatClampNeg) 1))) FU g v2 v3 v4 (-1) 0)
noncomputable def m_RRef_drop_L78  : Nat → St_Ref → Int32 → Int32 → Option (Int32 × St_Ref)
  | 0, _, _, _ => none
  | n + 1, g, v1, v2 => (m_RRef_count g 1).bind fun q4 => if q4 ≤ v1 then
    (m_RRef_drop_L135 FU g v2 0 0 1)
    else
    ((m_RRef_oldest g).bind fun q32 => if q32 < 0 ∨ (g_RmRow g).1 ≤ (q32).toNatClampNeg then none else if q32 < 0 ∨ (g_RmCount g).1 ≤ (q32).toNatClampNeg then none else (m_RRef_entries ((g_RmCount g).2 (q32).toNatClampNeg)).bind fun q35 => (m_RRef_takeBack g ((g_RmRow g).2 (q32).toNatClampNeg) (1 + q35)).bind fun q36 => if q36.1 = 0 then
      (some ((-5), q36.2))
      else
      ((m_RRef_forgetMark q36.2 q32).bind fun q38 => m_RRef_drop_L78 n q38 v1 v2))
noncomputable def m_RRef_drop_L21  : Nat → St_Ref → Int32 → Int32 → Int32 → Option (Int32 × St_Ref)
  | 0, _, _, _, _ => none
  | n + 1, g, v1, v2, v3 => if (g_Rmarks g) ≤ v3 then
    (m_RRef_drop_L78 FU g v1 v2)
    else
    (if v3 < 0 ∨ (g_RmCount g).1 ≤ (v3).toNatClampNeg then none else if (((12 * v3) + ((g_RmCount g).2 (v3).toNatClampNeg)) - 1) < 0 ∨ (g_RmPart g).1 ≤ ((((12 * v3) + ((g_RmCount g).2 (v3).toNatClampNeg)) - 1)).toNatClampNeg then none else if v3 < 0 ∨ (g_RmRow g).1 ≤ (v3).toNatClampNeg then none else if ((g_RmRow g).2 (v3).toNatClampNeg) = (-1) then
      (m_RRef_drop_L21 n g v1 v2 (v3 + 1))
      else
      (if ((g_RmPart g).2 ((((12 * v3) + ((g_RmCount g).2 (v3).toNatClampNeg)) - 1)).toNatClampNeg) ≤ v2 then
        (m_RRef_drop_L21 n g v1 v2 (v3 + 1))
        else
        (m_RRef_drop_L21 n g v1 ((g_RmPart g).2 ((((12 * v3) + ((g_RmCount g).2 (v3).toNatClampNeg)) - 1)).toNatClampNeg) (v3 + 1))))
noncomputable def m_RRef_drop (g : St_Ref) (p1 : Int32) : Option (Int32 × St_Ref) :=
  if (g_Ropen g) = 0 then
  (some ((-3), g))
  else
  (if 0 ≤ p1 then
    (m_RRef_drop_L21 FU g p1 0 0)
    else
    (some ((-2), g)))
noncomputable def m_RRef_cut (g : St_Ref) (p1 : Int32) : Option (Int32 × St_Ref) :=
  (m_RRef_isIn p1 (-1) 20000).bind fun q1 => if q1 = 0 then
  (some (0, g))
  else
  (some (1, (s_RcutIn g p1)))
noncomputable def m_RRef_close (g : St_Ref)  : Option (Int32 × St_Ref) :=
  if ¬ ((g_Ropen g) = 0 ∨ (g_Ropen g) = 1) then none else some ((g_Ropen g), (s_Ropen g 0))
noncomputable def m_RRef_isWholePart (g : St_Ref) (p1 : Int32) : Option (Int32) :=
  if p1 < 0 ∨ (g_RpRow g).1 ≤ (p1).toNatClampNeg then none else if p1 < 0 ∨ (g_RpRow g).1 ≤ (p1).toNatClampNeg then none else (m_RRef_kind g ((g_RpRow g).2 (p1).toNatClampNeg)).bind fun q3 => if q3 = 1 then
  (if p1 < 0 ∨ (g_RpRow g).1 ≤ (p1).toNatClampNeg then none else (m_RRef_isSummed g ((g_RpRow g).2 (p1).toNatClampNeg)).bind fun q6 => if q6 = 0 then
    (some 0)
    else
    ((m_RRef_number (g_Rmedium g) ((32 * ((g_RpRow g).2 (p1).toNatClampNeg)) + 4) 4).bind fun q8 => if p1 < 0 ∨ (g_RpNumber g).1 ≤ (p1).toNatClampNeg then none else if (lg_cmp q8 ((((g_RpNumber g).2 (p1).toNatClampNeg)).toInt64)) = 0 then
      ((m_RRef_number (g_Rmedium g) ((32 * ((g_RpRow g).2 (p1).toNatClampNeg)) + 2) 2).bind fun q11 => if p1 < 0 ∨ (g_RpLength g).1 ≤ (p1).toNatClampNeg then none else if (lg_cmp q11 ((((g_RpLength g).2 (p1).toNatClampNeg)).toInt64)) = 0 then
        ((m_RRef_number (g_Rmedium g) ((32 * ((g_RpRow g).2 (p1).toNatClampNeg)) + 16) 8).bind fun q14 => if p1 < 0 ∨ (g_RpLength g).1 ≤ (p1).toNatClampNeg then none else (m_RRef_bodies ((g_RpLength g).2 (p1).toNatClampNeg)).bind fun q16 => (m_RRef_digest (g_Rmedium g) ((32 * ((g_RpRow g).2 (p1).toNatClampNeg)) + 32) (32 * q16)).bind fun q17 => if (lg_cmp q14 q17) = 0 then
          (some 1)
          else
          (some 0))
        else
        (some 0))
      else
      (some 0)))
  else
  (some 0)
noncomputable def m_RRef_isAsFound (g : St_Ref) (p1 : Int32) : Option (Int32) :=
  if p1 < 0 ∨ (g_RmRow g).1 ≤ (p1).toNatClampNeg then none else if p1 < 0 ∨ (g_RmRow g).1 ≤ (p1).toNatClampNeg then none else (m_RRef_kind g ((g_RmRow g).2 (p1).toNatClampNeg)).bind fun q3 => if q3 = 2 then
  (if p1 < 0 ∨ (g_RmRow g).1 ≤ (p1).toNatClampNeg then none else (m_RRef_isSummed g ((g_RmRow g).2 (p1).toNatClampNeg)).bind fun q6 => if q6 = 0 then
    (some 0)
    else
    ((m_RRef_number (g_Rmedium g) ((32 * ((g_RmRow g).2 (p1).toNatClampNeg)) + 4) 4).bind fun q8 => if p1 < 0 ∨ (g_RmNumber g).1 ≤ (p1).toNatClampNeg then none else if (lg_cmp q8 ((((g_RmNumber g).2 (p1).toNatClampNeg)).toInt64)) = 0 then
      (if ((32 * ((g_RmRow g).2 (p1).toNatClampNeg)) + 1) < 0 ∨ (g_Rmedium g).1 ≤ (((32 * ((g_RmRow g).2 (p1).toNatClampNeg)) + 1)).toNatClampNeg then none else if p1 < 0 ∨ (g_RmCount g).1 ≤ (p1).toNatClampNeg then none else if (((g_Rmedium g).2 (((32 * ((g_RmRow g).2 (p1).toNatClampNeg)) + 1)).toNatClampNeg) &&& 255) = ((g_RmCount g).2 (p1).toNatClampNeg) then
        ((m_RRef_number (g_Rmedium g) ((32 * ((g_RmRow g).2 (p1).toNatClampNeg)) + 8) 8).bind fun q14 => if p1 < 0 ∨ (g_RmDigest g).1 ≤ (p1).toNatClampNeg then none else if (lg_cmp q14 ((g_RmDigest g).2 (p1).toNatClampNeg)) = 0 then
          (if p1 < 0 ∨ (g_RmDigest g).1 ≤ (p1).toNatClampNeg then none else if p1 < 0 ∨ (g_RmCount g).1 ≤ (p1).toNatClampNeg then none else (m_RRef_entries ((g_RmCount g).2 (p1).toNatClampNeg)).bind fun q19 => (m_RRef_digest (g_Rmedium g) ((32 * ((g_RmRow g).2 (p1).toNatClampNeg)) + 32) (32 * q19)).bind fun q20 => if (lg_cmp ((g_RmDigest g).2 (p1).toNatClampNeg) q20) = 0 then
            (some 1)
            else
            (some 0))
          else
          (some 0))
        else
        (some 0))
      else
      (some 0)))
  else
  (some 0)
noncomputable def m_RRef_isWholeMark_L37 (g : St_Ref) : Nat → Int32 → Int32 → Int32 → Int32 → Option (Int32)
  | 0, _, _, _, _ => none
  | n + 1, v1, v2, v3, v4 => if v1 < 0 ∨ (g_RmCount g).1 ≤ (v1).toNatClampNeg then none else if ((g_RmCount g).2 (v1).toNatClampNeg) ≤ v4 then
    (if ¬ (v3 = 0 ∨ v3 = 1) then none else some v3)
    else
    (if v3 = 0 then
      (if ¬ (v3 = 0 ∨ v3 = 1) then none else some v3)
      else
      (if ((12 * v1) + v4) < 0 ∨ (g_RmPart g).1 ≤ (((12 * v1) + v4)).toNatClampNeg then none else (m_RRef_findPart g ((g_RmPart g).2 (((12 * v1) + v4)).toNatClampNeg)).bind fun q9 => if q9 = (-1) then
        (m_RRef_isWholeMark_L37 g n v1 v2 0 (v4 + 1))
        else
        ((m_RRef_isWholePart g q9).bind fun q11 => if q11 = 0 then
          (m_RRef_isWholeMark_L37 g n v1 v2 0 (v4 + 1))
          else
          (if v2 = 0 then
            (m_RRef_isWholeMark_L37 g n v1 v2 1 (v4 + 1))
            else
            (if q9 < 0 ∨ (g_RpRow g).1 ≤ (q9).toNatClampNeg then none else if ((12 * v1) + v4) < 0 ∨ (g_RmPartRow g).1 ≤ (((12 * v1) + v4)).toNatClampNeg then none else if ((g_RpRow g).2 (q9).toNatClampNeg) = ((g_RmPartRow g).2 (((12 * v1) + v4)).toNatClampNeg) then
              (if q9 < 0 ∨ (g_RpRow g).1 ≤ (q9).toNatClampNeg then none else (m_RRef_number (g_Rmedium g) ((32 * ((g_RpRow g).2 (q9).toNatClampNeg)) + 16) 8).bind fun q18 => if ((12 * v1) + v4) < 0 ∨ (g_RmPartDigest g).1 ≤ (((12 * v1) + v4)).toNatClampNeg then none else if (lg_cmp q18 ((g_RmPartDigest g).2 (((12 * v1) + v4)).toNatClampNeg)) = 0 then
                (m_RRef_isWholeMark_L37 g n v1 v2 1 (v4 + 1))
                else
                (m_RRef_isWholeMark_L37 g n v1 v2 0 (v4 + 1)))
              else
              (m_RRef_isWholeMark_L37 g n v1 v2 0 (v4 + 1)))))))
noncomputable def m_RRef_isWholeMark (g : St_Ref) (p1 : Int32) : Option (Int32) :=
  if p1 < 0 ∨ (g_RmRow g).1 ≤ (p1).toNatClampNeg then none else if ((g_RmRow g).2 (p1).toNatClampNeg) = (-1) then
  (m_RRef_isWholeMark_L37 g FU p1 0 1 0)
  else
  ((m_RRef_isAsFound g p1).bind fun q21 => if q21 = 0 then
    (m_RRef_isWholeMark_L37 g FU p1 1 0 0)
    else
    (m_RRef_isWholeMark_L37 g FU p1 1 1 0))
noncomputable def m_RRef_usable_L14 (g : St_Ref) : Nat → Int32 → Int32 → Option (Int32)
  | 0, _, _ => none
  | n + 1, v1, v2 => if (g_Rmarks g) ≤ v2 then
    (some v1)
    else
    (if v2 < 0 ∨ (g_RmRow g).1 ≤ (v2).toNatClampNeg then none else if ((g_RmRow g).2 (v2).toNatClampNeg) = (-1) then
      (m_RRef_usable_L14 g n v1 (v2 + 1))
      else
      (if v2 < 0 ∨ (g_RmNumber g).1 ≤ (v2).toNatClampNeg then none else if ((g_RmNumber g).2 (v2).toNatClampNeg) ≤ v1 then
        (m_RRef_usable_L14 g n v1 (v2 + 1))
        else
        ((m_RRef_isWholeMark g v2).bind fun q7 => if q7 = 0 then
          (m_RRef_usable_L14 g n v1 (v2 + 1))
          else
          (if v2 < 0 ∨ (g_RmNumber g).1 ≤ (v2).toNatClampNeg then none else m_RRef_usable_L14 g n ((g_RmNumber g).2 (v2).toNatClampNeg) (v2 + 1)))))
noncomputable def m_RRef_usable (g : St_Ref)  : Option (Int32) :=
  if (g_Ropen g) = 0 then
  (some (-3))
  else
  (m_RRef_usable_L14 g FU (-1) 0)
noncomputable def m_RRef_whole (g : St_Ref) (p1 : Int32) : Option (Int32) :=
  (m_RRef_findMark g p1).bind fun q1 => if (g_Ropen g) = 0 then
  (some (-3))
  else
  (if q1 = (-1) then
    (some (-1))
    else
    ((m_RRef_isWholeMark g q1).bind fun q4 => if q4 = 0 then
      (some 0)
      else
      (some 1)))
noncomputable def m_RRef_marks_L39 (g : St_Ref) (k : Int32 → Int32 → Int32 → Option (Int32)) : Nat → Int32 → Int32 → Int32 → Int32 → Option (Int32)
  | 0, _, _, _, _ => none
  | n + 1, v1, v3, v4, v5 => if (g_Rmarks g) ≤ v5 then
    (k v1 v3 v4)
    else
    (if v5 < 0 ∨ (g_RmRow g).1 ≤ (v5).toNatClampNeg then none else if ((g_RmRow g).2 (v5).toNatClampNeg) = (-1) then
      (m_RRef_marks_L39 g k n v1 v3 (v4 + 0) (v5 + 1))
      else
      (if v5 < 0 ∨ (g_RmNumber g).1 ≤ (v5).toNatClampNeg then none else if v3 < 0 ∨ (g_RmNumber g).1 ≤ (v3).toNatClampNeg then none else if ((g_RmNumber g).2 (v3).toNatClampNeg) ≤ ((g_RmNumber g).2 (v5).toNatClampNeg) then
        (m_RRef_marks_L39 g k n v1 v3 (v4 + 0) (v5 + 1))
        else
        (m_RRef_marks_L39 g k n v1 v3 (v4 + 1) (v5 + 1))))
noncomputable def m_RRef_marks_L25 (g : St_Ref) : Nat → Int32 → Int32 → Option (Int32)
  | 0, _, _ => none
  | n + 1, v1, v3 => if (g_Rmarks g) ≤ v3 then
    (some (-1))
    else
    (m_RRef_marks_L39 g (fun (v1_11 : Int32) (v3_12 : Int32) (v4_13 : Int32) => if v3_12 < 0 ∨ (g_RmRow g).1 ≤ (v3_12).toNatClampNeg then none else if ((g_RmRow g).2 (v3_12).toNatClampNeg) = (-1) then
        (m_RRef_marks_L25 g n v1_11 (v3_12 + 1))
        else
        (if v4_13 = v1_11 then
          (if v3_12 < 0 ∨ (g_RmNumber g).1 ≤ (v3_12).toNatClampNeg then none else some ((g_RmNumber g).2 (v3_12).toNatClampNeg))
          else
          (m_RRef_marks_L25 g n v1_11 (v3_12 + 1)))) FU  v1 v3 0 0)
noncomputable def m_RRef_marks (g : St_Ref) (p1 : Int32) : Option (Int32) :=
  if (g_Ropen g) = 0 then
  (some (-3))
  else
  ((m_RRef_count g 1).bind fun q2 => if p1 = (-1) then
    (some q2)
    else
    (m_RRef_marks_L25 g FU p1 0))
noncomputable def m_RRef_markOf (g : St_Ref) (p1 : Int32) (p2 : Int32) : Option (Int32) :=
  (m_RRef_findMark g p1).bind fun q1 => if (g_Ropen g) = 0 then
  (some (-3))
  else
  (if q1 = (-1) then
    (some (-1))
    else
    (if q1 < 0 ∨ (g_RmCount g).1 ≤ (q1).toNatClampNeg then none else (m_RRef_isIn p2 (-1) (((g_RmCount g).2 (q1).toNatClampNeg) - 1)).bind fun q5 => if q5 = 0 then
      (some (-1))
      else
      (if p2 = (-1) then
        (if q1 < 0 ∨ (g_RmCount g).1 ≤ (q1).toNatClampNeg then none else some ((g_RmCount g).2 (q1).toNatClampNeg))
        else
        (if ((12 * q1) + p2) < 0 ∨ (g_RmPart g).1 ≤ (((12 * q1) + p2)).toNatClampNeg then none else some ((g_RmPart g).2 (((12 * q1) + p2)).toNatClampNeg)))))
noncomputable def m_RRef_partOf (g : St_Ref) (p1 : Int32) (p2 : Int32) : Option (Int64) :=
  if (g_Ropen g) = 0 then
  (some (-3))
  else
  ((m_RRef_isIn p2 0 5).bind fun q2 => if q2 = 0 then
    (some (-2))
    else
    ((m_RRef_findPart g p1).bind fun q4 => if q4 = (-1) then
      (some (-1))
      else
      (if p2 = 0 then
        (if q4 < 0 ∨ (g_RpGroup g).1 ≤ (q4).toNatClampNeg then none else some ((((g_RpGroup g).2 (q4).toNatClampNeg)).toInt64))
        else if p2 = 1 then
        (if q4 < 0 ∨ (g_RpPosition g).1 ≤ (q4).toNatClampNeg then none else some ((g_RpPosition g).2 (q4).toNatClampNeg))
        else if p2 = 2 then
        (if q4 < 0 ∨ (g_RpLength g).1 ≤ (q4).toNatClampNeg then none else some ((((g_RpLength g).2 (q4).toNatClampNeg)).toInt64))
        else if p2 = 3 then
        (if q4 < 0 ∨ (g_RpRow g).1 ≤ (q4).toNatClampNeg then none else some ((((g_RpRow g).2 (q4).toNatClampNeg)).toInt64))
        else if p2 = 4 then
        ((m_RRef_isWholePart g q4).bind fun q15 => if q15 = 0 then
          (some 0)
          else
          (some 1))
        else (m_RRef_named0 g p1).bind fun q17 => some ((q17).toInt64))))
noncomputable def m_RRef_byteOf (g : St_Ref) (p1 : Int32) (p2 : Int32) : Option (Int32) :=
  if p1 < 0 ∨ (g_RpRow g).1 ≤ (p1).toNatClampNeg then none else if (((32 * ((((g_RpRow g).2 (p1).toNatClampNeg) + 1) + (p2 / 31))) + 1) + (jrem p2 31)) < 0 ∨ (g_Rmedium g).1 ≤ ((((32 * ((((g_RpRow g).2 (p1).toNatClampNeg) + 1) + (p2 / 31))) + 1) + (jrem p2 31))).toNatClampNeg then none else some (((g_Rmedium g).2 ((((32 * ((((g_RpRow g).2 (p1).toNatClampNeg) + 1) + (p2 / 31))) + 1) + (jrem p2 31))).toNatClampNeg) &&& 255)
noncomputable def m_RRef_partByte (g : St_Ref) (p1 : Int32) (p2 : Int32) : Option (Int32) :=
  (m_RRef_findPart g p1).bind fun q1 => if (g_Ropen g) = 0 then
  (some (-3))
  else
  (if q1 = (-1) then
    (some (-1))
    else
    (if q1 < 0 ∨ (g_RpLength g).1 ≤ (q1).toNatClampNeg then none else (m_RRef_isIn p2 0 (((g_RpLength g).2 (q1).toNatClampNeg) - 1)).bind fun q5 => if q5 = 0 then
      (some (-1))
      else
      ((m_RRef_byteOf g q1 p2).bind fun q7 => some q7)))
noncomputable def m_RRef_named (g : St_Ref) (p1 : Int32) : Option (Int32) :=
  if (g_Ropen g) = 0 then
  (some (-3))
  else
  ((m_RRef_named0 g p1).bind fun q2 => some q2)
noncomputable def m_RRef_badAt_L143 (g : St_Ref) (k : Int32 → Int32 → Int32 → Option (Int32)) : Nat → Int32 → Int32 → Int32 → Int32 → Option (Int32)
  | 0, _, _, _, _ => none
  | n + 1, v1, v2, v3, v4 => if 32 ≤ v4 then
    (k v1 v2 v3)
    else
    (if v3 = 0 then
      (m_RRef_badAt_L143 g k n v1 v2 0 (v4 + 1))
      else
      (if ((32 * v2) + v4) < 0 ∨ (g_Rmedium g).1 ≤ (((32 * v2) + v4)).toNatClampNeg then none else if ((g_Rmedium g).2 (((32 * v2) + v4)).toNatClampNeg) = 0 then
        (m_RRef_badAt_L143 g k n v1 v2 1 (v4 + 1))
        else
        (m_RRef_badAt_L143 g k n v1 v2 0 (v4 + 1))))
noncomputable def m_RRef_badAt_L134 (g : St_Ref) : Nat → Int32 → Int32 → Option (Int32)
  | 0, _, _ => none
  | n + 1, v1, v2 => if v2 < 0 then
    (some v1)
    else
    (m_RRef_badAt_L143 g (fun (v1_9 : Int32) (v2_10 : Int32) (v3_11 : Int32) => if v3_11 = 0 then
        ((m_RRef_isGood g v2_10).bind fun q13 => if q13 = 0 then
          (m_RRef_badAt_L134 g n v2_10 (v2_10 + (-1)))
          else
          (m_RRef_badAt_L134 g n v1_9 (v2_10 + (-1))))
        else
        (m_RRef_badAt_L134 g n v1_9 (v2_10 + (-1)))) FU  v1 v2 1 0)
noncomputable def m_RRef_badAt_L84 (g : St_Ref) : Nat → Int32 → Int32 → Option (Int32)
  | 0, _, _ => none
  | n + 1, v1, v2 => if (g_Rparts g) ≤ v2 then
    (m_RRef_badAt_L134 g FU v1 1)
    else
    ((m_RRef_isWholePart g v2).bind fun q15 => if q15 = 0 then
      (if v1 = (-1) then
        (if v2 < 0 ∨ (g_RpRow g).1 ≤ (v2).toNatClampNeg then none else m_RRef_badAt_L84 g n ((g_RpRow g).2 (v2).toNatClampNeg) (v2 + 1))
        else
        (if v2 < 0 ∨ (g_RpRow g).1 ≤ (v2).toNatClampNeg then none else if v1 ≤ ((g_RpRow g).2 (v2).toNatClampNeg) then
          (m_RRef_badAt_L84 g n v1 (v2 + 1))
          else
          (if v2 < 0 ∨ (g_RpRow g).1 ≤ (v2).toNatClampNeg then none else m_RRef_badAt_L84 g n ((g_RpRow g).2 (v2).toNatClampNeg) (v2 + 1))))
      else
      (m_RRef_badAt_L84 g n v1 (v2 + 1)))
noncomputable def m_RRef_badAt_L14 (g : St_Ref) : Nat → Int32 → Int32 → Option (Int32)
  | 0, _, _ => none
  | n + 1, v1, v2 => if (g_Rmarks g) ≤ v2 then
    (m_RRef_badAt_L84 g FU v1 0)
    else
    (if v2 < 0 ∨ (g_RmRow g).1 ≤ (v2).toNatClampNeg then none else if ((g_RmRow g).2 (v2).toNatClampNeg) = (-1) then
      (m_RRef_badAt_L14 g n v1 (v2 + 1))
      else
      ((m_RRef_isAsFound g v2).bind fun q24 => if q24 = 0 then
        (if v1 = (-1) then
          (if v2 < 0 ∨ (g_RmRow g).1 ≤ (v2).toNatClampNeg then none else m_RRef_badAt_L14 g n ((g_RmRow g).2 (v2).toNatClampNeg) (v2 + 1))
          else
          (if v2 < 0 ∨ (g_RmRow g).1 ≤ (v2).toNatClampNeg then none else if v1 ≤ ((g_RmRow g).2 (v2).toNatClampNeg) then
            (m_RRef_badAt_L14 g n v1 (v2 + 1))
            else
            (if v2 < 0 ∨ (g_RmRow g).1 ≤ (v2).toNatClampNeg then none else m_RRef_badAt_L14 g n ((g_RmRow g).2 (v2).toNatClampNeg) (v2 + 1))))
        else
        (m_RRef_badAt_L14 g n v1 (v2 + 1))))
noncomputable def m_RRef_badAt (g : St_Ref)  : Option (Int32) :=
  if (g_Ropen g) = 0 then
  (some (-3))
  else
  (m_RRef_badAt_L14 g FU (-1) 0)
noncomputable def m_RRef_poke (g : St_Ref) (p1 : Int32) (p2 : Int32) (p3 : Int32) : Option (Int32 × St_Ref) :=
  (m_RRef_isIn p1 0 ((g_Rrows g) - 1)).bind fun q1 => if q1 = 0 then
  (some ((-2), g))
  else
  ((m_RRef_isIn p2 0 31).bind fun q3 => if q3 = 0 then
    (some ((-2), g))
    else
    ((m_RRef_isIn p3 1 255).bind fun q5 => if q5 = 0 then
      (some ((-2), g))
      else
      (if ((32 * p1) + p2) < 0 ∨ (g_Rmedium g).1 ≤ (((32 * p1) + p2)).toNatClampNeg then none else if ((32 * p1) + p2) < 0 ∨ (g_Rmedium g).1 ≤ (((32 * p1) + p2)).toNatClampNeg then none else if ((32 * p1) + p2) < 0 ∨ ((g_Rmedium g).1, upd (g_Rmedium g).2 (((32 * p1) + p2)).toNatClampNeg (vp_nar .byte (((((g_Rmedium g).2 (((32 * p1) + p2)).toNatClampNeg) ^^^ p3)).toInt8.toInt32))).1 ≤ (((32 * p1) + p2)).toNatClampNeg then none else some (((((g_Rmedium g).1, upd (g_Rmedium g).2 (((32 * p1) + p2)).toNatClampNeg (vp_nar .byte (((((g_Rmedium g).2 (((32 * p1) + p2)).toNatClampNeg) ^^^ p3)).toInt8.toInt32))).2 (((32 * p1) + p2)).toNatClampNeg) &&& 255), (s_Rmedium g ((g_Rmedium g).1, upd (g_Rmedium g).2 (((32 * p1) + p2)).toNatClampNeg (vp_nar .byte (((((g_Rmedium g).2 (((32 * p1) + p2)).toNatClampNeg) ^^^ p3)).toInt8.toInt32))))))))
noncomputable def m_RRef_byteAt (g : St_Ref) (p1 : Int32) (p2 : Int32) : Option (Int32) :=
  (m_RRef_isIn p1 0 ((g_Rrows g) - 1)).bind fun q1 => if q1 = 0 then
  (some (-2))
  else
  ((m_RRef_isIn p2 0 31).bind fun q3 => if q3 = 0 then
    (some (-2))
    else
    (if ((32 * p1) + p2) < 0 ∨ (g_Rmedium g).1 ≤ (((32 * p1) + p2)).toNatClampNeg then none else some (((g_Rmedium g).2 (((32 * p1) + p2)).toNatClampNeg) &&& 255)))
noncomputable def m_RRef_savepoint_L111  (k : St_Ref → Int32 → Int32 → Int32 → Option (Int32 × St_Ref)) : Nat → St_Ref → Int32 → Int32 → Int32 → Int32 → Int32 → Option (Int32 × St_Ref)
  | 0, _, _, _, _, _, _ => none
  | n + 1, g, v1, v2, v3, v4, v5 => if v4 < 0 ∨ (g_RpLength g).1 ≤ (v4).toNatClampNeg then none else if ((g_RpLength g).2 (v4).toNatClampNeg) ≤ v5 then
    (k g v1 v2 v3)
    else
    ((m_RRef_byteOf g v4 v5).bind fun q18 => if v2 < 0 ∨ (g_Rspoint g).1 ≤ (v2).toNatClampNeg then none else m_RRef_savepoint_L111 k n (s_Rspoint g ((g_Rspoint g).1, upd (g_Rspoint g).2 (v2).toNatClampNeg (vp_nar .byte ((q18).toInt8.toInt32)))) v1 (v2 + 1) v3 v4 (v5 + 1))
noncomputable def m_RRef_savepoint_L25  : Nat → St_Ref → Int32 → Int32 → Int32 → Option (Int32 × St_Ref)
  | 0, _, _, _, _ => none
  | n + 1, g, v1, v2, v3 => if v1 < 0 ∨ (g_RmCount g).1 ≤ (v1).toNatClampNeg then none else if ((g_RmCount g).2 (v1).toNatClampNeg) ≤ v3 then
    ((m_RRef_digest (g_Rspoint g) 0 v2).bind fun q6 => (m_RRef_put (g_Rspoint g) v2 8 q6).bind fun q7 => some ((v2 + 8), (s_Rspoint g q7)))
    else
    (if ((12 * v1) + v3) < 0 ∨ (g_RmPart g).1 ≤ (((12 * v1) + v3)).toNatClampNeg then none else (m_RRef_findPart g ((g_RmPart g).2 (((12 * v1) + v3)).toNatClampNeg)).bind fun q9 => if q9 < 0 ∨ (g_RpGroup g).1 ≤ (q9).toNatClampNeg then none else if v2 < 0 ∨ (g_Rspoint g).1 ≤ (v2).toNatClampNeg then none else if q9 < 0 ∨ (g_RpPosition g).1 ≤ (q9).toNatClampNeg then none else (m_RRef_put ((g_Rspoint g).1, upd (g_Rspoint g).2 (v2).toNatClampNeg (vp_nar .byte ((((g_RpGroup g).2 (q9).toNatClampNeg)).toInt8.toInt32))) (v2 + 1) 8 ((g_RpPosition g).2 (q9).toNatClampNeg)).bind fun q13 => if q9 < 0 ∨ (g_RpLength g).1 ≤ (q9).toNatClampNeg then none else (m_RRef_put q13 (v2 + 9) 2 ((((g_RpLength g).2 (q9).toNatClampNeg)).toInt64)).bind fun q15 => m_RRef_savepoint_L111  (fun (g20 : St_Ref) (v1_21 : Int32) (v2_22 : Int32) (v3_23 : Int32) => m_RRef_savepoint_L25 n g20 v1_21 v2_22 (v3_23 + 1)) FU (s_Rspoint (s_Rspoint (s_Rspoint g ((g_Rspoint g).1, upd (g_Rspoint g).2 (v2).toNatClampNeg (vp_nar .byte ((((g_RpGroup g).2 (q9).toNatClampNeg)).toInt8.toInt32)))) q13) q15) v1 (v2 + 11) v3 q9 0)
noncomputable def m_RRef_savepoint (g : St_Ref) (p1 : Int32) : Option (Int32 × St_Ref) :=
  if (0 : Int32) < 0 ∨ (g_Rspoint g).1 ≤ (0 : Int32).toNatClampNeg then none else if p1 < 0 ∨ (g_RmCount g).1 ≤ (p1).toNatClampNeg then none else if (1 : Int32) < 0 ∨ ((g_Rspoint g).1, upd (g_Rspoint g).2 (0 : Int32).toNatClampNeg (vp_nar .byte 77)).1 ≤ (1 : Int32).toNatClampNeg then none else m_RRef_savepoint_L25 FU (s_Rspoint (s_Rspoint g ((g_Rspoint g).1, upd (g_Rspoint g).2 (0 : Int32).toNatClampNeg (vp_nar .byte 77))) (((g_Rspoint g).1, upd (g_Rspoint g).2 (0 : Int32).toNatClampNeg (vp_nar .byte 77)).1, upd ((g_Rspoint g).1, upd (g_Rspoint g).2 (0 : Int32).toNatClampNeg (vp_nar .byte 77)).2 (1 : Int32).toNatClampNeg (vp_nar .byte ((((g_RmCount g).2 (p1).toNatClampNeg)).toInt8.toInt32)))) p1 2 0
noncomputable def m_RRef_out (g : St_Ref) (p1 : Int32) (p2 : Int32) : Option (Int32 × St_Ref) :=
  (m_RRef_findMark g p1).bind fun q1 => if (g_Ropen g) = 0 then
  (some ((-3), g))
  else
  (if q1 = (-1) then
    (some ((-1), g))
    else
    ((m_RRef_isWholeMark g q1).bind fun q4 => if q4 = 0 then
      (some ((-2), g))
      else
      ((m_RRef_savepoint g q1).bind fun q6 => if p2 = (-1) then
        (some (q6.1, q6.2))
        else
        ((m_RRef_isIn p2 0 (q6.1 - 1)).bind fun q8 => if q8 = 0 then
          (some ((-1), q6.2))
          else
          (if p2 < 0 ∨ (g_Rspoint q6.2).1 ≤ (p2).toNatClampNeg then none else some ((((g_Rspoint q6.2).2 (p2).toNatClampNeg) &&& 255), q6.2))))))
noncomputable def m_RRef_isSavepoint_L38 (g : St_Ref) : Nat → Int32 → Int32 → Int32 → Option (Int32)
  | 0, _, _, _ => none
  | n + 1, v1, v2, v3 => if (1 : Int32) < 0 ∨ (g_Rtape g).1 ≤ (1 : Int32).toNatClampNeg then none else if ((g_Rtape g).2 (1 : Int32).toNatClampNeg) ≤ v3 then
    (if (v2 + 8) = v1 then
      ((m_RRef_number (g_Rtape g) v2 8).bind fun q10 => (m_RRef_digest (g_Rtape g) 0 v2).bind fun q11 => if (lg_cmp q10 q11) = 0 then
        (some 1)
        else
        (some 0))
      else
      (some 0))
    else
    (if v1 < (v2 + 11) then
      (some 0)
      else
      (if v2 < 0 ∨ (g_Rtape g).1 ≤ (v2).toNatClampNeg then none else if (((g_Rtape g).2 (v2).toNatClampNeg) &&& 255) ≤ 7 then
        ((m_RRef_number (g_Rtape g) (v2 + 9) 2).bind fun q16 => if 155 < ((q16).toInt32) then
          (some 0)
          else
          (if ((v2 + 11) + ((q16).toInt32)) ≤ v1 then
            (m_RRef_isSavepoint_L38 g n v1 (v2 + (11 + ((q16).toInt32))) (v3 + 1))
            else
            (some 0)))
        else
        (some 0)))
noncomputable def m_RRef_isSavepoint (g : St_Ref) (p1 : Int32) : Option (Int32) :=
  if p1 < 10 then
  (some 0)
  else
  (if (0 : Int32) < 0 ∨ (g_Rtape g).1 ≤ (0 : Int32).toNatClampNeg then none else if ((g_Rtape g).2 (0 : Int32).toNatClampNeg) = 77 then
    (if (1 : Int32) < 0 ∨ (g_Rtape g).1 ≤ (1 : Int32).toNatClampNeg then none else (m_RRef_isIn ((g_Rtape g).2 (1 : Int32).toNatClampNeg) 1 12).bind fun q5 => if q5 = 0 then
      (some 0)
      else
      (m_RRef_isSavepoint_L38 g FU p1 2 0))
    else
    (some 0))
noncomputable def m_RRef_in__L181  : Nat → St_Ref → Int32 → Int32 → Int32 → Option (Int32 × St_Ref)
  | 0, _, _, _, _ => none
  | n + 1, g, v2, v3, v4 => if v2 ≤ v4 then
    ((m_RRef_newMark g v2).bind fun q12 => some (q12.1, q12.2))
    else
    ((m_RRef_number (g_Rtape g) (v3 + 9) 2).bind fun q13 => if v3 < 0 ∨ (g_Rtape g).1 ≤ (v3).toNatClampNeg then none else (m_RRef_number (g_Rtape g) (v3 + 1) 8).bind fun q15 => if v4 < 0 ∨ (g_Rplaces g).1 ≤ (v4).toNatClampNeg then none else (m_RRef_writePart_tape g (((g_Rtape g).2 (v3).toNatClampNeg) &&& 255) q15 (v3 + 11) ((q13).toInt32) ((g_Rplaces g).2 (v4).toNatClampNeg)).bind fun q17 => if q17.1 = (-5) then
      (some ((-5), q17.2))
      else
      (if ((12 * (g_Rmarks q17.2)) + v4) < 0 ∨ (g_RmPart q17.2).1 ≤ (((12 * (g_Rmarks q17.2)) + v4)).toNatClampNeg then none else m_RRef_in__L181 n (s_RmPart q17.2 ((g_RmPart q17.2).1, upd (g_RmPart q17.2).2 (((12 * (g_Rmarks q17.2)) + v4)).toNatClampNeg q17.1)) v2 (v3 + (11 + ((q13).toInt32))) (v4 + 1)))
noncomputable def m_RRef_in__L135  (k : St_Ref → Int32 → Int32 → Int32 → Int32 → Option (Int32 × St_Ref)) : Nat → St_Ref → Int32 → Int32 → Int32 → Int32 → Int32 → Int32 → Option (Int32 × St_Ref)
  | 0, _, _, _, _, _, _, _ => none
  | n + 1, g, v2, v3, v4, v5, v6, v7 => (m_RRef_bodies v5).bind fun q25 => if q25 < v7 then
    (k g v2 v3 v4 v5)
    else
    (if (v6 + v7) < 0 ∨ (g_Rused g).1 ≤ ((v6 + v7)).toNatClampNeg then none else m_RRef_in__L135 k n (s_Rused g ((g_Rused g).1, upd (g_Rused g).2 ((v6 + v7)).toNatClampNeg (vp_nar .boolean 1))) v2 v3 v4 v5 v6 (v7 + 1))
noncomputable def m_RRef_in__L80  : Nat → St_Ref → Int32 → Int32 → Int32 → Option (Int32 × St_Ref)
  | 0, _, _, _, _ => none
  | n + 1, g, v2, v3, v4 => if v2 ≤ v4 then
    (m_RRef_in__L181 FU g v2 2 0)
    else
    ((m_RRef_number (g_Rtape g) (v3 + 9) 2).bind fun q20 => (m_RRef_bodies ((q20).toInt32)).bind fun q21 => (m_RRef_room g (1 + q21)).bind fun q22 => if q22 = (-1) then
      (some ((-4), g))
      else
      (if v4 < 0 ∨ (g_Rplaces g).1 ≤ (v4).toNatClampNeg then none else m_RRef_in__L135  (fun (g28 : St_Ref) (v2_29 : Int32) (v3_30 : Int32) (v4_31 : Int32) (v5_32 : Int32) => m_RRef_in__L80 n g28 v2_29 (v3_30 + (11 + v5_32)) (v4_31 + 1)) FU (s_Rplaces g ((g_Rplaces g).1, upd (g_Rplaces g).2 (v4).toNatClampNeg q22)) v2 v3 v4 ((q20).toInt32) q22 0))
noncomputable def m_RRef_in_ (g : St_Ref)  : Option (Int32 × St_Ref) :=
  if (g_Ropen g) = 0 then
  (some ((-3), (s_Rtaped g 0)))
  else
  ((m_RRef_isSavepoint (s_Rtaped g 0) (g_Rtaped g)).bind fun q2 => if q2 = 0 then
    (some ((-2), (s_Rtaped g 0)))
    else
    (if (1 : Int32) < 0 ∨ (g_Rtape g).1 ≤ (1 : Int32).toNatClampNeg then none else (m_RRef_count (s_Rtaped g 0) 0).bind fun q5 => if q5 = 6 then
      (some ((-4), (s_Rtaped g 0)))
      else
      (if (g_RlastMark g) = 1000000000 then
        (some ((-4), (s_Rtaped g 0)))
        else
        (if ((g_RlastPart g) + ((g_Rtape g).2 (1 : Int32).toNatClampNeg)) ≤ 1000000000 then
          ((m_RRef_marksUsed (s_Rtaped g 0)).bind fun q9 => m_RRef_in__L80 FU q9 ((g_Rtape g).2 (1 : Int32).toNatClampNeg) 2 0)
          else
          (some ((-4), (s_Rtaped g 0)))))))
noncomputable def m_RRef_equal_L197 (g : St_Ref) (k : Int32 → Int32 → Int32 → Int32 → Option (Int32)) : Nat → Int32 → Int32 → Int32 → Int32 → Int32 → Int32 → Int32 → Option (Int32)
  | 0, _, _, _, _, _, _, _ => none
  | n + 1, v3, v4, v5, v6, v7, v8, v9 => if v7 < 0 ∨ (g_RpLength g).1 ≤ (v7).toNatClampNeg then none else if ((g_RpLength g).2 (v7).toNatClampNeg) ≤ v9 then
    (k v3 v4 v5 v6)
    else
    (if v5 = 0 then
      (k v3 v4 v5 v6)
      else
      ((m_RRef_byteOf g v7 v9).bind fun q28 => (m_RRef_byteOf g v8 v9).bind fun q29 => if q28 = q29 then
        (m_RRef_equal_L197 g k n v3 v4 1 v6 v7 v8 (v9 + 1))
        else
        (m_RRef_equal_L197 g k n v3 v4 0 v6 v7 v8 (v9 + 1))))
noncomputable def m_RRef_equal_L82 (g : St_Ref) : Nat → Int32 → Int32 → Int32 → Int32 → Option (Int32)
  | 0, _, _, _, _ => none
  | n + 1, v3, v4, v5, v6 => if v3 < 0 ∨ (g_RmCount g).1 ≤ (v3).toNatClampNeg then none else if ((g_RmCount g).2 (v3).toNatClampNeg) ≤ v6 then
    (if v5 = 0 then
      (some 0)
      else
      (some 1))
    else
    (if v5 = 0 then
      (if v5 = 0 then
        (some 0)
        else
        (some 1))
      else
      (if ((12 * v3) + v6) < 0 ∨ (g_RmPart g).1 ≤ (((12 * v3) + v6)).toNatClampNeg then none else (m_RRef_findPart g ((g_RmPart g).2 (((12 * v3) + v6)).toNatClampNeg)).bind fun q19 => if ((12 * v4) + v6) < 0 ∨ (g_RmPart g).1 ≤ (((12 * v4) + v6)).toNatClampNeg then none else (m_RRef_findPart g ((g_RmPart g).2 (((12 * v4) + v6)).toNatClampNeg)).bind fun q21 => if q19 < 0 ∨ (g_RpGroup g).1 ≤ (q19).toNatClampNeg then none else if q21 < 0 ∨ (g_RpGroup g).1 ≤ (q21).toNatClampNeg then none else if ((g_RpGroup g).2 (q19).toNatClampNeg) = ((g_RpGroup g).2 (q21).toNatClampNeg) then
        (if q19 < 0 ∨ (g_RpPosition g).1 ≤ (q19).toNatClampNeg then none else if q21 < 0 ∨ (g_RpPosition g).1 ≤ (q21).toNatClampNeg then none else if (lg_cmp ((g_RpPosition g).2 (q19).toNatClampNeg) ((g_RpPosition g).2 (q21).toNatClampNeg)) = 0 then
          (if q19 < 0 ∨ (g_RpLength g).1 ≤ (q19).toNatClampNeg then none else if q21 < 0 ∨ (g_RpLength g).1 ≤ (q21).toNatClampNeg then none else if ((g_RpLength g).2 (q19).toNatClampNeg) = ((g_RpLength g).2 (q21).toNatClampNeg) then
            (m_RRef_equal_L197 g (fun (v3_49 : Int32) (v4_50 : Int32) (v5_51 : Int32) (v6_52 : Int32) => m_RRef_equal_L82 g n v3_49 v4_50 v5_51 (v6_52 + 1)) FU  v3 v4 1 v6 q19 q21 0)
            else
            (m_RRef_equal_L197 g (fun (v3_45 : Int32) (v4_46 : Int32) (v5_47 : Int32) (v6_48 : Int32) => m_RRef_equal_L82 g n v3_45 v4_46 v5_47 (v6_48 + 1)) FU  v3 v4 0 v6 q19 q21 0))
          else
          (m_RRef_equal_L197 g (fun (v3_38 : Int32) (v4_39 : Int32) (v5_40 : Int32) (v6_41 : Int32) => m_RRef_equal_L82 g n v3_38 v4_39 v5_40 (v6_41 + 1)) FU  v3 v4 0 v6 q19 q21 0))
        else
        (m_RRef_equal_L197 g (fun (v3_31 : Int32) (v4_32 : Int32) (v5_33 : Int32) (v6_34 : Int32) => m_RRef_equal_L82 g n v3_31 v4_32 v5_33 (v6_34 + 1)) FU  v3 v4 0 v6 q19 q21 0)))
noncomputable def m_RRef_equal (g : St_Ref) (p1 : Int32) (p2 : Int32) : Option (Int32) :=
  if (g_Ropen g) = 0 then
  (some (-3))
  else
  ((m_RRef_findMark g p1).bind fun q2 => (m_RRef_findMark g p2).bind fun q3 => if q2 = (-1) then
    (some (-1))
    else
    (if q3 = (-1) then
      (some (-1))
      else
      ((m_RRef_isWholeMark g q2).bind fun q6 => if q6 = 0 then
        (some (-2))
        else
        ((m_RRef_isWholeMark g q3).bind fun q8 => if q8 = 0 then
          (some (-2))
          else
          (if q2 < 0 ∨ (g_RmCount g).1 ≤ (q2).toNatClampNeg then none else if q3 < 0 ∨ (g_RmCount g).1 ≤ (q3).toNatClampNeg then none else if ((g_RmCount g).2 (q2).toNatClampNeg) = ((g_RmCount g).2 (q3).toNatClampNeg) then
            (m_RRef_equal_L82 g FU q2 q3 1 0)
            else
            (m_RRef_equal_L82 g FU q2 q3 0 0))))))
noncomputable def m_RRef_told_L76  : Nat → St_Ref → Int32 → Int32 → Option (Int32 × St_Ref)
  | 0, _, _, _ => none
  | n + 1, g, v2, v3 => if (g_Rrows g) ≤ v3 then
    (some (v2, g))
    else
    (if v3 < 0 ∨ (g_Rused g).1 ≤ (v3).toNatClampNeg then none else if ((g_Rused g).2 (v3).toNatClampNeg) = 0 then
      (m_RRef_told_L76 n g (v2 + 1) (v3 + 1))
      else
      (m_RRef_told_L76 n g (v2 + 0) (v3 + 1)))
noncomputable def m_RRef_told (g : St_Ref) (p1 : Int32) : Option (Int32 × St_Ref) :=
  (m_RRef_isIn p1 0 16).bind fun q1 => if q1 = 0 then
  (some ((-2), g))
  else
  (if 3 ≤ p1 then
    (if (g_Ropen g) = 0 then
      (some (0, g))
      else
      (if p1 = 3 then
        ((m_RRef_marksUsed g).bind fun q13 => m_RRef_told_L76 FU q13 0 2)
        else
        (if p1 = 4 then
          (some ((g_Rparts g), g))
          else
          (if p1 = 5 then
            (some ((g_RlastPart g), g))
            else
            (if p1 = 6 then
              (some ((g_RlastMark g), g))
              else
              (if p1 = 7 then
                (some ((g_Rserial g), g))
                else
                (if p1 = 8 then
                  ((m_RRef_count g 0).bind fun q12 => some (q12, g))
                  else
                  (if (p1 - 9) < 0 ∨ (g_Rowners g).1 ≤ ((p1 - 9)).toNatClampNeg then none else some (((g_Rowners g).2 ((p1 - 9)).toNatClampNeg), g)))))))))
    else
    (if p1 = 0 then
      (if (g_Ropen g) = 0 then
        (some (0, g))
        else
        (some (1, g)))
      else
      (if p1 = 1 then
        (some ((g_Rrows g), g))
        else
        (some ((g_Rwritten g), g)))))
noncomputable def m_RRef_init (p1 : Int32) : Option St_Ref :=
  if (16384 : Int32) < 0 ∨ 16384 < ((16384 : Int32)).toNatClampNeg then none else if (2000 : Int32) < 0 ∨ 2000 < ((2000 : Int32)).toNatClampNeg then none else if (520 : Int32) < 0 ∨ 520 < ((520 : Int32)).toNatClampNeg then none else if (520 : Int32) < 0 ∨ 520 < ((520 : Int32)).toNatClampNeg then none else if (520 : Int32) < 0 ∨ 520 < ((520 : Int32)).toNatClampNeg then none else if (520 : Int32) < 0 ∨ 520 < ((520 : Int32)).toNatClampNeg then none else if (520 : Int32) < 0 ∨ 520 < ((520 : Int32)).toNatClampNeg then none else if (270 : Int32) < 0 ∨ 270 < ((270 : Int32)).toNatClampNeg then none else if (270 : Int32) < 0 ∨ 270 < ((270 : Int32)).toNatClampNeg then none else if (270 : Int32) < 0 ∨ 270 < ((270 : Int32)).toNatClampNeg then none else if (270 : Int32) < 0 ∨ 270 < ((270 : Int32)).toNatClampNeg then none else if (3240 : Int32) < 0 ∨ 3240 < ((3240 : Int32)).toNatClampNeg then none else if (3240 : Int32) < 0 ∨ 3240 < ((3240 : Int32)).toNatClampNeg then none else if (3240 : Int32) < 0 ∨ 3240 < ((3240 : Int32)).toNatClampNeg then none else if (8 : Int32) < 0 ∨ 8 < ((8 : Int32)).toNatClampNeg then none else if (512 : Int32) < 0 ∨ 512 < ((512 : Int32)).toNatClampNeg then none else if (256 : Int32) < 0 ∨ 256 < ((256 : Int32)).toNatClampNeg then none else if (2010 : Int32) < 0 ∨ 2010 < ((2010 : Int32)).toNatClampNeg then none else if (12 : Int32) < 0 ∨ 12 < ((12 : Int32)).toNatClampNeg then none else if 4 ≤ p1 then (if p1 ≤ 512 then (some ((((16384 : Int32)).toNatClampNeg, fun _ => 0), p1, 1, (-1), 0, (((2000 : Int32)).toNatClampNeg, fun _ => 0), 0, (((520 : Int32)).toNatClampNeg, fun _ => 0), (((520 : Int32)).toNatClampNeg, fun _ => 0), (((520 : Int32)).toNatClampNeg, fun _ => 0), (((520 : Int32)).toNatClampNeg, fun _ => 0), (((520 : Int32)).toNatClampNeg, fun _ => 0), 0, (((270 : Int32)).toNatClampNeg, fun _ => 0), (((270 : Int32)).toNatClampNeg, fun _ => 0), (((270 : Int32)).toNatClampNeg, fun _ => 0), (((270 : Int32)).toNatClampNeg, fun _ => 0), (((3240 : Int32)).toNatClampNeg, fun _ => 0), (((3240 : Int32)).toNatClampNeg, fun _ => 0), (((3240 : Int32)).toNatClampNeg, fun _ => 0), 0, (((8 : Int32)).toNatClampNeg, fun _ => 0), 0, 0, 0, (((512 : Int32)).toNatClampNeg, fun _ => 0), (((256 : Int32)).toNatClampNeg, fun _ => 0), (((2010 : Int32)).toNatClampNeg, fun _ => 0), (((12 : Int32)).toNatClampNeg, fun _ => 0))) else (some ((((16384 : Int32)).toNatClampNeg, fun _ => 0), 512, 1, (-1), 0, (((2000 : Int32)).toNatClampNeg, fun _ => 0), 0, (((520 : Int32)).toNatClampNeg, fun _ => 0), (((520 : Int32)).toNatClampNeg, fun _ => 0), (((520 : Int32)).toNatClampNeg, fun _ => 0), (((520 : Int32)).toNatClampNeg, fun _ => 0), (((520 : Int32)).toNatClampNeg, fun _ => 0), 0, (((270 : Int32)).toNatClampNeg, fun _ => 0), (((270 : Int32)).toNatClampNeg, fun _ => 0), (((270 : Int32)).toNatClampNeg, fun _ => 0), (((270 : Int32)).toNatClampNeg, fun _ => 0), (((3240 : Int32)).toNatClampNeg, fun _ => 0), (((3240 : Int32)).toNatClampNeg, fun _ => 0), (((3240 : Int32)).toNatClampNeg, fun _ => 0), 0, (((8 : Int32)).toNatClampNeg, fun _ => 0), 0, 0, 0, (((512 : Int32)).toNatClampNeg, fun _ => 0), (((256 : Int32)).toNatClampNeg, fun _ => 0), (((2010 : Int32)).toNatClampNeg, fun _ => 0), (((12 : Int32)).toNatClampNeg, fun _ => 0)))) else (some ((((16384 : Int32)).toNatClampNeg, fun _ => 0), 4, 1, (-1), 0, (((2000 : Int32)).toNatClampNeg, fun _ => 0), 0, (((520 : Int32)).toNatClampNeg, fun _ => 0), (((520 : Int32)).toNatClampNeg, fun _ => 0), (((520 : Int32)).toNatClampNeg, fun _ => 0), (((520 : Int32)).toNatClampNeg, fun _ => 0), (((520 : Int32)).toNatClampNeg, fun _ => 0), 0, (((270 : Int32)).toNatClampNeg, fun _ => 0), (((270 : Int32)).toNatClampNeg, fun _ => 0), (((270 : Int32)).toNatClampNeg, fun _ => 0), (((270 : Int32)).toNatClampNeg, fun _ => 0), (((3240 : Int32)).toNatClampNeg, fun _ => 0), (((3240 : Int32)).toNatClampNeg, fun _ => 0), (((3240 : Int32)).toNatClampNeg, fun _ => 0), 0, (((8 : Int32)).toNatClampNeg, fun _ => 0), 0, 0, 0, (((512 : Int32)).toNatClampNeg, fun _ => 0), (((256 : Int32)).toNatClampNeg, fun _ => 0), (((2010 : Int32)).toNatClampNeg, fun _ => 0), (((12 : Int32)).toNatClampNeg, fun _ => 0)))
