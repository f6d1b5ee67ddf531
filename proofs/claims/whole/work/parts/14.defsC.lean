/-! The class's methods as functions. -/
def Tape_hasRoom (F : Nat) (σ : jxS) : Option jxR :=
  if 200 < jw ((σ 1 1) + 20) then
    some (0, σ)
  else
    some (1, σ)
def jca_Tape_hasRoom (F : Nat) : jxA := fun as σ k => match as with
  | [.inr (.inr (.inl t0))] => bif Nat.beq t0 1 then (Tape_hasRoom F σ).bind (fun r => k (some (jmi r.1)) r.2) else none
  | _ => none
def Tape_append_c3 (F : Nat) (fu : Nat) (v1 v2 : Int) (σ : jxS) : Option jxR := match fu with
  | 0 => none
  | fu + 1 =>
    if jw v2 < 0 then
      some (0, σ)
    else
      if jw (σ 1 1) < 200 then
        if 0 ≤ (σ 1 1) ∧ (σ 1 1) < 200 then
          let s32 : jxS := jup σ 2 (σ 1 1) (jand (jushr v1 v2) 255)
          let s40 : jxS := jup s32 1 1 ((s32 1 1) + 1)
          (Tape_append_c3 F fu) v1 (v2 + (-8)) s40
        else none
      else
        some (0, σ)
def Tape_append (F : Nat) (σ : jxS) (v1 : Int) : Option jxR :=
  Tape_append_c3 F F v1 24 σ
def jca_Tape_append (F : Nat) : jxA := fun as σ k => match as with
  | [.inr (.inr (.inl t0)), .inl v1] => bif Nat.beq t0 1 then (Tape_append F σ v1).bind (fun r => k none r.2) else none
  | _ => none
def Tape_size (F : Nat) (σ : jxS) : Option jxR :=
  some ((σ 1 1), σ)
def jca_Tape_size (F : Nat) : jxA := fun as σ k => match as with
  | [.inr (.inr (.inl t0))] => bif Nat.beq t0 1 then (Tape_size F σ).bind (fun r => k (some (jmi r.1)) r.2) else none
  | _ => none
def LL1_feed (F : Nat) (σ : jxS) (v1 v2 v3 v4 v5 : Int) : Option jxR :=
  (Tape_hasRoom F σ).bind fun r4 =>
  if jw r4.1 = 0 then
    some ((-1), r4.2)
  else
    (Tape_append F r4.2 v1).bind fun r17 =>
    (Tape_append F r17.2 v2).bind fun r25 =>
    (Tape_append F r25.2 v3).bind fun r33 =>
    (Tape_append F r33.2 v4).bind fun r42 =>
    (Tape_append F r42.2 v5).bind fun r51 =>
    (Tape_size F r51.2).bind fun r58 =>
    some (r58.1, r58.2)
def jca_LL1_feed (F : Nat) : jxA := fun as σ k => match as with
  | [.inr (.inr (.inl t0)), .inl v1, .inl v2, .inl v3, .inl v4, .inl v5] => bif Nat.beq t0 0 then (LL1_feed F σ v1 v2 v3 v4 v5).bind (fun r => k (some (jmi r.1)) r.2) else none
  | _ => none
def Tape_cutTo (F : Nat) (σ : jxS) (v1 : Int) : Option jxR :=
  if jw v1 < 0 then
    some (0, σ)
  else
    if jw (σ 1 1) < jw v1 then
      some (0, σ)
    else
      let s16 : jxS := jup σ 1 1 v1
      some (1, s16)
def jca_Tape_cutTo (F : Nat) : jxA := fun as σ k => match as with
  | [.inr (.inr (.inl t0)), .inl v1] => bif Nat.beq t0 1 then (Tape_cutTo F σ v1).bind (fun r => k (some (jmi r.1)) r.2) else none
  | _ => none
def LL1_end (F : Nat) (σ : jxS) (v1 : Int) : Option jxR :=
  (Tape_cutTo F σ v1).bind fun r5 =>
  if jw r5.1 = 0 then
    some ((-1), r5.2)
  else
    some (v1, r5.2)
def jca_LL1_end (F : Nat) : jxA := fun as σ k => match as with
  | [.inr (.inr (.inl t0)), .inl v1] => bif Nat.beq t0 0 then (LL1_end F σ v1).bind (fun r => k (some (jmi r.1)) r.2) else none
  | _ => none
def Tape_at (F : Nat) (σ : jxS) (v1 : Int) : Option jxR :=
  if jw v1 < 0 then
    some ((-1), σ)
  else
    if jw v1 < jw (σ 1 1) then
      if 0 ≤ v1 ∧ v1 < 200 then
        some ((σ 2 v1), σ)
      else none
    else
      some ((-1), σ)
def jca_Tape_at (F : Nat) : jxA := fun as σ k => match as with
  | [.inr (.inr (.inl t0)), .inl v1] => bif Nat.beq t0 1 then (Tape_at F σ v1).bind (fun r => k (some (jmi r.1)) r.2) else none
  | _ => none
def Reader_skipBlanks_c8 (F : Nat) (fu : Nat) (v1 : Int) (σ : jxS) : Option jxR := match fu with
  | 0 => none
  | fu + 1 =>
    if 0 < jw v1 then
      (Tape_at F σ (σ 3 8)).bind fun r20 =>
      if jw r20.1 = 32 then
        let s35 : jxS := jup r20.2 3 8 ((r20.2 3 8) + 1)
        (Reader_skipBlanks_c8 F fu) (v1 + (-1)) s35
      else
        some (0, r20.2)
    else
      some (0, σ)
def Reader_skipBlanks (F : Nat) (σ : jxS) : Option jxR :=
  (Tape_size F σ).bind fun r4 =>
  Reader_skipBlanks_c8 F F r4.1 r4.2
def jca_Reader_skipBlanks (F : Nat) : jxA := fun as σ k => match as with
  | [.inr (.inr (.inl t0))] => bif Nat.beq t0 3 then (Reader_skipBlanks F σ).bind (fun r => k none r.2) else none
  | _ => none
def Reader_isLetter (F : Nat) (σ : jxS) (v0 : Int) : Option jxR :=
  if jw v0 < 97 then
    some (0, σ)
  else
    if 122 < jw v0 then
      some (0, σ)
    else
      some (1, σ)
def jca_Reader_isLetter (F : Nat) : jxA := fun as σ k => match as with
  | [.inl v0] => (Reader_isLetter F σ v0).bind (fun r => k (some (jmi r.1)) r.2)
  | _ => none
def Reader_passWord_c2 (F : Nat) (w1 : Nat) (fu : Nat) (v2 : Int) (σ : jxS) : Option jxR := match fu with
  | 0 => none
  | fu + 1 =>
    if jw v2 < jw (jstl w1) then
      (Tape_at F σ ((σ 3 8) + v2)).bind fun r20 =>
      if 0 ≤ v2 ∧ v2 < jstl w1 then
        if jw r20.1 = jw (jsta w1 v2) then
          (Reader_passWord_c2 F w1 fu) (v2 + 1) r20.2
        else
          some (0, r20.2)
      else none
    else
      (Tape_at F σ ((σ 3 8) + (jstl w1))).bind fun r52 =>
      (Reader_isLetter F r52.2 r52.1).bind fun r55 =>
      if jw r55.1 = 0 then
        let s73 : jxS := jup r55.2 3 8 ((r55.2 3 8) + (jstl w1))
        some (1, s73)
      else
        some (0, r55.2)
def Reader_passWord (F : Nat) (w1 : Nat) (σ : jxS) : Option jxR :=
  Reader_passWord_c2 F w1 F 0 σ
def jids_Reader_passWord_w1 : List Nat := [1002, 1003, 1004, 1005]
def jca_Reader_passWord (F : Nat) : jxA := fun as σ k => match as with
  | [.inr (.inr (.inl t0)), .inr (.inr (.inl t1))] => bif Nat.beq t0 3 then bif jin jids_Reader_passWord_w1 t1 then (Reader_passWord F t1 σ).bind (fun r => k (some (jmi r.1)) r.2) else none else none
  | _ => none
def Reader_readKind (F : Nat) (σ : jxS) : Option jxR :=
  (Reader_passWord F 1002 σ).bind fun r3 =>
  if jw r3.1 = 0 then
    (Reader_passWord F 1003 r3.2).bind fun r14 =>
    if jw r14.1 = 0 then
      (Reader_passWord F 1004 r14.2).bind fun r25 =>
      if jw r25.1 = 0 then
        some (0, r25.2)
      else
        some (3, r25.2)
    else
      some (2, r14.2)
  else
    some (1, r3.2)
def jca_Reader_readKind (F : Nat) : jxA := fun as σ k => match as with
  | [.inr (.inr (.inl t0))] => bif Nat.beq t0 3 then (Reader_readKind F σ).bind (fun r => k (some (jmi r.1)) r.2) else none
  | _ => none
def Reader_fail (F : Nat) (σ : jxS) (v1 v2 : Int) : Option jxR :=
  if jw (σ 3 9) = 0 then
    let s14 : jxS := jup σ 3 9 ((8 * v1) + v2)
    some (0, s14)
  else
    some (0, σ)
def jca_Reader_fail (F : Nat) : jxA := fun as σ k => match as with
  | [.inr (.inr (.inl t0)), .inl v1, .inl v2] => bif Nat.beq t0 3 then (Reader_fail F σ v1 v2).bind (fun r => k none r.2) else none
  | _ => none
def Reader_isDigit (F : Nat) (σ : jxS) (v0 : Int) : Option jxR :=
  if jw v0 < 48 then
    some (0, σ)
  else
    if 57 < jw v0 then
      some (0, σ)
    else
      some (1, σ)
def jca_Reader_isDigit (F : Nat) : jxA := fun as σ k => match as with
  | [.inl v0] => (Reader_isDigit F σ v0).bind (fun r => k (some (jmi r.1)) r.2)
  | _ => none
def Reader_readDigit_c15 (F : Nat) (σ : jxS) : Option jxR :=
  (Reader_fail F σ (σ 3 8) 3).bind fun r21 =>
  some (0, r21.2)
def Reader_readDigit (F : Nat) (σ : jxS) (v1 : Int) : Option jxR :=
  if 7 < jw v1 then
    Reader_readDigit_c15 F σ
  else
    if jw (σ 3 6) < 8 then
      if 0 ≤ (σ 3 6) ∧ (σ 3 6) < 8 then
        let s34 : jxS := jup σ 4 (σ 3 6) v1
        let s42 : jxS := jup s34 3 6 ((s34 3 6) + 1)
        let s52 : jxS := jup s42 3 8 ((s42 3 8) + 1)
        some (0, s52)
      else none
    else
      Reader_readDigit_c15 F σ
def jca_Reader_readDigit (F : Nat) : jxA := fun as σ k => match as with
  | [.inr (.inr (.inl t0)), .inl v1] => bif Nat.beq t0 3 then (Reader_readDigit F σ v1).bind (fun r => k none r.2) else none
  | _ => none
def Reader_readCode_c79 (F : Nat) (fu : Nat) (v1 : Int) (σ : jxS) : Option jxR := match fu with
  | 0 => none
  | fu + 1 =>
    if 0 < jw v1 then
      if jw (σ 3 9) = 0 then
        (Tape_at F σ (σ 3 8)).bind fun r98 =>
        (Reader_isDigit F r98.2 r98.1).bind fun r101 =>
        if jw r101.1 = 0 then
          some (0, r101.2)
        else
          (Tape_at F r101.2 (r101.2 3 8)).bind fun r116 =>
          (Reader_readDigit F r116.2 (r116.1 - 48)).bind fun r122 =>
          (Reader_readCode_c79 F fu) (v1 + (-1)) r122.2
      else
        some (0, σ)
    else
      some (0, σ)
def Reader_readCode (F : Nat) (σ : jxS) : Option jxR :=
  (Reader_skipBlanks F σ).bind fun r1 =>
  (Tape_at F r1.2 (r1.2 3 8)).bind fun r12 =>
  if jw r12.1 = 46 then
    let s37 : jxS := jup r12.2 3 8 ((r12.2 3 8) + 1)
    (Reader_skipBlanks F s37).bind fun r41 =>
    (Tape_at F r41.2 (r41.2 3 8)).bind fun r52 =>
    (Reader_isDigit F r52.2 r52.1).bind fun r55 =>
    if jw r55.1 = 0 then
      (Reader_fail F r55.2 (r55.2 3 8) 1).bind fun r67 =>
      some (0, r67.2)
    else
      (Tape_size F r55.2).bind fun r75 =>
      Reader_readCode_c79 F F r75.1 r75.2
  else
    (Reader_fail F r12.2 (r12.2 3 8) 1).bind fun r26 =>
    some (0, r26.2)
def jca_Reader_readCode (F : Nat) : jxA := fun as σ k => match as with
  | [.inr (.inr (.inl t0))] => bif Nat.beq t0 3 then (Reader_readCode F σ).bind (fun r => k none r.2) else none
  | _ => none
def Reader_readNumber_c130 (F : Nat) (v3 v4 : Int) (σ : jxS) : Option jxR :=
  (Reader_fail F σ v3 2).bind fun r133 =>
  some (v4, r133.2)
def Reader_readNumber_c91 (F : Nat) (v1 v2 v3 v4 : Int) (σ : jxS) : Option jxR :=
  if jw (σ 3 8) = jw v3 then
    (Reader_fail F σ v3 1).bind fun r102 =>
    some (v4, r102.2)
  else
    if 3 < jw ((σ 3 8) - v3) then
      Reader_readNumber_c130 F v3 v4 σ
    else
      if jw v4 < jw v1 then
        Reader_readNumber_c130 F v3 v4 σ
      else
        if jw v2 < jw v4 then
          Reader_readNumber_c130 F v3 v4 σ
        else
          some (v4, σ)
def Reader_readNumber_c75 (F : Nat) (k21 : Int → Int → Int → Int → Int → jxS → Option jxR) (v1 v2 v3 v4 v5 : Int) (σ : jxS) : Option jxR :=
  let s82 : jxS := jup σ 3 8 ((σ 3 8) + 1)
  k21 v1 v2 v3 v4 (v5 + (-1)) s82
def Reader_readNumber_c21 (F : Nat) (fu : Nat) (v1 v2 v3 v4 v5 : Int) (σ : jxS) : Option jxR := match fu with
  | 0 => none
  | fu + 1 =>
    if 0 < jw v5 then
      (Tape_at F σ (σ 3 8)).bind fun r34 =>
      (Reader_isDigit F r34.2 r34.1).bind fun r37 =>
      if jw r37.1 = 0 then
        Reader_readNumber_c91 F v1 v2 v3 v4 r37.2
      else
        if jw ((r37.2 3 8) - v3) < 3 then
          (Tape_at F r37.2 (r37.2 3 8)).bind fun r66 =>
          Reader_readNumber_c75 F (Reader_readNumber_c21 F fu) v1 v2 v3 (((v4 * 10) + r66.1) - 48) v5 r66.2
        else
          Reader_readNumber_c75 F (Reader_readNumber_c21 F fu) v1 v2 v3 v4 v5 r37.2
    else
      Reader_readNumber_c91 F v1 v2 v3 v4 σ
def Reader_readNumber (F : Nat) (σ : jxS) (v1 v2 : Int) : Option jxR :=
  (Reader_skipBlanks F σ).bind fun r1 =>
  (Tape_size F r1.2).bind fun r16 =>
  Reader_readNumber_c21 F F v1 v2 (r1.2 3 8) 0 r16.1 r16.2
def jca_Reader_readNumber (F : Nat) : jxA := fun as σ k => match as with
  | [.inr (.inr (.inl t0)), .inl v1, .inl v2] => bif Nat.beq t0 3 then (Reader_readNumber F σ v1 v2).bind (fun r => k (some (jmi r.1)) r.2) else none
  | _ => none
def Reader_store (F : Nat) (σ : jxS) (v1 v2 v3 : Int) : Option jxR :=
  if jw (σ 3 7) < 16 then
    if 0 ≤ (σ 3 7) ∧ (σ 3 7) < 16 then
      let s18 : jxS := jup σ 6 (σ 3 7) v1
      if 0 ≤ (s18 3 7) ∧ (s18 3 7) < 16 then
        let s28 : jxS := jup s18 7 (s18 3 7) v2
        if 0 ≤ (s28 3 7) ∧ (s28 3 7) < 16 then
          let s38 : jxS := jup s28 8 (s28 3 7) v3
          some (0, s38)
        else none
      else none
    else none
  else
    some (0, σ)
def jca_Reader_store (F : Nat) : jxA := fun as σ k => match as with
  | [.inr (.inr (.inl t0)), .inl v1, .inl v2, .inl v3] => bif Nat.beq t0 3 then (Reader_store F σ v1 v2 v3).bind (fun r => k none r.2) else none
  | _ => none
def Reader_readAlso_c89 (F : Nat) (v1 v2 v3 : Int) (σ : jxS) : Option jxR :=
  (Reader_store F σ v1 v2 v3).bind fun r93 =>
  some (0, r93.2)
def Reader_readAlso (F : Nat) (σ : jxS) : Option jxR :=
  (Reader_readNumber F σ 1 12).bind fun r4 =>
  if jw (r4.2 3 9) = 0 then
    (Reader_skipBlanks F r4.2).bind fun r17 =>
    (Reader_passWord F 1005 r17.2).bind fun r23 =>
    if jw r23.1 = 0 then
      (Reader_fail F r23.2 (r23.2 3 8) 1).bind fun r35 =>
      some (0, r35.2)
    else
      (Reader_readNumber F r23.2 0 (r4.1 - 1)).bind fun r44 =>
      (Reader_skipBlanks F r44.2).bind fun r49 =>
      if jw (r49.2 3 9) = 0 then
        (Tape_at F r49.2 (r49.2 3 8)).bind fun r69 =>
        (Reader_isDigit F r69.2 r69.1).bind fun r72 =>
        if jw r72.1 = 0 then
          Reader_readAlso_c89 F r4.1 r44.1 0 r72.2
        else
          (Reader_readNumber F r72.2 0 ((r4.1 - 1) - r44.1)).bind fun r85 =>
          Reader_readAlso_c89 F r4.1 r44.1 r85.1 r85.2
      else
        Reader_readAlso_c89 F r4.1 r44.1 0 r49.2
  else
    some (0, r4.2)
def jca_Reader_readAlso (F : Nat) : jxA := fun as σ k => match as with
  | [.inr (.inr (.inl t0))] => bif Nat.beq t0 3 then (Reader_readAlso F σ).bind (fun r => k none r.2) else none
  | _ => none
def Reader_readNever_c26 (F : Nat) (v1 t0 : Int) (σ : jxS) : Option jxR :=
  (Reader_store F σ v1 t0 0).bind fun r31 =>
  some (0, r31.2)
def Reader_readNever (F : Nat) (σ : jxS) : Option jxR :=
  (Reader_readNumber F σ 1 12).bind fun r4 =>
  if jw (r4.2 3 9) = 0 then
    (Reader_readNumber F r4.2 1 8).bind fun r19 =>
    Reader_readNever_c26 F r4.1 r19.1 r19.2
  else
    Reader_readNever_c26 F r4.1 0 r4.2
def jca_Reader_readNever (F : Nat) : jxA := fun as σ k => match as with
  | [.inr (.inr (.inl t0))] => bif Nat.beq t0 3 then (Reader_readNever F σ).bind (fun r => k none r.2) else none
  | _ => none
def Reader_readLine_c104 (F : Nat) (σ : jxS) : Option jxR :=
  let s111 : jxS := jup σ 3 7 ((σ 3 7) + 1)
  some (0, s111)
def Reader_readLine_c59 (F : Nat) (v1 : Int) (σ : jxS) : Option jxR :=
  (Reader_fail F σ v1 4).bind fun r62 =>
  some (0, r62.2)
def Reader_readLine_c56 (F : Nat) (v1 v2 t0 t1 : Int) (σ : jxS) : Option jxR :=
  if jw t1 = jw t0 then
    if 0 ≤ (σ 3 7) ∧ (σ 3 7) < 16 then
      let s75 : jxS := jup σ 5 (σ 3 7) v2
      if jw v2 = 1 then
        (Reader_readCode F s75).bind fun r82 =>
        Reader_readLine_c104 F r82.2
      else
        if jw v2 = 2 then
          (Reader_readAlso F s75).bind fun r94 =>
          Reader_readLine_c104 F r94.2
        else
          (Reader_readNever F s75).bind fun r101 =>
          Reader_readLine_c104 F r101.2
    else none
  else
    Reader_readLine_c59 F v1 σ
def Reader_readLine_c44 (F : Nat) (v1 v2 t0 : Int) (σ : jxS) : Option jxR :=
  if jw (σ 3 7) = 0 then
    Reader_readLine_c56 F v1 v2 1 t0 σ
  else
    Reader_readLine_c56 F v1 v2 0 t0 σ
def Reader_readLine (F : Nat) (σ : jxS) : Option jxR :=
  (Reader_skipBlanks F σ).bind fun r1 =>
  (Reader_readKind F r1.2).bind fun r10 =>
  if jw r10.1 = 0 then
    (Reader_fail F r10.2 (r1.2 3 8) 1).bind fun r21 =>
    some (0, r21.2)
  else
    if jw (r10.2 3 7) < 16 then
      if jw r10.1 = 1 then
        Reader_readLine_c44 F (r1.2 3 8) r10.1 1 r10.2
      else
        Reader_readLine_c44 F (r1.2 3 8) r10.1 0 r10.2
    else
      Reader_readLine_c59 F (r1.2 3 8) r10.2
def jca_Reader_readLine (F : Nat) : jxA := fun as σ k => match as with
  | [.inr (.inr (.inl t0))] => bif Nat.beq t0 3 then (Reader_readLine F σ).bind (fun r => k none r.2) else none
  | _ => none
def Reader_passSemicolon (F : Nat) (σ : jxS) : Option jxR :=
  (Reader_skipBlanks F σ).bind fun r1 =>
  (Tape_size F r1.2).bind fun r12 =>
  if jw (r1.2 3 8) < jw r12.1 then
    (Tape_at F r12.2 (r12.2 3 8)).bind fun r28 =>
    if jw r28.1 = 59 then
      let s54 : jxS := jup r28.2 3 8 ((r28.2 3 8) + 1)
      some (1, s54)
    else
      (Reader_fail F r28.2 (r28.2 3 8) 1).bind fun r42 =>
      some (0, r42.2)
  else
    some (0, r12.2)
def jca_Reader_passSemicolon (F : Nat) : jxA := fun as σ k => match as with
  | [.inr (.inr (.inl t0))] => bif Nat.beq t0 3 then (Reader_passSemicolon F σ).bind (fun r => k (some (jmi r.1)) r.2) else none
  | _ => none
def Reader_readText_c64 (F : Nat) (σ : jxS) : Option jxR :=
  if jw (σ 3 9) = 0 then
    some ((σ 3 7), σ)
  else
    some (((-2) - (σ 3 9)), σ)
def Reader_readText_c24 (F : Nat) (fu : Nat) (v1 v2 : Int) (σ : jxS) : Option jxR := match fu with
  | 0 => none
  | fu + 1 =>
    if jw v1 = 0 then
      Reader_readText_c64 F σ
    else
      if 16 < jw v2 then
        Reader_readText_c64 F σ
      else
        (Reader_readLine F σ).bind fun r35 =>
        if jw (r35.2 3 9) = 0 then
          (Reader_passSemicolon F r35.2).bind fun r46 =>
          if jw r46.1 = 0 then
            (Reader_readText_c24 F fu) 0 (v2 + 1) r46.2
          else
            (Reader_readText_c24 F fu) 1 (v2 + 1) r46.2
        else
          (Reader_readText_c24 F fu) 0 (v2 + 1) r35.2
def Reader_readText (F : Nat) (σ : jxS) : Option jxR :=
  let s2 : jxS := jup σ 3 8 0
  let s7 : jxS := jup s2 3 9 0
  let s12 : jxS := jup s7 3 7 0
  let s17 : jxS := jup s12 3 6 0
  Reader_readText_c24 F F 1 0 s17
def jca_Reader_readText (F : Nat) : jxA := fun as σ k => match as with
  | [.inr (.inr (.inl t0))] => bif Nat.beq t0 3 then (Reader_readText F σ).bind (fun r => k (some (jmi r.1)) r.2) else none
  | _ => none
def Arrays_fill_AIIV_c5 (F : Nat) (a0 : Nat) (fu : Nat) (v1 v2 v3 : Int) (σ : jxS) : Option jxR := match fu with
  | 0 => none
  | fu + 1 =>
    if jw v2 < jw v3 then
      if 0 ≤ v2 ∧ v2 < (jalen a0) then
        let s13 : jxS := jup σ a0 v2 v1
        (Arrays_fill_AIIV_c5 F a0 fu) v1 (v2 + 1) v3 s13
      else none
    else
      some (0, σ)
def Arrays_fill_AIIV (F : Nat) (a0 : Nat) (σ : jxS) (v1 : Int) : Option jxR :=
  Arrays_fill_AIIV_c5 F a0 F v1 0 (jalen a0) σ
def jids_Arrays_fill_AIIV_a0 : List Nat := [12, 13, 21, 31, 36, 46, 52, 57, 62, 67, 72, 77]
def jca_Arrays_fill_AIIV (F : Nat) : jxA := fun as σ k => match as with
  | [.inr (.inr (.inl t0)), .inl v1] => bif jin jids_Arrays_fill_AIIV_a0 t0 then (Arrays_fill_AIIV F t0 σ v1).bind (fun r => k none r.2) else none
  | _ => none
def LL_isHeap (F : Nat) (σ : jxS) (v0 : Int) : Option jxR :=
  if jw v0 < 1 then
    some (0, σ)
  else
    if 12 < jw v0 then
      some (0, σ)
    else
      some (1, σ)
def jca_LL_isHeap (F : Nat) : jxA := fun as σ k => match as with
  | [.inl v0] => (LL_isHeap F σ v0).bind (fun r => k (some (jmi r.1)) r.2)
  | _ => none
def LL_isHeapOrAll (F : Nat) (σ : jxS) (v0 : Int) : Option jxR :=
  if jw v0 < 0 then
    some (0, σ)
  else
    if 12 < jw v0 then
      some (0, σ)
    else
      some (1, σ)
def jca_LL_isHeapOrAll (F : Nat) : jxA := fun as σ k => match as with
  | [.inl v0] => (LL_isHeapOrAll F σ v0).bind (fun r => k (some (jmi r.1)) r.2)
  | _ => none
def Rules_learnLine_c24 (F : Nat) (v1 v2 v3 v4 : Int) (σ : jxS) : Option jxR :=
  if jw v1 = 2 then
    (LL_isHeap F σ v2).bind fun r46 =>
    if jw r46.1 = 0 then
      some (0, r46.2)
    else
      (LL_isHeapOrAll F r46.2 (jmin v3 v4)).bind fun r54 =>
      if jw r54.1 = 0 then
        some (0, r54.2)
      else
        if 0 ≤ ((v2 * 13) + (jmin v3 v4)) ∧ ((v2 * 13) + (jmin v3 v4)) < 169 then
          if 0 ≤ ((v2 * 13) + (jmin v3 v4)) ∧ ((v2 * 13) + (jmin v3 v4)) < 169 then
            let s78 : jxS := jup r54.2 13 ((v2 * 13) + (jmin v3 v4)) (jor (r54.2 13 ((v2 * 13) + (jmin v3 v4))) (jshl 1 (jmax v3 v4)))
            some (0, s78)
          else none
        else none
  else
    some (0, σ)
def Rules_learnLine (F : Nat) (σ : jxS) (v1 v2 v3 v4 : Int) : Option jxR :=
  if jw v1 = 3 then
    (LL_isHeap F σ v2).bind fun r6 =>
    if jw r6.1 = 0 then
      Rules_learnLine_c24 F v1 v2 v3 v4 r6.2
    else
      if 0 ≤ v2 ∧ v2 < 13 then
        if 0 ≤ v2 ∧ v2 < 13 then
          let s23 : jxS := jup r6.2 12 v2 (jor (r6.2 12 v2) (jshl 1 v3))
          Rules_learnLine_c24 F v1 v2 v3 v4 s23
        else none
      else none
  else
    Rules_learnLine_c24 F v1 v2 v3 v4 σ
def jca_Rules_learnLine (F : Nat) : jxA := fun as σ k => match as with
  | [.inr (.inr (.inl t0)), .inl v1, .inl v2, .inl v3, .inl v4] => bif Nat.beq t0 10 then (Rules_learnLine F σ v1 v2 v3 v4).bind (fun r => k none r.2) else none
  | _ => none
def Rules_allows_c72 (F : Nat) (v1 v4 t0 : Int) (σ : jxS) : Option jxR :=
  if 0 ≤ v1 ∧ v1 < 13 then
    if jw (jand (jshr (σ 12 v1) v4) 1) = 0 then
      if 0 ≤ (v4 - 1) ∧ (v4 - 1) < 8 then
        if jw (jand (σ 11 (v4 - 1)) t0) = 0 then
          some (0, σ)
        else
          some (1, σ)
      else none
    else
      some (0, σ)
  else none
def Rules_allows (F : Nat) (σ : jxS) (v1 v2 v3 : Int) : Option jxR :=
  if 0 ≤ ((v1 * 13) + v2) ∧ ((v1 * 13) + v2) < 169 then
    if jw (jand (jshr (σ 13 ((v1 * 13) + v2)) v3) 1) = 1 then
      some (1, σ)
    else
      if jw ((v1 - v2) - v3) < 1 then
        some (0, σ)
      else
        if jw (σ 10 8) < jw ((v1 - v2) - v3) then
          some (0, σ)
        else
          if 8 < jw ((v1 - v2) - v3) then
            some (0, σ)
          else
            if jw v3 = 0 then
              Rules_allows_c72 F v1 ((v1 - v2) - v3) 1 σ
            else
              if jw v2 = 0 then
                Rules_allows_c72 F v1 ((v1 - v2) - v3) 2 σ
              else
                Rules_allows_c72 F v1 ((v1 - v2) - v3) 4 σ
  else none
def jca_Rules_allows (F : Nat) : jxA := fun as σ k => match as with
  | [.inr (.inr (.inl t0)), .inl v1, .inl v2, .inl v3] => bif Nat.beq t0 10 then (Rules_allows F σ v1 v2 v3).bind (fun r => k (some (jmi r.1)) r.2) else none
  | _ => none
def Rules_listMoves_c28 (F : Nat) (k4 : Int → Int → jxS → Option jxR) (k21 : Int → Int → Int → jxS → Option jxR) (fu : Nat) (v1 v2 v3 v4 : Int) (σ : jxS) : Option jxR := match fu with
  | 0 => none
  | fu + 1 =>
    if jw v3 < jw (v4 + v4) then
      k21 v1 v2 (v3 + (-1)) σ
    else
      (Rules_allows F σ v2 v4 (v3 - v4)).bind fun r45 =>
      if jw r45.1 = 0 then
        (Rules_listMoves_c28 F k4 k21 fu) v1 v2 v3 (v4 + 1) r45.2
      else
        if jw v1 < 203 then
          if 0 ≤ v1 ∧ v1 < 203 then
            let s73 : jxS := jup r45.2 15 v1 (((13 * v4) + v3) - v4)
            (Rules_listMoves_c28 F k4 k21 fu) (v1 + 1) v2 v3 (v4 + 1) s73
          else none
        else
          (Rules_listMoves_c28 F k4 k21 fu) v1 v2 v3 (v4 + 1) r45.2
def Rules_listMoves_c21 (F : Nat) (k4 : Int → Int → jxS → Option jxR) (fu : Nat) (v1 v2 v3 : Int) (σ : jxS) : Option jxR := match fu with
  | 0 => none
  | fu + 1 =>
    if jw v3 < 0 then
      k4 v1 (v2 + 1) σ
    else
      Rules_listMoves_c28 F k4 (Rules_listMoves_c21 F k4 fu) F v1 v2 v3 0 σ
def Rules_listMoves_c4 (F : Nat) (fu : Nat) (v1 v2 : Int) (σ : jxS) : Option jxR := match fu with
  | 0 => none
  | fu + 1 =>
    if 12 < jw v2 then
      let s102 : jxS := jup σ 14 13 v1
      some (0, s102)
    else
      if 0 ≤ v2 ∧ v2 < 14 then
        let s16 : jxS := jup σ 14 v2 v1
        Rules_listMoves_c21 F (Rules_listMoves_c4 F fu) F v1 v2 (v2 - 1) s16
      else none
def Rules_listMoves (F : Nat) (σ : jxS) : Option jxR :=
  Rules_listMoves_c4 F F 0 1 σ
def jca_Rules_listMoves (F : Nat) : jxA := fun as σ k => match as with
  | [.inr (.inr (.inl t0))] => bif Nat.beq t0 10 then (Rules_listMoves F σ).bind (fun r => k none r.2) else none
  | _ => none
def LL_leastMissing_c4 (F : Nat) (fu : Nat) (v0 v1 v2 : Int) (σ : jxS) : Option jxR := match fu with
  | 0 => none
  | fu + 1 =>
    if jw v2 < 31 then
      if jw (jand (jshr v0 v2) 1) = 1 then
        (LL_leastMissing_c4 F fu) v0 (v2 + 1) (v2 + 1) σ
      else
        some (v1, σ)
    else
      some (v1, σ)
def LL_leastMissing (F : Nat) (σ : jxS) (v0 : Int) : Option jxR :=
  LL_leastMissing_c4 F F v0 0 0 σ
def jca_LL_leastMissing (F : Nat) : jxA := fun as σ k => match as with
  | [.inl v0] => (LL_leastMissing F σ v0).bind (fun r => k (some (jmi r.1)) r.2)
  | _ => none
def Rules_judgeHeap_c150 (F : Nat) (v1 v4 t0 t1 : Int) (σ : jxS) : Option jxR :=
  if 0 ≤ t1 ∧ t1 < 13 then
    let s150 : jxS := jup σ 17 t1 t0
    if 0 ≤ v1 ∧ v1 < 13 then
      let s158 : jxS := jup s150 18 v1 v4
      some (0, s158)
    else none
  else none
def Rules_judgeHeap_c16 (F : Nat) (fu : Nat) (v1 v2 v3 v4 v5 : Int) (σ : jxS) : Option jxR := match fu with
  | 0 => none
  | fu + 1 =>
    if 0 ≤ (v1 + 1) ∧ (v1 + 1) < 14 then
      if jw v5 < jw (σ 14 (v1 + 1)) then
        if 0 ≤ v5 ∧ v5 < 203 then
          if 0 ≤ v5 ∧ v5 < 203 then
            if 0 ≤ (jdiv (σ 15 v5) 13) ∧ (jdiv (σ 15 v5) 13) < 13 then
              if 0 ≤ (jrem (σ 15 v5) 13) ∧ (jrem (σ 15 v5) 13) < 13 then
                let e72 : Int := (jor v2 (jshl 1 (jxor (σ 16 (jdiv (σ 15 v5) 13)) (σ 16 (jrem (σ 15 v5) 13)))))
                if 0 ≤ (jdiv (σ 15 v5) 13) ∧ (jdiv (σ 15 v5) 13) < 13 then
                  if 0 ≤ (jrem (σ 15 v5) 13) ∧ (jrem (σ 15 v5) 13) < 13 then
                    let e94 : Int := (jmin v3 ((1 + (σ 17 (jdiv (σ 15 v5) 13))) + (σ 17 (jrem (σ 15 v5) 13))))
                    if 0 ≤ (jdiv (σ 15 v5) 13) ∧ (jdiv (σ 15 v5) 13) < 13 then
                      if 0 ≤ (jrem (σ 15 v5) 13) ∧ (jrem (σ 15 v5) 13) < 13 then
                        let e117 : Int := (jmax v4 ((1 + (σ 18 (jdiv (σ 15 v5) 13))) + (σ 18 (jrem (σ 15 v5) 13))))
                        (Rules_judgeHeap_c16 F fu) v1 e72 e94 e117 (v5 + 1) σ
                      else none
                    else none
                  else none
                else none
              else none
            else none
          else none
        else none
      else
        (LL_leastMissing F σ v2).bind fun r131 =>
        if 0 ≤ v1 ∧ v1 < 13 then
          let s134 : jxS := jup r131.2 16 v1 r131.1
          if jw v4 = 0 then
            Rules_judgeHeap_c150 F v1 v4 0 v1 s134
          else
            Rules_judgeHeap_c150 F v1 v4 v3 v1 s134
        else none
    else none
def Rules_judgeHeap (F : Nat) (σ : jxS) (v1 : Int) : Option jxR :=
  if 0 ≤ v1 ∧ v1 < 14 then
    Rules_judgeHeap_c16 F F v1 0 22 0 (σ 14 v1) σ
  else none
def jca_Rules_judgeHeap (F : Nat) : jxA := fun as σ k => match as with
  | [.inr (.inr (.inl t0)), .inl v1] => bif Nat.beq t0 10 then (Rules_judgeHeap F σ v1).bind (fun r => k none r.2) else none
  | _ => none
def Rules_learn_c108 (F : Nat) (fu : Nat) (v2 : Int) (σ : jxS) : Option jxR := match fu with
  | 0 => none
  | fu + 1 =>
    if 12 < jw v2 then
      some (0, σ)
    else
      (Rules_judgeHeap F σ v2).bind fun r116 =>
      (Rules_learn_c108 F fu) (v2 + 1) r116.2
def Rules_learn_c102 (F : Nat) (σ : jxS) : Option jxR :=
  (Rules_listMoves F σ).bind fun r103 =>
  Rules_learn_c108 F F 1 r103.2
def Rules_learn_c54 (F : Nat) (fu : Nat) (v2 : Int) (σ : jxS) : Option jxR := match fu with
  | 0 => none
  | fu + 1 =>
    if jw v2 < jw (σ 3 7) then
      if jw v2 < 16 then
        if 0 ≤ v2 ∧ v2 < 16 then
          if 0 ≤ v2 ∧ v2 < 16 then
            if 0 ≤ v2 ∧ v2 < 16 then
              if 0 ≤ v2 ∧ v2 < 16 then
                (Rules_learnLine F σ (σ 5 v2) (σ 6 v2) (σ 7 v2) (σ 8 v2)).bind fun r93 =>
                (Rules_learn_c54 F fu) (v2 + 1) r93.2
              else none
            else none
          else none
        else none
      else
        Rules_learn_c102 F σ
    else
      Rules_learn_c102 F σ
def Rules_learn (F : Nat) (σ : jxS) : Option jxR :=
  let s5 : jxS := jup σ 10 8 (σ 3 6)
  let s15 : jxS := jup s5 10 9 ((s5 3 7) - 1)
  let s33 : jxS := jcopy s15 4 11 8
  (Arrays_fill_AIIV F 12 s33 0).bind fun r41 =>
  (Arrays_fill_AIIV F 13 r41.2 0).bind fun r49 =>
  Rules_learn_c54 F F 0 r49.2
def jca_Rules_learn (F : Nat) : jxA := fun as σ k => match as with
  | [.inr (.inr (.inl t0)), .inr (.inr (.inl t1))] => bif Nat.beq t0 10 then bif Nat.beq t1 3 then (Rules_learn F σ).bind (fun r => k none r.2) else none else none
  | _ => none
def Cycle_forget (F : Nat) (σ : jxS) : Option jxR :=
  let s2 : jxS := jup σ 19 2 0
  some (0, s2)
def jca_Cycle_forget (F : Nat) : jxA := fun as σ k => match as with
  | [.inr (.inr (.inl t0))] => bif Nat.beq t0 19 then (Cycle_forget F σ).bind (fun r => k none r.2) else none
  | _ => none
def Hand_empty (F : Nat) (σ : jxS) : Option jxR :=
  let s2 : jxS := jup σ 29 2 0
  let s7 : jxS := jup s2 29 3 0
  let s12 : jxS := jup s7 29 4 0
  (Arrays_fill_AIIV F 31 s12 (-1)).bind fun r20 =>
  some (0, r20.2)
def jca_Hand_empty (F : Nat) : jxA := fun as σ k => match as with
  | [.inr (.inr (.inl t0))] => bif Nat.beq t0 29 then (Hand_empty F σ).bind (fun r => k none r.2) else none
  | _ => none
def Arrays_fill_AJJV_c6 (F : Nat) (a0 : Nat) (fu : Nat) (v1 v3 v4 : Int) (σ : jxS) : Option jxR := match fu with
  | 0 => none
  | fu + 1 =>
    if jw v3 < jw v4 then
      if 0 ≤ v3 ∧ v3 < (jalen a0) then
        let s15 : jxS := jup σ a0 v3 v1
        (Arrays_fill_AJJV_c6 F a0 fu) v1 (v3 + 1) v4 s15
      else none
    else
      some (0, σ)
def Arrays_fill_AJJV (F : Nat) (a0 : Nat) (σ : jxS) (v1 : Int) : Option jxR :=
  Arrays_fill_AJJV_c6 F a0 F v1 0 (jalen a0) σ
def jids_Arrays_fill_AJJV_a0 : List Nat := [37]
def jca_Arrays_fill_AJJV (F : Nat) : jxA := fun as σ k => match as with
  | [.inr (.inr (.inl t0)), .inr (.inl v1)] => bif jin jids_Arrays_fill_AJJV_a0 t0 then (Arrays_fill_AJJV F t0 σ v1).bind (fun r => k none r.2) else none
  | _ => none
def Values_forget (F : Nat) (σ : jxS) : Option jxR :=
  let s2 : jxS := jup σ 33 7 0
  let s7 : jxS := jup s2 33 8 0
  (Arrays_fill_AJJV F 37 s7 (-1)).bind fun r17 =>
  some (0, r17.2)
def jca_Values_forget (F : Nat) : jxA := fun as σ k => match as with
  | [.inr (.inr (.inl t0))] => bif Nat.beq t0 33 then (Values_forget F σ).bind (fun r => k none r.2) else none
  | _ => none
def Quotient_forget (F : Nat) (q : Nat) (σ : jxS) : Option jxR :=
  let s2 : jxS := jup σ q 7 0
  let s8 : jxS := jup s2 q 8 (-9)
  let s13 : jxS := jup s8 q 9 0
  some (0, s13)
def jids_Quotient_forget_q : List Nat := [48, 53, 58, 63, 68, 73]
def jca_Quotient_forget (F : Nat) : jxA := fun as σ k => match as with
  | [.inr (.inr (.inl t0))] => bif jin jids_Quotient_forget_q t0 then (Quotient_forget F t0 σ).bind (fun r => k none r.2) else none
  | _ => none
def Board_begin_c31 (F : Nat) (fu : Nat) (v2 : Int) (σ : jxS) : Option jxR := match fu with
  | 0 => none
  | fu + 1 =>
    if jw v2 < 6 then
      if 0 ≤ v2 ∧ v2 < 6 then
        if σ 32 v2 = 0 then
          (Board_begin_c31 F fu) (v2 + 1) σ
        else jsel jQS (σ 32 v2) fun qq1 =>
          if 0 ≤ v2 ∧ v2 < 6 then
            if σ 32 v2 = 0 then
              none
            else jsel jQS (σ 32 v2) fun qq2 =>
              (Quotient_forget F qq2 σ).bind fun r52 =>
              (Board_begin_c31 F fu) (v2 + 1) r52.2
          else none
      else none
    else
      let s64 : jxS := jup σ 9 8 (-2)
      let s70 : jxS := jup s64 9 9 (-2)
      some (0, s70)
def Board_begin (F : Nat) (σ : jxS) : Option jxR :=
  (Rules_learn F σ).bind fun r5 =>
  (Cycle_forget F r5.2).bind fun r12 =>
  (Hand_empty F r12.2).bind fun r19 =>
  (Values_forget F r19.2).bind fun r26 =>
  Board_begin_c31 F F 0 r26.2
def jca_Board_begin (F : Nat) : jxA := fun as σ k => match as with
  | [.inr (.inr (.inl t0)), .inr (.inr (.inl t1))] => bif Nat.beq t0 9 then bif Nat.beq t1 3 then (Board_begin F σ).bind (fun r => k none r.2) else none else none
  | _ => none
def LL1_game_c39 (F : Nat) (v1 : Int) (σ : jxS) : Option jxR :=
  (Board_begin F σ).bind fun r47 =>
  some (v1, r47.2)
def LL1_game (F : Nat) (σ : jxS) : Option jxR :=
  (Reader_readText F σ).bind fun r4 =>
  (Tape_cutTo F r4.2 0).bind fun r13 =>
  if 0 < jw r4.1 then
    LL1_game_c39 F r4.1 r13.2
  else
    some (r4.1, r13.2)
def jca_LL1_game (F : Nat) : jxA := fun as σ k => match as with
  | [.inr (.inr (.inl t0))] => bif Nat.beq t0 0 then (LL1_game F σ).bind (fun r => k (some (jmi r.1)) r.2) else none
  | _ => none
def Rules_moveCount (F : Nat) (σ : jxS) (v1 : Int) : Option jxR :=
  (LL_isHeap F σ v1).bind fun r1 =>
  if jw r1.1 = 0 then
    some (0, r1.2)
  else
    if 0 ≤ (v1 + 1) ∧ (v1 + 1) < 14 then
      if 0 ≤ v1 ∧ v1 < 14 then
        some (((r1.2 14 (v1 + 1)) - (r1.2 14 v1)), r1.2)
      else none
    else none
def jca_Rules_moveCount (F : Nat) : jxA := fun as σ k => match as with
  | [.inr (.inr (.inl t0)), .inl v1] => bif Nat.beq t0 10 then (Rules_moveCount F σ v1).bind (fun r => k (some (jmi r.1)) r.2) else none
  | _ => none
def LL1_moves (F : Nat) (σ : jxS) (v1 : Int) : Option jxR :=
  (LL_isHeap F σ v1).bind fun r8 =>
  if jw r8.1 = 0 then
    some ((-1), r8.2)
  else
    (Rules_moveCount F r8.2 v1).bind fun r26 =>
    some (r26.1, r26.2)
def jca_LL1_moves (F : Nat) : jxA := fun as σ k => match as with
  | [.inr (.inr (.inl t0)), .inl v1] => bif Nat.beq t0 0 then (LL1_moves F σ v1).bind (fun r => k (some (jmi r.1)) r.2) else none
  | _ => none
def Rules_moveAt (F : Nat) (σ : jxS) (v1 v2 : Int) : Option jxR :=
  (LL_isHeap F σ v1).bind fun r1 =>
  if jw r1.1 = 0 then
    some ((-1), r1.2)
  else
    if jw v2 < 0 then
      some ((-1), r1.2)
    else
      if 0 ≤ (v1 + 1) ∧ (v1 + 1) < 14 then
        if 0 ≤ v1 ∧ v1 < 14 then
          if jw v2 < jw ((r1.2 14 (v1 + 1)) - (r1.2 14 v1)) then
            if 0 ≤ v1 ∧ v1 < 14 then
              if 0 ≤ ((r1.2 14 v1) + v2) ∧ ((r1.2 14 v1) + v2) < 203 then
                some ((r1.2 15 ((r1.2 14 v1) + v2)), r1.2)
              else none
            else none
          else
            some ((-1), r1.2)
        else none
      else none
def jca_Rules_moveAt (F : Nat) : jxA := fun as σ k => match as with
  | [.inr (.inr (.inl t0)), .inl v1, .inl v2] => bif Nat.beq t0 10 then (Rules_moveAt F σ v1 v2).bind (fun r => k (some (jmi r.1)) r.2) else none
  | _ => none
def LL1_option (F : Nat) (σ : jxS) (v1 v2 v3 : Int) : Option jxR :=
  (LL_isHeap F σ v1).bind fun r8 =>
  if jw r8.1 = 0 then
    some ((-1), r8.2)
  else
    if jw v3 < 0 then
      some ((-1), r8.2)
    else
      if 1 < jw v3 then
        some ((-1), r8.2)
      else
        (Rules_moveAt F r8.2 v1 v2).bind fun r34 =>
        if jw r34.1 < 0 then
          some ((-1), r34.2)
        else
          if jw v3 = 0 then
            some ((jdiv r34.1 13), r34.2)
          else
            some ((jrem r34.1 13), r34.2)
def jca_LL1_option (F : Nat) : jxA := fun as σ k => match as with
  | [.inr (.inr (.inl t0)), .inl v1, .inl v2, .inl v3] => bif Nat.beq t0 0 then (LL1_option F σ v1 v2 v3).bind (fun r => k (some (jmi r.1)) r.2) else none
  | _ => none
def Rules_nimberOf (F : Nat) (σ : jxS) (v1 : Int) : Option jxR :=
  (LL_isHeap F σ v1).bind fun r1 =>
  if jw r1.1 = 0 then
    some (0, r1.2)
  else
    if 0 ≤ v1 ∧ v1 < 13 then
      some ((r1.2 16 v1), r1.2)
    else none
def jca_Rules_nimberOf (F : Nat) : jxA := fun as σ k => match as with
  | [.inr (.inr (.inl t0)), .inl v1] => bif Nat.beq t0 10 then (Rules_nimberOf F σ v1).bind (fun r => k (some (jmi r.1)) r.2) else none
  | _ => none
def LL1_nimber (F : Nat) (σ : jxS) (v1 : Int) : Option jxR :=
  (LL_isHeap F σ v1).bind fun r8 =>
  if jw r8.1 = 0 then
    some ((-1), r8.2)
  else
    (Rules_nimberOf F r8.2 v1).bind fun r26 =>
    some (r26.1, r26.2)
def jca_LL1_nimber (F : Nat) : jxA := fun as σ k => match as with
  | [.inr (.inr (.inl t0)), .inl v1] => bif Nat.beq t0 0 then (LL1_nimber F σ v1).bind (fun r => k (some (jmi r.1)) r.2) else none
  | _ => none
def Rules_extraLines (F : Nat) (σ : jxS) : Option jxR :=
  some ((σ 10 9), σ)
def jca_Rules_extraLines (F : Nat) : jxA := fun as σ k => match as with
  | [.inr (.inr (.inl t0))] => bif Nat.beq t0 10 then (Rules_extraLines F σ).bind (fun r => k (some (jmi r.1)) r.2) else none
  | _ => none
def Rules_digitCount (F : Nat) (σ : jxS) : Option jxR :=
  some ((σ 10 8), σ)
def jca_Rules_digitCount (F : Nat) : jxA := fun as σ k => match as with
  | [.inr (.inr (.inl t0))] => bif Nat.beq t0 10 then (Rules_digitCount F σ).bind (fun r => k (some (jmi r.1)) r.2) else none
  | _ => none
def Rules_digitFor (F : Nat) (σ : jxS) (v1 : Int) : Option jxR :=
  if jw v1 < 1 then
    some (0, σ)
  else
    if jw (σ 10 8) < jw v1 then
      some (0, σ)
    else
      if 8 < jw v1 then
        some (0, σ)
      else
        if 0 ≤ (v1 - 1) ∧ (v1 - 1) < 8 then
          some ((σ 11 (v1 - 1)), σ)
        else none
def jca_Rules_digitFor (F : Nat) : jxA := fun as σ k => match as with
  | [.inr (.inr (.inl t0)), .inl v1] => bif Nat.beq t0 10 then (Rules_digitFor F σ v1).bind (fun r => k (some (jmi r.1)) r.2) else none
  | _ => none
def Cycle_seeMoves_c39 (F : Nat) (fu : Nat) (v1 v2 v4 : Int) (σ : jxS) : Option jxR := match fu with
  | 0 => none
  | fu + 1 =>
    if jw v2 < jw (v4 + v4) then
      some (0, σ)
    else
      if 0 ≤ v4 ∧ v4 < 161 then
        if 0 ≤ (v2 - v4) ∧ (v2 - v4) < 161 then
          if 0 ≤ (jand (jxor (σ 20 v4) (σ 20 (v2 - v4))) 255) ∧ (jand (jxor (σ 20 v4) (σ 20 (v2 - v4))) 255) < 256 then
            let s74 : jxS := jup σ 21 (jand (jxor (σ 20 v4) (σ 20 (v2 - v4))) 255) v1
            (Cycle_seeMoves_c39 F fu) v1 v2 (v4 + 1) s74
          else none
        else none
      else none
def Cycle_seeMoves_c30 (F : Nat) (v1 v2 v3 : Int) (σ : jxS) : Option jxR :=
  if jw (jand v3 4) = 0 then
    some (0, σ)
  else
    Cycle_seeMoves_c39 F F v1 v2 1 σ
def Cycle_seeMoves_c10 (F : Nat) (v1 v2 v3 t0 t1 : Int) (σ : jxS) : Option jxR :=
  if jw (jand t1 t0) = 0 then
    Cycle_seeMoves_c30 F v1 v2 v3 σ
  else
    if 0 ≤ v2 ∧ v2 < 161 then
      if 0 ≤ (jand (σ 20 v2) 255) ∧ (jand (σ 20 v2) 255) < 256 then
        let s29 : jxS := jup σ 21 (jand (σ 20 v2) 255) v1
        Cycle_seeMoves_c30 F v1 v2 v3 s29
      else none
    else none
def Cycle_seeMoves (F : Nat) (σ : jxS) (v1 v2 v3 : Int) : Option jxR :=
  if jw v2 = 0 then
    Cycle_seeMoves_c10 F v1 v2 v3 1 v3 σ
  else
    Cycle_seeMoves_c10 F v1 v2 v3 2 v3 σ
def jca_Cycle_seeMoves (F : Nat) : jxA := fun as σ k => match as with
  | [.inr (.inr (.inl t0)), .inl v1, .inl v2, .inl v3] => bif Nat.beq t0 19 then (Cycle_seeMoves F σ v1 v2 v3).bind (fun r => k none r.2) else none
  | _ => none
def Cycle_findNimbers_c86 (F : Nat) (k10 : Int → jxS → Option jxR) (v2 v3 : Int) (σ : jxS) : Option jxR :=
  if 0 ≤ v2 ∧ v2 < 161 then
    let s92 : jxS := jup σ 20 v2 v3
    k10 (v2 + 1) s92
  else none
def Cycle_findNimbers_c56 (F : Nat) (k10 : Int → jxS → Option jxR) (fu : Nat) (v2 v3 v4 : Int) (σ : jxS) : Option jxR := match fu with
  | 0 => none
  | fu + 1 =>
    if jw v4 < 256 then
      if 0 ≤ v4 ∧ v4 < 256 then
        if jw (σ 21 v4) = jw v2 then
          (Cycle_findNimbers_c56 F k10 fu) v2 (v4 + 1) (v4 + 1) σ
        else
          Cycle_findNimbers_c86 F k10 v2 v3 σ
      else none
    else
      Cycle_findNimbers_c86 F k10 v2 v3 σ
def Cycle_findNimbers_c19 (F : Nat) (k10 : Int → jxS → Option jxR) (fu : Nat) (v2 v3 : Int) (σ : jxS) : Option jxR := match fu with
  | 0 => none
  | fu + 1 =>
    (Rules_digitCount F σ).bind fun r21 =>
    if jw r21.1 < jw v3 then
      Cycle_findNimbers_c56 F k10 F v2 0 0 r21.2
    else
      if jw v2 < jw v3 then
        Cycle_findNimbers_c56 F k10 F v2 0 0 r21.2
      else
        (Rules_digitFor F r21.2 v3).bind fun r39 =>
        (Cycle_seeMoves F r39.2 v2 (v2 - v3) r39.1).bind fun r42 =>
        (Cycle_findNimbers_c19 F k10 fu) v2 (v3 + 1) r42.2
def Cycle_findNimbers_c10 (F : Nat) (fu : Nat) (v2 : Int) (σ : jxS) : Option jxR := match fu with
  | 0 => none
  | fu + 1 =>
    if 160 < jw v2 then
      some (0, σ)
    else
      Cycle_findNimbers_c19 F (Cycle_findNimbers_c10 F fu) F v2 1 σ
def Cycle_findNimbers (F : Nat) (σ : jxS) : Option jxR :=
  (Arrays_fill_AIIV F 21 σ 0).bind fun r5 =>
  Cycle_findNimbers_c10 F F 1 r5.2
def jca_Cycle_findNimbers (F : Nat) : jxA := fun as σ k => match as with
  | [.inr (.inr (.inl t0)), .inr (.inr (.inl t1))] => bif Nat.beq t0 19 then bif Nat.beq t1 10 then (Cycle_findNimbers F σ).bind (fun r => k none r.2) else none else none
  | _ => none
def Cycle_repeats_c11 (F : Nat) (fu : Nat) (v1 v2 v4 : Int) (σ : jxS) : Option jxR := match fu with
  | 0 => none
  | fu + 1 =>
    if jw v4 < jw v2 then
      some (1, σ)
    else
      if 0 ≤ (v4 + v1) ∧ (v4 + v1) < 161 then
        if 0 ≤ v4 ∧ v4 < 161 then
          if jw (σ 20 (v4 + v1)) = jw (σ 20 v4) then
            (Cycle_repeats_c11 F fu) v1 v2 (v4 + (-1)) σ
          else
            some (0, σ)
        else none
      else none
def Cycle_repeats (F : Nat) (σ : jxS) (v1 v2 v3 : Int) : Option jxR :=
  Cycle_repeats_c11 F F v1 v2 (jmin v3 (160 - v1)) σ
def jca_Cycle_repeats (F : Nat) : jxA := fun as σ k => match as with
  | [.inr (.inr (.inl t0)), .inl v1, .inl v2, .inl v3] => bif Nat.beq t0 19 then (Cycle_repeats F σ v1 v2 v3).bind (fun r => k (some (jmi r.1)) r.2) else none
  | _ => none
def Cycle_findCycle_c34 (F : Nat) (k12 : Int → Int → jxS → Option jxR) (fu : Nat) (v1 v2 v3 : Int) (σ : jxS) : Option jxR := match fu with
  | 0 => none
  | fu + 1 =>
    if 160 < jw (((2 * v3) + (2 * v2)) + v1) then
      k12 v1 (v2 + 1) σ
    else
      if jw (σ 19 3) = 0 then
        (Cycle_repeats F σ v2 v3 ((((2 * v3) + v2) + v1) - 1)).bind fun r68 =>
        if jw r68.1 = 0 then
          (Cycle_findCycle_c34 F k12 fu) v1 v2 (v3 + 1) r68.2
        else
          let s76 : jxS := jup r68.2 19 3 v2
          let s81 : jxS := jup s76 19 4 v3
          (Cycle_findCycle_c34 F k12 fu) v1 v2 (v3 + 1) s81
      else
        k12 v1 (v2 + 1) σ
def Cycle_findCycle_c12 (F : Nat) (fu : Nat) (v1 v2 : Int) (σ : jxS) : Option jxR := match fu with
  | 0 => none
  | fu + 1 =>
    if 160 < jw ((2 + (2 * v2)) + v1) then
      some (0, σ)
    else
      if jw (σ 19 3) = 0 then
        Cycle_findCycle_c34 F (Cycle_findCycle_c12 F fu) F v1 v2 1 σ
      else
        some (0, σ)
def Cycle_findCycle (F : Nat) (σ : jxS) (v1 : Int) : Option jxR :=
  let s2 : jxS := jup σ 19 3 0
  let s7 : jxS := jup s2 19 4 0
  Cycle_findCycle_c12 F F v1 1 s7
def jca_Cycle_findCycle (F : Nat) : jxA := fun as σ k => match as with
  | [.inr (.inr (.inl t0)), .inl v1] => bif Nat.beq t0 19 then (Cycle_findCycle F σ v1).bind (fun r => k none r.2) else none
  | _ => none
def Cycle_answer_c25 (F : Nat) (v2 : Int) (σ : jxS) : Option jxR :=
  if jw (σ 19 3) = 0 then
    some ((-2), σ)
  else
    if jw v2 = 0 then
      some ((σ 19 3), σ)
    else
      some ((σ 19 4), σ)
def Cycle_answer (F : Nat) (σ : jxS) (v2 : Int) : Option jxR :=
  if jw (σ 19 2) = 0 then
    (Cycle_findNimbers F σ).bind fun r9 =>
    (Rules_digitCount F r9.2).bind fun r14 =>
    (Cycle_findCycle F r14.2 r14.1).bind fun r17 =>
    let s22 : jxS := jup r17.2 19 2 1
    Cycle_answer_c25 F v2 s22
  else
    Cycle_answer_c25 F v2 σ
def jca_Cycle_answer (F : Nat) : jxA := fun as σ k => match as with
  | [.inr (.inr (.inl t0)), .inr (.inr (.inl t1)), .inl v2] => bif Nat.beq t0 19 then bif Nat.beq t1 10 then (Cycle_answer F σ v2).bind (fun r => k (some (jmi r.1)) r.2) else none else none
  | _ => none
def LL1_period (F : Nat) (σ : jxS) (v1 : Int) : Option jxR :=
  if jw v1 < 0 then
    some ((-1), σ)
  else
    if 1 < jw v1 then
      some ((-1), σ)
    else
      (Rules_extraLines F σ).bind fun r25 =>
      if 0 < jw r25.1 then
        some ((-3), r25.2)
      else
        (Cycle_answer F r25.2 v1).bind fun r49 =>
        some (r49.1, r49.2)
def jca_LL1_period (F : Nat) : jxA := fun as σ k => match as with
  | [.inr (.inr (.inl t0)), .inl v1] => bif Nat.beq t0 0 then (LL1_period F σ v1).bind (fun r => k (some (jmi r.1)) r.2) else none
  | _ => none
def Positions_firstWith (F : Nat) (σ : jxS) (v1 : Int) : Option jxR :=
  if 0 ≤ (jmax 0 (jmin v1 23)) ∧ (jmax 0 (jmin v1 23)) < 24 then
    some ((σ 24 (jmax 0 (jmin v1 23))), σ)
  else none
def jca_Positions_firstWith (F : Nat) : jxA := fun as σ k => match as with
  | [.inr (.inr (.inl t0)), .inl v1] => bif Nat.beq t0 22 then (Positions_firstWith F σ v1).bind (fun r => k (some (jmi r.1)) r.2) else none
  | _ => none
def Positions_isPosition (F : Nat) (σ : jxS) (v0 : Int) : Option jxR :=
  if jw v0 < 0 then
    some (0, σ)
  else
    if jw v0 < 4224 then
      some (1, σ)
    else
      some (0, σ)
def jca_Positions_isPosition (F : Nat) : jxA := fun as σ k => match as with
  | [.inl v0] => (Positions_isPosition F σ v0).bind (fun r => k (some (jmi r.1)) r.2)
  | _ => none
def Positions_firstPart (F : Nat) (σ : jxS) (v1 : Int) : Option jxR :=
  (Positions_isPosition F σ v1).bind fun r1 =>
  if jw r1.1 = 0 then
    some (0, r1.2)
  else
    if 0 ≤ v1 ∧ v1 < 4225 then
      some ((r1.2 27 v1), r1.2)
    else none
def jca_Positions_firstPart (F : Nat) : jxA := fun as σ k => match as with
  | [.inr (.inr (.inl t0)), .inl v1] => bif Nat.beq t0 22 then (Positions_firstPart F σ v1).bind (fun r => k (some (jmi r.1)) r.2) else none
  | _ => none
def Positions_endPart (F : Nat) (σ : jxS) (v1 : Int) : Option jxR :=
  (Positions_isPosition F σ v1).bind fun r1 =>
  if jw r1.1 = 0 then
    some (0, r1.2)
  else
    if 0 ≤ (v1 + 1) ∧ (v1 + 1) < 4225 then
      some ((r1.2 27 (v1 + 1)), r1.2)
    else none
def jca_Positions_endPart (F : Nat) : jxA := fun as σ k => match as with
  | [.inr (.inr (.inl t0)), .inl v1] => bif Nat.beq t0 22 then (Positions_endPart F σ v1).bind (fun r => k (some (jmi r.1)) r.2) else none
  | _ => none
def Positions_heapOf (F : Nat) (σ : jxS) (v1 : Int) : Option jxR :=
  if jw v1 < 0 then
    some (0, σ)
  else
    if jw v1 < 14202 then
      if 0 ≤ v1 ∧ v1 < 14202 then
        some ((jdiv (σ 28 v1) 8192), σ)
      else none
    else
      some (0, σ)
def jca_Positions_heapOf (F : Nat) : jxA := fun as σ k => match as with
  | [.inr (.inr (.inl t0)), .inl v1] => bif Nat.beq t0 22 then (Positions_heapOf F σ v1).bind (fun r => k (some (jmi r.1)) r.2) else none
  | _ => none
def Positions_restOf (F : Nat) (σ : jxS) (v1 : Int) : Option jxR :=
  if jw v1 < 0 then
    some (0, σ)
  else
    if jw v1 < 14202 then
      if 0 ≤ v1 ∧ v1 < 14202 then
        some ((jrem (σ 28 v1) 8192), σ)
      else none
    else
      some (0, σ)
def jca_Positions_restOf (F : Nat) : jxA := fun as σ k => match as with
  | [.inr (.inr (.inl t0)), .inl v1] => bif Nat.beq t0 22 then (Positions_restOf F σ v1).bind (fun r => k (some (jmi r.1)) r.2) else none
  | _ => none
def Rules_firstMove (F : Nat) (σ : jxS) (v1 : Int) : Option jxR :=
  if jw v1 < 1 then
    some (0, σ)
  else
    if 13 < jw v1 then
      some (0, σ)
    else
      if 0 ≤ v1 ∧ v1 < 14 then
        some ((σ 14 v1), σ)
      else none
def jca_Rules_firstMove (F : Nat) : jxA := fun as σ k => match as with
  | [.inr (.inr (.inl t0)), .inl v1] => bif Nat.beq t0 10 then (Rules_firstMove F σ v1).bind (fun r => k (some (jmi r.1)) r.2) else none
  | _ => none
def Rules_packedAt (F : Nat) (σ : jxS) (v1 : Int) : Option jxR :=
  if jw v1 < 0 then
    some (0, σ)
  else
    if jw v1 < 203 then
      if 0 ≤ v1 ∧ v1 < 203 then
        some ((σ 15 v1), σ)
      else none
    else
      some (0, σ)
def jca_Rules_packedAt (F : Nat) : jxA := fun as σ k => match as with
  | [.inr (.inr (.inl t0)), .inl v1] => bif Nat.beq t0 10 then (Rules_packedAt F σ v1).bind (fun r => k (some (jmi r.1)) r.2) else none
  | _ => none
def Positions_joinMove_c66 (F : Nat) (v4 t0 : Int) (σ : jxS) : Option jxR :=
  if 0 ≤ (23 - v4) ∧ (23 - v4) < 24 then
    if jw t0 < jw (σ 24 (23 - v4)) then
      if jw v4 = 0 then
        some (t0, σ)
      else
        if 0 ≤ v4 ∧ v4 < 14 then
          if 0 ≤ ((σ 25 v4) + t0) ∧ ((σ 25 v4) + t0) < 14202 then
            some ((σ 26 ((σ 25 v4) + t0)), σ)
          else none
        else none
    else
      some ((-1), σ)
  else none
def Positions_joinMove (F : Nat) (σ : jxS) (v1 v2 : Int) : Option jxR :=
  if jw v1 < 0 then
    some ((-1), σ)
  else
    if jw (jdiv v2 13) < 0 then
      some ((-1), σ)
    else
      if jw (jrem v2 13) < 0 then
        some ((-1), σ)
      else
        if 12 < jw (jdiv v2 13) then
          some ((-1), σ)
        else
          if 0 ≤ (23 - (jdiv v2 13)) ∧ (23 - (jdiv v2 13)) < 24 then
            if jw v1 < jw (σ 24 (23 - (jdiv v2 13))) then
              if jw (jdiv v2 13) = 0 then
                Positions_joinMove_c66 F (jrem v2 13) v1 σ
              else
                if 0 ≤ (jdiv v2 13) ∧ (jdiv v2 13) < 14 then
                  if 0 ≤ ((σ 25 (jdiv v2 13)) + v1) ∧ ((σ 25 (jdiv v2 13)) + v1) < 14202 then
                    Positions_joinMove_c66 F (jrem v2 13) (σ 26 ((σ 25 (jdiv v2 13)) + v1)) σ
                  else none
                else none
            else
              some ((-1), σ)
          else none
def jca_Positions_joinMove (F : Nat) : jxA := fun as σ k => match as with
  | [.inr (.inr (.inl t0)), .inl v1, .inl v2] => bif Nat.beq t0 22 then (Positions_joinMove F σ v1 v2).bind (fun r => k (some (jmi r.1)) r.2) else none
  | _ => none
def Options_list_c72 (F : Nat) (o : Nat) (k23 : Int → Int → jxS → Option jxR) (fu : Nat) (v2 v3 v4 v5 v6 v7 : Int) (σ : jxS) : Option jxR := match fu with
  | 0 => none
  | fu + 1 =>
    if jw v7 < jw v6 then
      if jw (σ o 4) < 203 then
        (Rules_packedAt F σ v7).bind fun r97 =>
        (Positions_joinMove F r97.2 v5 r97.1).bind fun r118 =>
        if 0 ≤ (r97.2 o 4) ∧ (r97.2 o 4) < 203 then
          let s121 : jxS := jup r118.2 (o + 1) (r97.2 o 4) r118.1
          if 0 ≤ (s121 o 4) ∧ (s121 o 4) < 203 then
            let s139 : jxS := jup s121 (o + 2) (s121 o 4) ((1000 * v4) + r97.1)
            let s147 : jxS := jup s139 o 4 ((s139 o 4) + 1)
            (Options_list_c72 F o k23 fu) v2 v3 v4 v5 v6 (v7 + 1) s147
          else none
        else none
      else
        k23 v2 (v3 + 1) σ
    else
      k23 v2 (v3 + 1) σ
def Options_list_c23 (F : Nat) (o : Nat) (fu : Nat) (v2 v3 : Int) (σ : jxS) : Option jxR := match fu with
  | 0 => none
  | fu + 1 =>
    if jw v3 < jw v2 then
      (Positions_heapOf F σ v3).bind fun r33 =>
      (Positions_restOf F r33.2 v3).bind fun r43 =>
      (Rules_firstMove F r43.2 (r33.1 + 1)).bind fun r56 =>
      (Rules_firstMove F r56.2 r33.1).bind fun r67 =>
      Options_list_c72 F o (Options_list_c23 F o fu) F v2 v3 r33.1 r43.1 r56.1 r67.1 r67.2
    else
      some (0, σ)
def Options_list (F : Nat) (o : Nat) (σ : jxS) (v1 : Int) : Option jxR :=
  let s2 : jxS := jup σ o 4 0
  (Positions_endPart F s2 v1).bind fun r10 =>
  (Positions_firstPart F r10.2 v1).bind fun r19 =>
  Options_list_c23 F o F r10.1 r19.1 r19.2
def jids_Options_list_o : List Nat := [38, 41]
def jca_Options_list (F : Nat) : jxA := fun as σ k => match as with
  | [.inr (.inr (.inl t0)), .inl v1] => bif jin jids_Options_list_o t0 then (Options_list F t0 σ v1).bind (fun r => k none r.2) else none
  | _ => none
def Values_judgeOptions_c109 (F : Nat) (v2 v3 v4 v5 : Int) (σ : jxS) : Option jxR :=
  if jw v5 = 0 then
    some (((jand v4 (-2)) + 2), σ)
  else
    if jw v2 = 0 then
      some (1, σ)
    else
      some ((v3 + 3), σ)
def Values_judgeOptions_c84 (F : Nat) (k36 : Int → Int → Int → Int → Int → jxS → Option jxR) (v2 v3 v4 v5 v6 v8 : Int) (σ : jxS) : Option jxR :=
  if jw (jand v8 1) = 0 then
    if jw v8 < jw v3 then
      k36 v2 v8 v4 1 (v6 + 1) σ
    else
      k36 v2 v3 v4 1 (v6 + 1) σ
  else
    k36 v2 v3 v4 v5 (v6 + 1) σ
def Values_judgeOptions_c71 (F : Nat) (k36 : Int → Int → Int → Int → Int → jxS → Option jxR) (v2 v3 v4 v5 v6 t0 : Int) (σ : jxS) : Option jxR :=
  if jw v4 < jw t0 then
    Values_judgeOptions_c84 F k36 v2 v3 t0 v5 v6 t0 σ
  else
    Values_judgeOptions_c84 F k36 v2 v3 v4 v5 v6 t0 σ
def Values_judgeOptions_c36 (F : Nat) (fu : Nat) (v2 v3 v4 v5 v6 : Int) (σ : jxS) : Option jxR := match fu with
  | 0 => none
  | fu + 1 =>
    if jw v6 < jw v2 then
      if jw v6 < 203 then
        if 0 ≤ v6 ∧ v6 < 203 then
          if jw (σ 39 v6) < 0 then
            Values_judgeOptions_c71 F (Values_judgeOptions_c36 F fu) v2 v3 v4 v5 v6 0 σ
          else
            if 0 ≤ (σ 39 v6) ∧ (σ 39 v6) < 4224 then
              Values_judgeOptions_c71 F (Values_judgeOptions_c36 F fu) v2 v3 v4 v5 v6 (σ 34 (σ 39 v6)) σ
            else none
        else none
      else
        Values_judgeOptions_c109 F v2 v3 v4 v5 σ
    else
      Values_judgeOptions_c109 F v2 v3 v4 v5 σ
def Values_judgeOptions (F : Nat) (σ : jxS) : Option jxR :=
  if jw (σ 38 4) = 0 then
    Values_judgeOptions_c36 F F (σ 38 4) 44 0 1 0 σ
  else
    Values_judgeOptions_c36 F F (σ 38 4) 44 0 0 0 σ
def jca_Values_judgeOptions (F : Nat) : jxA := fun as σ k => match as with
  | [.inr (.inr (.inl t0))] => bif Nat.beq t0 33 then (Values_judgeOptions F σ).bind (fun r => k (some (jmi r.1)) r.2) else none
  | _ => none
def Values_settleTo_c5 (F : Nat) (fu : Nat) (v1 v2 : Int) (σ : jxS) : Option jxR := match fu with
  | 0 => none
  | fu + 1 =>
    if jw v1 < jw v2 then
      some (0, σ)
    else
      if jw v2 < 4224 then
        (Options_list F 38 σ v2).bind fun r22 =>
        (Values_judgeOptions F r22.2).bind fun r31 =>
        if 0 ≤ v2 ∧ v2 < 4224 then
          let s34 : jxS := jup r31.2 34 v2 r31.1
          let s39 : jxS := jup s34 33 7 (v2 + 1)
          (Values_settleTo_c5 F fu) v1 (v2 + 1) s39
        else none
      else
        some (0, σ)
def Values_settleTo (F : Nat) (σ : jxS) (v1 : Int) : Option jxR :=
  Values_settleTo_c5 F F v1 (σ 33 7) σ
def jca_Values_settleTo (F : Nat) : jxA := fun as σ k => match as with
  | [.inr (.inr (.inl t0)), .inl v1] => bif Nat.beq t0 33 then (Values_settleTo F σ v1).bind (fun r => k none r.2) else none
  | _ => none
def Values_loses (F : Nat) (σ : jxS) (v1 : Int) : Option jxR :=
  (Values_settleTo F σ v1).bind fun r2 =>
  (Positions_isPosition F r2.2 v1).bind fun r6 =>
  if jw r6.1 = 0 then
    some (0, r6.2)
  else
    if 0 ≤ v1 ∧ v1 < 4224 then
      if jw (jrem (r6.2 34 v1) 2) = 0 then
        some (1, r6.2)
      else
        some (0, r6.2)
    else none
def jca_Values_loses (F : Nat) : jxA := fun as σ k => match as with
  | [.inr (.inr (.inl t0)), .inl v1] => bif Nat.beq t0 33 then (Values_loses F σ v1).bind (fun r => k (some (jmi r.1)) r.2) else none
  | _ => none
def Values_nimberOf_c7 (F : Nat) (fu : Nat) (v2 v3 v4 : Int) (σ : jxS) : Option jxR := match fu with
  | 0 => none
  | fu + 1 =>
    if jw v4 < 22 then
      if 0 < jw v3 then
        (Positions_firstPart F σ v3).bind fun r23 =>
        (Positions_heapOf F r23.2 r23.1).bind fun r39 =>
        (Rules_nimberOf F r39.2 r39.1).bind fun r42 =>
        (Positions_restOf F r42.2 r23.1).bind fun r53 =>
        (Values_nimberOf_c7 F fu) (jxor v2 r42.1) r53.1 (v4 + 1) r53.2
      else
        some (v2, σ)
    else
      some (v2, σ)
def Values_nimberOf (F : Nat) (σ : jxS) (v1 : Int) : Option jxR :=
  Values_nimberOf_c7 F F 0 v1 0 σ
def jca_Values_nimberOf (F : Nat) : jxA := fun as σ k => match as with
  | [.inr (.inr (.inl t0)), .inl v1] => bif Nat.beq t0 33 then (Values_nimberOf F σ v1).bind (fun r => k (some (jmi r.1)) r.2) else none
  | _ => none
def Values_isLikeNim_c83 (F : Nat) (t0 t1 : Int) (σ : jxS) : Option jxR :=
  if jw t1 = jw t0 then
    some (1, σ)
  else
    some (0, σ)
def Values_isLikeNim_c75 (F : Nat) (t0 t1 t2 : Int) (σ : jxS) : Option jxR :=
  if jw t1 = jw t0 then
    Values_isLikeNim_c83 F 1 t2 σ
  else
    Values_isLikeNim_c83 F 0 t2 σ
def Values_isLikeNim_c11 (F : Nat) (fu : Nat) (v1 v2 v3 : Int) (σ : jxS) : Option jxR := match fu with
  | 0 => none
  | fu + 1 =>
    (Positions_endPart F σ v1).bind fun r17 =>
    if jw v3 < jw r17.1 then
      (Positions_heapOf F r17.2 v3).bind fun r33 =>
      (Rules_nimberOf F r33.2 r33.1).bind fun r36 =>
      if jw r36.1 < 2 then
        (Values_isLikeNim_c11 F fu) v1 (jand v2 1) (v3 + 1) r36.2
      else
        (Values_isLikeNim_c11 F fu) v1 (jand v2 0) (v3 + 1) r36.2
    else
      (Values_loses F r17.2 v1).bind fun r58 =>
      (Values_nimberOf F r58.2 v1).bind fun r63 =>
      if jw v2 = 0 then
        Values_isLikeNim_c75 F 0 r63.1 r58.1 r63.2
      else
        Values_isLikeNim_c75 F 1 r63.1 r58.1 r63.2
def Values_isLikeNim (F : Nat) (σ : jxS) (v1 : Int) : Option jxR :=
  (Positions_firstPart F σ v1).bind fun r7 =>
  Values_isLikeNim_c11 F F v1 1 r7.1 r7.2
def jca_Values_isLikeNim (F : Nat) : jxA := fun as σ k => match as with
  | [.inr (.inr (.inl t0)), .inl v1] => bif Nat.beq t0 33 then (Values_isLikeNim F σ v1).bind (fun r => k (some (jmi r.1)) r.2) else none
  | _ => none
def Board_firstOdd_c48 (F : Nat) (σ : jxS) : Option jxR :=
  if jw (σ 9 8) = (-2) then
    let s59 : jxS := jup σ 9 8 (-1)
    some ((s59 9 8), s59)
  else
    some ((σ 9 8), σ)
def Board_firstOdd_c12 (F : Nat) (fu : Nat) (v1 v2 : Int) (σ : jxS) : Option jxR := match fu with
  | 0 => none
  | fu + 1 =>
    if jw v2 < jw v1 then
      if jw (σ 9 8) = (-2) then
        (Values_isLikeNim F σ v2).bind fun r31 =>
        if jw r31.1 = 0 then
          let s39 : jxS := jup r31.2 9 8 v2
          (Board_firstOdd_c12 F fu) v1 (v2 + 1) s39
        else
          (Board_firstOdd_c12 F fu) v1 (v2 + 1) r31.2
      else
        Board_firstOdd_c48 F σ
    else
      Board_firstOdd_c48 F σ
def Board_firstOdd (F : Nat) (σ : jxS) : Option jxR :=
  (Positions_firstWith F σ 13).bind fun r6 =>
  Board_firstOdd_c12 F F r6.1 0 r6.2
def jca_Board_firstOdd (F : Nat) : jxA := fun as σ k => match as with
  | [.inr (.inr (.inl t0))] => bif Nat.beq t0 9 then (Board_firstOdd F σ).bind (fun r => k (some (jmi r.1)) r.2) else none
  | _ => none
def Positions_beansOf_c4 (F : Nat) (fu : Nat) (v1 v2 v3 : Int) (σ : jxS) : Option jxR := match fu with
  | 0 => none
  | fu + 1 =>
    if 22 < jw v3 then
      some (v2, σ)
    else
      if 0 ≤ v3 ∧ v3 < 24 then
        if jw v1 < jw (σ 24 v3) then
          some (v2, σ)
        else
          (Positions_beansOf_c4 F fu) v1 v3 (v3 + 1) σ
      else none
def Positions_beansOf (F : Nat) (σ : jxS) (v1 : Int) : Option jxR :=
  Positions_beansOf_c4 F F v1 0 1 σ
def jca_Positions_beansOf (F : Nat) : jxA := fun as σ k => match as with
  | [.inr (.inr (.inl t0)), .inl v1] => bif Nat.beq t0 22 then (Positions_beansOf F σ v1).bind (fun r => k (some (jmi r.1)) r.2) else none
  | _ => none
def Positions_without_c6 (F : Nat) (fu : Nat) (v1 v2 v3 : Int) (σ : jxS) : Option jxR := match fu with
  | 0 => none
  | fu + 1 =>
    (Positions_endPart F σ v1).bind fun r9 =>
    if jw v3 < jw r9.1 then
      (Positions_heapOf F r9.2 v3).bind fun r17 =>
      if jw r17.1 = jw v2 then
        (Positions_restOf F r17.2 v3).bind fun r26 =>
        some (r26.1, r26.2)
      else
        (Positions_without_c6 F fu) v1 v2 (v3 + 1) r17.2
    else
      some ((-1), r9.2)
def Positions_without (F : Nat) (σ : jxS) (v1 v2 : Int) : Option jxR :=
  (Positions_firstPart F σ v1).bind fun r2 =>
  Positions_without_c6 F F v1 v2 r2.1 r2.2
def jca_Positions_without (F : Nat) : jxA := fun as σ k => match as with
  | [.inr (.inr (.inl t0)), .inl v1, .inl v2] => bif Nat.beq t0 22 then (Positions_without F σ v1 v2).bind (fun r => k (some (jmi r.1)) r.2) else none
  | _ => none
def Positions_countOf_c13 (F : Nat) (fu : Nat) (v2 v3 v4 v5 : Int) (σ : jxS) : Option jxR := match fu with
  | 0 => none
  | fu + 1 =>
    if jw v5 < 22 then
      if jw v4 < 0 then
        some (v3, σ)
      else
        (Positions_without F σ v4 v2).bind fun r32 =>
        (Positions_countOf_c13 F fu) v2 (v3 + 1) r32.1 (v5 + 1) r32.2
    else
      some (v3, σ)
def Positions_countOf (F : Nat) (σ : jxS) (v1 v2 : Int) : Option jxR :=
  (Positions_without F σ v1 v2).bind fun r5 =>
  Positions_countOf_c13 F F v2 0 r5.1 0 r5.2
def jca_Positions_countOf (F : Nat) : jxA := fun as σ k => match as with
  | [.inr (.inr (.inl t0)), .inl v1, .inl v2] => bif Nat.beq t0 22 then (Positions_countOf F σ v1 v2).bind (fun r => k (some (jmi r.1)) r.2) else none
  | _ => none
def Positions_tally (F : Nat) (σ : jxS) (v1 v2 : Int) : Option jxR :=
  if jw v2 = 0 then
    (Positions_beansOf F σ v1).bind fun r6 =>
    some (r6.1, r6.2)
  else
    (Positions_countOf F σ v1 v2).bind fun r15 =>
    some (r15.1, r15.2)
def jca_Positions_tally (F : Nat) : jxA := fun as σ k => match as with
  | [.inr (.inr (.inl t0)), .inl v1, .inl v2] => bif Nat.beq t0 22 then (Positions_tally F σ v1 v2).bind (fun r => k (some (jmi r.1)) r.2) else none
  | _ => none
def LL1_tallyOrNoSuch (F : Nat) (σ : jxS) (v1 v2 : Int) : Option jxR :=
  if jw v1 < 0 then
    some ((-2), σ)
  else
    (Positions_tally F σ v1 v2).bind fun r25 =>
    some (r25.1, r25.2)
def jca_LL1_tallyOrNoSuch (F : Nat) : jxA := fun as σ k => match as with
  | [.inr (.inr (.inl t0)), .inl v1, .inl v2] => bif Nat.beq t0 0 then (LL1_tallyOrNoSuch F σ v1 v2).bind (fun r => k (some (jmi r.1)) r.2) else none
  | _ => none
def LL1_odd (F : Nat) (σ : jxS) (v1 : Int) : Option jxR :=
  (LL_isHeapOrAll F σ v1).bind fun r8 =>
  if jw r8.1 = 0 then
    some ((-1), r8.2)
  else
    (Board_firstOdd F r8.2).bind fun r21 =>
    (LL1_tallyOrNoSuch F r21.2 r21.1 v1).bind fun r25 =>
    some (r25.1, r25.2)
def jca_LL1_odd (F : Nat) : jxA := fun as σ k => match as with
  | [.inr (.inr (.inl t0)), .inl v1] => bif Nat.beq t0 0 then (LL1_odd F σ v1).bind (fun r => k (some (jmi r.1)) r.2) else none
  | _ => none
def Values_judgeGenera_c177 (F : Nat) (k100 : Int → Int → jxS → Option jxR) (v2 v3 t0 : Int) (σ : jxS) : Option jxR :=
  k100 (jor v2 (jshl t0 (5 * v3))) (v3 + 1) σ
def Values_judgeGenera_c109 (F : Nat) (k100 : Int → Int → jxS → Option jxR) (fu : Nat) (v2 v3 v4 : Int) (σ : jxS) : Option jxR := match fu with
  | 0 => none
  | fu + 1 =>
    if jw v4 < jw v3 then
      if 0 ≤ v3 ∧ v3 < 6 then
        if jw (jand (jshr (jtab0.getD (v3).toNat 0) v4) 1) = 1 then
          if 0 ≤ v3 ∧ v3 < 6 then
            if 0 ≤ v3 ∧ v3 < 6 then
              let s148 : jxS := jup σ 36 v3 (jor (σ 36 v3) (jshl 1 (jand (jshr v2 (5 * v4)) 31)))
              (Values_judgeGenera_c109 F k100 fu) v2 v3 (v4 + 1) s148
            else none
          else none
        else
          (Values_judgeGenera_c109 F k100 fu) v2 v3 (v4 + 1) σ
      else none
    else
      if 0 ≤ v3 ∧ v3 < 6 then
        if jw (σ 36 v3) = 0 then
          Values_judgeGenera_c177 F k100 v2 v3 1 σ
        else
          if 0 ≤ v3 ∧ v3 < 6 then
            (LL_leastMissing F σ (σ 36 v3)).bind fun r174 =>
            Values_judgeGenera_c177 F k100 v2 v3 r174.1 r174.2
          else none
      else none
def Values_judgeGenera_c100 (F : Nat) (fu : Nat) (v2 v3 : Int) (σ : jxS) : Option jxR := match fu with
  | 0 => none
  | fu + 1 =>
    if jw v3 < 6 then
      Values_judgeGenera_c109 F (Values_judgeGenera_c100 F fu) F v2 v3 0 σ
    else
      some (v2, σ)
def Values_judgeGenera_c57 (F : Nat) (k18 : Int → jxS → Option jxR) (fu : Nat) (v2 v3 v4 : Int) (σ : jxS) : Option jxR := match fu with
  | 0 => none
  | fu + 1 =>
    if jw v4 < 6 then
      if 0 ≤ v4 ∧ v4 < 6 then
        if 0 ≤ v4 ∧ v4 < 6 then
          let s79 : jxS := jup σ 36 v4 (jor (σ 36 v4) (jshl 1 (jand v3 31)))
          (Values_judgeGenera_c57 F k18 fu) v2 (jshr v3 5) (v4 + 1) s79
        else none
      else none
    else
      k18 (v2 + 1) σ
def Values_judgeGenera_c18 (F : Nat) (fu : Nat) (v2 : Int) (σ : jxS) : Option jxR := match fu with
  | 0 => none
  | fu + 1 =>
    if jw v2 < jw (σ 38 4) then
      if jw v2 < 203 then
        if 0 ≤ v2 ∧ v2 < 203 then
          if jw (σ 39 v2) < 0 then
            Values_judgeGenera_c57 F (Values_judgeGenera_c18 F fu) F v2 0 0 σ
          else
            if 0 ≤ v2 ∧ v2 < 203 then
              if 0 ≤ (σ 39 v2) ∧ (σ 39 v2) < 4224 then
                Values_judgeGenera_c57 F (Values_judgeGenera_c18 F fu) F v2 (σ 35 (σ 39 v2)) 0 σ
              else none
            else none
        else none
      else
        Values_judgeGenera_c100 F F 0 0 σ
    else
      Values_judgeGenera_c100 F F 0 0 σ
def Values_judgeGenera (F : Nat) (σ : jxS) : Option jxR :=
  (Arrays_fill_AIIV F 36 σ 0).bind fun r13 =>
  Values_judgeGenera_c18 F F 0 r13.2
def jca_Values_judgeGenera (F : Nat) : jxA := fun as σ k => match as with
  | [.inr (.inr (.inl t0))] => bif Nat.beq t0 33 then (Values_judgeGenera F σ).bind (fun r => k (some (jmi r.1)) r.2) else none
  | _ => none
def Values_settleGeneraTo_c5 (F : Nat) (fu : Nat) (v1 v2 : Int) (σ : jxS) : Option jxR := match fu with
  | 0 => none
  | fu + 1 =>
    if jw v1 < jw v2 then
      some (0, σ)
    else
      if jw v2 < 4224 then
        (Options_list F 38 σ v2).bind fun r22 =>
        (Values_judgeGenera F r22.2).bind fun r31 =>
        if 0 ≤ v2 ∧ v2 < 4224 then
          let s34 : jxS := jup r31.2 35 v2 r31.1
          let s39 : jxS := jup s34 33 8 (v2 + 1)
          (Values_settleGeneraTo_c5 F fu) v1 (v2 + 1) s39
        else none
      else
        some (0, σ)
def Values_settleGeneraTo (F : Nat) (σ : jxS) (v1 : Int) : Option jxR :=
  Values_settleGeneraTo_c5 F F v1 (σ 33 8) σ
def jca_Values_settleGeneraTo (F : Nat) : jxA := fun as σ k => match as with
  | [.inr (.inr (.inl t0)), .inl v1] => bif Nat.beq t0 33 then (Values_settleGeneraTo F σ v1).bind (fun r => k none r.2) else none
  | _ => none
def Values_genusOf (F : Nat) (σ : jxS) (v1 v2 : Int) : Option jxR :=
  (Values_settleGeneraTo F σ v1).bind fun r2 =>
  (Positions_isPosition F r2.2 v1).bind fun r6 =>
  if jw r6.1 = 0 then
    some ((-1), r6.2)
  else
    if jw v2 < 0 then
      some ((-1), r6.2)
    else
      if jw v2 < 3 then
        if 0 ≤ v1 ∧ v1 < 4224 then
          if 0 ≤ v2 ∧ v2 < 3 then
            some ((jand (jshr (r6.2 35 v1) (5 * (jtab1.getD (v2).toNat 0))) 31), r6.2)
          else none
        else none
      else
        some ((-1), r6.2)
def jca_Values_genusOf (F : Nat) : jxA := fun as σ k => match as with
  | [.inr (.inr (.inl t0)), .inl v1, .inl v2] => bif Nat.beq t0 33 then (Values_genusOf F σ v1 v2).bind (fun r => k (some (jmi r.1)) r.2) else none
  | _ => none
def Values_isTame (F : Nat) (σ : jxS) (v1 : Int) : Option jxR :=
  (Values_nimberOf F σ v1).bind fun r2 =>
  (Values_genusOf F r2.2 v1 0).bind fun r9 =>
  (Values_genusOf F r9.2 v1 1).bind fun r16 =>
  (Values_genusOf F r16.2 v1 2).bind fun r24 =>
  if jw r24.1 = jw r2.1 then
    if jw r16.1 = jw (jxor r2.1 2) then
      if jw r9.1 = jw r2.1 then
        some (1, r24.2)
      else
        if jw r2.1 < 2 then
          if jw r9.1 = jw (1 - r2.1) then
            some (1, r24.2)
          else
            some (0, r24.2)
        else
          some (0, r24.2)
    else
      some (0, r24.2)
  else
    some (0, r24.2)
def jca_Values_isTame (F : Nat) : jxA := fun as σ k => match as with
  | [.inr (.inr (.inl t0)), .inl v1] => bif Nat.beq t0 33 then (Values_isTame F σ v1).bind (fun r => k (some (jmi r.1)) r.2) else none
  | _ => none
def Board_firstWild_c48 (F : Nat) (σ : jxS) : Option jxR :=
  if jw (σ 9 9) = (-2) then
    let s59 : jxS := jup σ 9 9 (-1)
    some ((s59 9 9), s59)
  else
    some ((σ 9 9), σ)
def Board_firstWild_c12 (F : Nat) (fu : Nat) (v1 v2 : Int) (σ : jxS) : Option jxR := match fu with
  | 0 => none
  | fu + 1 =>
    if jw v2 < jw v1 then
      if jw (σ 9 9) = (-2) then
        (Values_isTame F σ v2).bind fun r31 =>
        if jw r31.1 = 0 then
          let s39 : jxS := jup r31.2 9 9 v2
          (Board_firstWild_c12 F fu) v1 (v2 + 1) s39
        else
          (Board_firstWild_c12 F fu) v1 (v2 + 1) r31.2
      else
        Board_firstWild_c48 F σ
    else
      Board_firstWild_c48 F σ
def Board_firstWild (F : Nat) (σ : jxS) : Option jxR :=
  (Positions_firstWith F σ 13).bind fun r6 =>
  Board_firstWild_c12 F F r6.1 0 r6.2
def jca_Board_firstWild (F : Nat) : jxA := fun as σ k => match as with
  | [.inr (.inr (.inl t0))] => bif Nat.beq t0 9 then (Board_firstWild F σ).bind (fun r => k (some (jmi r.1)) r.2) else none
  | _ => none
def LL1_wild (F : Nat) (σ : jxS) (v1 : Int) : Option jxR :=
  (LL_isHeapOrAll F σ v1).bind fun r8 =>
  if jw r8.1 = 0 then
    some ((-1), r8.2)
  else
    (Board_firstWild F r8.2).bind fun r21 =>
    (LL1_tallyOrNoSuch F r21.2 r21.1 v1).bind fun r25 =>
    some (r25.1, r25.2)
def jca_LL1_wild (F : Nat) : jxA := fun as σ k => match as with
  | [.inr (.inr (.inl t0)), .inl v1] => bif Nat.beq t0 0 then (LL1_wild F σ v1).bind (fun r => k (some (jmi r.1)) r.2) else none
  | _ => none
def Hand_position (F : Nat) (σ : jxS) : Option jxR :=
  some ((σ 29 2), σ)
def jca_Hand_position (F : Nat) : jxA := fun as σ k => match as with
  | [.inr (.inr (.inl t0))] => bif Nat.beq t0 29 then (Hand_position F σ).bind (fun r => k (some (jmi r.1)) r.2) else none
  | _ => none
def Positions_join (F : Nat) (σ : jxS) (v1 v2 : Int) : Option jxR :=
  if jw v2 = 0 then
    some (v1, σ)
  else
    if jw v2 < 0 then
      some ((-1), σ)
    else
      if 12 < jw v2 then
        some ((-1), σ)
      else
        if jw v1 < 0 then
          some ((-1), σ)
        else
          if 0 ≤ (23 - v2) ∧ (23 - v2) < 24 then
            if jw v1 < jw (σ 24 (23 - v2)) then
              if 0 ≤ v2 ∧ v2 < 14 then
                if 0 ≤ ((σ 25 v2) + v1) ∧ ((σ 25 v2) + v1) < 14202 then
                  some ((σ 26 ((σ 25 v2) + v1)), σ)
                else none
              else none
            else
              some ((-1), σ)
          else none
def jca_Positions_join (F : Nat) : jxA := fun as σ k => match as with
  | [.inr (.inr (.inl t0)), .inl v1, .inl v2] => bif Nat.beq t0 22 then (Positions_join F σ v1 v2).bind (fun r => k (some (jmi r.1)) r.2) else none
  | _ => none
def Hand_become (F : Nat) (σ : jxS) (v1 : Int) : Option jxR :=
  if 0 ≤ (σ 29 3) ∧ (σ 29 3) < 30 then
    let s12 : jxS := jup σ 30 (σ 29 3) (σ 29 2)
    let s23 : jxS := jup s12 29 3 (jrem ((s12 29 3) + 1) 30)
    let s38 : jxS := jup s23 29 4 (jmin ((s23 29 4) + 1) 30)
    let s43 : jxS := jup s38 29 2 v1
    some (0, s43)
  else none
def jca_Hand_become (F : Nat) : jxA := fun as σ k => match as with
  | [.inr (.inr (.inl t0)), .inl v1] => bif Nat.beq t0 29 then (Hand_become F σ v1).bind (fun r => k none r.2) else none
  | _ => none
def LL1_put (F : Nat) (σ : jxS) (v1 : Int) : Option jxR :=
  (LL_isHeap F σ v1).bind fun r8 =>
  if jw r8.1 = 0 then
    some ((-1), r8.2)
  else
    (Hand_position F r8.2).bind fun r30 =>
    (Positions_join F r30.2 r30.1 v1).bind fun r34 =>
    if jw r34.1 < 0 then
      some ((-1), r34.2)
    else
      (Hand_become F r34.2 r34.1).bind fun r52 =>
      (Positions_beansOf F r52.2 r34.1).bind fun r63 =>
      some (r63.1, r63.2)
def jca_LL1_put (F : Nat) : jxA := fun as σ k => match as with
  | [.inr (.inr (.inl t0)), .inl v1] => bif Nat.beq t0 0 then (LL1_put F σ v1).bind (fun r => k (some (jmi r.1)) r.2) else none
  | _ => none
def Rules_isMove (F : Nat) (σ : jxS) (v1 v2 v3 : Int) : Option jxR :=
  if jw v2 < 0 then
    some (0, σ)
  else
    if jw v3 < jw v2 then
      some (0, σ)
    else
      if 12 < jw v3 then
        some (0, σ)
      else
        (LL_isHeap F σ v1).bind fun r16 =>
        if jw r16.1 = 0 then
          some (0, r16.2)
        else
          if jw (v2 + v3) < jw v1 then
            (Rules_allows F r16.2 v1 v2 v3).bind fun r35 =>
            if r35.1 = 0 ∨ r35.1 = 1 then some (r35.1, r35.2) else none
          else
            some (0, r16.2)
def jca_Rules_isMove (F : Nat) : jxA := fun as σ k => match as with
  | [.inr (.inr (.inl t0)), .inl v1, .inl v2, .inl v3] => bif Nat.beq t0 10 then (Rules_isMove F σ v1 v2 v3).bind (fun r => k (some (jmi r.1)) r.2) else none
  | _ => none
def LL1_move (F : Nat) (σ : jxS) (v1 v2 v3 : Int) : Option jxR :=
  (LL_isHeap F σ v1).bind fun r8 =>
  if jw r8.1 = 0 then
    some ((-1), r8.2)
  else
    (Rules_isMove F r8.2 v1 v2 v3).bind fun r24 =>
    if jw r24.1 = 0 then
      some ((-1), r24.2)
    else
      (Hand_position F r24.2).bind fun r46 =>
      (Positions_without F r46.2 r46.1 v1).bind fun r50 =>
      if jw r50.1 < 0 then
        some ((-1), r50.2)
      else
        (Positions_joinMove F r50.2 r50.1 ((13 * v2) + v3)).bind fun r77 =>
        (Hand_become F r77.2 r77.1).bind fun r91 =>
        (Values_loses F r91.2 r77.1).bind fun r103 =>
        if jw r103.1 = 0 then
          some (1, r103.2)
        else
          some (0, r103.2)
def jca_LL1_move (F : Nat) : jxA := fun as σ k => match as with
  | [.inr (.inr (.inl t0)), .inl v1, .inl v2, .inl v3] => bif Nat.beq t0 0 then (LL1_move F σ v1 v2 v3).bind (fun r => k (some (jmi r.1)) r.2) else none
  | _ => none
def Options_size (F : Nat) (o : Nat) (σ : jxS) : Option jxR :=
  some ((σ o 4), σ)
def jids_Options_size_o : List Nat := [38, 41]
def jca_Options_size (F : Nat) : jxA := fun as σ k => match as with
  | [.inr (.inr (.inl t0))] => bif jin jids_Options_size_o t0 then (Options_size F t0 σ).bind (fun r => k (some (jmi r.1)) r.2) else none
  | _ => none
def Options_target (F : Nat) (o : Nat) (σ : jxS) (v1 : Int) : Option jxR :=
  if jw v1 < 0 then
    some ((-1), σ)
  else
    if jw v1 < jw (σ o 4) then
      if 0 ≤ v1 ∧ v1 < 203 then
        some ((σ (o + 1) v1), σ)
      else none
    else
      some ((-1), σ)
def jids_Options_target_o : List Nat := [38, 41]
def jca_Options_target (F : Nat) : jxA := fun as σ k => match as with
  | [.inr (.inr (.inl t0)), .inl v1] => bif jin jids_Options_target_o t0 then (Options_target F t0 σ v1).bind (fun r => k (some (jmi r.1)) r.2) else none
  | _ => none
def Options_code (F : Nat) (o : Nat) (σ : jxS) (v1 : Int) : Option jxR :=
  if jw v1 < 0 then
    some ((-2), σ)
  else
    if jw v1 < jw (σ o 4) then
      if 0 ≤ v1 ∧ v1 < 203 then
        some ((σ (o + 2) v1), σ)
      else none
    else
      some ((-2), σ)
def jids_Options_code_o : List Nat := [38, 41]
def jca_Options_code (F : Nat) : jxA := fun as σ k => match as with
  | [.inr (.inr (.inl t0)), .inl v1] => bif jin jids_Options_code_o t0 then (Options_code F t0 σ v1).bind (fun r => k (some (jmi r.1)) r.2) else none
  | _ => none
def Board_makeReply_c16 (F : Nat) (fu : Nat) (v1 : Int) (σ : jxS) : Option jxR := match fu with
  | 0 => none
  | fu + 1 =>
    (Options_size F 41 σ).bind fun r21 =>
    if jw v1 < jw r21.1 then
      (Options_target F 41 r21.2 v1).bind fun r36 =>
      (Values_loses F r36.2 r36.1).bind fun r39 =>
      if jw r39.1 = 0 then
        (Board_makeReply_c16 F fu) (v1 + 1) r39.2
      else
        (Options_target F 41 r39.2 v1).bind fun r54 =>
        (Hand_become F r54.2 r54.1).bind fun r57 =>
        (Options_code F 41 r57.2 v1).bind fun r65 =>
        some (r65.1, r65.2)
    else
      some ((-2), r21.2)
def Board_makeReply (F : Nat) (σ : jxS) : Option jxR :=
  (Hand_position F σ).bind fun r8 =>
  (Options_list F 41 r8.2 r8.1).bind fun r11 =>
  Board_makeReply_c16 F F 0 r11.2
def jca_Board_makeReply (F : Nat) : jxA := fun as σ k => match as with
  | [.inr (.inr (.inl t0))] => bif Nat.beq t0 9 then (Board_makeReply F σ).bind (fun r => k (some (jmi r.1)) r.2) else none
  | _ => none
def LL1_reply (F : Nat) (σ : jxS) : Option jxR :=
  (Board_makeReply F σ).bind fun r15 =>
  some (r15.1, r15.2)
def jca_LL1_reply (F : Nat) : jxA := fun as σ k => match as with
  | [.inr (.inr (.inl t0))] => bif Nat.beq t0 0 then (LL1_reply F σ).bind (fun r => k (some (jmi r.1)) r.2) else none
  | _ => none
def LL1_clear (F : Nat) (σ : jxS) : Option jxR :=
  (Hand_position F σ).bind fun r14 =>
  if jw r14.1 = 0 then
    some ((-1), r14.2)
  else
    (Hand_position F r14.2).bind fun r36 =>
    (Positions_beansOf F r36.2 r36.1).bind fun r39 =>
    (Hand_become F r39.2 0).bind fun r51 =>
    some (r39.1, r51.2)
def jca_LL1_clear (F : Nat) : jxA := fun as σ k => match as with
  | [.inr (.inr (.inl t0))] => bif Nat.beq t0 0 then (LL1_clear F σ).bind (fun r => k (some (jmi r.1)) r.2) else none
  | _ => none
def Hand_takeBack (F : Nat) (σ : jxS) : Option jxR :=
  if jw (σ 29 4) = 0 then
    some ((-1), σ)
  else
    let s22 : jxS := jup σ 29 3 (jrem (((σ 29 3) + 30) - 1) 30)
    let s32 : jxS := jup s22 29 4 ((s22 29 4) - 1)
    if 0 ≤ (s32 29 3) ∧ (s32 29 3) < 30 then
      let s45 : jxS := jup s32 29 2 (s32 30 (s32 29 3))
      some ((s45 29 4), s45)
    else none
def jca_Hand_takeBack (F : Nat) : jxA := fun as σ k => match as with
  | [.inr (.inr (.inl t0))] => bif Nat.beq t0 29 then (Hand_takeBack F σ).bind (fun r => k (some (jmi r.1)) r.2) else none
  | _ => none
def LL1_undo (F : Nat) (σ : jxS) : Option jxR :=
  (Hand_takeBack F σ).bind fun r18 =>
  some (r18.1, r18.2)
def jca_LL1_undo (F : Nat) : jxA := fun as σ k => match as with
  | [.inr (.inr (.inl t0))] => bif Nat.beq t0 0 then (LL1_undo F σ).bind (fun r => k (some (jmi r.1)) r.2) else none
  | _ => none
def LL1_hand (F : Nat) (σ : jxS) (v1 : Int) : Option jxR :=
  (LL_isHeapOrAll F σ v1).bind fun r1 =>
  if jw r1.1 = 0 then
    some ((-1), r1.2)
  else
    (Hand_position F r1.2).bind fun r34 =>
    (Positions_tally F r34.2 r34.1 v1).bind fun r38 =>
    some (r38.1, r38.2)
def jca_LL1_hand (F : Nat) : jxA := fun as σ k => match as with
  | [.inr (.inr (.inl t0)), .inl v1] => bif Nat.beq t0 0 then (LL1_hand F σ v1).bind (fun r => k (some (jmi r.1)) r.2) else none
  | _ => none
def Values_remoteOf (F : Nat) (σ : jxS) (v1 : Int) : Option jxR :=
  (Values_settleTo F σ v1).bind fun r2 =>
  (Positions_isPosition F r2.2 v1).bind fun r6 =>
  if jw r6.1 = 0 then
    some (0, r6.2)
  else
    if 0 ≤ v1 ∧ v1 < 4224 then
      some ((jdiv (r6.2 34 v1) 2), r6.2)
    else none
def jca_Values_remoteOf (F : Nat) : jxA := fun as σ k => match as with
  | [.inr (.inr (.inl t0)), .inl v1] => bif Nat.beq t0 33 then (Values_remoteOf F σ v1).bind (fun r => k (some (jmi r.1)) r.2) else none
  | _ => none
def Values_countWinning_c17 (F : Nat) (fu : Nat) (v1 v2 v3 : Int) (σ : jxS) : Option jxR := match fu with
  | 0 => none
  | fu + 1 =>
    (Options_size F 38 σ).bind fun r22 =>
    if jw v3 < jw r22.1 then
      (Options_target F 38 r22.2 v3).bind fun r34 =>
      (Values_loses F r34.2 r34.1).bind fun r37 =>
      if jw r37.1 = 0 then
        (Values_countWinning_c17 F fu) v1 v2 (v3 + 1) r37.2
      else
        (Options_code F 38 r37.2 v3).bind fun r54 =>
        (Positions_countOf F r54.2 v1 (jdiv r54.1 1000)).bind fun r61 =>
        (Values_countWinning_c17 F fu) v1 (v2 + r61.1) (v3 + 1) r61.2
    else
      some (v2, r22.2)
def Values_countWinning (F : Nat) (σ : jxS) (v1 : Int) : Option jxR :=
  (Values_settleTo F σ v1).bind fun r2 =>
  (Options_list F 38 r2.2 v1).bind fun r10 =>
  Values_countWinning_c17 F F v1 0 0 r10.2
def jca_Values_countWinning (F : Nat) : jxA := fun as σ k => match as with
  | [.inr (.inr (.inl t0)), .inl v1] => bif Nat.beq t0 33 then (Values_countWinning F σ v1).bind (fun r => k (some (jmi r.1)) r.2) else none
  | _ => none
def Rules_mostOf (F : Nat) (σ : jxS) (v1 : Int) : Option jxR :=
  (LL_isHeap F σ v1).bind fun r1 =>
  if jw r1.1 = 0 then
    some (0, r1.2)
  else
    if 0 ≤ v1 ∧ v1 < 13 then
      some ((r1.2 18 v1), r1.2)
    else none
def jca_Rules_mostOf (F : Nat) : jxA := fun as σ k => match as with
  | [.inr (.inr (.inl t0)), .inl v1] => bif Nat.beq t0 10 then (Rules_mostOf F σ v1).bind (fun r => k (some (jmi r.1)) r.2) else none
  | _ => none
def Rules_leastOf (F : Nat) (σ : jxS) (v1 : Int) : Option jxR :=
  (LL_isHeap F σ v1).bind fun r1 =>
  if jw r1.1 = 0 then
    some (0, r1.2)
  else
    if 0 ≤ v1 ∧ v1 < 13 then
      some ((r1.2 17 v1), r1.2)
    else none
def jca_Rules_leastOf (F : Nat) : jxA := fun as σ k => match as with
  | [.inr (.inr (.inl t0)), .inl v1] => bif Nat.beq t0 10 then (Rules_leastOf F σ v1).bind (fun r => k (some (jmi r.1)) r.2) else none
  | _ => none
def Values_lengthOf_c68 (F : Nat) (k8 : Int → Int → Int → Int → jxS → Option jxR) (v2 v5 v6 t0 t1 : Int) (σ : jxS) : Option jxR :=
  (Positions_restOf F σ v6).bind fun r76 =>
  k8 v2 (t1 + t0) r76.1 (v5 + 1) r76.2
def Values_lengthOf_c8 (F : Nat) (fu : Nat) (v2 v3 v4 v5 : Int) (σ : jxS) : Option jxR := match fu with
  | 0 => none
  | fu + 1 =>
    if jw v5 < 22 then
      if 0 < jw v4 then
        (Positions_firstPart F σ v4).bind fun r26 =>
        (Positions_heapOf F r26.2 r26.1).bind fun r37 =>
        if jw v2 = 0 then
          (Rules_mostOf F r37.2 r37.1).bind fun r65 =>
          Values_lengthOf_c68 F (Values_lengthOf_c8 F fu) v2 v5 r26.1 r65.1 v3 r65.2
        else
          (Rules_leastOf F r37.2 r37.1).bind fun r53 =>
          Values_lengthOf_c68 F (Values_lengthOf_c8 F fu) v2 v5 r26.1 r53.1 v3 r53.2
      else
        some (v3, σ)
    else
      some (v3, σ)
def Values_lengthOf (F : Nat) (σ : jxS) (v1 v2 : Int) : Option jxR :=
  Values_lengthOf_c8 F F v2 0 v1 0 σ
def jca_Values_lengthOf (F : Nat) : jxA := fun as σ k => match as with
  | [.inr (.inr (.inl t0)), .inl v1, .inl v2] => bif Nat.beq t0 33 then (Values_lengthOf F σ v1 v2).bind (fun r => k (some (jmi r.1)) r.2) else none
  | _ => none
def Values_stateOf (F : Nat) (σ : jxS) (v1 v2 : Int) : Option jxR :=
  if jw v2 = 0 then
    (Values_loses F σ v1).bind fun r54 =>
    if jw r54.1 = 0 then
      some (1, r54.2)
    else
      some (0, r54.2)
  else
  if jw v2 = 1 then
    (Values_remoteOf F σ v1).bind fun r68 =>
    some (r68.1, r68.2)
  else
  if jw v2 = 2 then
    (Values_nimberOf F σ v1).bind fun r74 =>
    some (r74.1, r74.2)
  else
  if jw v2 = 3 then
    (Values_genusOf F σ v1 0).bind fun r81 =>
    some (r81.1, r81.2)
  else
  if jw v2 = 4 then
    (Values_countWinning F σ v1).bind fun r87 =>
    some (r87.1, r87.2)
  else
  if jw v2 = 5 then
    (Values_isLikeNim F σ v1).bind fun r93 =>
    if jw r93.1 = 0 then
      some (0, r93.2)
    else
      some (1, r93.2)
  else
  if jw v2 = 6 then
    (Values_lengthOf F σ v1 1).bind fun r108 =>
    some (r108.1, r108.2)
  else
  if jw v2 = 7 then
    (Values_lengthOf F σ v1 0).bind fun r115 =>
    some (r115.1, r115.2)
  else
  if jw v2 = 8 then
    (Values_isTame F σ v1).bind fun r121 =>
    if jw r121.1 = 0 then
      some (0, r121.2)
    else
      some (1, r121.2)
  else
    some ((-1), σ)
def jca_Values_stateOf (F : Nat) : jxA := fun as σ k => match as with
  | [.inr (.inr (.inl t0)), .inl v1, .inl v2] => bif Nat.beq t0 33 then (Values_stateOf F σ v1 v2).bind (fun r => k (some (jmi r.1)) r.2) else none
  | _ => none
def LL1_state (F : Nat) (σ : jxS) (v1 : Int) : Option jxR :=
  (Hand_position F σ).bind fun r25 =>
  (Values_stateOf F r25.2 r25.1 v1).bind fun r29 =>
  some (r29.1, r29.2)
def jca_LL1_state (F : Nat) : jxA := fun as σ k => match as with
  | [.inr (.inr (.inl t0)), .inl v1] => bif Nat.beq t0 0 then (LL1_state F σ v1).bind (fun r => k (some (jmi r.1)) r.2) else none
  | _ => none
def LL1_genus (F : Nat) (σ : jxS) (v1 : Int) : Option jxR :=
  if jw v1 < 0 then
    some ((-1), σ)
  else
    if 2 < jw v1 then
      some ((-1), σ)
    else
      (Hand_position F σ).bind fun r32 =>
      (Values_genusOf F r32.2 r32.1 v1).bind fun r36 =>
      some (r36.1, r36.2)
def jca_LL1_genus (F : Nat) : jxA := fun as σ k => match as with
  | [.inr (.inr (.inl t0)), .inl v1] => bif Nat.beq t0 0 then (LL1_genus F σ v1).bind (fun r => k (some (jmi r.1)) r.2) else none
  | _ => none
def Board_soonest_c7 (F : Nat) (fu : Nat) (v1 v2 v3 : Int) (σ : jxS) : Option jxR := match fu with
  | 0 => none
  | fu + 1 =>
    (Options_size F 41 σ).bind fun r12 =>
    if jw v3 < jw r12.1 then
      (Options_target F 41 r12.2 v3).bind fun r23 =>
      (Values_loses F r23.2 r23.1).bind fun r34 =>
      if jw r34.1 = 0 then
        (Board_soonest_c7 F fu) v1 v2 (v3 + 1) r34.2
      else
        (Values_remoteOf F r34.2 r23.1).bind fun r46 =>
        if jw r46.1 < jw v2 then
          (Values_remoteOf F r46.2 r23.1).bind fun r59 =>
          (Board_soonest_c7 F fu) v3 r59.1 (v3 + 1) r59.2
        else
          (Board_soonest_c7 F fu) v1 v2 (v3 + 1) r46.2
    else
      some (v1, r12.2)
def Board_soonest (F : Nat) (σ : jxS) : Option jxR :=
  Board_soonest_c7 F F (-1) 23 0 σ
def jca_Board_soonest (F : Nat) : jxA := fun as σ k => match as with
  | [.inr (.inr (.inl t0))] => bif Nat.beq t0 9 then (Board_soonest F σ).bind (fun r => k (some (jmi r.1)) r.2) else none
  | _ => none
def Board_slowest_c6 (F : Nat) (fu : Nat) (v1 v2 v3 : Int) (σ : jxS) : Option jxR := match fu with
  | 0 => none
  | fu + 1 =>
    (Options_size F 41 σ).bind fun r11 =>
    if jw v3 < jw r11.1 then
      (Options_target F 41 r11.2 v3).bind fun r26 =>
      (Values_remoteOf F r26.2 r26.1).bind fun r29 =>
      if jw v2 < jw r29.1 then
        (Options_target F 41 r29.2 v3).bind fun r45 =>
        (Values_remoteOf F r45.2 r45.1).bind fun r48 =>
        (Board_slowest_c6 F fu) v3 r48.1 (v3 + 1) r48.2
      else
        (Board_slowest_c6 F fu) v1 v2 (v3 + 1) r29.2
    else
      some (v1, r11.2)
def Board_slowest (F : Nat) (σ : jxS) : Option jxR :=
  Board_slowest_c6 F F (-1) (-1) 0 σ
def jca_Board_slowest (F : Nat) : jxA := fun as σ k => match as with
  | [.inr (.inr (.inl t0))] => bif Nat.beq t0 9 then (Board_slowest F σ).bind (fun r => k (some (jmi r.1)) r.2) else none
  | _ => none
def Board_lineMove_c57 (F : Nat) (k14 : Int → Int → Int → Int → jxS → Option jxR) (v1 v4 t0 : Int) (σ : jxS) : Option jxR :=
  (Options_code F 41 σ t0).bind fun r65 =>
  (Options_target F 41 r65.2 t0).bind fun r75 =>
  if jw r75.1 < 0 then
    some ((-2), r75.2)
  else
    k14 v1 r65.1 r75.1 (v4 + 1) r75.2
def Board_lineMove_c14 (F : Nat) (fu : Nat) (v1 v2 v3 v4 : Int) (σ : jxS) : Option jxR := match fu with
  | 0 => none
  | fu + 1 =>
    if jw v1 < jw v4 then
      some (v2, σ)
    else
      if 22 < jw v4 then
        some (v2, σ)
      else
        (Options_list F 41 σ v3).bind fun r32 =>
        (Values_loses F r32.2 v3).bind fun r40 =>
        if jw r40.1 = 0 then
          (Board_soonest F r40.2).bind fun r54 =>
          Board_lineMove_c57 F (Board_lineMove_c14 F fu) v1 v4 r54.1 r54.2
        else
          (Board_slowest F r40.2).bind fun r47 =>
          Board_lineMove_c57 F (Board_lineMove_c14 F fu) v1 v4 r47.1 r47.2
def Board_lineMove (F : Nat) (σ : jxS) (v1 : Int) : Option jxR :=
  (Hand_position F σ).bind fun r7 =>
  Board_lineMove_c14 F F v1 (-2) r7.1 0 r7.2
def jca_Board_lineMove (F : Nat) : jxA := fun as σ k => match as with
  | [.inr (.inr (.inl t0)), .inl v1] => bif Nat.beq t0 9 then (Board_lineMove F σ v1).bind (fun r => k (some (jmi r.1)) r.2) else none
  | _ => none
def LL1_line (F : Nat) (σ : jxS) (v1 : Int) : Option jxR :=
  if jw v1 < 0 then
    some ((-1), σ)
  else
    (Board_lineMove F σ v1).bind fun r20 =>
    some (r20.1, r20.2)
def jca_LL1_line (F : Nat) : jxA := fun as σ k => match as with
  | [.inr (.inr (.inl t0)), .inl v1] => bif Nat.beq t0 0 then (LL1_line F σ v1).bind (fun r => k (some (jmi r.1)) r.2) else none
  | _ => none
def Values_countLosers_c11 (F : Nat) (fu : Nat) (v1 v2 v3 : Int) (σ : jxS) : Option jxR := match fu with
  | 0 => none
  | fu + 1 =>
    (Positions_firstWith F σ (v1 + 1)).bind fun r19 =>
    if jw v3 < jw r19.1 then
      (Values_loses F r19.2 v3).bind fun r27 =>
      if jw r27.1 = 0 then
        (Values_countLosers_c11 F fu) v1 v2 (v3 + 1) r27.2
      else
        (Values_countLosers_c11 F fu) v1 (v2 + 1) (v3 + 1) r27.2
    else
      some (v2, r19.2)
def Values_countLosers (F : Nat) (σ : jxS) (v1 : Int) : Option jxR :=
  (Positions_firstWith F σ v1).bind fun r7 =>
  Values_countLosers_c11 F F v1 0 r7.1 r7.2
def jca_Values_countLosers (F : Nat) : jxA := fun as σ k => match as with
  | [.inr (.inr (.inl t0)), .inl v1] => bif Nat.beq t0 33 then (Values_countLosers F σ v1).bind (fun r => k (some (jmi r.1)) r.2) else none
  | _ => none
def Values_firstLoser_c9 (F : Nat) (fu : Nat) (v1 v2 : Int) (σ : jxS) : Option jxR := match fu with
  | 0 => none
  | fu + 1 =>
    (Positions_firstWith F σ (v1 + 1)).bind fun r17 =>
    if jw v2 < jw r17.1 then
      (Values_loses F r17.2 v2).bind fun r25 =>
      if jw r25.1 = 0 then
        (Values_firstLoser_c9 F fu) v1 (v2 + 1) r25.2
      else
        some (v2, r25.2)
    else
      some ((-1), r17.2)
def Values_firstLoser (F : Nat) (σ : jxS) (v1 : Int) : Option jxR :=
  (Positions_firstWith F σ v1).bind fun r5 =>
  Values_firstLoser_c9 F F v1 r5.1 r5.2
def jca_Values_firstLoser (F : Nat) : jxA := fun as σ k => match as with
  | [.inr (.inr (.inl t0)), .inl v1] => bif Nat.beq t0 33 then (Values_firstLoser F σ v1).bind (fun r => k (some (jmi r.1)) r.2) else none
  | _ => none
def LL1_losers_c17 (F : Nat) (v1 v2 t0 : Int) (σ : jxS) : Option jxR :=
  if jw v1 < 0 then
    some ((-1), σ)
  else
    if 22 < jw v1 then
      some ((-1), σ)
    else
      if jw t0 = 0 then
        some ((-1), σ)
      else
        if jw v2 = (-1) then
          (Values_countLosers F σ v1).bind fun r54 =>
          some (r54.1, r54.2)
        else
          (Values_firstLoser F σ v1).bind fun r67 =>
          (LL1_tallyOrNoSuch F r67.2 r67.1 v2).bind fun r71 =>
          some (r71.1, r71.2)
def LL1_losers_c12 (F : Nat) (v1 v2 : Int) (σ : jxS) : Option jxR :=
  LL1_losers_c17 F v1 v2 1 σ
def LL1_losers (F : Nat) (σ : jxS) (v1 v2 : Int) : Option jxR :=
  if jw v2 = (-1) then
    LL1_losers_c12 F v1 v2 σ
  else
    (LL_isHeap F σ v2).bind fun r6 =>
    if jw r6.1 = 0 then
      LL1_losers_c17 F v1 v2 0 r6.2
    else
      LL1_losers_c12 F v1 v2 r6.2
def jca_LL1_losers (F : Nat) : jxA := fun as σ k => match as with
  | [.inr (.inr (.inl t0)), .inl v1, .inl v2] => bif Nat.beq t0 0 then (LL1_losers F σ v1 v2).bind (fun r => k (some (jmi r.1)) r.2) else none
  | _ => none
def Hand_keepUnder (F : Nat) (σ : jxS) (v1 : Int) : Option jxR :=
  if jw v1 < 0 then
    some (0, σ)
  else
    if jw v1 < 3 then
      if 0 ≤ v1 ∧ v1 < 3 then
        let s18 : jxS := jup σ 31 v1 (σ 29 2)
        some (0, s18)
      else none
    else
      some (0, σ)
def jca_Hand_keepUnder (F : Nat) : jxA := fun as σ k => match as with
  | [.inr (.inr (.inl t0)), .inl v1] => bif Nat.beq t0 29 then (Hand_keepUnder F σ v1).bind (fun r => k none r.2) else none
  | _ => none
def LL1_keep (F : Nat) (σ : jxS) (v1 : Int) : Option jxR :=
  if jw v1 < 0 then
    some ((-1), σ)
  else
    if jw v1 < 3 then
      (Hand_keepUnder F σ v1).bind fun r26 =>
      (Hand_position F r26.2).bind fun r43 =>
      (Positions_beansOf F r43.2 r43.1).bind fun r46 =>
      some (r46.1, r46.2)
    else
      some ((-1), σ)
def jca_LL1_keep (F : Nat) : jxA := fun as σ k => match as with
  | [.inr (.inr (.inl t0)), .inl v1] => bif Nat.beq t0 0 then (LL1_keep F σ v1).bind (fun r => k (some (jmi r.1)) r.2) else none
  | _ => none
def Hand_keptUnder (F : Nat) (σ : jxS) (v1 : Int) : Option jxR :=
  if jw v1 < 0 then
    some ((-1), σ)
  else
    if jw v1 < 3 then
      if 0 ≤ v1 ∧ v1 < 3 then
        some ((σ 31 v1), σ)
      else none
    else
      some ((-1), σ)
def jca_Hand_keptUnder (F : Nat) : jxA := fun as σ k => match as with
  | [.inr (.inr (.inl t0)), .inl v1] => bif Nat.beq t0 29 then (Hand_keptUnder F σ v1).bind (fun r => k (some (jmi r.1)) r.2) else none
  | _ => none
def Values_hasMark (F : Nat) (σ : jxS) (v1 : Int) : Option jxR :=
  if jw v1 < 0 then
    some (0, σ)
  else
    if jw v1 < 677 then
      some (1, σ)
    else
      some (0, σ)
def jca_Values_hasMark (F : Nat) : jxA := fun as σ k => match as with
  | [.inr (.inr (.inl t0)), .inl v1] => bif Nat.beq t0 33 then (Values_hasMark F σ v1).bind (fun r => k (some (jmi r.1)) r.2) else none
  | _ => none
def Positions_joinAll_c8 (F : Nat) (fu : Nat) (v3 v4 v5 : Int) (σ : jxS) : Option jxR := match fu with
  | 0 => none
  | fu + 1 =>
    if jw v5 < 22 then
      if 0 < jw v4 then
        (Positions_firstPart F σ v4).bind fun r23 =>
        (Positions_heapOf F r23.2 r23.1).bind fun r33 =>
        (Positions_join F r33.2 v3 r33.1).bind fun r36 =>
        (Positions_restOf F r36.2 r23.1).bind fun r43 =>
        (Positions_joinAll_c8 F fu) r36.1 r43.1 (v5 + 1) r43.2
      else
        some (v3, σ)
    else
      some (v3, σ)
def Positions_joinAll (F : Nat) (σ : jxS) (v1 v2 : Int) : Option jxR :=
  Positions_joinAll_c8 F F v1 v2 0 σ
def jca_Positions_joinAll (F : Nat) : jxA := fun as σ k => match as with
  | [.inr (.inr (.inl t0)), .inl v1, .inl v2] => bif Nat.beq t0 22 then (Positions_joinAll F σ v1 v2).bind (fun r => k (some (jmi r.1)) r.2) else none
  | _ => none
def Values_markOf_c54 (F : Nat) (fu : Nat) (v1 v2 v4 : Int) (σ : jxS) : Option jxR := match fu with
  | 0 => none
  | fu + 1 =>
    if jw v4 < 45 then
      (Positions_joinAll F σ v1 v4).bind fun r68 =>
      if jw r68.1 < 0 then
        (Values_markOf_c54 F fu) v1 v2 (v4 + 1) r68.2
      else
        if 0 ≤ r68.1 ∧ r68.1 < 4224 then
          if jw (jrem (r68.2 34 r68.1) 2) = 0 then
            (Values_markOf_c54 F fu) v1 (jlor v2 (jlshl 1 v4)) (v4 + 1) r68.2
          else
            (Values_markOf_c54 F fu) v1 v2 (v4 + 1) r68.2
        else none
    else
      if 0 ≤ v1 ∧ v1 < 677 then
        let s109 : jxS := jup σ 37 v1 v2
        if 0 ≤ v1 ∧ v1 < 677 then
          some ((s109 37 v1), s109)
        else none
      else none
def Values_markOf (F : Nat) (σ : jxS) (v1 : Int) : Option jxR :=
  (Values_hasMark F σ v1).bind fun r2 =>
  if jw r2.1 = 0 then
    some (0, r2.2)
  else
    if 0 ≤ v1 ∧ v1 < 677 then
      if jw (jlcmp (r2.2 37 v1) (-1)) = 0 then
        (Positions_beansOf F r2.2 v1).bind fun r33 =>
        (Positions_firstWith F r33.2 ((r33.1 + 7) + 1)).bind fun r41 =>
        (Values_settleTo F r41.2 (r41.1 - 1)).bind fun r46 =>
        Values_markOf_c54 F F v1 0 0 r46.2
      else
        if 0 ≤ v1 ∧ v1 < 677 then
          some ((r2.2 37 v1), r2.2)
        else none
    else none
def jca_Values_markOf (F : Nat) : jxA := fun as σ k => match as with
  | [.inr (.inr (.inl t0)), .inl v1] => bif Nat.beq t0 33 then (Values_markOf F σ v1).bind (fun r => k (some (jml r.1)) r.2) else none
  | _ => none
def Values_firstBetween_c15 (F : Nat) (fu : Nat) (v3 v5 : Int) (σ : jxS) : Option jxR := match fu with
  | 0 => none
  | fu + 1 =>
    if jw v5 < 45 then
      if jw (jlcmp (jland (jlshr v3 v5) 1) 1) = 0 then
        some (v5, σ)
      else
        (Values_firstBetween_c15 F fu) v3 (v5 + 1) σ
    else
      some ((-1), σ)
def Values_firstBetween (F : Nat) (σ : jxS) (v1 v2 : Int) : Option jxR :=
  (Values_markOf F σ v1).bind fun r2 =>
  (Values_markOf F r2.2 v2).bind fun r7 =>
  Values_firstBetween_c15 F F (jlxor r2.1 r7.1) 0 r7.2
def jca_Values_firstBetween (F : Nat) : jxA := fun as σ k => match as with
  | [.inr (.inr (.inl t0)), .inl v1, .inl v2] => bif Nat.beq t0 33 then (Values_firstBetween F σ v1 v2).bind (fun r => k (some (jmi r.1)) r.2) else none
  | _ => none
def LL1_apart (F : Nat) (σ : jxS) (v1 v2 : Int) : Option jxR :=
  (LL_isHeapOrAll F σ v2).bind fun r8 =>
  if jw r8.1 = 0 then
    some ((-1), r8.2)
  else
    (Hand_keptUnder F r8.2 v1).bind fun r24 =>
    if jw r24.1 < 0 then
      some ((-1), r24.2)
    else
      (Values_hasMark F r24.2 r24.1).bind fun r42 =>
      if jw r42.1 = 0 then
        some ((-3), r42.2)
      else
        (Hand_position F r42.2).bind fun r62 =>
        (Values_hasMark F r62.2 r62.1).bind fun r65 =>
        if jw r65.1 = 0 then
          some ((-3), r65.2)
        else
          (Hand_position F r65.2).bind fun r89 =>
          (Values_firstBetween F r89.2 r89.1 r24.1).bind fun r93 =>
          (LL1_tallyOrNoSuch F r93.2 r93.1 v2).bind fun r97 =>
          some (r97.1, r97.2)
def jca_LL1_apart (F : Nat) : jxA := fun as σ k => match as with
  | [.inr (.inr (.inl t0)), .inl v1, .inl v2] => bif Nat.beq t0 0 then (LL1_apart F σ v1 v2).bind (fun r => k (some (jmi r.1)) r.2) else none
  | _ => none
def Values_firstAlike_c9 (F : Nat) (fu : Nat) (v2 v4 : Int) (σ : jxS) : Option jxR := match fu with
  | 0 => none
  | fu + 1 =>
    if jw v4 < 45 then
      (Values_markOf F σ v4).bind fun r19 =>
      if jw (jlcmp r19.1 v2) = 0 then
        some (v4, r19.2)
      else
        (Values_firstAlike_c9 F fu) v2 (v4 + 1) r19.2
    else
      some ((-1), σ)
def Values_firstAlike (F : Nat) (σ : jxS) (v1 : Int) : Option jxR :=
  (Values_markOf F σ v1).bind fun r2 =>
  Values_firstAlike_c9 F F r2.1 0 r2.2
def jca_Values_firstAlike (F : Nat) : jxA := fun as σ k => match as with
  | [.inr (.inr (.inl t0)), .inl v1] => bif Nat.beq t0 33 then (Values_firstAlike F σ v1).bind (fun r => k (some (jmi r.1)) r.2) else none
  | _ => none
def LL1_simplest (F : Nat) (σ : jxS) (v1 : Int) : Option jxR :=
  (LL_isHeapOrAll F σ v1).bind fun r8 =>
  if jw r8.1 = 0 then
    some ((-1), r8.2)
  else
    (Hand_position F r8.2).bind fun r30 =>
    (Values_hasMark F r30.2 r30.1).bind fun r33 =>
    if jw r33.1 = 0 then
      some ((-3), r33.2)
    else
      (Hand_position F r33.2).bind fun r57 =>
      (Values_firstAlike F r57.2 r57.1).bind fun r60 =>
      (LL1_tallyOrNoSuch F r60.2 r60.1 v1).bind fun r64 =>
      some (r64.1, r64.2)
def jca_LL1_simplest (F : Nat) : jxA := fun as σ k => match as with
  | [.inr (.inr (.inl t0)), .inl v1] => bif Nat.beq t0 0 then (LL1_simplest F σ v1).bind (fun r => k (some (jmi r.1)) r.2) else none
  | _ => none
def Board_answerAt_c18 (F : Nat) (fu : Nat) (v1 v2 v3 : Int) (σ : jxS) : Option jxR := match fu with
  | 0 => none
  | fu + 1 =>
    (Options_size F 41 σ).bind fun r23 =>
    if jw v3 < jw r23.1 then
      (Options_target F 41 r23.2 v3).bind fun r38 =>
      (Values_loses F r38.2 r38.1).bind fun r41 =>
      if jw r41.1 = 0 then
        (Board_answerAt_c18 F fu) v1 v2 (v3 + 1) r41.2
      else
        if jw v2 = jw v1 then
          (Options_code F 41 r41.2 v3).bind fun r57 =>
          some (r57.1, r57.2)
        else
          (Board_answerAt_c18 F fu) v1 (v2 + 1) (v3 + 1) r41.2
    else
      if jw v1 = (-1) then
        some (v2, r23.2)
      else
        some ((-2), r23.2)
def Board_answerAt (F : Nat) (σ : jxS) (v1 : Int) : Option jxR :=
  (Hand_position F σ).bind fun r8 =>
  (Options_list F 41 r8.2 r8.1).bind fun r11 =>
  Board_answerAt_c18 F F v1 0 0 r11.2
def jca_Board_answerAt (F : Nat) : jxA := fun as σ k => match as with
  | [.inr (.inr (.inl t0)), .inl v1] => bif Nat.beq t0 9 then (Board_answerAt F σ v1).bind (fun r => k (some (jmi r.1)) r.2) else none
  | _ => none
def LL1_answers (F : Nat) (σ : jxS) (v1 : Int) : Option jxR :=
  if jw v1 < (-1) then
    some ((-1), σ)
  else
    (Board_answerAt F σ v1).bind fun r21 =>
    some (r21.1, r21.2)
def jca_LL1_answers (F : Nat) : jxA := fun as σ k => match as with
  | [.inr (.inr (.inl t0)), .inl v1] => bif Nat.beq t0 0 then (LL1_answers F σ v1).bind (fun r => k (some (jmi r.1)) r.2) else none
  | _ => none
def LL1_draws (F : Nat) (σ : jxS) (v1 : Int) : Option jxR :=
  if jw v1 < 0 then
    some ((-1), σ)
  else
    let s13 : jxS := jup σ 0 3 v1
    some ((σ 0 3), s13)
def jca_LL1_draws (F : Nat) : jxA := fun as σ k => match as with
  | [.inr (.inr (.inl t0)), .inl v1] => bif Nat.beq t0 0 then (LL1_draws F σ v1).bind (fun r => k (some (jmi r.1)) r.2) else none
  | _ => none
def Board_movesOf_c11 (F : Nat) (fu : Nat) (v1 v2 v3 : Int) (σ : jxS) : Option jxR := match fu with
  | 0 => none
  | fu + 1 =>
    (Positions_endPart F σ v1).bind fun r17 =>
    if jw v3 < jw r17.1 then
      (Positions_heapOf F r17.2 v3).bind fun r28 =>
      (Positions_countOf F r28.2 v1 r28.1).bind fun r41 =>
      (Rules_moveCount F r41.2 r28.1).bind fun r50 =>
      (Board_movesOf_c11 F fu) v1 (v2 + (r41.1 * r50.1)) (v3 + 1) r50.2
    else
      some (v2, r17.2)
def Board_movesOf (F : Nat) (σ : jxS) (v1 : Int) : Option jxR :=
  (Positions_firstPart F σ v1).bind fun r7 =>
  Board_movesOf_c11 F F v1 0 r7.1 r7.2
def jca_Board_movesOf (F : Nat) : jxA := fun as σ k => match as with
  | [.inr (.inr (.inl t0)), .inl v1] => bif Nat.beq t0 9 then (Board_movesOf F σ v1).bind (fun r => k (some (jmi r.1)) r.2) else none
  | _ => none
def Board_afterMove_c107 (F : Nat) (k12 : Int → Int → Int → jxS → Option jxR) (v1 v3 v4 v7 : Int) (σ : jxS) : Option jxR :=
  k12 v1 (v3 - v7) (v4 + 1) σ
def Board_afterMove_c12 (F : Nat) (fu : Nat) (v1 v3 v4 : Int) (σ : jxS) : Option jxR := match fu with
  | 0 => none
  | fu + 1 =>
    (Positions_endPart F σ v1).bind fun r19 =>
    if jw v4 < jw r19.1 then
      (Positions_heapOf F r19.2 v4).bind fun r31 =>
      (Rules_moveCount F r31.2 r31.1).bind fun r42 =>
      (Positions_countOf F r42.2 v1 r31.1).bind fun r54 =>
      if jw v3 < jw (r54.1 * r42.1) then
        if 0 < jw r42.1 then
          if jw r42.1 = 0 then none else
          (Rules_moveAt F r54.2 r31.1 (jrem v3 r42.1)).bind fun r83 =>
          (Positions_restOf F r83.2 v4).bind fun r98 =>
          (Positions_joinMove F r98.2 r98.1 r83.1).bind fun r103 =>
          some (r103.1, r103.2)
        else
          Board_afterMove_c107 F (Board_afterMove_c12 F fu) v1 v3 v4 (r54.1 * r42.1) r54.2
      else
        Board_afterMove_c107 F (Board_afterMove_c12 F fu) v1 v3 v4 (r54.1 * r42.1) r54.2
    else
      some (v1, r19.2)
def Board_afterMove (F : Nat) (σ : jxS) (v1 v2 : Int) : Option jxR :=
  (Positions_firstPart F σ v1).bind fun r7 =>
  Board_afterMove_c12 F F v1 v2 r7.1 r7.2
def jca_Board_afterMove (F : Nat) : jxA := fun as σ k => match as with
  | [.inr (.inr (.inl t0)), .inl v1, .inl v2] => bif Nat.beq t0 9 then (Board_afterMove F σ v1 v2).bind (fun r => k (some (jmi r.1)) r.2) else none
  | _ => none
def Board_drawGames_c127 (F : Nat) (v2 v5 v6 : Int) (σ : jxS) : Option jxR :=
  if jw v2 = 0 then
    some (v5, σ)
  else
    some (v6, σ)
def Board_drawGames_c108 (F : Nat) (k12 : Int → Int → Int → Int → Int → Int → jxS → Option jxR) (v1 v2 v4 v5 v6 v7 v9 : Int) (σ : jxS) : Option jxR :=
  if jw (jrem (v6 - v9) 2) = 0 then
    k12 v1 v2 v4 (v5 + 1) v6 (v7 + 1) σ
  else
    k12 v1 v2 v4 v5 v6 (v7 + 1) σ
def Board_drawGames_c49 (F : Nat) (k12 : Int → Int → Int → Int → Int → Int → jxS → Option jxR) (fu : Nat) (v1 v2 v4 v5 v6 v7 v8 v9 v10 v11 : Int) (σ : jxS) : Option jxR := match fu with
  | 0 => none
  | fu + 1 =>
    if jw v11 < 22 then
      if 0 < jw v10 then
        if jw v10 = 0 then none else
        (Board_afterMove F σ v8 (jrem (jdiv (jand ((v4 * 1103515245) + 12345) 2147483647) 65536) v10)).bind fun r86 =>
        (Board_movesOf F r86.2 r86.1).bind fun r97 =>
        (Board_drawGames_c49 F k12 fu) v1 v2 (jand ((v4 * 1103515245) + 12345) 2147483647) v5 (v6 + 1) v7 r86.1 v9 r97.1 (v11 + 1) r97.2
      else
        Board_drawGames_c108 F k12 v1 v2 v4 v5 v6 v7 v9 σ
    else
      Board_drawGames_c108 F k12 v1 v2 v4 v5 v6 v7 v9 σ
def Board_drawGames_c12 (F : Nat) (fu : Nat) (v1 v2 v4 v5 v6 v7 : Int) (σ : jxS) : Option jxR := match fu with
  | 0 => none
  | fu + 1 =>
    if jw v7 < jw v1 then
      if jw v7 < 20 then
        (Hand_position F σ).bind fun r29 =>
        (Board_movesOf F r29.2 r29.1).bind fun r41 =>
        Board_drawGames_c49 F (Board_drawGames_c12 F fu) F v1 v2 v4 v5 v6 v7 r29.1 v6 r41.1 0 r41.2
      else
        Board_drawGames_c127 F v2 v5 v6 σ
    else
      Board_drawGames_c127 F v2 v5 v6 σ
def Board_drawGames (F : Nat) (σ : jxS) (v1 v2 v3 : Int) : Option jxR :=
  Board_drawGames_c12 F F v1 v2 v3 0 0 0 σ
def jca_Board_drawGames (F : Nat) : jxA := fun as σ k => match as with
  | [.inr (.inr (.inl t0)), .inl v1, .inl v2, .inl v3] => bif Nat.beq t0 9 then (Board_drawGames F σ v1 v2 v3).bind (fun r => k (some (jmi r.1)) r.2) else none
  | _ => none
def LL1_games (F : Nat) (σ : jxS) (v1 v2 : Int) : Option jxR :=
  if jw v1 < 1 then
    some ((-1), σ)
  else
    if 20 < jw v1 then
      some ((-1), σ)
    else
      if jw v2 < 0 then
        some ((-1), σ)
      else
        if 1 < jw v2 then
          some ((-1), σ)
        else
          (Board_drawGames F σ v1 v2 (σ 0 3)).bind fun r39 =>
          some (r39.1, r39.2)
def jca_LL1_games (F : Nat) : jxA := fun as σ k => match as with
  | [.inr (.inr (.inl t0)), .inl v1, .inl v2] => bif Nat.beq t0 0 then (LL1_games F σ v1 v2).bind (fun r => k (some (jmi r.1)) r.2) else none
  | _ => none
def Positions_biggestHeap (F : Nat) (σ : jxS) (v1 : Int) : Option jxR :=
  (Positions_firstPart F σ v1).bind fun r2 =>
  (Positions_endPart F r2.2 v1).bind fun r7 =>
  if jw r2.1 = jw r7.1 then
    some (0, r7.2)
  else
    (Positions_endPart F r7.2 v1).bind fun r20 =>
    (Positions_heapOf F r20.2 (r20.1 - 1)).bind fun r25 =>
    some (r25.1, r25.2)
def jca_Positions_biggestHeap (F : Nat) : jxA := fun as σ k => match as with
  | [.inr (.inr (.inl t0)), .inl v1] => bif Nat.beq t0 22 then (Positions_biggestHeap F σ v1).bind (fun r => k (some (jmi r.1)) r.2) else none
  | _ => none
def Values_testsOf_c5 (F : Nat) (fu : Nat) (v1 v2 v4 : Int) (σ : jxS) : Option jxR := match fu with
  | 0 => none
  | fu + 1 =>
    if jw v4 < 45 then
      (Positions_biggestHeap F σ v4).bind fun r18 =>
      if jw v1 < jw r18.1 then
        (Values_testsOf_c5 F fu) v1 v2 (v4 + 1) r18.2
      else
        (Values_testsOf_c5 F fu) v1 (jlor v2 (jlshl 1 v4)) (v4 + 1) r18.2
    else
      some (v2, σ)
def Values_testsOf (F : Nat) (σ : jxS) (v1 : Int) : Option jxR :=
  Values_testsOf_c5 F F v1 0 0 σ
def jca_Values_testsOf (F : Nat) : jxA := fun as σ k => match as with
  | [.inr (.inr (.inl t0)), .inl v1] => bif Nat.beq t0 33 then (Values_testsOf F σ v1).bind (fun r => k (some (jml r.1)) r.2) else none
  | _ => none
def Quotient_elementFor_c40 (F : Nat) (q : Nat) (v1 v2 : Int) (σ : jxS) : Option jxR :=
  if jw (σ q 7) < 16 then
    if 0 ≤ (σ q 7) ∧ (σ q 7) < 16 then
      let s60 : jxS := jup σ (q + 1) (σ q 7) v1
      if 0 ≤ (s60 q 7) ∧ (s60 q 7) < 16 then
        let s70 : jxS := jup s60 (q + 2) (s60 q 7) v2
        let s78 : jxS := jup s70 q 7 ((s70 q 7) + 1)
        some (((s78 q 7) - 1), s78)
      else none
    else none
  else
    some ((-1), σ)
def Quotient_elementFor_c3 (F : Nat) (q : Nat) (fu : Nat) (v1 v2 v4 : Int) (σ : jxS) : Option jxR := match fu with
  | 0 => none
  | fu + 1 =>
    if jw v4 < jw (σ q 7) then
      if jw v4 < 16 then
        if 0 ≤ v4 ∧ v4 < 16 then
          if jw (jlcmp (σ (q + 2) v4) v2) = 0 then
            some (v4, σ)
          else
            (Quotient_elementFor_c3 F q fu) v1 v2 (v4 + 1) σ
        else none
      else
        Quotient_elementFor_c40 F q v1 v2 σ
    else
      Quotient_elementFor_c40 F q v1 v2 σ
def Quotient_elementFor (F : Nat) (q : Nat) (σ : jxS) (v1 v2 : Int) : Option jxR :=
  Quotient_elementFor_c3 F q F v1 v2 0 σ
def jids_Quotient_elementFor_q : List Nat := [48, 53, 58, 63, 68, 73]
def jca_Quotient_elementFor (F : Nat) : jxA := fun as σ k => match as with
  | [.inr (.inr (.inl t0)), .inl v1, .inr (.inl v2)] => bif jin jids_Quotient_elementFor_q t0 then (Quotient_elementFor F t0 σ v1 v2).bind (fun r => k (some (jmi r.1)) r.2) else none
  | _ => none
def Quotient_build_c137 (F : Nat) (q : Nat) (k50 : Int → Int → jxS → Option jxR) (k67 : Int → Int → Int → jxS → Option jxR) (v1 v3 v4 t0 : Int) (σ : jxS) : Option jxR :=
  if jw t0 < 0 then
    let s147 : jxS := jup σ q 7 (-3)
    k67 v1 v3 (v4 + 1) s147
  else
    if 0 ≤ (((v3 * 6) + v4) - 1) ∧ (((v3 * 6) + v4) - 1) < 96 then
      let s168 : jxS := jup σ (q + 3) (((v3 * 6) + v4) - 1) t0
      k67 v1 v3 (v4 + 1) s168
    else none
def Quotient_build_c67 (F : Nat) (q : Nat) (k50 : Int → Int → jxS → Option jxR) (fu : Nat) (v1 v3 v4 : Int) (σ : jxS) : Option jxR := match fu with
  | 0 => none
  | fu + 1 =>
    if jw (σ q 0) < jw v4 then
      k50 v1 (v3 + 1) σ
    else
      if 0 < jw (σ q 7) then
        if 0 ≤ v3 ∧ v3 < 16 then
          (Positions_join F σ (σ (q + 1) v3) v4).bind fun r95 =>
          (Values_hasMark F r95.2 r95.1).bind fun r106 =>
          if jw r106.1 = 0 then
            Quotient_build_c137 F q k50 (Quotient_build_c67 F q k50 fu) v1 v3 v4 (-1) r106.2
          else
            (Values_markOf F r106.2 r95.1).bind fun r125 =>
            (Quotient_elementFor F q r125.2 r95.1 (jland r125.1 v1)).bind fun r130 =>
            Quotient_build_c137 F q k50 (Quotient_build_c67 F q k50 fu) v1 v3 v4 r130.1 r130.2
        else none
      else
        k50 v1 (v3 + 1) σ
def Quotient_build_c50 (F : Nat) (q : Nat) (fu : Nat) (v1 v3 : Int) (σ : jxS) : Option jxR := match fu with
  | 0 => none
  | fu + 1 =>
    if jw v3 < jw (σ q 7) then
      if jw v3 < 16 then
        Quotient_build_c67 F q (Quotient_build_c50 F q fu) F v1 v3 1 σ
      else
        some (0, σ)
    else
      some (0, σ)
def Quotient_build (F : Nat) (q : Nat) (σ : jxS) : Option jxR :=
  if jw (σ q 7) = 0 then
    (Values_testsOf F σ (σ q 0)).bind fun r16 =>
    let s22 : jxS := jup r16.2 q 7 1
    let s31 : jxS := jup s22 (q + 1) 0 0
    (Values_markOf F s31 0).bind fun r42 =>
    let s47 : jxS := jup r42.2 (q + 2) 0 (jland r42.1 r16.1)
    Quotient_build_c50 F q F r16.1 0 s47
  else
    some (0, σ)
def jids_Quotient_build_q : List Nat := [48, 53, 58, 63, 68, 73]
def jca_Quotient_build (F : Nat) : jxA := fun as σ k => match as with
  | [.inr (.inr (.inl t0))] => bif jin jids_Quotient_build_q t0 then (Quotient_build F t0 σ).bind (fun r => k none r.2) else none
  | _ => none
def LL1_quotientOf (F : Nat) (σ : jxS) (v1 : Int) : Option jxR :=
  if jw v1 < 1 then
    some (0, σ)
  else
    if 6 < jw v1 then
      some (0, σ)
    else
      if 0 ≤ (v1 - 1) ∧ (v1 - 1) < 6 then
        if σ 32 (v1 - 1) = 0 then
          some (0, σ)
        else jsel jQS (σ 32 (v1 - 1)) fun qq1 =>
          (Quotient_build F qq1 σ).bind fun r37 =>
          some (((qq1 : Nat) : Int), r37.2)
      else none
def jca_LL1_quotientOf (F : Nat) : jxA := fun as σ k => match as with
  | [.inr (.inr (.inl t0)), .inl v1] => bif Nat.beq t0 0 then (LL1_quotientOf F σ v1).bind (fun r => if r.1 = 0 then k (some jmn) r.2 else jsel jQS r.1 (fun q => k (some (jmr q)) r.2)) else none
  | _ => none
def Quotient_size (F : Nat) (q : Nat) (σ : jxS) : Option jxR :=
  some ((σ q 7), σ)
def jids_Quotient_size_q : List Nat := [48, 53, 58, 63, 68, 73]
def jca_Quotient_size (F : Nat) : jxA := fun as σ k => match as with
  | [.inr (.inr (.inl t0))] => bif jin jids_Quotient_size_q t0 then (Quotient_size F t0 σ).bind (fun r => k (some (jmi r.1)) r.2) else none
  | _ => none
def LL1_elements (F : Nat) (σ : jxS) (v1 : Int) : Option jxR :=
  (LL1_quotientOf F σ v1).bind fun r2 =>
  if r2.1 = 0 then
    some ((-1), r2.2)
  else jsel jQS r2.1 fun qq2 =>
    (Quotient_size F qq2 r2.2).bind fun r15 =>
    some (r15.1, r15.2)
def jca_LL1_elements (F : Nat) : jxA := fun as σ k => match as with
  | [.inr (.inr (.inl t0)), .inl v1] => bif Nat.beq t0 0 then (LL1_elements F σ v1).bind (fun r => k (some (jmi r.1)) r.2) else none
  | _ => none
def Quotient_isKnown (F : Nat) (q : Nat) (σ : jxS) : Option jxR :=
  if 0 < jw (σ q 7) then
    some (1, σ)
  else
    some (0, σ)
def jids_Quotient_isKnown_q : List Nat := [48, 53, 58, 63, 68, 73]
def jca_Quotient_isKnown (F : Nat) : jxA := fun as σ k => match as with
  | [.inr (.inr (.inl t0))] => bif jin jids_Quotient_isKnown_q t0 then (Quotient_isKnown F t0 σ).bind (fun r => k (some (jmi r.1)) r.2) else none
  | _ => none
def Quotient_has (F : Nat) (q : Nat) (σ : jxS) (v1 : Int) : Option jxR :=
  if jw v1 < 0 then
    some (0, σ)
  else
    if jw v1 < jw (σ q 7) then
      some (1, σ)
    else
      some (0, σ)
def jids_Quotient_has_q : List Nat := [48, 53, 58, 63, 68, 73]
def jca_Quotient_has (F : Nat) : jxA := fun as σ k => match as with
  | [.inr (.inr (.inl t0)), .inl v1] => bif jin jids_Quotient_has_q t0 then (Quotient_has F t0 σ v1).bind (fun r => k (some (jmi r.1)) r.2) else none
  | _ => none
def Quotient_wordOf (F : Nat) (q : Nat) (σ : jxS) (v1 : Int) : Option jxR :=
  (Quotient_has F q σ v1).bind fun r2 =>
  if jw r2.1 = 0 then
    some (0, r2.2)
  else
    if 0 ≤ v1 ∧ v1 < 16 then
      some ((r2.2 (q + 1) v1), r2.2)
    else none
def jids_Quotient_wordOf_q : List Nat := [48, 53, 58, 63, 68, 73]
def jca_Quotient_wordOf (F : Nat) : jxA := fun as σ k => match as with
  | [.inr (.inr (.inl t0)), .inl v1] => bif jin jids_Quotient_wordOf_q t0 then (Quotient_wordOf F t0 σ v1).bind (fun r => k (some (jmi r.1)) r.2) else none
  | _ => none
def LL1_word (F : Nat) (σ : jxS) (v1 v2 v3 : Int) : Option jxR :=
  (LL1_quotientOf F σ v1).bind fun r2 =>
  if r2.1 = 0 then
    some ((-1), r2.2)
  else jsel jQS r2.1 fun qq2 =>
    if jw v3 < 0 then
      some ((-1), r2.2)
    else
      if jw v1 < jw v3 then
        some ((-1), r2.2)
      else
        (Quotient_isKnown F qq2 r2.2).bind fun r25 =>
        if jw r25.1 = 0 then
          some ((-3), r25.2)
        else
          (Quotient_has F qq2 r25.2 v2).bind fun r37 =>
          if jw r37.1 = 0 then
            some ((-1), r37.2)
          else
            (Quotient_wordOf F qq2 r37.2 v2).bind fun r53 =>
            (Positions_tally F r53.2 r53.1 v3).bind fun r57 =>
            some (r57.1, r57.2)
def jca_LL1_word (F : Nat) : jxA := fun as σ k => match as with
  | [.inr (.inr (.inl t0)), .inl v1, .inl v2, .inl v3] => bif Nat.beq t0 0 then (LL1_word F σ v1 v2 v3).bind (fun r => k (some (jmi r.1)) r.2) else none
  | _ => none
def Quotient_nextOf_c26 (F : Nat) (q : Nat) (v1 v2 t0 : Int) (σ : jxS) : Option jxR :=
  if jw t0 = 0 then
    some (v1, σ)
  else
    if 0 ≤ (((v1 * 6) + v2) - 1) ∧ (((v1 * 6) + v2) - 1) < 96 then
      some ((σ (q + 3) (((v1 * 6) + v2) - 1)), σ)
    else none
def Quotient_nextOf_c25 (F : Nat) (q : Nat) (v1 v2 : Int) (σ : jxS) : Option jxR :=
  Quotient_nextOf_c26 F q v1 v2 0 σ
def Quotient_nextOf (F : Nat) (q : Nat) (σ : jxS) (v1 v2 : Int) : Option jxR :=
  (Quotient_has F q σ v1).bind fun r2 =>
  if jw r2.1 = 0 then
    Quotient_nextOf_c25 F q v1 v2 r2.2
  else
    if jw v2 < 1 then
      Quotient_nextOf_c25 F q v1 v2 r2.2
    else
      if jw (r2.2 q 0) < jw v2 then
        Quotient_nextOf_c25 F q v1 v2 r2.2
      else
        Quotient_nextOf_c26 F q v1 v2 1 r2.2
def jids_Quotient_nextOf_q : List Nat := [48, 53, 58, 63, 68, 73]
def jca_Quotient_nextOf (F : Nat) : jxA := fun as σ k => match as with
  | [.inr (.inr (.inl t0)), .inl v1, .inl v2] => bif jin jids_Quotient_nextOf_q t0 then (Quotient_nextOf F t0 σ v1 v2).bind (fun r => k (some (jmi r.1)) r.2) else none
  | _ => none
def LL1_next (F : Nat) (σ : jxS) (v1 v2 v3 : Int) : Option jxR :=
  (LL1_quotientOf F σ v1).bind fun r2 =>
  if r2.1 = 0 then
    some ((-1), r2.2)
  else jsel jQS r2.1 fun qq2 =>
    if jw v3 < 1 then
      some ((-1), r2.2)
    else
      if jw v1 < jw v3 then
        some ((-1), r2.2)
      else
        (Quotient_isKnown F qq2 r2.2).bind fun r26 =>
        if jw r26.1 = 0 then
          some ((-3), r26.2)
        else
          (Quotient_has F qq2 r26.2 v2).bind fun r38 =>
          if jw r38.1 = 0 then
            some ((-1), r38.2)
          else
            (Quotient_nextOf F qq2 r38.2 v2 v3).bind fun r48 =>
            some (r48.1, r48.2)
def jca_LL1_next (F : Nat) : jxA := fun as σ k => match as with
  | [.inr (.inr (.inl t0)), .inl v1, .inl v2, .inl v3] => bif Nat.beq t0 0 then (LL1_next F σ v1 v2 v3).bind (fun r => k (some (jmi r.1)) r.2) else none
  | _ => none
def Quotient_product_c12 (F : Nat) (q : Nat) (fu : Nat) (v3 v4 v5 : Int) (σ : jxS) : Option jxR := match fu with
  | 0 => none
  | fu + 1 =>
    if jw v5 < 15 then
      if 0 < jw v4 then
        (Positions_firstPart F σ v4).bind fun r30 =>
        (Positions_heapOf F r30.2 r30.1).bind fun r43 =>
        (Quotient_nextOf F q r43.2 v3 r43.1).bind fun r46 =>
        (Positions_restOf F r46.2 r30.1).bind fun r56 =>
        (Quotient_product_c12 F q fu) r46.1 r56.1 (v5 + 1) r56.2
      else
        some (v3, σ)
    else
      some (v3, σ)
def Quotient_product (F : Nat) (q : Nat) (σ : jxS) (v1 v2 : Int) : Option jxR :=
  (Quotient_wordOf F q σ v2).bind fun r4 =>
  Quotient_product_c12 F q F v1 r4.1 0 r4.2
def jids_Quotient_product_q : List Nat := [48, 53, 58, 63, 68, 73]
def jca_Quotient_product (F : Nat) : jxA := fun as σ k => match as with
  | [.inr (.inr (.inl t0)), .inl v1, .inl v2] => bif jin jids_Quotient_product_q t0 then (Quotient_product F t0 σ v1 v2).bind (fun r => k (some (jmi r.1)) r.2) else none
  | _ => none
def LL1_times (F : Nat) (σ : jxS) (v1 v2 v3 : Int) : Option jxR :=
  (LL1_quotientOf F σ v1).bind fun r2 =>
  if r2.1 = 0 then
    some ((-1), r2.2)
  else jsel jQS r2.1 fun qq2 =>
    (Quotient_isKnown F qq2 r2.2).bind fun r16 =>
    if jw r16.1 = 0 then
      some ((-3), r16.2)
    else
      (Quotient_has F qq2 r16.2 v2).bind fun r28 =>
      if jw r28.1 = 0 then
        some ((-1), r28.2)
      else
        (Quotient_has F qq2 r28.2 v3).bind fun r37 =>
        if jw r37.1 = 0 then
          some ((-1), r37.2)
        else
          (Quotient_product F qq2 r37.2 v2 v3).bind fun r47 =>
          some (r47.1, r47.2)
def jca_LL1_times (F : Nat) : jxA := fun as σ k => match as with
  | [.inr (.inr (.inl t0)), .inl v1, .inl v2, .inl v3] => bif Nat.beq t0 0 then (LL1_times F σ v1 v2 v3).bind (fun r => k (some (jmi r.1)) r.2) else none
  | _ => none
def Quotient_lostSet_c4 (F : Nat) (q : Nat) (fu : Nat) (v1 v2 : Int) (σ : jxS) : Option jxR := match fu with
  | 0 => none
  | fu + 1 =>
    if jw v2 < jw (σ q 7) then
      (Quotient_has F q σ v2).bind fun r14 =>
      if jw r14.1 = 0 then
        (Quotient_lostSet_c4 F q fu) v1 (v2 + 1) r14.2
      else
        if 0 ≤ v2 ∧ v2 < 16 then
          if jw (jlcmp (jland (r14.2 (q + 2) v2) 1) 1) = 0 then
            (Quotient_lostSet_c4 F q fu) (jor v1 (jshl 1 v2)) (v2 + 1) r14.2
          else
            (Quotient_lostSet_c4 F q fu) v1 (v2 + 1) r14.2
        else none
    else
      some (v1, σ)
def Quotient_lostSet (F : Nat) (q : Nat) (σ : jxS) : Option jxR :=
  Quotient_lostSet_c4 F q F 0 0 σ
def jids_Quotient_lostSet_q : List Nat := [48, 53, 58, 63, 68, 73]
def jca_Quotient_lostSet (F : Nat) : jxA := fun as σ k => match as with
  | [.inr (.inr (.inl t0))] => bif jin jids_Quotient_lostSet_q t0 then (Quotient_lostSet F t0 σ).bind (fun r => k (some (jmi r.1)) r.2) else none
  | _ => none
def Quotient_reachOf_c4 (F : Nat) (q : Nat) (fu : Nat) (v1 v2 v3 : Int) (σ : jxS) : Option jxR := match fu with
  | 0 => none
  | fu + 1 =>
    if jw v3 < jw (σ q 7) then
      (Quotient_product F q σ v1 v3).bind fun r17 =>
      (Quotient_reachOf_c4 F q fu) v1 (jor v2 (jshl 1 r17.1)) (v3 + 1) r17.2
    else
      some (v2, σ)
def Quotient_reachOf (F : Nat) (q : Nat) (σ : jxS) (v1 : Int) : Option jxR :=
  Quotient_reachOf_c4 F q F v1 0 0 σ
def jids_Quotient_reachOf_q : List Nat := [48, 53, 58, 63, 68, 73]
def jca_Quotient_reachOf (F : Nat) : jxA := fun as σ k => match as with
  | [.inr (.inr (.inl t0)), .inl v1] => bif jin jids_Quotient_reachOf_q t0 then (Quotient_reachOf F t0 σ v1).bind (fun r => k (some (jmi r.1)) r.2) else none
  | _ => none
def Quotient_kernel_c11 (F : Nat) (q : Nat) (fu : Nat) (v1 v2 : Int) (σ : jxS) : Option jxR := match fu with
  | 0 => none
  | fu + 1 =>
    if jw v2 < jw (σ q 7) then
      (Quotient_reachOf F q σ v2).bind fun r22 =>
      (Quotient_kernel_c11 F q fu) (jand v1 r22.1) (v2 + 1) r22.2
    else
      some (v1, σ)
def Quotient_kernel (F : Nat) (q : Nat) (σ : jxS) : Option jxR :=
  Quotient_kernel_c11 F q F ((jshl 1 (σ q 7)) - 1) 0 σ
def jids_Quotient_kernel_q : List Nat := [48, 53, 58, 63, 68, 73]
def jca_Quotient_kernel (F : Nat) : jxA := fun as σ k => match as with
  | [.inr (.inr (.inl t0))] => bif jin jids_Quotient_kernel_q t0 then (Quotient_kernel F t0 σ).bind (fun r => k (some (jmi r.1)) r.2) else none
  | _ => none
def Quotient_units_c4 (F : Nat) (q : Nat) (fu : Nat) (v1 v2 : Int) (σ : jxS) : Option jxR := match fu with
  | 0 => none
  | fu + 1 =>
    if jw v2 < jw (σ q 7) then
      (Quotient_reachOf F q σ v2).bind fun r14 =>
      if jw (jand r14.1 1) = 1 then
        (Quotient_units_c4 F q fu) (jor v1 (jshl 1 v2)) (v2 + 1) r14.2
      else
        (Quotient_units_c4 F q fu) v1 (v2 + 1) r14.2
    else
      some (v1, σ)
def Quotient_units (F : Nat) (q : Nat) (σ : jxS) : Option jxR :=
  Quotient_units_c4 F q F 0 0 σ
def jids_Quotient_units_q : List Nat := [48, 53, 58, 63, 68, 73]
def jca_Quotient_units (F : Nat) : jxA := fun as σ k => match as with
  | [.inr (.inr (.inl t0))] => bif jin jids_Quotient_units_q t0 then (Quotient_units F t0 σ).bind (fun r => k (some (jmi r.1)) r.2) else none
  | _ => none
def Quotient_idle_c4 (F : Nat) (q : Nat) (fu : Nat) (v1 v2 : Int) (σ : jxS) : Option jxR := match fu with
  | 0 => none
  | fu + 1 =>
    if jw v2 < jw (σ q 7) then
      (Quotient_product F q σ v2 v2).bind fun r15 =>
      if jw r15.1 = jw v2 then
        (Quotient_idle_c4 F q fu) (jor v1 (jshl 1 v2)) (v2 + 1) r15.2
      else
        (Quotient_idle_c4 F q fu) v1 (v2 + 1) r15.2
    else
      some (v1, σ)
def Quotient_idle (F : Nat) (q : Nat) (σ : jxS) : Option jxR :=
  Quotient_idle_c4 F q F 0 0 σ
def jids_Quotient_idle_q : List Nat := [48, 53, 58, 63, 68, 73]
def jca_Quotient_idle (F : Nat) : jxA := fun as σ k => match as with
  | [.inr (.inr (.inl t0))] => bif jin jids_Quotient_idle_q t0 then (Quotient_idle F t0 σ).bind (fun r => k (some (jmi r.1)) r.2) else none
  | _ => none
def Quotient_setOf (F : Nat) (q : Nat) (σ : jxS) (v1 : Int) : Option jxR :=
  if jw v1 = 0 then
    (Quotient_lostSet F q σ).bind fun r29 =>
    some (r29.1, r29.2)
  else
  if jw v1 = 1 then
    (Quotient_kernel F q σ).bind fun r34 =>
    some (r34.1, r34.2)
  else
  if jw v1 = 2 then
    (Quotient_units F q σ).bind fun r39 =>
    some (r39.1, r39.2)
  else
    (Quotient_idle F q σ).bind fun r44 =>
    some (r44.1, r44.2)
def jids_Quotient_setOf_q : List Nat := [48, 53, 58, 63, 68, 73]
def jca_Quotient_setOf (F : Nat) : jxA := fun as σ k => match as with
  | [.inr (.inr (.inl t0)), .inl v1] => bif jin jids_Quotient_setOf_q t0 then (Quotient_setOf F t0 σ v1).bind (fun r => k (some (jmi r.1)) r.2) else none
  | _ => none
def LL1_sets (F : Nat) (σ : jxS) (v1 v2 : Int) : Option jxR :=
  (LL1_quotientOf F σ v1).bind fun r2 =>
  if r2.1 = 0 then
    some ((-1), r2.2)
  else jsel jQS r2.1 fun qq2 =>
    if jw v2 < 0 then
      some ((-1), r2.2)
    else
      if 3 < jw v2 then
        some ((-1), r2.2)
      else
        (Quotient_isKnown F qq2 r2.2).bind fun r22 =>
        if jw r22.1 = 0 then
          some ((-3), r22.2)
        else
          (Quotient_setOf F qq2 r22.2 v2).bind fun r30 =>
          some (r30.1, r30.2)
def jca_LL1_sets (F : Nat) : jxA := fun as σ k => match as with
  | [.inr (.inr (.inl t0)), .inl v1, .inl v2] => bif Nat.beq t0 0 then (LL1_sets F σ v1 v2).bind (fun r => k (some (jmi r.1)) r.2) else none
  | _ => none
def Quotient_heaps (F : Nat) (q : Nat) (σ : jxS) : Option jxR :=
  some ((σ q 0), σ)
def jids_Quotient_heaps_q : List Nat := [48, 53, 58, 63, 68, 73]
def jca_Quotient_heaps (F : Nat) : jxA := fun as σ k => match as with
  | [.inr (.inr (.inl t0))] => bif jin jids_Quotient_heaps_q t0 then (Quotient_heaps F t0 σ).bind (fun r => k (some (jmi r.1)) r.2) else none
  | _ => none
def Pairs_movesOf_c6 (F : Nat) (q1 : Nat) (fu : Nat) (v2 v3 v4 v5 : Int) (σ : jxS) : Option jxR := match fu with
  | 0 => none
  | fu + 1 =>
    (Rules_moveCount F σ v3).bind fun r13 =>
    if jw v5 < jw r13.1 then
      (Rules_moveAt F r13.2 v3 v5).bind fun r26 =>
      (Quotient_nextOf F q1 r26.2 v2 (jdiv r26.1 13)).bind fun r42 =>
      (Quotient_nextOf F q1 r42.2 r42.1 (jrem r26.1 13)).bind fun r50 =>
      (Pairs_movesOf_c6 F q1 fu) v2 v3 (jor v4 (jshl 1 r50.1)) (v5 + 1) r50.2
    else
      some (v4, r13.2)
def Pairs_movesOf (F : Nat) (q1 : Nat) (σ : jxS) (v2 v3 : Int) : Option jxR :=
  Pairs_movesOf_c6 F q1 F v2 v3 0 0 σ
def jids_Pairs_movesOf_q1 : List Nat := [48, 53, 58, 63, 68, 73]
def jca_Pairs_movesOf (F : Nat) : jxA := fun as σ k => match as with
  | [.inr (.inr (.inl t0)), .inr (.inr (.inl t1)), .inl v2, .inl v3] => bif Nat.beq t0 44 then bif jin jids_Pairs_movesOf_q1 t1 then (Pairs_movesOf F t1 σ v2 v3).bind (fun r => k (some (jmi r.1)) r.2) else none else none
  | _ => none
def Pairs_listMoves_c18 (F : Nat) (q1 : Nat) (k2 : Int → jxS → Option jxR) (fu : Nat) (v2 v3 : Int) (σ : jxS) : Option jxR := match fu with
  | 0 => none
  | fu + 1 =>
    (Quotient_heaps F q1 σ).bind fun r20 =>
    if jw r20.1 < jw v3 then
      k2 (v2 + 1) r20.2
    else
      if 6 < jw v3 then
        k2 (v2 + 1) r20.2
      else
        (Pairs_movesOf F q1 r20.2 v2 v3).bind fun r48 =>
        if 0 ≤ (((v2 * 6) + v3) - 1) ∧ (((v2 * 6) + v3) - 1) < 96 then
          let s51 : jxS := jup r48.2 47 (((v2 * 6) + v3) - 1) r48.1
          (Pairs_listMoves_c18 F q1 k2 fu) v2 (v3 + 1) s51
        else none
def Pairs_listMoves_c2 (F : Nat) (q1 : Nat) (fu : Nat) (v2 : Int) (σ : jxS) : Option jxR := match fu with
  | 0 => none
  | fu + 1 =>
    (Quotient_size F q1 σ).bind fun r4 =>
    if jw v2 < jw r4.1 then
      if jw v2 < 16 then
        Pairs_listMoves_c18 F q1 (Pairs_listMoves_c2 F q1 fu) F v2 1 r4.2
      else
        some (0, r4.2)
    else
      some (0, r4.2)
def Pairs_listMoves (F : Nat) (q1 : Nat) (σ : jxS) : Option jxR :=
  Pairs_listMoves_c2 F q1 F 0 σ
def jids_Pairs_listMoves_q1 : List Nat := [48, 53, 58, 63, 68, 73]
def jca_Pairs_listMoves (F : Nat) : jxA := fun as σ k => match as with
  | [.inr (.inr (.inl t0)), .inr (.inr (.inl t1))] => bif Nat.beq t0 44 then bif jin jids_Pairs_listMoves_q1 t1 then (Pairs_listMoves F t1 σ).bind (fun r => k none r.2) else none else none
  | _ => none
def Pairs_append (F : Nat) (σ : jxS) (v1 v2 : Int) : Option jxR :=
  if jw (σ 44 4) < 2000 then
    if 0 ≤ v2 ∧ v2 < 4096 then
      let s24 : jxS := jup σ 46 v2 (v1 + 1)
      if 0 ≤ (s24 44 4) ∧ (s24 44 4) < 2000 then
        let s34 : jxS := jup s24 45 (s24 44 4) v1
        let s42 : jxS := jup s34 44 4 ((s34 44 4) + 1)
        some (0, s42)
      else none
    else none
  else
    let s12 : jxS := jup σ 44 5 1
    some (0, s12)
def jca_Pairs_append (F : Nat) : jxA := fun as σ k => match as with
  | [.inr (.inr (.inl t0)), .inl v1, .inl v2] => bif Nat.beq t0 44 then (Pairs_append F σ v1 v2).bind (fun r => k none r.2) else none
  | _ => none
def Pairs_insert_c10 (F : Nat) (fu : Nat) (v1 v2 v3 : Int) (σ : jxS) : Option jxR := match fu with
  | 0 => none
  | fu + 1 =>
    if jw v3 < 4096 then
      if 0 ≤ (jand (v2 + v3) 4095) ∧ (jand (v2 + v3) 4095) < 4096 then
        if jw (σ 46 (jand (v2 + v3) 4095)) = jw (v1 + 1) then
          some (0, σ)
        else
          if 0 ≤ (jand (v2 + v3) 4095) ∧ (jand (v2 + v3) 4095) < 4096 then
            if jw (σ 46 (jand (v2 + v3) 4095)) = 0 then
              (Pairs_append F σ v1 (jand (v2 + v3) 4095)).bind fun r54 =>
              some (0, r54.2)
            else
              (Pairs_insert_c10 F fu) v1 v2 (v3 + 1) σ
          else none
      else none
    else
      some (0, σ)
def Pairs_insert (F : Nat) (σ : jxS) (v1 : Int) : Option jxR :=
  Pairs_insert_c10 F F v1 (jushr (v1 * (-1640531535)) 20) 0 σ
def jca_Pairs_insert (F : Nat) : jxA := fun as σ k => match as with
  | [.inr (.inr (.inl t0)), .inl v1] => bif Nat.beq t0 44 then (Pairs_insert F σ v1).bind (fun r => k none r.2) else none
  | _ => none
def Pairs_follow_c54 (F : Nat) (q1 : Nat) (fu : Nat) (v3 v4 v5 v7 v8 : Int) (σ : jxS) : Option jxR := match fu with
  | 0 => none
  | fu + 1 =>
    if jw v8 < 16 then
      if jw (jand (jshr v5 v8) 1) = 1 then
        (Quotient_nextOf F q1 σ v8 v3).bind fun r79 =>
        (Pairs_follow_c54 F q1 fu) v3 v4 v5 (jor v7 (jshl 1 r79.1)) (v8 + 1) r79.2
      else
        (Pairs_follow_c54 F q1 fu) v3 v4 v5 v7 (v8 + 1) σ
    else
      (Quotient_nextOf F q1 σ v4 v3).bind fun r96 =>
      some ((jor (jshl r96.1 16) v7), r96.2)
def Pairs_follow (F : Nat) (q1 : Nat) (σ : jxS) (v2 v3 : Int) : Option jxR :=
  if jw ((((jshr v2 16) * 6) + v3) - 1) < 0 then
    Pairs_follow_c54 F q1 F v3 (jshr v2 16) (jand v2 65535) 0 0 σ
  else
    if jw ((((jshr v2 16) * 6) + v3) - 1) < 96 then
      if 0 ≤ ((((jshr v2 16) * 6) + v3) - 1) ∧ ((((jshr v2 16) * 6) + v3) - 1) < 96 then
        Pairs_follow_c54 F q1 F v3 (jshr v2 16) (jand v2 65535) (σ 47 ((((jshr v2 16) * 6) + v3) - 1)) 0 σ
      else none
    else
      Pairs_follow_c54 F q1 F v3 (jshr v2 16) (jand v2 65535) 0 0 σ
def jids_Pairs_follow_q1 : List Nat := [48, 53, 58, 63, 68, 73]
def jca_Pairs_follow (F : Nat) : jxA := fun as σ k => match as with
  | [.inr (.inr (.inl t0)), .inr (.inr (.inl t1)), .inl v2, .inl v3] => bif Nat.beq t0 44 then bif jin jids_Pairs_follow_q1 t1 then (Pairs_follow F t1 σ v2 v3).bind (fun r => k (some (jmi r.1)) r.2) else none else none
  | _ => none
def Pairs_allFit_c66 (F : Nat) (k2 : Int → Int → jxS → Option jxR) (v1 v2 v4 t0 : Int) (σ : jxS) : Option jxR :=
  if jw v4 = jw t0 then
    k2 v1 (v2 + 1) σ
  else
    some (0, σ)
def Pairs_allFit_c65 (F : Nat) (k2 : Int → Int → jxS → Option jxR) (v1 v2 v4 : Int) (σ : jxS) : Option jxR :=
  Pairs_allFit_c66 F k2 v1 v2 v4 0 σ
def Pairs_allFit_c49 (F : Nat) (k2 : Int → Int → jxS → Option jxR) (v1 v2 v3 t0 : Int) (σ : jxS) : Option jxR :=
  if jw v3 = 0 then
    Pairs_allFit_c65 F k2 v1 v2 t0 σ
  else
    if jw (jand v3 v1) = 0 then
      Pairs_allFit_c66 F k2 v1 v2 t0 1 σ
    else
      Pairs_allFit_c65 F k2 v1 v2 t0 σ
def Pairs_allFit_c2 (F : Nat) (fu : Nat) (v1 v2 : Int) (σ : jxS) : Option jxR := match fu with
  | 0 => none
  | fu + 1 =>
    if jw v2 < jw (σ 44 4) then
      if jw v2 < 2000 then
        if 0 ≤ v2 ∧ v2 < 2000 then
          if 0 ≤ v2 ∧ v2 < 2000 then
            if jw (jand (jshr v1 (jshr (σ 45 v2) 16)) 1) = 1 then
              Pairs_allFit_c49 F (Pairs_allFit_c2 F fu) v1 v2 (jand (σ 45 v2) 65535) 1 σ
            else
              Pairs_allFit_c49 F (Pairs_allFit_c2 F fu) v1 v2 (jand (σ 45 v2) 65535) 0 σ
          else none
        else none
      else
        some (1, σ)
    else
      some (1, σ)
def Pairs_allFit (F : Nat) (σ : jxS) (v1 : Int) : Option jxR :=
  Pairs_allFit_c2 F F v1 0 σ
def jca_Pairs_allFit (F : Nat) : jxA := fun as σ k => match as with
  | [.inr (.inr (.inl t0)), .inl v1] => bif Nat.beq t0 44 then (Pairs_allFit F σ v1).bind (fun r => k (some (jmi r.1)) r.2) else none
  | _ => none
def Pairs_search_c107 (F : Nat) (q1 : Nat) (t0 : Int) (σ : jxS) : Option jxR :=
  let s107 : jxS := jup σ q1 8 t0
  if jw (s107 44 5) = 0 then
    (Quotient_lostSet F q1 s107).bind fun r120 =>
    (Pairs_allFit F r120.2 r120.1).bind fun r123 =>
    if jw r123.1 = 0 then
      let s134 : jxS := jup r123.2 q1 9 0
      some (0, s134)
    else
      let s134 : jxS := jup r123.2 q1 9 1
      some (0, s134)
  else
    let s134 : jxS := jup s107 q1 9 0
    some (0, s134)
def Pairs_search_c90 (F : Nat) (q1 : Nat) (σ : jxS) : Option jxR :=
  if jw (σ 44 5) = 0 then
    Pairs_search_c107 F q1 (σ 44 4) σ
  else
    Pairs_search_c107 F q1 (-2) σ
def Pairs_search_c54 (F : Nat) (q1 : Nat) (k30 : Int → jxS → Option jxR) (fu : Nat) (v2 v3 : Int) (σ : jxS) : Option jxR := match fu with
  | 0 => none
  | fu + 1 =>
    (Quotient_heaps F q1 σ).bind fun r56 =>
    if jw r56.1 < jw v3 then
      k30 (v2 + 1) r56.2
    else
      if 0 ≤ v2 ∧ v2 < 2000 then
        (Pairs_follow F q1 r56.2 (r56.2 45 v2) v3).bind fun r72 =>
        (Pairs_insert F r72.2 r72.1).bind fun r75 =>
        (Pairs_search_c54 F q1 k30 fu) v2 (v3 + 1) r75.2
      else none
def Pairs_search_c30 (F : Nat) (q1 : Nat) (fu : Nat) (v2 : Int) (σ : jxS) : Option jxR := match fu with
  | 0 => none
  | fu + 1 =>
    if jw v2 < jw (σ 44 4) then
      if jw v2 < 2000 then
        if jw (σ 44 5) = 0 then
          Pairs_search_c54 F q1 (Pairs_search_c30 F q1 fu) F v2 1 σ
        else
          Pairs_search_c90 F q1 σ
      else
        Pairs_search_c90 F q1 σ
    else
      Pairs_search_c90 F q1 σ
def Pairs_search (F : Nat) (q1 : Nat) (σ : jxS) : Option jxR :=
  (Arrays_fill_AIIV F 46 σ 0).bind fun r5 =>
  let s10 : jxS := jup r5.2 44 4 0
  let s15 : jxS := jup s10 44 5 0
  (Pairs_listMoves F q1 s15).bind fun r20 =>
  (Pairs_insert F r20.2 0).bind fun r25 =>
  Pairs_search_c30 F q1 F 0 r25.2
def jids_Pairs_search_q1 : List Nat := [48, 53, 58, 63, 68, 73]
def jca_Pairs_search (F : Nat) : jxA := fun as σ k => match as with
  | [.inr (.inr (.inl t0)), .inr (.inr (.inl t1))] => bif Nat.beq t0 44 then bif jin jids_Pairs_search_q1 t1 then (Pairs_search F t1 σ).bind (fun r => k none r.2) else none else none
  | _ => none
def Board_pairsOf (F : Nat) (q1 : Nat) (σ : jxS) : Option jxR :=
  if jw (σ q1 8) = (-9) then
    (Pairs_search F q1 σ).bind fun r14 =>
    some ((r14.2 q1 8), r14.2)
  else
    some ((σ q1 8), σ)
def jids_Board_pairsOf_q1 : List Nat := [48, 53, 58, 63, 68, 73]
def jca_Board_pairsOf (F : Nat) : jxA := fun as σ k => match as with
  | [.inr (.inr (.inl t0)), .inr (.inr (.inl t1))] => bif Nat.beq t0 9 then bif jin jids_Board_pairsOf_q1 t1 then (Board_pairsOf F t1 σ).bind (fun r => k (some (jmi r.1)) r.2) else none else none
  | _ => none
def LL1_pairs (F : Nat) (σ : jxS) (v1 : Int) : Option jxR :=
  (LL1_quotientOf F σ v1).bind fun r2 =>
  if r2.1 = 0 then
    some ((-1), r2.2)
  else jsel jQS r2.1 fun qq2 =>
    (Quotient_isKnown F qq2 r2.2).bind fun r13 =>
    if jw r13.1 = 0 then
      some ((-3), r13.2)
    else
      (Board_pairsOf F qq2 r13.2).bind fun r24 =>
      some (r24.1, r24.2)
def jca_LL1_pairs (F : Nat) : jxA := fun as σ k => match as with
  | [.inr (.inr (.inl t0)), .inl v1] => bif Nat.beq t0 0 then (LL1_pairs F σ v1).bind (fun r => k (some (jmi r.1)) r.2) else none
  | _ => none
def Quotient_isSteady_c22 (F : Nat) (q : Nat) (k2 : Int → jxS → Option jxR) (k12 : Int → Int → jxS → Option jxR) (fu : Nat) (v1 v2 v3 : Int) (σ : jxS) : Option jxR := match fu with
  | 0 => none
  | fu + 1 =>
    if jw v3 < jw v2 then
      (Quotient_nextOf F q σ v1 v2).bind fun r31 =>
      (Quotient_nextOf F q r31.2 r31.1 v3).bind fun r35 =>
      (Quotient_nextOf F q r35.2 v1 v3).bind fun r42 =>
      (Quotient_nextOf F q r42.2 r42.1 v2).bind fun r46 =>
      if jw r35.1 = jw r46.1 then
        (Quotient_isSteady_c22 F q k2 k12 fu) v1 v2 (v3 + 1) r46.2
      else
        some (0, r46.2)
    else
      k12 v1 (v2 + 1) σ
def Quotient_isSteady_c12 (F : Nat) (q : Nat) (k2 : Int → jxS → Option jxR) (fu : Nat) (v1 v2 : Int) (σ : jxS) : Option jxR := match fu with
  | 0 => none
  | fu + 1 =>
    if jw (σ q 0) < jw v2 then
      k2 (v1 + 1) σ
    else
      Quotient_isSteady_c22 F q k2 (Quotient_isSteady_c12 F q k2 fu) F v1 v2 1 σ
def Quotient_isSteady_c2 (F : Nat) (q : Nat) (fu : Nat) (v1 : Int) (σ : jxS) : Option jxR := match fu with
  | 0 => none
  | fu + 1 =>
    if jw v1 < jw (σ q 7) then
      Quotient_isSteady_c12 F q (Quotient_isSteady_c2 F q fu) F v1 1 σ
    else
      some (1, σ)
def Quotient_isSteady (F : Nat) (q : Nat) (σ : jxS) : Option jxR :=
  Quotient_isSteady_c2 F q F 0 σ
def jids_Quotient_isSteady_q : List Nat := [48, 53, 58, 63, 68, 73]
def jca_Quotient_isSteady (F : Nat) : jxA := fun as σ k => match as with
  | [.inr (.inr (.inl t0))] => bif jin jids_Quotient_isSteady_q t0 then (Quotient_isSteady F t0 σ).bind (fun r => k (some (jmi r.1)) r.2) else none
  | _ => none
def Board_proofOf (F : Nat) (q1 : Nat) (σ : jxS) : Option jxR :=
  (Quotient_isSteady F q1 σ).bind fun r1 =>
  if jw r1.1 = 0 then
    some (0, r1.2)
  else
    (Board_pairsOf F q1 r1.2).bind fun r11 =>
    if 0 < jw r11.1 then
      if jw (r11.2 q1 9) = 0 then
        some (1, r11.2)
      else
        some (2, r11.2)
    else
      some (1, r11.2)
def jids_Board_proofOf_q1 : List Nat := [48, 53, 58, 63, 68, 73]
def jca_Board_proofOf (F : Nat) : jxA := fun as σ k => match as with
  | [.inr (.inr (.inl t0)), .inr (.inr (.inl t1))] => bif Nat.beq t0 9 then bif jin jids_Board_proofOf_q1 t1 then (Board_proofOf F t1 σ).bind (fun r => k (some (jmi r.1)) r.2) else none else none
  | _ => none
def LL1_proved (F : Nat) (σ : jxS) (v1 : Int) : Option jxR :=
  (LL1_quotientOf F σ v1).bind fun r2 =>
  if r2.1 = 0 then
    some ((-1), r2.2)
  else jsel jQS r2.1 fun qq2 =>
    (Quotient_isKnown F qq2 r2.2).bind fun r13 =>
    if jw r13.1 = 0 then
      some ((-3), r13.2)
    else
      (Board_proofOf F qq2 r13.2).bind fun r24 =>
      some (r24.1, r24.2)
def jca_LL1_proved (F : Nat) : jxA := fun as σ k => match as with
  | [.inr (.inr (.inl t0)), .inl v1] => bif Nat.beq t0 0 then (LL1_proved F σ v1).bind (fun r => k (some (jmi r.1)) r.2) else none
  | _ => none
def Quotient_isAlike_c36 (F : Nat) (q : Nat) (q1 : Nat) (k26 : Int → jxS → Option jxR) (fu : Nat) (v2 v3 : Int) (σ : jxS) : Option jxR := match fu with
  | 0 => none
  | fu + 1 =>
    if jw (σ q 0) < jw v3 then
      k26 (v2 + 1) σ
    else
      (Quotient_nextOf F q σ v2 v3).bind fun r47 =>
      (Quotient_nextOf F q1 r47.2 v2 v3).bind fun r53 =>
      if jw r47.1 = jw r53.1 then
        (Quotient_isAlike_c36 F q q1 k26 fu) v2 (v3 + 1) r53.2
      else
        some (0, r53.2)
def Quotient_isAlike_c26 (F : Nat) (q : Nat) (q1 : Nat) (fu : Nat) (v2 : Int) (σ : jxS) : Option jxR := match fu with
  | 0 => none
  | fu + 1 =>
    if jw v2 < jw (σ q 7) then
      Quotient_isAlike_c36 F q q1 (Quotient_isAlike_c26 F q q1 fu) F v2 1 σ
    else
      some (1, σ)
def Quotient_isAlike (F : Nat) (q : Nat) (q1 : Nat) (σ : jxS) : Option jxR :=
  if jw (σ q1 7) = jw (σ q 7) then
    (Quotient_lostSet F q1 σ).bind fun r12 =>
    (Quotient_lostSet F q r12.2).bind fun r16 =>
    if jw r12.1 = jw r16.1 then
      Quotient_isAlike_c26 F q q1 F 0 r16.2
    else
      some (0, r16.2)
  else
    some (0, σ)
def jids_Quotient_isAlike_q : List Nat := [48, 53, 58, 63, 68, 73]
def jids_Quotient_isAlike_q1 : List Nat := [48, 53, 58, 63, 68, 73]
def jca_Quotient_isAlike (F : Nat) : jxA := fun as σ k => match as with
  | [.inr (.inr (.inl t0)), .inr (.inr (.inl t1))] => bif jin jids_Quotient_isAlike_q t0 then bif jin jids_Quotient_isAlike_q1 t1 then (Quotient_isAlike F t0 t1 σ).bind (fun r => k (some (jmi r.1)) r.2) else none else none
  | _ => none
def LL1_stays_c29 (F : Nat) (u2 : Nat) (fu : Nat) (v3 v4 : Int) (σ : jxS) : Option jxR := match fu with
  | 0 => none
  | fu + 1 =>
    if 6 < jw v4 then
      some (v3, σ)
    else
      if jw v3 = jw (v4 - 1) then
        (LL1_quotientOf F σ v4).bind fun r47 =>
        if r47.1 = 0 then
          (LL1_stays_c29 F u2 fu) v3 (v4 + 1) r47.2
        else jsel jQS r47.1 fun qq47 =>
          (Quotient_isAlike F u2 qq47 r47.2).bind fun r60 =>
          if jw r60.1 = 0 then
            (LL1_stays_c29 F u2 fu) v3 (v4 + 1) r60.2
          else
            (LL1_stays_c29 F u2 fu) v4 (v4 + 1) r60.2
      else
        some (v3, σ)
def LL1_stays (F : Nat) (σ : jxS) (v1 : Int) : Option jxR :=
  (LL1_quotientOf F σ v1).bind fun r2 =>
  if r2.1 = 0 then
    some ((-1), r2.2)
  else jsel jQS r2.1 fun qq2 =>
    (Quotient_isKnown F qq2 r2.2).bind fun r13 =>
    if jw r13.1 = 0 then
      some ((-3), r13.2)
    else
      LL1_stays_c29 F qq2 F v1 (v1 + 1) r13.2
def jca_LL1_stays (F : Nat) : jxA := fun as σ k => match as with
  | [.inr (.inr (.inl t0)), .inl v1] => bif Nat.beq t0 0 then (LL1_stays F σ v1).bind (fun r => k (some (jmi r.1)) r.2) else none
  | _ => none
def Quotient_powerOf_c13 (F : Nat) (q : Nat) (fu : Nat) (v1 v2 v3 v4 : Int) (σ : jxS) : Option jxR := match fu with
  | 0 => none
  | fu + 1 =>
    if 17 < jw v4 then
      some ((-1), σ)
    else
      (Quotient_has F q σ v3).bind fun r22 =>
      if jw r22.1 = 0 then
        some ((-1), r22.2)
      else
        if 0 ≤ v3 ∧ v3 < 16 then
          if 0 < jw (r22.2 (q + 4) v3) then
            if jw v2 = 0 then
              if 0 ≤ v3 ∧ v3 < 16 then
                some ((r22.2 (q + 4) v3), r22.2)
              else none
            else
              if 0 ≤ v3 ∧ v3 < 16 then
                some ((v4 - (r22.2 (q + 4) v3)), r22.2)
              else none
          else
            if 0 ≤ v3 ∧ v3 < 16 then
              let s67 : jxS := jup r22.2 (q + 4) v3 v4
              (Quotient_product F q s67 v3 v1).bind fun r71 =>
              (Quotient_powerOf_c13 F q fu) v1 v2 r71.1 (v4 + 1) r71.2
            else none
        else none
def Quotient_powerOf (F : Nat) (q : Nat) (σ : jxS) (v1 v2 : Int) : Option jxR :=
  (Arrays_fill_AIIV F (q + 4) σ 0).bind fun r5 =>
  Quotient_powerOf_c13 F q F v1 v2 v1 1 r5.2
def jids_Quotient_powerOf_q : List Nat := [48, 53, 58, 63, 68, 73]
def jca_Quotient_powerOf (F : Nat) : jxA := fun as σ k => match as with
  | [.inr (.inr (.inl t0)), .inl v1, .inl v2] => bif jin jids_Quotient_powerOf_q t0 then (Quotient_powerOf F t0 σ v1 v2).bind (fun r => k (some (jmi r.1)) r.2) else none
  | _ => none
def LL1_power (F : Nat) (σ : jxS) (v1 v2 v3 : Int) : Option jxR :=
  (LL1_quotientOf F σ v1).bind fun r2 =>
  if r2.1 = 0 then
    some ((-1), r2.2)
  else jsel jQS r2.1 fun qq2 =>
    if jw v3 < 0 then
      some ((-1), r2.2)
    else
      if 1 < jw v3 then
        some ((-1), r2.2)
      else
        (Quotient_isKnown F qq2 r2.2).bind fun r25 =>
        if jw r25.1 = 0 then
          some ((-3), r25.2)
        else
          (Quotient_has F qq2 r25.2 v2).bind fun r37 =>
          if jw r37.1 = 0 then
            some ((-1), r37.2)
          else
            (Quotient_powerOf F qq2 r37.2 v2 v3).bind fun r47 =>
            some (r47.1, r47.2)
def jca_LL1_power (F : Nat) : jxA := fun as σ k => match as with
  | [.inr (.inr (.inl t0)), .inl v1, .inl v2, .inl v3] => bif Nat.beq t0 0 then (LL1_power F σ v1 v2 v3).bind (fun r => k (some (jmi r.1)) r.2) else none
  | _ => none
def Quotient_placeOf_c65 (F : Nat) (q : Nat) (k54 : Int → Int → jxS → Option jxR) (fu : Nat) (v2 v3 v4 : Int) (σ : jxS) : Option jxR := match fu with
  | 0 => none
  | fu + 1 =>
    (Tape_size F σ).bind fun r68 =>
    if jw v4 < jw r68.1 then
      (Tape_at F r68.2 v4).bind fun r77 =>
      if jw r77.1 = jw v3 then
        (Quotient_nextOf F q r77.2 v2 v3).bind fun r87 =>
        (Quotient_placeOf_c65 F q k54 fu) r87.1 v3 (v4 + 1) r87.2
      else
        (Quotient_placeOf_c65 F q k54 fu) v2 v3 (v4 + 1) r77.2
    else
      k54 v2 (v3 + 1) r68.2
def Quotient_placeOf_c54 (F : Nat) (q : Nat) (fu : Nat) (v2 v3 : Int) (σ : jxS) : Option jxR := match fu with
  | 0 => none
  | fu + 1 =>
    if jw (σ q 0) < jw v3 then
      some (v2, σ)
    else
      Quotient_placeOf_c65 F q (Quotient_placeOf_c54 F q fu) F v2 v3 0 σ
def Quotient_placeOf_c2 (F : Nat) (q : Nat) (fu : Nat) (v2 : Int) (σ : jxS) : Option jxR := match fu with
  | 0 => none
  | fu + 1 =>
    (Tape_size F σ).bind fun r4 =>
    if jw v2 < jw r4.1 then
      (Tape_at F r4.2 v2).bind fun r12 =>
      if jw r12.1 < 1 then
        some ((-2), r12.2)
      else
        (Tape_at F r12.2 v2).bind fun r21 =>
        if jw (r21.2 q 0) < jw r21.1 then
          some ((-2), r21.2)
        else
          (Quotient_placeOf_c2 F q fu) (v2 + 1) r21.2
    else
      (Quotient_isKnown F q r4.2).bind fun r41 =>
      if jw r41.1 = 0 then
        some ((-3), r41.2)
      else
        Quotient_placeOf_c54 F q F 0 1 r41.2
def Quotient_placeOf (F : Nat) (q : Nat) (σ : jxS) : Option jxR :=
  Quotient_placeOf_c2 F q F 0 σ
def jids_Quotient_placeOf_q : List Nat := [48, 53, 58, 63, 68, 73]
def jca_Quotient_placeOf (F : Nat) : jxA := fun as σ k => match as with
  | [.inr (.inr (.inl t0)), .inr (.inr (.inl t1))] => bif jin jids_Quotient_placeOf_q t0 then bif Nat.beq t1 1 then (Quotient_placeOf F t0 σ).bind (fun r => k (some (jmi r.1)) r.2) else none else none
  | _ => none
def LL1_place (F : Nat) (σ : jxS) (v1 : Int) : Option jxR :=
  (LL1_quotientOf F σ v1).bind fun r2 =>
  if r2.1 = 0 then
    some ((-1), r2.2)
  else jsel jQS r2.1 fun qq2 =>
    (Quotient_placeOf F qq2 r2.2).bind fun r17 =>
    (Tape_cutTo F r17.2 0).bind fun r26 =>
    some (r17.1, r26.2)
def jca_LL1_place (F : Nat) : jxA := fun as σ k => match as with
  | [.inr (.inr (.inl t0)), .inl v1] => bif Nat.beq t0 0 then (LL1_place F σ v1).bind (fun r => k (some (jmi r.1)) r.2) else none
  | _ => none
def Hand_undoable (F : Nat) (σ : jxS) : Option jxR :=
  some ((σ 29 4), σ)
def jca_Hand_undoable (F : Nat) : jxA := fun as σ k => match as with
  | [.inr (.inr (.inl t0))] => bif Nat.beq t0 29 then (Hand_undoable F σ).bind (fun r => k (some (jmi r.1)) r.2) else none
  | _ => none
def Hand_keptBits_c4 (F : Nat) (fu : Nat) (v1 v2 : Int) (σ : jxS) : Option jxR := match fu with
  | 0 => none
  | fu + 1 =>
    if jw v2 < 3 then
      if 0 ≤ v2 ∧ v2 < 3 then
        if jw (σ 31 v2) < 0 then
          (Hand_keptBits_c4 F fu) v1 (v2 + 1) σ
        else
          (Hand_keptBits_c4 F fu) (jor v1 (jshl 1 v2)) (v2 + 1) σ
      else none
    else
      some (v1, σ)
def Hand_keptBits (F : Nat) (σ : jxS) : Option jxR :=
  Hand_keptBits_c4 F F 0 0 σ
def jca_Hand_keptBits (F : Nat) : jxA := fun as σ k => match as with
  | [.inr (.inr (.inl t0))] => bif Nat.beq t0 29 then (Hand_keptBits F σ).bind (fun r => k (some (jmi r.1)) r.2) else none
  | _ => none
def LL1_count (F : Nat) (σ : jxS) (v1 : Int) : Option jxR :=
  if jw v1 = 0 then
    (Rules_digitCount F σ).bind fun r58 =>
    some (r58.1, r58.2)
  else
  if jw v1 = 1 then
    (Rules_extraLines F σ).bind fun r80 =>
    some (r80.1, r80.2)
  else
  if jw v1 = 2 then
    some ((σ 0 3), σ)
  else
  if jw v1 = 3 then
    (Hand_undoable F σ).bind fun r107 =>
    some (r107.1, r107.2)
  else
  if jw v1 = 4 then
    (Hand_keptBits F σ).bind fun r129 =>
    some (r129.1, r129.2)
  else
  if jw v1 = 5 then
    (Tape_size F σ).bind fun r137 =>
    some (r137.1, r137.2)
  else
    some ((-1), σ)
def jca_LL1_count (F : Nat) : jxA := fun as σ k => match as with
  | [.inr (.inr (.inl t0)), .inl v1] => bif Nat.beq t0 0 then (LL1_count F σ v1).bind (fun r => k (some (jmi r.1)) r.2) else none
  | _ => none
def LL0_feed (F : Nat) (σ : jxS) (v1 v2 v3 v4 v5 : Int) : Option jxR :=
  (Tape_hasRoom F σ).bind fun r4 =>
  if jw r4.1 = 0 then
    some ((-1), r4.2)
  else
    (Tape_append F r4.2 v1).bind fun r17 =>
    (Tape_append F r17.2 v2).bind fun r25 =>
    (Tape_append F r25.2 v3).bind fun r33 =>
    (Tape_append F r33.2 v4).bind fun r42 =>
    (Tape_append F r42.2 v5).bind fun r51 =>
    (Tape_size F r51.2).bind fun r58 =>
    some (r58.1, r58.2)
def jca_LL0_feed (F : Nat) : jxA := fun as σ k => match as with
  | [.inr (.inr (.inl t0)), .inl v1, .inl v2, .inl v3, .inl v4, .inl v5] => bif Nat.beq t0 0 then (LL0_feed F σ v1 v2 v3 v4 v5).bind (fun r => k (some (jmi r.1)) r.2) else none
  | _ => none
def LL0_end (F : Nat) (σ : jxS) (v1 : Int) : Option jxR :=
  (Tape_cutTo F σ v1).bind fun r5 =>
  if jw r5.1 = 0 then
    some ((-1), r5.2)
  else
    some (v1, r5.2)
def jca_LL0_end (F : Nat) : jxA := fun as σ k => match as with
  | [.inr (.inr (.inl t0)), .inl v1] => bif Nat.beq t0 0 then (LL0_end F σ v1).bind (fun r => k (some (jmi r.1)) r.2) else none
  | _ => none
def LL0_moves (F : Nat) (σ : jxS) (v1 : Int) : Option jxR :=
  some ((-1), σ)
def jca_LL0_moves (F : Nat) : jxA := fun as σ k => match as with
  | [.inr (.inr (.inl t0)), .inl v1] => bif Nat.beq t0 0 then (LL0_moves F σ v1).bind (fun r => k (some (jmi r.1)) r.2) else none
  | _ => none
def LL0_option (F : Nat) (σ : jxS) (v1 v2 v3 : Int) : Option jxR :=
  some ((-1), σ)
def jca_LL0_option (F : Nat) : jxA := fun as σ k => match as with
  | [.inr (.inr (.inl t0)), .inl v1, .inl v2, .inl v3] => bif Nat.beq t0 0 then (LL0_option F σ v1 v2 v3).bind (fun r => k (some (jmi r.1)) r.2) else none
  | _ => none
def LL0_nimber (F : Nat) (σ : jxS) (v1 : Int) : Option jxR :=
  some ((-1), σ)
def jca_LL0_nimber (F : Nat) : jxA := fun as σ k => match as with
  | [.inr (.inr (.inl t0)), .inl v1] => bif Nat.beq t0 0 then (LL0_nimber F σ v1).bind (fun r => k (some (jmi r.1)) r.2) else none
  | _ => none
def LL0_period (F : Nat) (σ : jxS) (v1 : Int) : Option jxR :=
  some ((-1), σ)
def jca_LL0_period (F : Nat) : jxA := fun as σ k => match as with
  | [.inr (.inr (.inl t0)), .inl v1] => bif Nat.beq t0 0 then (LL0_period F σ v1).bind (fun r => k (some (jmi r.1)) r.2) else none
  | _ => none
def LL0_odd (F : Nat) (σ : jxS) (v1 : Int) : Option jxR :=
  some ((-1), σ)
def jca_LL0_odd (F : Nat) : jxA := fun as σ k => match as with
  | [.inr (.inr (.inl t0)), .inl v1] => bif Nat.beq t0 0 then (LL0_odd F σ v1).bind (fun r => k (some (jmi r.1)) r.2) else none
  | _ => none
def LL0_wild (F : Nat) (σ : jxS) (v1 : Int) : Option jxR :=
  some ((-1), σ)
def jca_LL0_wild (F : Nat) : jxA := fun as σ k => match as with
  | [.inr (.inr (.inl t0)), .inl v1] => bif Nat.beq t0 0 then (LL0_wild F σ v1).bind (fun r => k (some (jmi r.1)) r.2) else none
  | _ => none
def LL0_put (F : Nat) (σ : jxS) (v1 : Int) : Option jxR :=
  some ((-1), σ)
def jca_LL0_put (F : Nat) : jxA := fun as σ k => match as with
  | [.inr (.inr (.inl t0)), .inl v1] => bif Nat.beq t0 0 then (LL0_put F σ v1).bind (fun r => k (some (jmi r.1)) r.2) else none
  | _ => none
def LL0_move (F : Nat) (σ : jxS) (v1 v2 v3 : Int) : Option jxR :=
  some ((-1), σ)
def jca_LL0_move (F : Nat) : jxA := fun as σ k => match as with
  | [.inr (.inr (.inl t0)), .inl v1, .inl v2, .inl v3] => bif Nat.beq t0 0 then (LL0_move F σ v1 v2 v3).bind (fun r => k (some (jmi r.1)) r.2) else none
  | _ => none
def LL0_reply (F : Nat) (σ : jxS) : Option jxR :=
  some ((-1), σ)
def jca_LL0_reply (F : Nat) : jxA := fun as σ k => match as with
  | [.inr (.inr (.inl t0))] => bif Nat.beq t0 0 then (LL0_reply F σ).bind (fun r => k (some (jmi r.1)) r.2) else none
  | _ => none
def LL0_clear (F : Nat) (σ : jxS) : Option jxR :=
  some ((-1), σ)
def jca_LL0_clear (F : Nat) : jxA := fun as σ k => match as with
  | [.inr (.inr (.inl t0))] => bif Nat.beq t0 0 then (LL0_clear F σ).bind (fun r => k (some (jmi r.1)) r.2) else none
  | _ => none
def LL0_undo (F : Nat) (σ : jxS) : Option jxR :=
  some ((-1), σ)
def jca_LL0_undo (F : Nat) : jxA := fun as σ k => match as with
  | [.inr (.inr (.inl t0))] => bif Nat.beq t0 0 then (LL0_undo F σ).bind (fun r => k (some (jmi r.1)) r.2) else none
  | _ => none
def LL0_hand (F : Nat) (σ : jxS) (v1 : Int) : Option jxR :=
  (LL_isHeapOrAll F σ v1).bind fun r1 =>
  if jw r1.1 = 0 then
    some ((-1), r1.2)
  else
    some (0, r1.2)
def jca_LL0_hand (F : Nat) : jxA := fun as σ k => match as with
  | [.inr (.inr (.inl t0)), .inl v1] => bif Nat.beq t0 0 then (LL0_hand F σ v1).bind (fun r => k (some (jmi r.1)) r.2) else none
  | _ => none
def LL0_state (F : Nat) (σ : jxS) (v1 : Int) : Option jxR :=
  some ((-1), σ)
def jca_LL0_state (F : Nat) : jxA := fun as σ k => match as with
  | [.inr (.inr (.inl t0)), .inl v1] => bif Nat.beq t0 0 then (LL0_state F σ v1).bind (fun r => k (some (jmi r.1)) r.2) else none
  | _ => none
def LL0_genus (F : Nat) (σ : jxS) (v1 : Int) : Option jxR :=
  some ((-1), σ)
def jca_LL0_genus (F : Nat) : jxA := fun as σ k => match as with
  | [.inr (.inr (.inl t0)), .inl v1] => bif Nat.beq t0 0 then (LL0_genus F σ v1).bind (fun r => k (some (jmi r.1)) r.2) else none
  | _ => none
def LL0_line (F : Nat) (σ : jxS) (v1 : Int) : Option jxR :=
  some ((-1), σ)
def jca_LL0_line (F : Nat) : jxA := fun as σ k => match as with
  | [.inr (.inr (.inl t0)), .inl v1] => bif Nat.beq t0 0 then (LL0_line F σ v1).bind (fun r => k (some (jmi r.1)) r.2) else none
  | _ => none
def LL0_losers_c17 (F : Nat) (v1 v2 t0 : Int) (σ : jxS) : Option jxR :=
  some ((-1), σ)
def LL0_losers_c12 (F : Nat) (v1 v2 : Int) (σ : jxS) : Option jxR :=
  LL0_losers_c17 F v1 v2 1 σ
def LL0_losers (F : Nat) (σ : jxS) (v1 v2 : Int) : Option jxR :=
  if jw v2 = (-1) then
    LL0_losers_c12 F v1 v2 σ
  else
    (LL_isHeap F σ v2).bind fun r6 =>
    if jw r6.1 = 0 then
      LL0_losers_c17 F v1 v2 0 r6.2
    else
      LL0_losers_c12 F v1 v2 r6.2
def jca_LL0_losers (F : Nat) : jxA := fun as σ k => match as with
  | [.inr (.inr (.inl t0)), .inl v1, .inl v2] => bif Nat.beq t0 0 then (LL0_losers F σ v1 v2).bind (fun r => k (some (jmi r.1)) r.2) else none
  | _ => none
def LL0_keep (F : Nat) (σ : jxS) (v1 : Int) : Option jxR :=
  some ((-1), σ)
def jca_LL0_keep (F : Nat) : jxA := fun as σ k => match as with
  | [.inr (.inr (.inl t0)), .inl v1] => bif Nat.beq t0 0 then (LL0_keep F σ v1).bind (fun r => k (some (jmi r.1)) r.2) else none
  | _ => none
def LL0_apart (F : Nat) (σ : jxS) (v1 v2 : Int) : Option jxR :=
  some ((-1), σ)
def jca_LL0_apart (F : Nat) : jxA := fun as σ k => match as with
  | [.inr (.inr (.inl t0)), .inl v1, .inl v2] => bif Nat.beq t0 0 then (LL0_apart F σ v1 v2).bind (fun r => k (some (jmi r.1)) r.2) else none
  | _ => none
def LL0_simplest (F : Nat) (σ : jxS) (v1 : Int) : Option jxR :=
  some ((-1), σ)
def jca_LL0_simplest (F : Nat) : jxA := fun as σ k => match as with
  | [.inr (.inr (.inl t0)), .inl v1] => bif Nat.beq t0 0 then (LL0_simplest F σ v1).bind (fun r => k (some (jmi r.1)) r.2) else none
  | _ => none
def LL0_answers (F : Nat) (σ : jxS) (v1 : Int) : Option jxR :=
  some ((-1), σ)
def jca_LL0_answers (F : Nat) : jxA := fun as σ k => match as with
  | [.inr (.inr (.inl t0)), .inl v1] => bif Nat.beq t0 0 then (LL0_answers F σ v1).bind (fun r => k (some (jmi r.1)) r.2) else none
  | _ => none
def LL0_draws (F : Nat) (σ : jxS) (v1 : Int) : Option jxR :=
  if jw v1 < 0 then
    some ((-1), σ)
  else
    let s13 : jxS := jup σ 0 3 v1
    some ((σ 0 3), s13)
def jca_LL0_draws (F : Nat) : jxA := fun as σ k => match as with
  | [.inr (.inr (.inl t0)), .inl v1] => bif Nat.beq t0 0 then (LL0_draws F σ v1).bind (fun r => k (some (jmi r.1)) r.2) else none
  | _ => none
def LL0_games (F : Nat) (σ : jxS) (v1 v2 : Int) : Option jxR :=
  some ((-1), σ)
def jca_LL0_games (F : Nat) : jxA := fun as σ k => match as with
  | [.inr (.inr (.inl t0)), .inl v1, .inl v2] => bif Nat.beq t0 0 then (LL0_games F σ v1 v2).bind (fun r => k (some (jmi r.1)) r.2) else none
  | _ => none
def LL0_quotientOf (F : Nat) (σ : jxS) (v1 : Int) : Option jxR :=
  some (0, σ)
def jca_LL0_quotientOf (F : Nat) : jxA := fun as σ k => match as with
  | [.inr (.inr (.inl t0)), .inl v1] => bif Nat.beq t0 0 then (LL0_quotientOf F σ v1).bind (fun r => if r.1 = 0 then k (some jmn) r.2 else none) else none
  | _ => none
def LL0_elements (F : Nat) (σ : jxS) (v1 : Int) : Option jxR :=
  (LL0_quotientOf F σ v1).bind fun r2 =>
  if r2.1 = 0 then
    some ((-1), r2.2)
  else none
def jca_LL0_elements (F : Nat) : jxA := fun as σ k => match as with
  | [.inr (.inr (.inl t0)), .inl v1] => bif Nat.beq t0 0 then (LL0_elements F σ v1).bind (fun r => k (some (jmi r.1)) r.2) else none
  | _ => none
def LL0_word (F : Nat) (σ : jxS) (v1 v2 v3 : Int) : Option jxR :=
  (LL0_quotientOf F σ v1).bind fun r2 =>
  if r2.1 = 0 then
    some ((-1), r2.2)
  else none
def jca_LL0_word (F : Nat) : jxA := fun as σ k => match as with
  | [.inr (.inr (.inl t0)), .inl v1, .inl v2, .inl v3] => bif Nat.beq t0 0 then (LL0_word F σ v1 v2 v3).bind (fun r => k (some (jmi r.1)) r.2) else none
  | _ => none
def LL0_next (F : Nat) (σ : jxS) (v1 v2 v3 : Int) : Option jxR :=
  (LL0_quotientOf F σ v1).bind fun r2 =>
  if r2.1 = 0 then
    some ((-1), r2.2)
  else none
def jca_LL0_next (F : Nat) : jxA := fun as σ k => match as with
  | [.inr (.inr (.inl t0)), .inl v1, .inl v2, .inl v3] => bif Nat.beq t0 0 then (LL0_next F σ v1 v2 v3).bind (fun r => k (some (jmi r.1)) r.2) else none
  | _ => none
def LL0_times (F : Nat) (σ : jxS) (v1 v2 v3 : Int) : Option jxR :=
  (LL0_quotientOf F σ v1).bind fun r2 =>
  if r2.1 = 0 then
    some ((-1), r2.2)
  else none
def jca_LL0_times (F : Nat) : jxA := fun as σ k => match as with
  | [.inr (.inr (.inl t0)), .inl v1, .inl v2, .inl v3] => bif Nat.beq t0 0 then (LL0_times F σ v1 v2 v3).bind (fun r => k (some (jmi r.1)) r.2) else none
  | _ => none
def LL0_sets (F : Nat) (σ : jxS) (v1 v2 : Int) : Option jxR :=
  (LL0_quotientOf F σ v1).bind fun r2 =>
  if r2.1 = 0 then
    some ((-1), r2.2)
  else none
def jca_LL0_sets (F : Nat) : jxA := fun as σ k => match as with
  | [.inr (.inr (.inl t0)), .inl v1, .inl v2] => bif Nat.beq t0 0 then (LL0_sets F σ v1 v2).bind (fun r => k (some (jmi r.1)) r.2) else none
  | _ => none
def LL0_pairs (F : Nat) (σ : jxS) (v1 : Int) : Option jxR :=
  (LL0_quotientOf F σ v1).bind fun r2 =>
  if r2.1 = 0 then
    some ((-1), r2.2)
  else none
def jca_LL0_pairs (F : Nat) : jxA := fun as σ k => match as with
  | [.inr (.inr (.inl t0)), .inl v1] => bif Nat.beq t0 0 then (LL0_pairs F σ v1).bind (fun r => k (some (jmi r.1)) r.2) else none
  | _ => none
def LL0_proved (F : Nat) (σ : jxS) (v1 : Int) : Option jxR :=
  (LL0_quotientOf F σ v1).bind fun r2 =>
  if r2.1 = 0 then
    some ((-1), r2.2)
  else none
def jca_LL0_proved (F : Nat) : jxA := fun as σ k => match as with
  | [.inr (.inr (.inl t0)), .inl v1] => bif Nat.beq t0 0 then (LL0_proved F σ v1).bind (fun r => k (some (jmi r.1)) r.2) else none
  | _ => none
def LL0_stays (F : Nat) (σ : jxS) (v1 : Int) : Option jxR :=
  (LL0_quotientOf F σ v1).bind fun r2 =>
  if r2.1 = 0 then
    some ((-1), r2.2)
  else none
def jca_LL0_stays (F : Nat) : jxA := fun as σ k => match as with
  | [.inr (.inr (.inl t0)), .inl v1] => bif Nat.beq t0 0 then (LL0_stays F σ v1).bind (fun r => k (some (jmi r.1)) r.2) else none
  | _ => none
def LL0_power (F : Nat) (σ : jxS) (v1 v2 v3 : Int) : Option jxR :=
  (LL0_quotientOf F σ v1).bind fun r2 =>
  if r2.1 = 0 then
    some ((-1), r2.2)
  else none
def jca_LL0_power (F : Nat) : jxA := fun as σ k => match as with
  | [.inr (.inr (.inl t0)), .inl v1, .inl v2, .inl v3] => bif Nat.beq t0 0 then (LL0_power F σ v1 v2 v3).bind (fun r => k (some (jmi r.1)) r.2) else none
  | _ => none
def LL0_place (F : Nat) (σ : jxS) (v1 : Int) : Option jxR :=
  (LL0_quotientOf F σ v1).bind fun r2 =>
  if r2.1 = 0 then
    some ((-1), r2.2)
  else none
def jca_LL0_place (F : Nat) : jxA := fun as σ k => match as with
  | [.inr (.inr (.inl t0)), .inl v1] => bif Nat.beq t0 0 then (LL0_place F σ v1).bind (fun r => k (some (jmi r.1)) r.2) else none
  | _ => none
def LL0_count (F : Nat) (σ : jxS) (v1 : Int) : Option jxR :=
  if jw v1 = 0 then
    some (0, σ)
  else
  if jw v1 = 1 then
    some (0, σ)
  else
  if jw v1 = 2 then
    some ((σ 0 3), σ)
  else
  if jw v1 = 3 then
    some (0, σ)
  else
  if jw v1 = 4 then
    some (0, σ)
  else
  if jw v1 = 5 then
    (Tape_size F σ).bind fun r137 =>
    some (r137.1, r137.2)
  else
    some ((-1), σ)
def jca_LL0_count (F : Nat) : jxA := fun as σ k => match as with
  | [.inr (.inr (.inl t0)), .inl v1] => bif Nat.beq t0 0 then (LL0_count F σ v1).bind (fun r => k (some (jmi r.1)) r.2) else none
  | _ => none
def Positions_waysOf_c26 (F : Nat) (v1 v2 t0 : Int) (σ : jxS) : Option jxR :=
  if jw t0 = 0 then
    some (0, σ)
  else
    if 0 ≤ ((v1 * 23) + v2) ∧ ((v1 * 23) + v2) < 322 then
      some ((σ 23 ((v1 * 23) + v2)), σ)
    else none
def Positions_waysOf_c25 (F : Nat) (v1 v2 : Int) (σ : jxS) : Option jxR :=
  Positions_waysOf_c26 F v1 v2 0 σ
def Positions_waysOf (F : Nat) (σ : jxS) (v1 v2 : Int) : Option jxR :=
  if jw v1 < 1 then
    Positions_waysOf_c25 F v1 v2 σ
  else
    if 13 < jw v1 then
      Positions_waysOf_c25 F v1 v2 σ
    else
      if jw v2 < 0 then
        Positions_waysOf_c25 F v1 v2 σ
      else
        if 22 < jw v2 then
          Positions_waysOf_c25 F v1 v2 σ
        else
          Positions_waysOf_c26 F v1 v2 1 σ
def jca_Positions_waysOf (F : Nat) : jxA := fun as σ k => match as with
  | [.inr (.inr (.inl t0)), .inl v1, .inl v2] => bif Nat.beq t0 22 then (Positions_waysOf F σ v1 v2).bind (fun r => k (some (jmi r.1)) r.2) else none
  | _ => none
def Positions_countWays_c113 (F : Nat) (fu : Nat) (v1 : Int) (σ : jxS) : Option jxR := match fu with
  | 0 => none
  | fu + 1 =>
    if 12 < jw v1 then
      some (0, σ)
    else
      if 0 ≤ v1 ∧ v1 < 14 then
        if 0 ≤ (23 - v1) ∧ (23 - v1) < 24 then
          if 0 ≤ (v1 + 1) ∧ (v1 + 1) < 14 then
            let s142 : jxS := jup σ 25 (v1 + 1) ((σ 25 v1) + (σ 24 (23 - v1)))
            (Positions_countWays_c113 F fu) (v1 + 1) s142
          else none
        else none
      else none
def Positions_countWays_c78 (F : Nat) (fu : Nat) (v1 : Int) (σ : jxS) : Option jxR := match fu with
  | 0 => none
  | fu + 1 =>
    if 22 < jw v1 then
      Positions_countWays_c113 F F 1 σ
    else
      if 0 ≤ v1 ∧ v1 < 24 then
        (Positions_waysOf F σ 1 v1).bind fun r100 =>
        if 0 ≤ (v1 + 1) ∧ (v1 + 1) < 24 then
          let s104 : jxS := jup r100.2 24 (v1 + 1) ((σ 24 v1) + r100.1)
          (Positions_countWays_c78 F fu) (v1 + 1) s104
        else none
      else none
def Positions_countWays_c42 (F : Nat) (k12 : Int → jxS → Option jxR) (k19 : Int → Int → jxS → Option jxR) (v1 v2 t0 : Int) (σ : jxS) : Option jxR :=
  (Positions_waysOf F σ (v1 + 1) v2).bind fun r58 =>
  if 0 ≤ ((v1 * 23) + v2) ∧ ((v1 * 23) + v2) < 322 then
    let s63 : jxS := jup r58.2 23 ((v1 * 23) + v2) (r58.1 + t0)
    k19 v1 (v2 + 1) s63
  else none
def Positions_countWays_c19 (F : Nat) (k12 : Int → jxS → Option jxR) (fu : Nat) (v1 v2 : Int) (σ : jxS) : Option jxR := match fu with
  | 0 => none
  | fu + 1 =>
    if 22 < jw v2 then
      k12 (v1 + (-1)) σ
    else
      if jw v2 < jw v1 then
        Positions_countWays_c42 F k12 (Positions_countWays_c19 F k12 fu) v1 v2 0 σ
      else
        (Positions_waysOf F σ v1 (v2 - v1)).bind fun r39 =>
        Positions_countWays_c42 F k12 (Positions_countWays_c19 F k12 fu) v1 v2 r39.1 r39.2
def Positions_countWays_c12 (F : Nat) (fu : Nat) (v1 : Int) (σ : jxS) : Option jxR := match fu with
  | 0 => none
  | fu + 1 =>
    if jw v1 < 1 then
      Positions_countWays_c78 F F 0 σ
    else
      Positions_countWays_c19 F (Positions_countWays_c12 F fu) F v1 0 σ
def Positions_countWays (F : Nat) (σ : jxS) : Option jxR :=
  let s8 : jxS := jup σ 23 299 1
  Positions_countWays_c12 F F 12 s8
def jca_Positions_countWays (F : Nat) : jxA := fun as σ k => match as with
  | [.inr (.inr (.inl t0))] => bif Nat.beq t0 22 then (Positions_countWays F σ).bind (fun r => k none r.2) else none
  | _ => none
def Positions_link (F : Nat) (σ : jxS) (v1 v2 v3 v4 : Int) : Option jxR :=
  if 0 ≤ v2 ∧ v2 < 14 then
    if jw v4 < 14202 then
      if jw ((σ 25 v2) + v3) < 0 then
        some (v4, σ)
      else
        if jw ((σ 25 v2) + v3) < 14202 then
          if 0 ≤ v4 ∧ v4 < 14202 then
            let s47 : jxS := jup σ 28 v4 ((8192 * v2) + v3)
            if 0 ≤ ((σ 25 v2) + v3) ∧ ((σ 25 v2) + v3) < 14202 then
              let s55 : jxS := jup s47 26 ((σ 25 v2) + v3) v1
              some ((v4 + 1), s55)
            else none
          else none
        else
          some (v4, σ)
    else
      some (v4, σ)
  else none
def jca_Positions_link (F : Nat) : jxA := fun as σ k => match as with
  | [.inr (.inr (.inl t0)), .inl v1, .inl v2, .inl v3, .inl v4] => bif Nat.beq t0 22 then (Positions_link F σ v1 v2 v3 v4).bind (fun r => k (some (jmi r.1)) r.2) else none
  | _ => none
def Positions_linkOthers_c18 (F : Nat) (fu : Nat) (v1 v2 v5 v6 v7 : Int) (σ : jxS) : Option jxR := match fu with
  | 0 => none
  | fu + 1 =>
    if jw v7 < jw v6 then
      (Positions_heapOf F σ v7).bind fun r28 =>
      if jw r28.1 = jw v2 then
        (Positions_linkOthers_c18 F fu) v1 v2 v5 v6 (v7 + 1) r28.2
      else
        (Positions_restOf F r28.2 v7).bind fun r47 =>
        (Positions_join F r47.2 r47.1 v2).bind fun r51 =>
        (Positions_link F r51.2 v1 r28.1 r51.1 v5).bind fun r56 =>
        (Positions_linkOthers_c18 F fu) v1 v2 r56.1 v6 (v7 + 1) r56.2
    else
      some (v5, σ)
def Positions_linkOthers (F : Nat) (σ : jxS) (v1 v2 v3 v4 : Int) : Option jxR :=
  (Positions_endPart F σ v3).bind fun r6 =>
  (Positions_firstPart F r6.2 v3).bind fun r13 =>
  Positions_linkOthers_c18 F F v1 v2 v4 r6.1 r13.1 r13.2
def jca_Positions_linkOthers (F : Nat) : jxA := fun as σ k => match as with
  | [.inr (.inr (.inl t0)), .inl v1, .inl v2, .inl v3, .inl v4] => bif Nat.beq t0 22 then (Positions_linkOthers F σ v1 v2 v3 v4).bind (fun r => k (some (jmi r.1)) r.2) else none
  | _ => none
def Positions_linkParts_c13 (F : Nat) (fu : Nat) (v1 v2 v3 v4 v5 : Int) (σ : jxS) : Option jxR := match fu with
  | 0 => none
  | fu + 1 =>
    if 12 < jw v5 then
      some (v3, σ)
    else
      if jw v2 < jw v5 then
        some (v3, σ)
      else
        (Positions_waysOf F σ (v5 + 1) v2).bind fun r32 =>
        if jw v4 < jw r32.1 then
          (Positions_linkParts_c13 F fu) v1 v2 v3 v4 (v5 + 1) r32.2
        else
          if 0 ≤ (v2 - v5) ∧ (v2 - v5) < 24 then
            (Positions_link F r32.2 v1 v5 (((r32.2 24 (v2 - v5)) + v4) - r32.1) v3).bind fun r74 =>
            (Positions_linkOthers F r74.2 v1 v5 (((r32.2 24 (v2 - v5)) + v4) - r32.1) r74.1).bind fun r77 =>
            some (r77.1, r77.2)
          else none
def Positions_linkParts (F : Nat) (σ : jxS) (v1 v2 v3 : Int) : Option jxR :=
  if 0 ≤ v2 ∧ v2 < 24 then
    Positions_linkParts_c13 F F v1 v2 v3 (v1 - (σ 24 v2)) 1 σ
  else none
def jca_Positions_linkParts (F : Nat) : jxA := fun as σ k => match as with
  | [.inr (.inr (.inl t0)), .inl v1, .inl v2, .inl v3] => bif Nat.beq t0 22 then (Positions_linkParts F σ v1 v2 v3).bind (fun r => k (some (jmi r.1)) r.2) else none
  | _ => none
