/-! The reference's methods as functions. -/
def Model_feed_c68 (F : Nat) (k15 : Int → Int → Int → Int → Int → Int → jxS → Option jxR) (v1 v2 v3 v4 v5 v6 t0 : Int) (σ : jxS) : Option jxR :=
  if 0 ≤ ((σ 0 1) + v6) ∧ ((σ 0 1) + v6) < 200 then
    let s95 : jxS := jup σ 1 ((σ 0 1) + v6) (jw8 (jw8 (jshr t0 (24 - (8 * (jrem v6 4))))))
    k15 v1 v2 v3 v4 v5 (v6 + 1) s95
  else none
def Model_feed_c15 (F : Nat) (fu : Nat) (v1 v2 v3 v4 v5 v6 : Int) (σ : jxS) : Option jxR := match fu with
  | 0 => none
  | fu + 1 =>
    if jw v6 < 20 then
      if jw v6 < 4 then
        Model_feed_c68 F (Model_feed_c15 F fu) v1 v2 v3 v4 v5 v6 v1 σ
      else
        if jw v6 < 8 then
          Model_feed_c68 F (Model_feed_c15 F fu) v1 v2 v3 v4 v5 v6 v2 σ
        else
          if jw v6 < 12 then
            Model_feed_c68 F (Model_feed_c15 F fu) v1 v2 v3 v4 v5 v6 v3 σ
          else
            if jw v6 < 16 then
              Model_feed_c68 F (Model_feed_c15 F fu) v1 v2 v3 v4 v5 v6 v4 σ
            else
              Model_feed_c68 F (Model_feed_c15 F fu) v1 v2 v3 v4 v5 v6 v5 σ
    else
      let s110 : jxS := jup σ 0 1 ((σ 0 1) + 20)
      some ((s110 0 1), s110)
def Model_feed (F : Nat) (σ : jxS) (v1 v2 v3 v4 v5 : Int) : Option jxR :=
  if 180 < jw (σ 0 1) then
    some ((-1), σ)
  else
    Model_feed_c15 F F v1 v2 v3 v4 v5 0 σ
def jca_Model_feed (F : Nat) : jxA := fun as σ k => match as with
  | [.inr (.inr (.inl t0)), .inl v1, .inl v2, .inl v3, .inl v4, .inl v5] => bif Nat.beq t0 0 then (Model_feed F σ v1 v2 v3 v4 v5).bind (fun r => k (some (jmi r.1)) r.2) else none
  | _ => none
def Model_isIn (F : Nat) (σ : jxS) (v0 v2 v4 : Int) : Option jxR :=
  if jw (jlcmp v0 v2) < 0 then
    some (0, σ)
  else
    if 0 < jw (jlcmp v0 v4) then
      some (0, σ)
    else
      some (1, σ)
def jca_Model_isIn (F : Nat) : jxA := fun as σ k => match as with
  | [.inr (.inl v0), .inr (.inl v2), .inr (.inl v4)] => (Model_isIn F σ v0 v2 v4).bind (fun r => k (some (jmi r.1)) r.2)
  | _ => none
def Model_end (F : Nat) (σ : jxS) (v1 : Int) : Option jxR :=
  (Model_isIn F σ (jw v1) 0 (jw (σ 0 1))).bind fun r8 =>
  if jw r8.1 = 0 then
    some ((-1), r8.2)
  else
    let s18 : jxS := jup r8.2 0 1 v1
    some (v1, s18)
def jca_Model_end (F : Nat) : jxA := fun as σ k => match as with
  | [.inr (.inr (.inl t0)), .inl v1] => bif Nat.beq t0 0 then (Model_end F σ v1).bind (fun r => k (some (jmi r.1)) r.2) else none
  | _ => none
def Model_byteAt (F : Nat) (σ : jxS) (v1 : Int) : Option jxR :=
  if jw v1 < jw (σ 0 1) then
    if 0 ≤ v1 ∧ v1 < 200 then
      some ((jand (σ 1 v1) 255), σ)
    else none
  else
    some ((-1), σ)
def jca_Model_byteAt (F : Nat) : jxA := fun as σ k => match as with
  | [.inr (.inr (.inl t0)), .inl v1] => bif Nat.beq t0 0 then (Model_byteAt F σ v1).bind (fun r => k (some (jmi r.1)) r.2) else none
  | _ => none
def Model_next_I_c0 (F : Nat) (fu : Nat) (σ : jxS) : Option jxR := match fu with
  | 0 => none
  | fu + 1 =>
    (Model_byteAt F σ (σ 0 2)).bind fun r5 =>
    if jw r5.1 = 32 then
      let s20 : jxS := jup r5.2 0 2 ((r5.2 0 2) + 1)
      (Model_next_I_c0 F fu) s20
    else
      (Model_byteAt F r5.2 (r5.2 0 2)).bind fun r31 =>
      some (r31.1, r31.2)
def Model_next_I (F : Nat) (σ : jxS) : Option jxR :=
  Model_next_I_c0 F F σ
def jca_Model_next_I (F : Nat) : jxA := fun as σ k => match as with
  | [.inr (.inr (.inl t0))] => bif Nat.beq t0 0 then (Model_next_I F σ).bind (fun r => k (some (jmi r.1)) r.2) else none
  | _ => none
def Model_isLetter (F : Nat) (σ : jxS) (v0 : Int) : Option jxR :=
  if jw v0 < 97 then
    some (0, σ)
  else
    if 122 < jw v0 then
      some (0, σ)
    else
      some (1, σ)
def jca_Model_isLetter (F : Nat) : jxA := fun as σ k => match as with
  | [.inl v0] => (Model_isLetter F σ v0).bind (fun r => k (some (jmi r.1)) r.2)
  | _ => none
def Model_wordHere_c58 (F : Nat) (k7 : Int → jxS → Option jxR) (v1 v2 : Int) (σ : jxS) : Option jxR :=
  if 0 ≤ ((6 * v1) + v2) ∧ ((6 * v1) + v2) < 24 then
    if jw (σ 2 ((6 * v1) + v2)) = 0 then
      (Model_byteAt F σ ((σ 0 2) + v2)).bind fun r79 =>
      (Model_isLetter F r79.2 r79.1).bind fun r82 =>
      if jw r82.1 = 0 then
        some (v1, r82.2)
      else
        k7 (v1 + 1) r82.2
    else
      k7 (v1 + 1) σ
  else none
def Model_wordHere_c14 (F : Nat) (k7 : Int → jxS → Option jxR) (fu : Nat) (v1 v2 : Int) (σ : jxS) : Option jxR := match fu with
  | 0 => none
  | fu + 1 =>
    if 0 ≤ ((6 * v1) + v2) ∧ ((6 * v1) + v2) < 24 then
      if jw (σ 2 ((6 * v1) + v2)) = 0 then
        Model_wordHere_c58 F k7 v1 v2 σ
      else
        (Model_byteAt F σ ((σ 0 2) + v2)).bind fun r35 =>
        if 0 ≤ ((6 * v1) + v2) ∧ ((6 * v1) + v2) < 24 then
          if jw r35.1 = jw (r35.2 2 ((6 * v1) + v2)) then
            (Model_wordHere_c14 F k7 fu) v1 (v2 + 1) r35.2
          else
            Model_wordHere_c58 F k7 v1 v2 r35.2
        else none
    else none
def Model_wordHere_c7 (F : Nat) (fu : Nat) (v1 : Int) (σ : jxS) : Option jxR := match fu with
  | 0 => none
  | fu + 1 =>
    if jw v1 < 4 then
      Model_wordHere_c14 F (Model_wordHere_c7 F fu) F v1 0 σ
    else
      some ((-1), σ)
def Model_wordHere (F : Nat) (σ : jxS) : Option jxR :=
  (Model_next_I F σ).bind fun r1 =>
  Model_wordHere_c7 F F 0 r1.2
def jca_Model_wordHere (F : Nat) : jxA := fun as σ k => match as with
  | [.inr (.inr (.inl t0))] => bif Nat.beq t0 0 then (Model_wordHere F σ).bind (fun r => k (some (jmi r.1)) r.2) else none
  | _ => none
def Model_fails (F : Nat) (σ : jxS) (v1 v2 : Int) : Option jxR :=
  let s7 : jxS := jup σ 0 3 ((8 * v2) + v1)
  some (0, s7)
def jca_Model_fails (F : Nat) : jxA := fun as σ k => match as with
  | [.inr (.inr (.inl t0)), .inl v1, .inl v2] => bif Nat.beq t0 0 then (Model_fails F σ v1 v2).bind (fun r => k (some (jmi r.1)) r.2) else none
  | _ => none
def Model_passWord_c0 (F : Nat) (fu : Nat) (σ : jxS) : Option jxR := match fu with
  | 0 => none
  | fu + 1 =>
    (Model_byteAt F σ (σ 0 2)).bind fun r5 =>
    (Model_isLetter F r5.2 r5.1).bind fun r8 =>
    if jw r8.1 = 0 then
      some (0, r8.2)
    else
      let s21 : jxS := jup r8.2 0 2 ((r8.2 0 2) + 1)
      (Model_passWord_c0 F fu) s21
def Model_passWord (F : Nat) (σ : jxS) : Option jxR :=
  Model_passWord_c0 F F σ
def jca_Model_passWord (F : Nat) : jxA := fun as σ k => match as with
  | [.inr (.inr (.inl t0))] => bif Nat.beq t0 0 then (Model_passWord F σ).bind (fun r => k none r.2) else none
  | _ => none
def Model_takesSign (F : Nat) (σ : jxS) (v1 : Int) : Option jxR :=
  (Model_next_I F σ).bind fun r1 =>
  if jw r1.1 = jw v1 then
    let s17 : jxS := jup r1.2 0 2 ((r1.2 0 2) + 1)
    some (1, s17)
  else
    some (0, r1.2)
def jca_Model_takesSign (F : Nat) : jxA := fun as σ k => match as with
  | [.inr (.inr (.inl t0)), .inl v1] => bif Nat.beq t0 0 then (Model_takesSign F σ v1).bind (fun r => k (some (jmi r.1)) r.2) else none
  | _ => none
def Model_isDigit (F : Nat) (σ : jxS) (v0 : Int) : Option jxR :=
  if jw v0 < 48 then
    some (0, σ)
  else
    if 57 < jw v0 then
      some (0, σ)
    else
      some (1, σ)
def jca_Model_isDigit (F : Nat) : jxA := fun as σ k => match as with
  | [.inl v0] => (Model_isDigit F σ v0).bind (fun r => k (some (jmi r.1)) r.2)
  | _ => none
def Model_readsOctal_c75 (F : Nat) (σ : jxS) : Option jxR :=
  (Model_fails F σ 3 (σ 0 2)).bind fun r81 =>
  if r81.1 = 0 ∨ r81.1 = 1 then some (r81.1, r81.2) else none
def Model_readsOctal_c39 (F : Nat) (fu : Nat) (σ : jxS) : Option jxR := match fu with
  | 0 => none
  | fu + 1 =>
    (Model_byteAt F σ (σ 0 2)).bind fun r44 =>
    (Model_isDigit F r44.2 r44.1).bind fun r47 =>
    if jw r47.1 = 0 then
      some (1, r47.2)
    else
      (Model_byteAt F r47.2 (r47.2 0 2)).bind fun r58 =>
      if 55 < jw r58.1 then
        Model_readsOctal_c75 F r58.2
      else
        if jw (r58.2 0 6) = 8 then
          Model_readsOctal_c75 F r58.2
        else
          (Model_byteAt F r58.2 (r58.2 0 2)).bind fun r98 =>
          if 0 ≤ (r58.2 0 6) ∧ (r58.2 0 6) < 8 then
            let s104 : jxS := jup r98.2 3 (r58.2 0 6) (r98.1 - 48)
            let s112 : jxS := jup s104 0 6 ((s104 0 6) + 1)
            let s122 : jxS := jup s112 0 2 ((s112 0 2) + 1)
            (Model_readsOctal_c39 F fu) s122
          else none
def Model_readsOctal (F : Nat) (σ : jxS) : Option jxR :=
  (Model_takesSign F σ 46).bind fun r3 =>
  if jw r3.1 = 0 then
    (Model_fails F r3.2 1 (r3.2 0 2)).bind fun r15 =>
    if r15.1 = 0 ∨ r15.1 = 1 then some (r15.1, r15.2) else none
  else
    (Model_next_I F r3.2).bind fun r20 =>
    (Model_isDigit F r20.2 r20.1).bind fun r23 =>
    if jw r23.1 = 0 then
      (Model_fails F r23.2 1 (r23.2 0 2)).bind fun r35 =>
      if r35.1 = 0 ∨ r35.1 = 1 then some (r35.1, r35.2) else none
    else
      Model_readsOctal_c39 F F r23.2
def jca_Model_readsOctal (F : Nat) : jxA := fun as σ k => match as with
  | [.inr (.inr (.inl t0))] => bif Nat.beq t0 0 then (Model_readsOctal F σ).bind (fun r => k (some (jmi r.1)) r.2) else none
  | _ => none
def Model_reads_c115 (F : Nat) (v3 : Int) (σ : jxS) : Option jxR :=
  (Model_fails F σ 2 v3).bind fun r118 =>
  if jw r118.1 = 0 then
    some (0, r118.2)
  else
    some (1, r118.2)
def Model_reads_c77 (F : Nat) (k30 : Int → Int → Int → jxS → Option jxR) (v1 v2 v3 : Int) (σ : jxS) : Option jxR :=
  let s84 : jxS := jup σ 0 2 ((σ 0 2) + 1)
  k30 v1 v2 v3 s84
def Model_reads_c30 (F : Nat) (fu : Nat) (v1 v2 v3 : Int) (σ : jxS) : Option jxR := match fu with
  | 0 => none
  | fu + 1 =>
    (Model_byteAt F σ (σ 0 2)).bind fun r35 =>
    (Model_isDigit F r35.2 r35.1).bind fun r38 =>
    if jw r38.1 = 0 then
      if 3 < jw ((r38.2 0 2) - v3) then
        Model_reads_c115 F v3 r38.2
      else
        (Model_isIn F r38.2 (jw (r38.2 0 4)) (jw v1) (jw v2)).bind fun r109 =>
        if jw r109.1 = 0 then
          Model_reads_c115 F v3 r109.2
        else
          some (1, r109.2)
    else
      if jw ((r38.2 0 2) - v3) < 3 then
        (Model_byteAt F r38.2 (r38.2 0 2)).bind fun r67 =>
        let s74 : jxS := jup r67.2 0 4 (((10 * (r38.2 0 4)) + r67.1) - 48)
        Model_reads_c77 F (Model_reads_c30 F fu) v1 v2 v3 s74
      else
        Model_reads_c77 F (Model_reads_c30 F fu) v1 v2 v3 r38.2
def Model_reads (F : Nat) (σ : jxS) (v1 v2 : Int) : Option jxR :=
  (Model_next_I F σ).bind fun r1 =>
  (Model_isDigit F r1.2 r1.1).bind fun r4 =>
  if jw r4.1 = 0 then
    (Model_fails F r4.2 1 (r4.2 0 2)).bind fun r16 =>
    if r16.1 = 0 ∨ r16.1 = 1 then some (r16.1, r16.2) else none
  else
    let s27 : jxS := jup r4.2 0 4 0
    Model_reads_c30 F F v1 v2 (r4.2 0 2) s27
def jca_Model_reads (F : Nat) : jxA := fun as σ k => match as with
  | [.inr (.inr (.inl t0)), .inl v1, .inl v2] => bif Nat.beq t0 0 then (Model_reads F σ v1 v2).bind (fun r => k (some (jmi r.1)) r.2) else none
  | _ => none
def Model_readsAlso_c118 (F : Nat) (t0 t1 : Int) (σ : jxS) : Option jxR :=
  if 0 ≤ (t1 + t0) ∧ (t1 + t0) < 2197 then
    let s120 : jxS := jup σ 4 (t1 + t0) 1
    let s128 : jxS := jup s120 0 7 ((s120 0 7) + 1)
    some (1, s128)
  else none
def Model_readsAlso_c89 (F : Nat) (v1 v2 v3 : Int) (σ : jxS) : Option jxR :=
  if jw v2 < jw v3 then
    Model_readsAlso_c118 F ((13 * v2) + v3) (169 * v1) σ
  else
    Model_readsAlso_c118 F ((13 * v3) + v2) (169 * v1) σ
def Model_readsAlso (F : Nat) (σ : jxS) : Option jxR :=
  (Model_reads F σ 1 12).bind fun r4 =>
  if jw r4.1 = 0 then
    some (0, r4.2)
  else
    (Model_wordHere F r4.2).bind fun r18 =>
    if jw r18.1 = 3 then
      (Model_passWord F r18.2).bind fun r36 =>
      (Model_reads F r36.2 0 ((r4.2 0 4) - 1)).bind fun r44 =>
      if jw r44.1 = 0 then
        some (0, r44.2)
      else
        (Model_next_I F r44.2).bind fun r60 =>
        (Model_isDigit F r60.2 r60.1).bind fun r63 =>
        if jw r63.1 = 0 then
          Model_readsAlso_c89 F (r4.2 0 4) (r44.2 0 4) 0 r63.2
        else
          (Model_reads F r63.2 0 (((r4.2 0 4) - 1) - (r44.2 0 4))).bind fun r76 =>
          if jw r76.1 = 0 then
            some (0, r76.2)
          else
            Model_readsAlso_c89 F (r4.2 0 4) (r44.2 0 4) (r76.2 0 4) r76.2
    else
      (Model_fails F r18.2 1 (r18.2 0 2)).bind fun r31 =>
      if r31.1 = 0 ∨ r31.1 = 1 then some (r31.1, r31.2) else none
def jca_Model_readsAlso (F : Nat) : jxA := fun as σ k => match as with
  | [.inr (.inr (.inl t0))] => bif Nat.beq t0 0 then (Model_readsAlso F σ).bind (fun r => k (some (jmi r.1)) r.2) else none
  | _ => none
def Model_readsNever (F : Nat) (σ : jxS) : Option jxR :=
  (Model_reads F σ 1 12).bind fun r4 =>
  if jw r4.1 = 0 then
    some (0, r4.2)
  else
    (Model_reads F r4.2 1 8).bind fun r21 =>
    if jw r21.1 = 0 then
      some (0, r21.2)
    else
      if 0 ≤ ((9 * (r4.2 0 4)) + (r21.2 0 4)) ∧ ((9 * (r4.2 0 4)) + (r21.2 0 4)) < 117 then
        let s43 : jxS := jup r21.2 5 ((9 * (r4.2 0 4)) + (r21.2 0 4)) 1
        let s51 : jxS := jup s43 0 7 ((s43 0 7) + 1)
        some (1, s51)
      else none
def jca_Model_readsNever (F : Nat) : jxA := fun as σ k => match as with
  | [.inr (.inr (.inl t0))] => bif Nat.beq t0 0 then (Model_readsNever F σ).bind (fun r => k (some (jmi r.1)) r.2) else none
  | _ => none
def Model_readsLine_c52 (F : Nat) (σ : jxS) : Option jxR :=
  (Model_fails F σ 4 (σ 0 2)).bind fun r58 =>
  if r58.1 = 0 ∨ r58.1 = 1 then some (r58.1, r58.2) else none
def Model_readsLine_c49 (F : Nat) (v2 t0 t1 : Int) (σ : jxS) : Option jxR :=
  if jw t1 = jw t0 then
    (Model_passWord F σ).bind fun r63 =>
    if jw v2 = 0 then
      (Model_readsOctal F r63.2).bind fun r71 =>
      if r71.1 = 0 ∨ r71.1 = 1 then some (r71.1, r71.2) else none
    else
      if jw v2 = 1 then
        (Model_readsAlso F r63.2).bind fun r83 =>
        if r83.1 = 0 ∨ r83.1 = 1 then some (r83.1, r83.2) else none
      else
        (Model_readsNever F r63.2).bind fun r90 =>
        if r90.1 = 0 ∨ r90.1 = 1 then some (r90.1, r90.2) else none
  else
    Model_readsLine_c52 F σ
def Model_readsLine_c40 (F : Nat) (v1 v2 t0 : Int) (σ : jxS) : Option jxR :=
  if jw v1 = 0 then
    Model_readsLine_c49 F v2 1 t0 σ
  else
    Model_readsLine_c49 F v2 0 t0 σ
def Model_readsLine_c15 (F : Nat) (σ : jxS) : Option jxR :=
  (Model_fails F σ 1 (σ 0 2)).bind fun r21 =>
  if r21.1 = 0 ∨ r21.1 = 1 then some (r21.1, r21.2) else none
def Model_readsLine (F : Nat) (σ : jxS) (v1 : Int) : Option jxR :=
  (Model_wordHere F σ).bind fun r1 =>
  if jw r1.1 = (-1) then
    Model_readsLine_c15 F r1.2
  else
    if jw r1.1 = 3 then
      Model_readsLine_c15 F r1.2
    else
      if jw v1 = 16 then
        Model_readsLine_c52 F r1.2
      else
        if jw r1.1 = 0 then
          Model_readsLine_c40 F v1 r1.1 1 r1.2
        else
          Model_readsLine_c40 F v1 r1.1 0 r1.2
def jca_Model_readsLine (F : Nat) : jxA := fun as σ k => match as with
  | [.inr (.inr (.inl t0)), .inl v1] => bif Nat.beq t0 0 then (Model_readsLine F σ v1).bind (fun r => k (some (jmi r.1)) r.2) else none
  | _ => none
def Model_readsAll_c63 (F : Nat) (fu : Nat) (σ : jxS) : Option jxR := match fu with
  | 0 => none
  | fu + 1 =>
    (Model_readsLine F σ (σ 0 17)).bind fun r68 =>
    if jw r68.1 = 0 then
      some (0, r68.2)
    else
      let s83 : jxS := jup r68.2 0 17 ((r68.2 0 17) + 1)
      (Model_takesSign F s83 59).bind fun r89 =>
      if jw r89.1 = 0 then
        (Model_next_I F r89.2).bind fun r96 =>
        if jw r96.1 = (-1) then
          some (1, r96.2)
        else
          (Model_fails F r96.2 1 (r96.2 0 2)).bind fun r109 =>
          if jw r109.1 = 0 then
            some (0, r109.2)
          else
            some (1, r109.2)
      else
        (Model_readsAll_c63 F fu) r89.2
def Model_readsAll_c44 (F : Nat) (fu : Nat) (v1 : Int) (σ : jxS) : Option jxR := match fu with
  | 0 => none
  | fu + 1 =>
    if jw v1 < 117 then
      if 0 ≤ v1 ∧ v1 < 117 then
        let s56 : jxS := jup σ 5 v1 0
        (Model_readsAll_c44 F fu) (v1 + 1) s56
      else none
    else
      Model_readsAll_c63 F F σ
def Model_readsAll_c22 (F : Nat) (fu : Nat) (v1 : Int) (σ : jxS) : Option jxR := match fu with
  | 0 => none
  | fu + 1 =>
    if jw v1 < 2197 then
      if 0 ≤ v1 ∧ v1 < 2197 then
        let s35 : jxS := jup σ 4 v1 0
        (Model_readsAll_c22 F fu) (v1 + 1) s35
      else none
    else
      Model_readsAll_c44 F F 0 σ
def Model_readsAll (F : Nat) (σ : jxS) : Option jxR :=
  let s2 : jxS := jup σ 0 2 0
  let s7 : jxS := jup s2 0 6 0
  let s12 : jxS := jup s7 0 7 0
  let s17 : jxS := jup s12 0 17 0
  Model_readsAll_c22 F F 0 s17
def jca_Model_readsAll (F : Nat) : jxA := fun as σ k => match as with
  | [.inr (.inr (.inl t0))] => bif Nat.beq t0 0 then (Model_readsAll F σ).bind (fun r => k (some (jmi r.1)) r.2) else none
  | _ => none
def Model_takesNone_c2 (F : Nat) (fu : Nat) (v1 v2 : Int) (σ : jxS) : Option jxR := match fu with
  | 0 => none
  | fu + 1 =>
    if jw v2 < jw v1 then
      if 0 ≤ v2 ∧ v2 < 1024 then
        let s13 : jxS := jup σ 12 v2 0
        (Model_takesNone_c2 F fu) v1 (v2 + 1) s13
      else none
    else
      some (0, σ)
def Model_takesNone (F : Nat) (σ : jxS) (v1 : Int) : Option jxR :=
  Model_takesNone_c2 F F v1 0 σ
def jca_Model_takesNone (F : Nat) : jxA := fun as σ k => match as with
  | [.inr (.inr (.inl t0)), .inl v1] => bif Nat.beq t0 0 then (Model_takesNone F σ v1).bind (fun r => k none r.2) else none
  | _ => none
def Model_leastFree_c2 (F : Nat) (fu : Nat) (v1 : Int) (σ : jxS) : Option jxR := match fu with
  | 0 => none
  | fu + 1 =>
    if 0 ≤ v1 ∧ v1 < 1024 then
      if jw (σ 12 v1) = 0 then
        some (v1, σ)
      else
        (Model_leastFree_c2 F fu) (v1 + 1) σ
    else none
def Model_leastFree (F : Nat) (σ : jxS) : Option jxR :=
  Model_leastFree_c2 F F 0 σ
def jca_Model_leastFree (F : Nat) : jxA := fun as σ k => match as with
  | [.inr (.inr (.inl t0))] => bif Nat.beq t0 0 then (Model_leastFree F σ).bind (fun r => k (some (jmi r.1)) r.2) else none
  | _ => none
def Model_has (F : Nat) (σ : jxS) (v0 v1 : Int) : Option jxR :=
  if jw (jand (jshr v0 v1) 1) = 1 then
    some (1, σ)
  else
    some (0, σ)
def jca_Model_has (F : Nat) : jxA := fun as σ k => match as with
  | [.inl v0, .inl v1] => (Model_has F σ v0 v1).bind (fun r => k (some (jmi r.1)) r.2)
  | _ => none
def Model_laysNimbers_c201 (F : Nat) (k112 : Int → jxS → Option jxR) (k128 : Int → Int → jxS → Option jxR) (fu : Nat) (v1 v2 v3 : Int) (σ : jxS) : Option jxR := match fu with
  | 0 => none
  | fu + 1 =>
    if jw (v1 - v2) < jw (2 * v3) then
      k128 v1 (v2 + 1) σ
    else
      if 0 ≤ (v2 - 1) ∧ (v2 - 1) < 8 then
        (Model_has F σ (σ 6 (v2 - 1)) 2).bind fun r219 =>
        if jw r219.1 = 0 then
          k128 v1 (v2 + 1) r219.2
        else
          if 0 ≤ v3 ∧ v3 < 161 then
            if 0 ≤ ((v1 - v2) - v3) ∧ ((v1 - v2) - v3) < 161 then
              if 0 ≤ (jxor (r219.2 11 v3) (r219.2 11 ((v1 - v2) - v3))) ∧ (jxor (r219.2 11 v3) (r219.2 11 ((v1 - v2) - v3))) < 1024 then
                let s247 : jxS := jup r219.2 12 (jxor (r219.2 11 v3) (r219.2 11 ((v1 - v2) - v3))) 1
                (Model_laysNimbers_c201 F k112 k128 fu) v1 v2 (v3 + 1) s247
              else none
            else none
          else none
      else none
def Model_laysNimbers_c164 (F : Nat) (k112 : Int → jxS → Option jxR) (k128 : Int → Int → jxS → Option jxR) (v1 v2 : Int) (σ : jxS) : Option jxR :=
  if 0 < jw (v1 - v2) then
    if 0 ≤ (v2 - 1) ∧ (v2 - 1) < 8 then
      (Model_has F σ (σ 6 (v2 - 1)) 1).bind fun r179 =>
      if jw r179.1 = 0 then
        Model_laysNimbers_c201 F k112 k128 F v1 v2 1 r179.2
      else
        if 0 ≤ (v1 - v2) ∧ (v1 - v2) < 161 then
          if 0 ≤ (r179.2 11 (v1 - v2)) ∧ (r179.2 11 (v1 - v2)) < 1024 then
            let s198 : jxS := jup r179.2 12 (r179.2 11 (v1 - v2)) 1
            Model_laysNimbers_c201 F k112 k128 F v1 v2 1 s198
          else none
        else none
    else none
  else
    Model_laysNimbers_c201 F k112 k128 F v1 v2 1 σ
def Model_laysNimbers_c128 (F : Nat) (k112 : Int → jxS → Option jxR) (fu : Nat) (v1 v2 : Int) (σ : jxS) : Option jxR := match fu with
  | 0 => none
  | fu + 1 =>
    if jw (σ 0 11) < jw v2 then
      (Model_leastFree F σ).bind fun r266 =>
      if 0 ≤ v1 ∧ v1 < 161 then
        let s269 : jxS := jup r266.2 11 v1 r266.1
        k112 (v1 + 1) s269
      else none
    else
      if jw (v1 - v2) = 0 then
        if 0 ≤ (v2 - 1) ∧ (v2 - 1) < 8 then
          (Model_has F σ (σ 6 (v2 - 1)) 0).bind fun r151 =>
          if jw r151.1 = 0 then
            Model_laysNimbers_c164 F k112 (Model_laysNimbers_c128 F k112 fu) v1 v2 r151.2
          else
            let s163 : jxS := jup r151.2 12 0 1
            Model_laysNimbers_c164 F k112 (Model_laysNimbers_c128 F k112 fu) v1 v2 s163
        else none
      else
        Model_laysNimbers_c164 F k112 (Model_laysNimbers_c128 F k112 fu) v1 v2 σ
def Model_laysNimbers_c112 (F : Nat) (fu : Nat) (v1 : Int) (σ : jxS) : Option jxR := match fu with
  | 0 => none
  | fu + 1 =>
    if 160 < jw v1 then
      some (0, σ)
    else
      (Model_takesNone F σ 1024).bind fun r123 =>
      Model_laysNimbers_c128 F (Model_laysNimbers_c112 F fu) F v1 1 r123.2
def Model_laysNimbers_c24 (F : Nat) (k9 : Int → jxS → Option jxR) (fu : Nat) (v1 v2 : Int) (σ : jxS) : Option jxR := match fu with
  | 0 => none
  | fu + 1 =>
    if 0 ≤ v1 ∧ v1 < 13 then
      if jw v2 < jw (σ 10 v1) then
        if 0 ≤ ((64 * v1) + v2) ∧ ((64 * v1) + v2) < 832 then
          if 0 ≤ (jdiv (σ 9 ((64 * v1) + v2)) 13) ∧ (jdiv (σ 9 ((64 * v1) + v2)) 13) < 161 then
            if 0 ≤ ((64 * v1) + v2) ∧ ((64 * v1) + v2) < 832 then
              if 0 ≤ (jrem (σ 9 ((64 * v1) + v2)) 13) ∧ (jrem (σ 9 ((64 * v1) + v2)) 13) < 161 then
                if 0 ≤ (jxor (σ 11 (jdiv (σ 9 ((64 * v1) + v2)) 13)) (σ 11 (jrem (σ 9 ((64 * v1) + v2)) 13))) ∧ (jxor (σ 11 (jdiv (σ 9 ((64 * v1) + v2)) 13)) (σ 11 (jrem (σ 9 ((64 * v1) + v2)) 13))) < 1024 then
                  let s78 : jxS := jup σ 12 (jxor (σ 11 (jdiv (σ 9 ((64 * v1) + v2)) 13)) (σ 11 (jrem (σ 9 ((64 * v1) + v2)) 13))) 1
                  (Model_laysNimbers_c24 F k9 fu) v1 (v2 + 1) s78
                else none
              else none
            else none
          else none
        else none
      else
        (Model_leastFree F σ).bind fun r91 =>
        if 0 ≤ v1 ∧ v1 < 161 then
          let s94 : jxS := jup r91.2 11 v1 r91.1
          k9 (v1 + 1) s94
        else none
    else none
def Model_laysNimbers_c9 (F : Nat) (fu : Nat) (v1 : Int) (σ : jxS) : Option jxR := match fu with
  | 0 => none
  | fu + 1 =>
    if 12 < jw v1 then
      if 0 < jw (σ 0 12) then
        some (0, σ)
      else
        Model_laysNimbers_c112 F F 13 σ
    else
      (Model_takesNone F σ 1024).bind fun r19 =>
      Model_laysNimbers_c24 F (Model_laysNimbers_c9 F fu) F v1 0 r19.2
def Model_laysNimbers (F : Nat) (σ : jxS) : Option jxR :=
  let s6 : jxS := jup σ 11 0 0
  Model_laysNimbers_c9 F F 1 s6
def jca_Model_laysNimbers (F : Nat) : jxA := fun as σ k => match as with
  | [.inr (.inr (.inl t0))] => bif Nat.beq t0 0 then (Model_laysNimbers F σ).bind (fun r => k none r.2) else none
  | _ => none
def Model_isByCode_c59 (F : Nat) (t0 t1 : Int) (σ : jxS) : Option jxR :=
  if jw (jand (jshr t1 t0) 1) = 1 then
    some (1, σ)
  else
    some (0, σ)
def Model_isByCode (F : Nat) (σ : jxS) (v1 v2 v3 : Int) : Option jxR :=
  if jw (σ 0 11) < jw ((v1 - v2) - v3) then
    some (0, σ)
  else
    if 0 ≤ ((9 * v1) + ((v1 - v2) - v3)) ∧ ((9 * v1) + ((v1 - v2) - v3)) < 117 then
      if jw (σ 8 ((9 * v1) + ((v1 - v2) - v3))) = 0 then
        if 0 ≤ (((v1 - v2) - v3) - 1) ∧ (((v1 - v2) - v3) - 1) < 8 then
          if jw v3 = 0 then
            Model_isByCode_c59 F 0 (σ 6 (((v1 - v2) - v3) - 1)) σ
          else
            if jw v2 = 0 then
              Model_isByCode_c59 F 1 (σ 6 (((v1 - v2) - v3) - 1)) σ
            else
              Model_isByCode_c59 F 2 (σ 6 (((v1 - v2) - v3) - 1)) σ
        else none
      else
        some (0, σ)
    else none
def jca_Model_isByCode (F : Nat) : jxA := fun as σ k => match as with
  | [.inr (.inr (.inl t0)), .inl v1, .inl v2, .inl v3] => bif Nat.beq t0 0 then (Model_isByCode F σ v1 v2 v3).bind (fun r => k (some (jmi r.1)) r.2) else none
  | _ => none
def Model_laysMoves_c69 (F : Nat) (k2 : Int → jxS → Option jxR) (k19 : Int → Int → jxS → Option jxR) (k25 : Int → Int → Int → jxS → Option jxR) (v1 v2 v3 : Int) (σ : jxS) : Option jxR :=
  if 0 ≤ v1 ∧ v1 < 13 then
    if 0 ≤ ((64 * v1) + (σ 10 v1)) ∧ ((64 * v1) + (σ 10 v1)) < 832 then
      let s92 : jxS := jup σ 9 ((64 * v1) + (σ 10 v1)) (((13 * v3) + v2) - v3)
      if 0 ≤ v1 ∧ v1 < 13 then
        if 0 ≤ v1 ∧ v1 < 13 then
          let s102 : jxS := jup s92 10 v1 ((s92 10 v1) + 1)
          k25 v1 v2 (v3 + 1) s102
        else none
      else none
    else none
  else none
def Model_laysMoves_c25 (F : Nat) (k2 : Int → jxS → Option jxR) (k19 : Int → Int → jxS → Option jxR) (fu : Nat) (v1 v2 v3 : Int) (σ : jxS) : Option jxR := match fu with
  | 0 => none
  | fu + 1 =>
    if jw v2 < jw (2 * v3) then
      k19 v1 (v2 + (-1)) σ
    else
      (Model_isByCode F σ v1 v3 (v2 - v3)).bind fun r38 =>
      if jw r38.1 = 0 then
        if 0 ≤ ((((169 * v1) + (13 * v3)) + v2) - v3) ∧ ((((169 * v1) + (13 * v3)) + v2) - v3) < 2197 then
          if jw (r38.2 7 ((((169 * v1) + (13 * v3)) + v2) - v3)) = 0 then
            (Model_laysMoves_c25 F k2 k19 fu) v1 v2 (v3 + 1) r38.2
          else
            Model_laysMoves_c69 F k2 k19 (Model_laysMoves_c25 F k2 k19 fu) v1 v2 v3 r38.2
        else none
      else
        Model_laysMoves_c69 F k2 k19 (Model_laysMoves_c25 F k2 k19 fu) v1 v2 v3 r38.2
def Model_laysMoves_c19 (F : Nat) (k2 : Int → jxS → Option jxR) (fu : Nat) (v1 v2 : Int) (σ : jxS) : Option jxR := match fu with
  | 0 => none
  | fu + 1 =>
    if jw v2 < 0 then
      k2 (v1 + 1) σ
    else
      Model_laysMoves_c25 F k2 (Model_laysMoves_c19 F k2 fu) F v1 v2 0 σ
def Model_laysMoves_c2 (F : Nat) (fu : Nat) (v1 : Int) (σ : jxS) : Option jxR := match fu with
  | 0 => none
  | fu + 1 =>
    if 12 < jw v1 then
      (Model_laysNimbers F σ).bind fun r122 =>
      some (0, r122.2)
    else
      if 0 ≤ v1 ∧ v1 < 13 then
        let s14 : jxS := jup σ 10 v1 0
        Model_laysMoves_c19 F (Model_laysMoves_c2 F fu) F v1 (v1 - 1) s14
      else none
def Model_laysMoves (F : Nat) (σ : jxS) : Option jxR :=
  Model_laysMoves_c2 F F 1 σ
def jca_Model_laysMoves (F : Nat) : jxA := fun as σ k => match as with
  | [.inr (.inr (.inl t0))] => bif Nat.beq t0 0 then (Model_laysMoves F σ).bind (fun r => k none r.2) else none
  | _ => none
def Model_laysHeaps_c48 (F : Nat) (a2 : Nat) (k36 : Int → Int → Int → jxS → Option jxR) (fu : Nat) (v4 v5 v6 : Int) (σ : jxS) : Option jxR := match fu with
  | 0 => none
  | fu + 1 =>
    if 0 ≤ ((23 * (v6 + 1)) + v5) ∧ ((23 * (v6 + 1)) + v5) < 322 then
      if jw v4 < jw (σ 13 ((23 * (v6 + 1)) + v5)) then
        k36 v4 v5 (v6 + 1) σ
      else
        if 0 ≤ ((23 * (v6 + 1)) + v5) ∧ ((23 * (v6 + 1)) + v5) < 322 then
          if 0 ≤ v6 ∧ v6 < 13 then
            if 0 ≤ v6 ∧ v6 < 13 then
              let s102 : jxS := jup σ a2 v6 ((σ a2 v6) + 1)
              (Model_laysHeaps_c48 F a2 k36 fu) (v4 - (σ 13 ((23 * (v6 + 1)) + v5))) (v5 - v6) v6 s102
            else none
          else none
        else none
    else none
def Model_laysHeaps_c36 (F : Nat) (a2 : Nat) (fu : Nat) (v4 v5 v6 : Int) (σ : jxS) : Option jxR := match fu with
  | 0 => none
  | fu + 1 =>
    if 12 < jw v6 then
      some (0, σ)
    else
      if 0 ≤ v6 ∧ v6 < 13 then
        let s47 : jxS := jup σ a2 v6 0
        Model_laysHeaps_c48 F a2 (Model_laysHeaps_c36 F a2 fu) F v4 v5 v6 s47
      else none
def Model_laysHeaps_c2 (F : Nat) (a2 : Nat) (fu : Nat) (v1 v3 : Int) (σ : jxS) : Option jxR := match fu with
  | 0 => none
  | fu + 1 =>
    if 0 ≤ (v3 + 1) ∧ (v3 + 1) < 24 then
      if jw v1 < jw (σ 14 (v3 + 1)) then
        if 0 ≤ v3 ∧ v3 < 24 then
          Model_laysHeaps_c36 F a2 F (v1 - (σ 14 v3)) v3 1 σ
        else none
      else
        (Model_laysHeaps_c2 F a2 fu) v1 (v3 + 1) σ
    else none
def Model_laysHeaps (F : Nat) (a2 : Nat) (σ : jxS) (v1 : Int) : Option jxR :=
  Model_laysHeaps_c2 F a2 F v1 0 σ
def jids_Model_laysHeaps_a2 : List Nat := [20, 28, 29]
def jca_Model_laysHeaps (F : Nat) : jxA := fun as σ k => match as with
  | [.inr (.inr (.inl t0)), .inl v1, .inr (.inr (.inl t1))] => bif Nat.beq t0 0 then bif jin jids_Model_laysHeaps_a2 t1 then (Model_laysHeaps F t1 σ v1).bind (fun r => k none r.2) else none else none
  | _ => none
def Model_puts (F : Nat) (a0 : Nat) (σ : jxS) (v1 v2 : Int) : Option jxR :=
  if 0 < jw v1 then
    if 0 ≤ v1 ∧ v1 < 13 then
      if 0 ≤ v1 ∧ v1 < 13 then
        let s10 : jxS := jup σ a0 v1 ((σ a0 v1) + v2)
        some (0, s10)
      else none
    else none
  else
    some (0, σ)
def jids_Model_puts_a0 : List Nat := [20, 24, 26]
def jca_Model_puts (F : Nat) : jxA := fun as σ k => match as with
  | [.inr (.inr (.inl t0)), .inl v1, .inl v2] => bif jin jids_Model_puts_a0 t0 then (Model_puts F t0 σ v1 v2).bind (fun r => k none r.2) else none
  | _ => none
def Model_changes (F : Nat) (a0 : Nat) (σ : jxS) (v1 v2 v3 : Int) : Option jxR :=
  if 0 ≤ v1 ∧ v1 < 13 then
    if 0 ≤ v1 ∧ v1 < 13 then
      let s6 : jxS := jup σ a0 v1 ((σ a0 v1) - v3)
      (Model_puts F a0 s6 (jdiv v2 13) v3).bind fun r13 =>
      (Model_puts F a0 r13.2 (jrem v2 13) v3).bind fun r22 =>
      some (0, r22.2)
    else none
  else none
def jids_Model_changes_a0 : List Nat := [20, 24, 26]
def jca_Model_changes (F : Nat) : jxA := fun as σ k => match as with
  | [.inr (.inr (.inl t0)), .inl v1, .inl v2, .inl v3] => bif jin jids_Model_changes_a0 t0 then (Model_changes F t0 σ v1 v2 v3).bind (fun r => k none r.2) else none
  | _ => none
def Model_beansOf_c4 (F : Nat) (a0 : Nat) (fu : Nat) (v1 v2 : Int) (σ : jxS) : Option jxR := match fu with
  | 0 => none
  | fu + 1 =>
    if 12 < jw v2 then
      some (v1, σ)
    else
      if 0 ≤ v2 ∧ v2 < 13 then
        (Model_beansOf_c4 F a0 fu) (v1 + (v2 * (σ a0 v2))) (v2 + 1) σ
      else none
def Model_beansOf (F : Nat) (a0 : Nat) (σ : jxS) : Option jxR :=
  Model_beansOf_c4 F a0 F 0 1 σ
def jids_Model_beansOf_a0 : List Nat := [20, 24, 26, 28, 38]
def jca_Model_beansOf (F : Nat) : jxA := fun as σ k => match as with
  | [.inr (.inr (.inl t0))] => bif jin jids_Model_beansOf_a0 t0 then (Model_beansOf F t0 σ).bind (fun r => k (some (jmi r.1)) r.2) else none
  | _ => none
def Model_numberOf_c25 (F : Nat) (a1 : Nat) (k15 : Int → Int → Int → jxS → Option jxR) (fu : Nat) (v2 v3 v4 v5 : Int) (σ : jxS) : Option jxR := match fu with
  | 0 => none
  | fu + 1 =>
    if 0 ≤ v4 ∧ v4 < 13 then
      if jw v5 < jw (σ a1 v4) then
        if 0 ≤ (((23 * (v4 + 1)) + v2) - (v5 * v4)) ∧ (((23 * (v4 + 1)) + v2) - (v5 * v4)) < 322 then
          (Model_numberOf_c25 F a1 k15 fu) v2 (v3 + (σ 13 (((23 * (v4 + 1)) + v2) - (v5 * v4)))) v4 (v5 + 1) σ
        else none
      else
        if 0 ≤ v4 ∧ v4 < 13 then
          k15 (v2 - (v4 * (σ a1 v4))) v3 (v4 + 1) σ
        else none
    else none
def Model_numberOf_c15 (F : Nat) (a1 : Nat) (fu : Nat) (v2 v3 v4 : Int) (σ : jxS) : Option jxR := match fu with
  | 0 => none
  | fu + 1 =>
    if 12 < jw v4 then
      some (v3, σ)
    else
      Model_numberOf_c25 F a1 (Model_numberOf_c15 F a1 fu) F v2 v3 v4 0 σ
def Model_numberOf (F : Nat) (a1 : Nat) (σ : jxS) : Option jxR :=
  (Model_beansOf F a1 σ).bind fun r1 =>
  if 0 ≤ r1.1 ∧ r1.1 < 24 then
    Model_numberOf_c15 F a1 F r1.1 (r1.2 14 r1.1) 1 r1.2
  else none
def jids_Model_numberOf_a1 : List Nat := [20, 24, 26, 28, 38]
def jca_Model_numberOf (F : Nat) : jxA := fun as σ k => match as with
  | [.inr (.inr (.inl t0)), .inr (.inr (.inl t1))] => bif Nat.beq t0 0 then bif jin jids_Model_numberOf_a1 t1 then (Model_numberOf F t1 σ).bind (fun r => k (some (jmi r.1)) r.2) else none else none
  | _ => none
def Model_behind (F : Nat) (a1 : Nat) (σ : jxS) (v2 v3 : Int) : Option jxR :=
  (Model_changes F a1 σ v2 v3 1).bind fun r4 =>
  (Model_numberOf F a1 r4.2).bind fun r9 =>
  (Model_changes F a1 r9.2 v2 v3 (-1)).bind fun r18 =>
  some (r9.1, r18.2)
def jids_Model_behind_a1 : List Nat := [20, 24, 26]
def jca_Model_behind (F : Nat) : jxA := fun as σ k => match as with
  | [.inr (.inr (.inl t0)), .inr (.inr (.inl t1)), .inl v2, .inl v3] => bif Nat.beq t0 0 then bif jin jids_Model_behind_a1 t1 then (Model_behind F t1 σ v2 v3).bind (fun r => k (some (jmi r.1)) r.2) else none else none
  | _ => none
def Model_gathersBehind_c15 (F : Nat) (k7 : Int → jxS → Option jxR) (fu : Nat) (v1 v2 : Int) (σ : jxS) : Option jxR := match fu with
  | 0 => none
  | fu + 1 =>
    if 0 ≤ v1 ∧ v1 < 13 then
      if jw v2 < jw (σ 10 v1) then
        if 0 ≤ v1 ∧ v1 < 13 then
          if 0 < jw (σ 20 v1) then
            if 0 ≤ ((64 * v1) + v2) ∧ ((64 * v1) + v2) < 832 then
              (Model_behind F 20 σ v1 (σ 9 ((64 * v1) + v2))).bind fun r59 =>
              if 0 ≤ (σ 0 32) ∧ (σ 0 32) < 512 then
                let s62 : jxS := jup r59.2 21 (σ 0 32) r59.1
                let s70 : jxS := jup s62 0 32 ((s62 0 32) + 1)
                (Model_gathersBehind_c15 F k7 fu) v1 (v2 + 1) s70
              else none
            else none
          else
            k7 (v1 + 1) σ
        else none
      else
        k7 (v1 + 1) σ
    else none
def Model_gathersBehind_c7 (F : Nat) (fu : Nat) (v1 : Int) (σ : jxS) : Option jxR := match fu with
  | 0 => none
  | fu + 1 =>
    if 12 < jw v1 then
      some (0, σ)
    else
      Model_gathersBehind_c15 F (Model_gathersBehind_c7 F fu) F v1 0 σ
def Model_gathersBehind (F : Nat) (σ : jxS) : Option jxR :=
  let s2 : jxS := jup σ 0 32 0
  Model_gathersBehind_c7 F F 1 s2
def jca_Model_gathersBehind (F : Nat) : jxA := fun as σ k => match as with
  | [.inr (.inr (.inl t0))] => bif Nat.beq t0 0 then (Model_gathersBehind F σ).bind (fun r => k none r.2) else none
  | _ => none
def Model_laysOne_c247 (F : Nat) (v1 v5 v7 t0 t1 : Int) (σ : jxS) : Option jxR :=
  if 0 ≤ t1 ∧ t1 < 4600 then
    let s247 : jxS := jup σ 17 t1 t0
    if jw v7 = 0 then
      if 0 ≤ v1 ∧ v1 < 4600 then
        let s266 : jxS := jup s247 18 v1 0
        some (0, s266)
      else none
    else
      if 0 ≤ v1 ∧ v1 < 4600 then
        let s266 : jxS := jup s247 18 v1 (1 + v5)
        some (0, s266)
      else none
  else none
def Model_laysOne_c228 (F : Nat) (v1 v4 v5 v7 t0 t1 : Int) (σ : jxS) : Option jxR :=
  if 0 ≤ t1 ∧ t1 < 4600 then
    let s228 : jxS := jup σ 16 t1 t0
    if jw v7 = 0 then
      Model_laysOne_c247 F v1 v5 v7 0 v1 s228
    else
      Model_laysOne_c247 F v1 v5 v7 (1 + v4) v1 s228
  else none
def Model_laysOne_c227 (F : Nat) (v1 v4 v5 v7 t0 t1 t2 : Int) (σ : jxS) : Option jxR :=
  Model_laysOne_c228 F v1 v4 v5 v7 (t1 + t0) t2 σ
def Model_laysOne_c201 (F : Nat) (v1 v2 v3 v4 v5 v6 v7 t0 t1 : Int) (σ : jxS) : Option jxR :=
  if 0 ≤ t1 ∧ t1 < 4600 then
    let s201 : jxS := jup σ 15 t1 (t0 % 2)
    if jw v7 = 0 then
      Model_laysOne_c228 F v1 v4 v5 v7 0 v1 s201
    else
      if jw v6 = 0 then
        Model_laysOne_c227 F v1 v4 v5 v7 v3 1 v1 s201
      else
        Model_laysOne_c227 F v1 v4 v5 v7 v2 1 v1 s201
  else none
def Model_laysOne_c200 (F : Nat) (v1 v2 v3 v4 v5 v6 v7 t0 : Int) (σ : jxS) : Option jxR :=
  Model_laysOne_c201 F v1 v2 v3 v4 v5 v6 v7 0 t0 σ
def Model_laysOne_c179 (F : Nat) (v1 v2 v3 v4 v5 v6 t0 : Int) (σ : jxS) : Option jxR :=
  if jw t0 = 0 then
    Model_laysOne_c200 F v1 v2 v3 v4 v5 v6 t0 v1 σ
  else
    if jw v6 = 0 then
      Model_laysOne_c201 F v1 v2 v3 v4 v5 v6 t0 1 v1 σ
    else
      Model_laysOne_c200 F v1 v2 v3 v4 v5 v6 t0 v1 σ
def Model_laysOne_c152 (F : Nat) (k16 : Int → Int → Int → Int → Int → Int → Int → jxS → Option jxR) (v1 v2 v3 v4 v6 v7 v8 : Int) (σ : jxS) : Option jxR :=
  if 0 ≤ v8 ∧ v8 < 4600 then
    k16 v1 v2 v3 v4 (σ 18 v8) v6 (v7 + 1) σ
  else none
def Model_laysOne_c135 (F : Nat) (k16 : Int → Int → Int → Int → Int → Int → Int → jxS → Option jxR) (v1 v2 v3 v4 v5 v6 v7 v8 : Int) (σ : jxS) : Option jxR :=
  if jw v7 = 0 then
    Model_laysOne_c152 F k16 v1 v2 v3 v4 v6 v7 v8 σ
  else
    if 0 ≤ v8 ∧ v8 < 4600 then
      if jw v5 < jw (σ 18 v8) then
        Model_laysOne_c152 F k16 v1 v2 v3 v4 v6 v7 v8 σ
      else
        k16 v1 v2 v3 v4 v5 v6 (v7 + 1) σ
    else none
def Model_laysOne_c126 (F : Nat) (k16 : Int → Int → Int → Int → Int → Int → Int → jxS → Option jxR) (v1 v2 v3 v5 v6 v7 v8 : Int) (σ : jxS) : Option jxR :=
  if 0 ≤ v8 ∧ v8 < 4600 then
    Model_laysOne_c135 F k16 v1 v2 v3 (σ 17 v8) v5 v6 v7 v8 σ
  else none
def Model_laysOne_c109 (F : Nat) (k16 : Int → Int → Int → Int → Int → Int → Int → jxS → Option jxR) (v1 v2 v3 v4 v5 v6 v7 v8 : Int) (σ : jxS) : Option jxR :=
  if jw v7 = 0 then
    Model_laysOne_c126 F k16 v1 v2 v3 v5 v6 v7 v8 σ
  else
    if 0 ≤ v8 ∧ v8 < 4600 then
      if jw (σ 17 v8) < jw v4 then
        Model_laysOne_c126 F k16 v1 v2 v3 v5 v6 v7 v8 σ
      else
        Model_laysOne_c135 F k16 v1 v2 v3 v4 v5 v6 v7 v8 σ
    else none
def Model_laysOne_c88 (F : Nat) (k16 : Int → Int → Int → Int → Int → Int → Int → jxS → Option jxR) (v1 v2 v3 v4 v5 v7 v8 t0 : Int) (σ : jxS) : Option jxR :=
  if 0 ≤ v8 ∧ v8 < 4600 then
    if jw v3 < jw (σ 16 v8) then
      if 0 ≤ v8 ∧ v8 < 4600 then
        Model_laysOne_c109 F k16 v1 v2 (σ 16 v8) v4 v5 t0 v7 v8 σ
      else none
    else
      Model_laysOne_c109 F k16 v1 v2 v3 v4 v5 t0 v7 v8 σ
  else none
def Model_laysOne_c83 (F : Nat) (k16 : Int → Int → Int → Int → Int → Int → Int → jxS → Option jxR) (v1 v2 v3 v4 v5 v7 v8 : Int) (σ : jxS) : Option jxR :=
  Model_laysOne_c88 F k16 v1 v2 v3 v4 v5 v7 v8 1 σ
def Model_laysOne_c68 (F : Nat) (k16 : Int → Int → Int → Int → Int → Int → Int → jxS → Option jxR) (v1 v2 v3 v4 v5 v6 v7 v8 : Int) (σ : jxS) : Option jxR :=
  if jw v6 = 0 then
    if 0 ≤ v8 ∧ v8 < 4600 then
      if jw (σ 15 v8) = 0 then
        Model_laysOne_c88 F k16 v1 v2 v3 v4 v5 v7 v8 0 σ
      else
        Model_laysOne_c83 F k16 v1 v2 v3 v4 v5 v7 v8 σ
    else none
  else
    Model_laysOne_c83 F k16 v1 v2 v3 v4 v5 v7 v8 σ
def Model_laysOne_c60 (F : Nat) (k16 : Int → Int → Int → Int → Int → Int → Int → jxS → Option jxR) (v1 v3 v4 v5 v6 v7 v8 : Int) (σ : jxS) : Option jxR :=
  if 0 ≤ v8 ∧ v8 < 4600 then
    Model_laysOne_c68 F k16 v1 (σ 16 v8) v3 v4 v5 v6 v7 v8 σ
  else none
def Model_laysOne_c16 (F : Nat) (fu : Nat) (v1 v2 v3 v4 v5 v6 v7 : Int) (σ : jxS) : Option jxR := match fu with
  | 0 => none
  | fu + 1 =>
    if jw v7 < jw (σ 0 32) then
      if 0 ≤ v7 ∧ v7 < 512 then
        if 0 ≤ (σ 21 v7) ∧ (σ 21 v7) < 4600 then
          if jw (σ 15 (σ 21 v7)) = 0 then
            Model_laysOne_c68 F (Model_laysOne_c16 F fu) v1 v2 v3 v4 v5 v6 v7 (σ 21 v7) σ
          else
            if jw v6 = 0 then
              Model_laysOne_c60 F (Model_laysOne_c16 F fu) v1 v3 v4 v5 v6 v7 (σ 21 v7) σ
            else
              if 0 ≤ (σ 21 v7) ∧ (σ 21 v7) < 4600 then
                if jw (σ 16 (σ 21 v7)) < jw v2 then
                  Model_laysOne_c60 F (Model_laysOne_c16 F fu) v1 v3 v4 v5 v6 v7 (σ 21 v7) σ
                else
                  Model_laysOne_c68 F (Model_laysOne_c16 F fu) v1 v2 v3 v4 v5 v6 v7 (σ 21 v7) σ
              else none
        else none
      else none
    else
      if 0 < jw (σ 0 32) then
        Model_laysOne_c179 F v1 v2 v3 v4 v5 v6 1 σ
      else
        Model_laysOne_c179 F v1 v2 v3 v4 v5 v6 0 σ
def Model_laysOne (F : Nat) (σ : jxS) (v1 : Int) : Option jxR :=
  Model_laysOne_c16 F F v1 0 0 0 0 0 0 σ
def jca_Model_laysOne (F : Nat) : jxA := fun as σ k => match as with
  | [.inr (.inr (.inl t0)), .inl v1] => bif Nat.beq t0 0 then (Model_laysOne F σ v1).bind (fun r => k none r.2) else none
  | _ => none
def Model_laysBack_c53 (F : Nat) (fu : Nat) (v1 v2 v3 : Int) (σ : jxS) : Option jxR := match fu with
  | 0 => none
  | fu + 1 =>
    if jw v3 < jw (σ 0 32) then
      if 0 ≤ v3 ∧ v3 < 512 then
        if 0 ≤ ((6 * (σ 21 v3)) + v2) ∧ ((6 * (σ 21 v3)) + v2) < 27600 then
          if 0 ≤ (σ 19 ((6 * (σ 21 v3)) + v2)) ∧ (σ 19 ((6 * (σ 21 v3)) + v2)) < 1024 then
            let s82 : jxS := jup σ 12 (σ 19 ((6 * (σ 21 v3)) + v2)) 1
            (Model_laysBack_c53 F fu) v1 v2 (v3 + 1) s82
          else none
        else none
      else none
    else
      if 0 ≤ v2 ∧ v2 < 6 then
        if 0 < jw ((σ 0 32) + (σ 22 v2)) then
          (Model_leastFree F σ).bind fun r114 =>
          if 0 ≤ ((6 * v1) + v2) ∧ ((6 * v1) + v2) < 27600 then
            let s121 : jxS := jup r114.2 19 ((6 * v1) + v2) r114.1
            some (0, s121)
          else none
        else
          if 0 ≤ ((6 * v1) + v2) ∧ ((6 * v1) + v2) < 27600 then
            let s121 : jxS := jup σ 19 ((6 * v1) + v2) 1
            some (0, s121)
          else none
      else none
def Model_laysBack_c9 (F : Nat) (fu : Nat) (v1 v2 v3 : Int) (σ : jxS) : Option jxR := match fu with
  | 0 => none
  | fu + 1 =>
    if 0 ≤ v2 ∧ v2 < 6 then
      if jw v3 < jw (σ 22 v2) then
        if 0 ≤ ((3 * v2) + v3) ∧ ((3 * v2) + v3) < 18 then
          if 0 ≤ ((6 * v1) + (σ 23 ((3 * v2) + v3))) ∧ ((6 * v1) + (σ 23 ((3 * v2) + v3))) < 27600 then
            if 0 ≤ (σ 19 ((6 * v1) + (σ 23 ((3 * v2) + v3)))) ∧ (σ 19 ((6 * v1) + (σ 23 ((3 * v2) + v3)))) < 1024 then
              let s44 : jxS := jup σ 12 (σ 19 ((6 * v1) + (σ 23 ((3 * v2) + v3)))) 1
              (Model_laysBack_c9 F fu) v1 v2 (v3 + 1) s44
            else none
          else none
        else none
      else
        Model_laysBack_c53 F F v1 v2 0 σ
    else none
def Model_laysBack (F : Nat) (σ : jxS) (v1 v2 : Int) : Option jxR :=
  (Model_takesNone F σ 256).bind fun r4 =>
  Model_laysBack_c9 F F v1 v2 0 r4.2
def jca_Model_laysBack (F : Nat) : jxA := fun as σ k => match as with
  | [.inr (.inr (.inl t0)), .inl v1, .inl v2] => bif Nat.beq t0 0 then (Model_laysBack F σ v1 v2).bind (fun r => k none r.2) else none
  | _ => none
def Model_laysPositions_c30 (F : Nat) (k2 : Int → jxS → Option jxR) (fu : Nat) (v1 v2 : Int) (σ : jxS) : Option jxR := match fu with
  | 0 => none
  | fu + 1 =>
    if jw v2 < 6 then
      (Model_laysBack F σ v1 v2).bind fun r39 =>
      (Model_laysPositions_c30 F k2 fu) v1 (v2 + 1) r39.2
    else
      k2 (v1 + 1) σ
def Model_laysPositions_c2 (F : Nat) (fu : Nat) (v1 : Int) (σ : jxS) : Option jxR := match fu with
  | 0 => none
  | fu + 1 =>
    if jw v1 < jw (σ 0 24) then
      (Model_laysHeaps F 20 σ v1).bind fun r16 =>
      (Model_gathersBehind F r16.2).bind fun r20 =>
      (Model_laysOne F r20.2 v1).bind fun r25 =>
      Model_laysPositions_c30 F (Model_laysPositions_c2 F fu) F v1 0 r25.2
    else
      some (0, σ)
def Model_laysPositions (F : Nat) (σ : jxS) : Option jxR :=
  Model_laysPositions_c2 F F 0 σ
def jca_Model_laysPositions (F : Nat) : jxA := fun as σ k => match as with
  | [.inr (.inr (.inl t0))] => bif Nat.beq t0 0 then (Model_laysPositions F σ).bind (fun r => k none r.2) else none
  | _ => none
def Model_game_c163 (F : Nat) (fu : Nat) (v2 : Int) (σ : jxS) : Option jxR := match fu with
  | 0 => none
  | fu + 1 =>
    if 6 < jw v2 then
      some ((σ 0 17), σ)
    else
      if 0 ≤ v2 ∧ v2 < 7 then
        let s175 : jxS := jup σ 30 v2 0
        (Model_game_c163 F fu) (v2 + 1) s175
      else none
def Model_game_c124 (F : Nat) (fu : Nat) (v2 : Int) (σ : jxS) : Option jxR := match fu with
  | 0 => none
  | fu + 1 =>
    if jw v2 < 13 then
      if 0 ≤ v2 ∧ v2 < 13 then
        let s136 : jxS := jup σ 24 v2 0
        (Model_game_c124 F fu) (v2 + 1) s136
      else none
    else
      let s145 : jxS := jup σ 0 40 0
      let s150 : jxS := jup s145 0 37 0
      (Model_laysMoves F s150).bind fun r154 =>
      (Model_laysPositions F r154.2).bind fun r158 =>
      Model_game_c163 F F 1 r158.2
def Model_game_c98 (F : Nat) (fu : Nat) (v2 : Int) (σ : jxS) : Option jxR := match fu with
  | 0 => none
  | fu + 1 =>
    if jw v2 < 117 then
      if 0 ≤ v2 ∧ v2 < 117 then
        if 0 ≤ v2 ∧ v2 < 117 then
          let s115 : jxS := jup σ 8 v2 ((σ 5 v2) % 2)
          (Model_game_c98 F fu) (v2 + 1) s115
        else none
      else none
    else
      Model_game_c124 F F 0 σ
def Model_game_c71 (F : Nat) (fu : Nat) (v2 : Int) (σ : jxS) : Option jxR := match fu with
  | 0 => none
  | fu + 1 =>
    if jw v2 < 2197 then
      if 0 ≤ v2 ∧ v2 < 2197 then
        if 0 ≤ v2 ∧ v2 < 2197 then
          let s89 : jxS := jup σ 7 v2 ((σ 4 v2) % 2)
          (Model_game_c71 F fu) (v2 + 1) s89
        else none
      else none
    else
      Model_game_c98 F F 0 σ
def Model_game_c45 (F : Nat) (fu : Nat) (v2 : Int) (σ : jxS) : Option jxR := match fu with
  | 0 => none
  | fu + 1 =>
    if jw v2 < 8 then
      if 0 ≤ v2 ∧ v2 < 8 then
        if 0 ≤ v2 ∧ v2 < 8 then
          let s62 : jxS := jup σ 6 v2 (σ 3 v2)
          (Model_game_c45 F fu) (v2 + 1) s62
        else none
      else none
    else
      Model_game_c71 F F 0 σ
def Model_game (F : Nat) (σ : jxS) : Option jxR :=
  (Model_readsAll F σ).bind fun r1 =>
  let s7 : jxS := jup r1.2 0 1 0
  if jw r1.1 = 0 then
    some (((-2) - (s7 0 3)), s7)
  else
    let s24 : jxS := jup s7 0 13 1
    let s32 : jxS := jup s24 0 11 (s24 0 6)
    let s40 : jxS := jup s32 0 12 (s32 0 7)
    Model_game_c45 F F 0 s40
def jca_Model_game (F : Nat) : jxA := fun as σ k => match as with
  | [.inr (.inr (.inl t0))] => bif Nat.beq t0 0 then (Model_game F σ).bind (fun r => k (some (jmi r.1)) r.2) else none
  | _ => none
def Model_isHeap (F : Nat) (σ : jxS) (v1 : Int) : Option jxR :=
  if jw (σ 0 13) = 0 then
    some (0, σ)
  else
    (Model_isIn F σ (jw v1) 1 12).bind fun r13 =>
    if jw r13.1 = 0 then
      some (0, r13.2)
    else
      some (1, r13.2)
def jca_Model_isHeap (F : Nat) : jxA := fun as σ k => match as with
  | [.inr (.inr (.inl t0)), .inl v1] => bif Nat.beq t0 0 then (Model_isHeap F σ v1).bind (fun r => k (some (jmi r.1)) r.2) else none
  | _ => none
def Model_moves (F : Nat) (σ : jxS) (v1 : Int) : Option jxR :=
  (Model_isHeap F σ v1).bind fun r2 =>
  if jw r2.1 = 0 then
    some ((-1), r2.2)
  else
    if 0 ≤ v1 ∧ v1 < 13 then
      some ((r2.2 10 v1), r2.2)
    else none
def jca_Model_moves (F : Nat) : jxA := fun as σ k => match as with
  | [.inr (.inr (.inl t0)), .inl v1] => bif Nat.beq t0 0 then (Model_moves F σ v1).bind (fun r => k (some (jmi r.1)) r.2) else none
  | _ => none
def Model_option (F : Nat) (σ : jxS) (v1 v2 v3 : Int) : Option jxR :=
  (Model_isHeap F σ v1).bind fun r2 =>
  if jw r2.1 = 0 then
    some ((-1), r2.2)
  else
    if 0 ≤ v1 ∧ v1 < 13 then
      (Model_isIn F r2.2 (jw v2) 0 (jw ((r2.2 10 v1) - 1))).bind fun r20 =>
      if jw r20.1 = 0 then
        some ((-1), r20.2)
      else
        (Model_isIn F r20.2 (jw v3) 0 1).bind fun r30 =>
        if jw r30.1 = 0 then
          some ((-1), r30.2)
        else
          if jw v3 = 0 then
            if 0 ≤ ((64 * v1) + v2) ∧ ((64 * v1) + v2) < 832 then
              some ((jdiv (r30.2 9 ((64 * v1) + v2)) 13), r30.2)
            else none
          else
            if 0 ≤ ((64 * v1) + v2) ∧ ((64 * v1) + v2) < 832 then
              some ((jrem (r30.2 9 ((64 * v1) + v2)) 13), r30.2)
            else none
    else none
def jca_Model_option (F : Nat) : jxA := fun as σ k => match as with
  | [.inr (.inr (.inl t0)), .inl v1, .inl v2, .inl v3] => bif Nat.beq t0 0 then (Model_option F σ v1 v2 v3).bind (fun r => k (some (jmi r.1)) r.2) else none
  | _ => none
def Model_nimber (F : Nat) (σ : jxS) (v1 : Int) : Option jxR :=
  (Model_isHeap F σ v1).bind fun r2 =>
  if jw r2.1 = 0 then
    some ((-1), r2.2)
  else
    if 0 ≤ v1 ∧ v1 < 161 then
      some ((r2.2 11 v1), r2.2)
    else none
def jca_Model_nimber (F : Nat) : jxA := fun as σ k => match as with
  | [.inr (.inr (.inl t0)), .inl v1] => bif Nat.beq t0 0 then (Model_nimber F σ v1).bind (fun r => k (some (jmi r.1)) r.2) else none
  | _ => none
def Model_isPeriod_c2 (F : Nat) (fu : Nat) (v1 v2 v3 : Int) (σ : jxS) : Option jxR := match fu with
  | 0 => none
  | fu + 1 =>
    if jw v3 < jw (((2 * v2) + v1) + (σ 0 11)) then
      if 0 ≤ (v3 + v1) ∧ (v3 + v1) < 161 then
        if 0 ≤ v3 ∧ v3 < 161 then
          if jw (σ 11 (v3 + v1)) = jw (σ 11 v3) then
            (Model_isPeriod_c2 F fu) v1 v2 (v3 + 1) σ
          else
            some (0, σ)
        else none
      else none
    else
      some (1, σ)
def Model_isPeriod (F : Nat) (σ : jxS) (v1 v2 : Int) : Option jxR :=
  Model_isPeriod_c2 F F v1 v2 v2 σ
def jca_Model_isPeriod (F : Nat) : jxA := fun as σ k => match as with
  | [.inr (.inr (.inl t0)), .inl v1, .inl v2] => bif Nat.beq t0 0 then (Model_isPeriod F σ v1 v2).bind (fun r => k (some (jmi r.1)) r.2) else none
  | _ => none
def Model_period_c49 (F : Nat) (k31 : Int → Int → jxS → Option jxR) (fu : Nat) (v1 v2 v3 : Int) (σ : jxS) : Option jxR := match fu with
  | 0 => none
  | fu + 1 =>
    if 160 < jw (((2 * v3) + (2 * v2)) + (σ 0 11)) then
      k31 v1 (v2 + 1) σ
    else
      (Model_isPeriod F σ v2 v3).bind fun r70 =>
      if jw r70.1 = 0 then
        (Model_period_c49 F k31 fu) v1 v2 (v3 + 1) r70.2
      else
        if jw v1 = 0 then
          some (v2, r70.2)
        else
          some (v3, r70.2)
def Model_period_c31 (F : Nat) (fu : Nat) (v1 v2 : Int) (σ : jxS) : Option jxR := match fu with
  | 0 => none
  | fu + 1 =>
    if 160 < jw ((2 + (2 * v2)) + (σ 0 11)) then
      some ((-2), σ)
    else
      Model_period_c49 F (Model_period_c31 F fu) F v1 v2 1 σ
def Model_period (F : Nat) (σ : jxS) (v1 : Int) : Option jxR :=
  if jw (σ 0 13) = 0 then
    some ((-1), σ)
  else
    (Model_isIn F σ (jw v1) 0 1).bind fun r11 =>
    if jw r11.1 = 0 then
      some ((-1), r11.2)
    else
      if 0 < jw (r11.2 0 12) then
        some ((-3), r11.2)
      else
        Model_period_c31 F F v1 1 r11.2
def jca_Model_period (F : Nat) : jxA := fun as σ k => match as with
  | [.inr (.inr (.inl t0)), .inl v1] => bif Nat.beq t0 0 then (Model_period F σ v1).bind (fun r => k (some (jmi r.1)) r.2) else none
  | _ => none
def Model_nimberOfHeaps_c4 (F : Nat) (a1 : Nat) (fu : Nat) (v2 v3 : Int) (σ : jxS) : Option jxR := match fu with
  | 0 => none
  | fu + 1 =>
    if 12 < jw v3 then
      some (v2, σ)
    else
      if 0 ≤ v3 ∧ v3 < 13 then
        if jw (jrem (σ a1 v3) 2) = 1 then
          if 0 ≤ v3 ∧ v3 < 161 then
            (Model_nimberOfHeaps_c4 F a1 fu) (jxor v2 (σ 11 v3)) (v3 + 1) σ
          else none
        else
          (Model_nimberOfHeaps_c4 F a1 fu) (jxor v2 0) (v3 + 1) σ
      else none
def Model_nimberOfHeaps (F : Nat) (a1 : Nat) (σ : jxS) : Option jxR :=
  Model_nimberOfHeaps_c4 F a1 F 0 1 σ
def jids_Model_nimberOfHeaps_a1 : List Nat := [20, 24]
def jca_Model_nimberOfHeaps (F : Nat) : jxA := fun as σ k => match as with
  | [.inr (.inr (.inl t0)), .inr (.inr (.inl t1))] => bif Nat.beq t0 0 then bif jin jids_Model_nimberOfHeaps_a1 t1 then (Model_nimberOfHeaps F t1 σ).bind (fun r => k (some (jmi r.1)) r.2) else none else none
  | _ => none
def Model_isLikeNim_c74 (F : Nat) (a2 : Nat) (t0 t1 : Int) (σ : jxS) : Option jxR :=
  if jw t1 = jw t0 then
    some (1, σ)
  else
    some (0, σ)
def Model_isLikeNim_c66 (F : Nat) (a2 : Nat) (t0 t1 t2 : Int) (σ : jxS) : Option jxR :=
  if jw t1 = jw t0 then
    Model_isLikeNim_c74 F a2 1 t2 σ
  else
    Model_isLikeNim_c74 F a2 0 t2 σ
def Model_isLikeNim_c5 (F : Nat) (a2 : Nat) (fu : Nat) (v1 v3 v4 : Int) (σ : jxS) : Option jxR := match fu with
  | 0 => none
  | fu + 1 =>
    if 12 < jw v4 then
      if 0 ≤ v1 ∧ v1 < 4600 then
        (Model_nimberOfHeaps F a2 σ).bind fun r54 =>
        if jw v3 = 0 then
          Model_isLikeNim_c66 F a2 0 r54.1 (σ 15 v1) r54.2
        else
          Model_isLikeNim_c66 F a2 1 r54.1 (σ 15 v1) r54.2
      else none
    else
      if jw v3 = 0 then
        (Model_isLikeNim_c5 F a2 fu) v1 0 (v4 + 1) σ
      else
        if 0 ≤ v4 ∧ v4 < 13 then
          if jw (σ a2 v4) = 0 then
            (Model_isLikeNim_c5 F a2 fu) v1 1 (v4 + 1) σ
          else
            if 0 ≤ v4 ∧ v4 < 161 then
              if jw (σ 11 v4) < 2 then
                (Model_isLikeNim_c5 F a2 fu) v1 1 (v4 + 1) σ
              else
                (Model_isLikeNim_c5 F a2 fu) v1 0 (v4 + 1) σ
            else none
        else none
def Model_isLikeNim (F : Nat) (a2 : Nat) (σ : jxS) (v1 : Int) : Option jxR :=
  Model_isLikeNim_c5 F a2 F v1 1 1 σ
def jids_Model_isLikeNim_a2 : List Nat := [20, 24]
def jca_Model_isLikeNim (F : Nat) : jxA := fun as σ k => match as with
  | [.inr (.inr (.inl t0)), .inl v1, .inr (.inr (.inl t1))] => bif Nat.beq t0 0 then bif jin jids_Model_isLikeNim_a2 t1 then (Model_isLikeNim F t1 σ v1).bind (fun r => k (some (jmi r.1)) r.2) else none else none
  | _ => none
def Model_genusOf (F : Nat) (σ : jxS) (v1 v2 : Int) : Option jxR :=
  if jw v2 = 0 then
    if 0 ≤ ((6 * v1) + 0) ∧ ((6 * v1) + 0) < 27600 then
      some ((σ 19 ((6 * v1) + 0)), σ)
    else none
  else
    if jw v2 = 1 then
      if 0 ≤ ((6 * v1) + 3) ∧ ((6 * v1) + 3) < 27600 then
        some ((σ 19 ((6 * v1) + 3)), σ)
      else none
    else
      if 0 ≤ ((6 * v1) + 5) ∧ ((6 * v1) + 5) < 27600 then
        some ((σ 19 ((6 * v1) + 5)), σ)
      else none
def jca_Model_genusOf (F : Nat) : jxA := fun as σ k => match as with
  | [.inr (.inr (.inl t0)), .inl v1, .inl v2] => bif Nat.beq t0 0 then (Model_genusOf F σ v1 v2).bind (fun r => k (some (jmi r.1)) r.2) else none
  | _ => none
def Model_isTame_c62 (F : Nat) (v2 v3 v4 v5 : Int) (σ : jxS) : Option jxR :=
  if jw v2 = 1 then
    if jw v3 = 0 then
      if jw v4 = 3 then
        if jw v5 = 1 then
          some (1, σ)
        else
          some (0, σ)
      else
        some (0, σ)
    else
      some (0, σ)
  else
    some (0, σ)
def Model_isTame_c42 (F : Nat) (v2 v3 v4 v5 : Int) (σ : jxS) : Option jxR :=
  if jw v2 = 0 then
    if jw v3 = 1 then
      if jw v4 = 2 then
        if jw v5 = 0 then
          some (1, σ)
        else
          Model_isTame_c62 F v2 v3 v4 v5 σ
      else
        Model_isTame_c62 F v2 v3 v4 v5 σ
    else
      Model_isTame_c62 F v2 v3 v4 v5 σ
  else
    Model_isTame_c62 F v2 v3 v4 v5 σ
def Model_isTame (F : Nat) (σ : jxS) (v1 v2 : Int) : Option jxR :=
  (Model_genusOf F σ v1 0).bind fun r3 =>
  (Model_genusOf F r3.2 v1 1).bind fun r10 =>
  (Model_genusOf F r10.2 v1 2).bind fun r18 =>
  if jw r3.1 = jw v2 then
    if jw r10.1 = jw (jxor v2 2) then
      if jw r18.1 = jw v2 then
        some (1, r18.2)
      else
        Model_isTame_c42 F v2 r3.1 r10.1 r18.1 r18.2
    else
      Model_isTame_c42 F v2 r3.1 r10.1 r18.1 r18.2
  else
    Model_isTame_c42 F v2 r3.1 r10.1 r18.1 r18.2
def jca_Model_isTame (F : Nat) : jxA := fun as σ k => match as with
  | [.inr (.inr (.inl t0)), .inl v1, .inl v2] => bif Nat.beq t0 0 then (Model_isTame F σ v1 v2).bind (fun r => k (some (jmi r.1)) r.2) else none
  | _ => none
def Model_firstOdd_c2 (F : Nat) (fu : Nat) (v1 v2 : Int) (σ : jxS) : Option jxR := match fu with
  | 0 => none
  | fu + 1 =>
    if jw v2 < jw (σ 14 13) then
      (Model_laysHeaps F 20 σ v2).bind fun r19 =>
      if jw v1 = 0 then
        (Model_isLikeNim F 20 r19.2 v2).bind fun r51 =>
        if jw r51.1 = 0 then
          some (v2, r51.2)
        else
          (Model_firstOdd_c2 F fu) v1 (v2 + 1) r51.2
      else
        (Model_nimberOfHeaps F 20 r19.2).bind fun r33 =>
        (Model_isTame F r33.2 v2 r33.1).bind fun r36 =>
        if jw r36.1 = 0 then
          some (v2, r36.2)
        else
          (Model_firstOdd_c2 F fu) v1 (v2 + 1) r36.2
    else
      some ((-1), σ)
def Model_firstOdd (F : Nat) (σ : jxS) (v1 : Int) : Option jxR :=
  Model_firstOdd_c2 F F v1 0 σ
def jca_Model_firstOdd (F : Nat) : jxA := fun as σ k => match as with
  | [.inr (.inr (.inl t0)), .inl v1] => bif Nat.beq t0 0 then (Model_firstOdd F σ v1).bind (fun r => k (some (jmi r.1)) r.2) else none
  | _ => none
def Model_partOf (F : Nat) (σ : jxS) (v1 v2 : Int) : Option jxR :=
  (Model_laysHeaps F 20 σ v1).bind fun r6 =>
  if jw v2 = 0 then
    (Model_beansOf F 20 r6.2).bind fun r17 =>
    some (r17.1, r17.2)
  else
    if 0 ≤ v2 ∧ v2 < 13 then
      some ((r6.2 20 v2), r6.2)
    else none
def jca_Model_partOf (F : Nat) : jxA := fun as σ k => match as with
  | [.inr (.inr (.inl t0)), .inl v1, .inl v2] => bif Nat.beq t0 0 then (Model_partOf F σ v1 v2).bind (fun r => k (some (jmi r.1)) r.2) else none
  | _ => none
def Model_told (F : Nat) (σ : jxS) (v1 v2 : Int) : Option jxR :=
  if jw v1 < 0 then
    some ((-2), σ)
  else
    (Model_partOf F σ v1 v2).bind fun r12 =>
    some (r12.1, r12.2)
def jca_Model_told (F : Nat) : jxA := fun as σ k => match as with
  | [.inr (.inr (.inl t0)), .inl v1, .inl v2] => bif Nat.beq t0 0 then (Model_told F σ v1 v2).bind (fun r => k (some (jmi r.1)) r.2) else none
  | _ => none
def Model_odd (F : Nat) (σ : jxS) (v1 : Int) : Option jxR :=
  if jw (σ 0 13) = 0 then
    some ((-1), σ)
  else
    (Model_isIn F σ (jw v1) 0 12).bind fun r13 =>
    if jw r13.1 = 0 then
      some ((-1), r13.2)
    else
      (Model_firstOdd F r13.2 0).bind fun r22 =>
      (Model_told F r22.2 r22.1 v1).bind fun r26 =>
      some (r26.1, r26.2)
def jca_Model_odd (F : Nat) : jxA := fun as σ k => match as with
  | [.inr (.inr (.inl t0)), .inl v1] => bif Nat.beq t0 0 then (Model_odd F σ v1).bind (fun r => k (some (jmi r.1)) r.2) else none
  | _ => none
def Model_wild (F : Nat) (σ : jxS) (v1 : Int) : Option jxR :=
  if jw (σ 0 13) = 0 then
    some ((-1), σ)
  else
    (Model_isIn F σ (jw v1) 0 12).bind fun r13 =>
    if jw r13.1 = 0 then
      some ((-1), r13.2)
    else
      (Model_firstOdd F r13.2 1).bind fun r22 =>
      (Model_told F r22.2 r22.1 v1).bind fun r26 =>
      some (r26.1, r26.2)
def jca_Model_wild (F : Nat) : jxA := fun as σ k => match as with
  | [.inr (.inr (.inl t0)), .inl v1] => bif Nat.beq t0 0 then (Model_wild F σ v1).bind (fun r => k (some (jmi r.1)) r.2) else none
  | _ => none
def Model_keepsAct_c52 (F : Nat) (fu : Nat) (v1 : Int) (σ : jxS) : Option jxR := match fu with
  | 0 => none
  | fu + 1 =>
    if jw v1 < 13 then
      if 0 ≤ v1 ∧ v1 < 13 then
        if 0 ≤ ((13 * (σ 0 37)) + v1) ∧ ((13 * (σ 0 37)) + v1) < 390 then
          let s77 : jxS := jup σ 25 ((13 * (σ 0 37)) + v1) (σ 24 v1)
          (Model_keepsAct_c52 F fu) (v1 + 1) s77
        else none
      else none
    else
      let s91 : jxS := jup σ 0 37 ((σ 0 37) + 1)
      some (0, s91)
def Model_keepsAct_c12 (F : Nat) (fu : Nat) (v1 : Int) (σ : jxS) : Option jxR := match fu with
  | 0 => none
  | fu + 1 =>
    if jw v1 < 390 then
      if 0 ≤ v1 ∧ v1 < 390 then
        if 0 ≤ (v1 - 13) ∧ (v1 - 13) < 390 then
          let s33 : jxS := jup σ 25 (v1 - 13) (σ 25 v1)
          (Model_keepsAct_c12 F fu) (v1 + 1) s33
        else none
      else none
    else
      let s47 : jxS := jup σ 0 37 ((σ 0 37) - 1)
      Model_keepsAct_c52 F F 0 s47
def Model_keepsAct (F : Nat) (σ : jxS) : Option jxR :=
  if jw (σ 0 37) = 30 then
    Model_keepsAct_c12 F F 13 σ
  else
    Model_keepsAct_c52 F F 0 σ
def jca_Model_keepsAct (F : Nat) : jxA := fun as σ k => match as with
  | [.inr (.inr (.inl t0))] => bif Nat.beq t0 0 then (Model_keepsAct F σ).bind (fun r => k none r.2) else none
  | _ => none
def Model_put (F : Nat) (σ : jxS) (v1 : Int) : Option jxR :=
  (Model_isHeap F σ v1).bind fun r2 =>
  if jw r2.1 = 0 then
    some ((-1), r2.2)
  else
    (Model_beansOf F 24 r2.2).bind fun r12 =>
    if 22 < jw (r12.1 + v1) then
      some ((-1), r12.2)
    else
      (Model_keepsAct F r12.2).bind fun r25 =>
      if 0 ≤ v1 ∧ v1 < 13 then
        if 0 ≤ v1 ∧ v1 < 13 then
          let s37 : jxS := jup r25.2 24 v1 ((r25.2 24 v1) + 1)
          (Model_beansOf F 24 s37).bind fun r42 =>
          some (r42.1, r42.2)
        else none
      else none
def jca_Model_put (F : Nat) : jxA := fun as σ k => match as with
  | [.inr (.inr (.inl t0)), .inl v1] => bif Nat.beq t0 0 then (Model_put F σ v1).bind (fun r => k (some (jmi r.1)) r.2) else none
  | _ => none
def Model_isMove_c38 (F : Nat) (fu : Nat) (v1 v2 v3 v4 : Int) (σ : jxS) : Option jxR := match fu with
  | 0 => none
  | fu + 1 =>
    if 0 ≤ v1 ∧ v1 < 13 then
      if jw v4 < jw (σ 10 v1) then
        if 0 ≤ ((64 * v1) + v4) ∧ ((64 * v1) + v4) < 832 then
          if jw (σ 9 ((64 * v1) + v4)) = jw ((13 * v2) + v3) then
            some (1, σ)
          else
            (Model_isMove_c38 F fu) v1 v2 v3 (v4 + 1) σ
        else none
      else
        some (0, σ)
    else none
def Model_isMove (F : Nat) (σ : jxS) (v1 v2 v3 : Int) : Option jxR :=
  (Model_isHeap F σ v1).bind fun r2 =>
  if jw r2.1 = 0 then
    some (0, r2.2)
  else
    (Model_isIn F r2.2 (jw v2) 0 12).bind fun r14 =>
    if jw r14.1 = 0 then
      some (0, r14.2)
    else
      (Model_isIn F r14.2 (jw v3) (jw v2) 12).bind fun r27 =>
      if jw r27.1 = 0 then
        some (0, r27.2)
      else
        Model_isMove_c38 F F v1 v2 v3 0 r27.2
def jca_Model_isMove (F : Nat) : jxA := fun as σ k => match as with
  | [.inr (.inr (.inl t0)), .inl v1, .inl v2, .inl v3] => bif Nat.beq t0 0 then (Model_isMove F σ v1 v2 v3).bind (fun r => k (some (jmi r.1)) r.2) else none
  | _ => none
def Model_handNumber (F : Nat) (σ : jxS) : Option jxR :=
  (Model_numberOf F 24 σ).bind fun r5 =>
  some (r5.1, r5.2)
def jca_Model_handNumber (F : Nat) : jxA := fun as σ k => match as with
  | [.inr (.inr (.inl t0))] => bif Nat.beq t0 0 then (Model_handNumber F σ).bind (fun r => k (some (jmi r.1)) r.2) else none
  | _ => none
def Model_move (F : Nat) (σ : jxS) (v1 v2 v3 : Int) : Option jxR :=
  (Model_isMove F σ v1 v2 v3).bind fun r4 =>
  if jw r4.1 = 0 then
    some ((-1), r4.2)
  else
    if 0 ≤ v1 ∧ v1 < 13 then
      if jw (r4.2 24 v1) = 0 then
        some ((-1), r4.2)
      else
        (Model_keepsAct F r4.2).bind fun r22 =>
        (Model_changes F 24 r22.2 v1 ((13 * v2) + v3) 1).bind fun r37 =>
        (Model_handNumber F r37.2).bind fun r45 =>
        if 0 ≤ r45.1 ∧ r45.1 < 4600 then
          if jw (r45.2 15 r45.1) = 0 then
            some (1, r45.2)
          else
            some (0, r45.2)
        else none
    else none
def jca_Model_move (F : Nat) : jxA := fun as σ k => match as with
  | [.inr (.inr (.inl t0)), .inl v1, .inl v2, .inl v3] => bif Nat.beq t0 0 then (Model_move F σ v1 v2 v3).bind (fun r => k (some (jmi r.1)) r.2) else none
  | _ => none
def Model_firstReply_c10 (F : Nat) (a1 : Nat) (k2 : Int → jxS → Option jxR) (fu : Nat) (v2 v3 : Int) (σ : jxS) : Option jxR := match fu with
  | 0 => none
  | fu + 1 =>
    if 0 ≤ v2 ∧ v2 < 13 then
      if jw v3 < jw (σ 10 v2) then
        if 0 ≤ v2 ∧ v2 < 13 then
          if 0 < jw (σ a1 v2) then
            if 0 ≤ ((64 * v2) + v3) ∧ ((64 * v2) + v3) < 832 then
              (Model_behind F a1 σ v2 (σ 9 ((64 * v2) + v3))).bind fun r44 =>
              if 0 ≤ r44.1 ∧ r44.1 < 4600 then
                if jw (r44.2 15 r44.1) = 0 then
                  (Model_firstReply_c10 F a1 k2 fu) v2 (v3 + 1) r44.2
                else
                  if 0 ≤ ((64 * v2) + v3) ∧ ((64 * v2) + v3) < 832 then
                    some (((1000 * v2) + (r44.2 9 ((64 * v2) + v3))), r44.2)
                  else none
              else none
            else none
          else
            k2 (v2 + 1) σ
        else none
      else
        k2 (v2 + 1) σ
    else none
def Model_firstReply_c2 (F : Nat) (a1 : Nat) (fu : Nat) (v2 : Int) (σ : jxS) : Option jxR := match fu with
  | 0 => none
  | fu + 1 =>
    if 12 < jw v2 then
      some ((-1), σ)
    else
      Model_firstReply_c10 F a1 (Model_firstReply_c2 F a1 fu) F v2 0 σ
def Model_firstReply (F : Nat) (a1 : Nat) (σ : jxS) : Option jxR :=
  Model_firstReply_c2 F a1 F 1 σ
def jids_Model_firstReply_a1 : List Nat := [24]
def jca_Model_firstReply (F : Nat) : jxA := fun as σ k => match as with
  | [.inr (.inr (.inl t0)), .inr (.inr (.inl t1))] => bif Nat.beq t0 0 then bif jin jids_Model_firstReply_a1 t1 then (Model_firstReply F t1 σ).bind (fun r => k (some (jmi r.1)) r.2) else none else none
  | _ => none
def Model_reply (F : Nat) (σ : jxS) : Option jxR :=
  if jw (σ 0 13) = 0 then
    some ((-1), σ)
  else
    (Model_firstReply F 24 σ).bind fun r14 =>
    if jw r14.1 < 0 then
      some ((-2), r14.2)
    else
      (Model_keepsAct F r14.2).bind fun r26 =>
      (Model_changes F 24 r26.2 (jdiv r14.1 1000) (jrem r14.1 1000) 1).bind fun r44 =>
      some (r14.1, r44.2)
def jca_Model_reply (F : Nat) : jxA := fun as σ k => match as with
  | [.inr (.inr (.inl t0))] => bif Nat.beq t0 0 then (Model_reply F σ).bind (fun r => k (some (jmi r.1)) r.2) else none
  | _ => none
def Model_clear_c20 (F : Nat) (fu : Nat) (v1 v2 : Int) (σ : jxS) : Option jxR := match fu with
  | 0 => none
  | fu + 1 =>
    if jw v2 < 13 then
      if 0 ≤ v2 ∧ v2 < 13 then
        let s32 : jxS := jup σ 24 v2 0
        (Model_clear_c20 F fu) v1 (v2 + 1) s32
      else none
    else
      some (v1, σ)
def Model_clear (F : Nat) (σ : jxS) : Option jxR :=
  (Model_beansOf F 24 σ).bind fun r4 =>
  if jw r4.1 = 0 then
    some ((-1), r4.2)
  else
    (Model_keepsAct F r4.2).bind fun r15 =>
    Model_clear_c20 F F r4.1 0 r15.2
def jca_Model_clear (F : Nat) : jxA := fun as σ k => match as with
  | [.inr (.inr (.inl t0))] => bif Nat.beq t0 0 then (Model_clear F σ).bind (fun r => k (some (jmi r.1)) r.2) else none
  | _ => none
def Model_undo_c21 (F : Nat) (fu : Nat) (v1 : Int) (σ : jxS) : Option jxR := match fu with
  | 0 => none
  | fu + 1 =>
    if jw v1 < 13 then
      if 0 ≤ ((13 * (σ 0 37)) + v1) ∧ ((13 * (σ 0 37)) + v1) < 390 then
        if 0 ≤ v1 ∧ v1 < 13 then
          let s46 : jxS := jup σ 24 v1 (σ 25 ((13 * (σ 0 37)) + v1))
          (Model_undo_c21 F fu) (v1 + 1) s46
        else none
      else none
    else
      some ((σ 0 37), σ)
def Model_undo (F : Nat) (σ : jxS) : Option jxR :=
  if jw (σ 0 37) = 0 then
    some ((-1), σ)
  else
    let s16 : jxS := jup σ 0 37 ((σ 0 37) - 1)
    Model_undo_c21 F F 0 s16
def jca_Model_undo (F : Nat) : jxA := fun as σ k => match as with
  | [.inr (.inr (.inl t0))] => bif Nat.beq t0 0 then (Model_undo F σ).bind (fun r => k (some (jmi r.1)) r.2) else none
  | _ => none
def Model_hand (F : Nat) (σ : jxS) (v1 : Int) : Option jxR :=
  (Model_isIn F σ (jw v1) 1 12).bind fun r6 =>
  if jw r6.1 = 0 then
    if jw v1 = 0 then
      (Model_beansOf F 24 r6.2).bind fun r29 =>
      some (r29.1, r29.2)
    else
      some ((-1), r6.2)
  else
    if 0 ≤ v1 ∧ v1 < 13 then
      some ((r6.2 24 v1), r6.2)
    else none
def jca_Model_hand (F : Nat) : jxA := fun as σ k => match as with
  | [.inr (.inr (.inl t0)), .inl v1] => bif Nat.beq t0 0 then (Model_hand F σ v1).bind (fun r => k (some (jmi r.1)) r.2) else none
  | _ => none
def Model_goodMoves_c12 (F : Nat) (k4 : Int → Int → jxS → Option jxR) (fu : Nat) (v1 v2 v3 : Int) (σ : jxS) : Option jxR := match fu with
  | 0 => none
  | fu + 1 =>
    if 0 ≤ v2 ∧ v2 < 13 then
      if jw v3 < jw (σ 10 v2) then
        if 0 ≤ v2 ∧ v2 < 13 then
          if 0 < jw (σ 24 v2) then
            if 0 ≤ ((64 * v2) + v3) ∧ ((64 * v2) + v3) < 832 then
              (Model_behind F 24 σ v2 (σ 9 ((64 * v2) + v3))).bind fun r53 =>
              if 0 ≤ r53.1 ∧ r53.1 < 4600 then
                if jw (r53.2 15 r53.1) = 0 then
                  (Model_goodMoves_c12 F k4 fu) (v1 + 0) v2 (v3 + 1) r53.2
                else
                  if 0 ≤ v2 ∧ v2 < 13 then
                    (Model_goodMoves_c12 F k4 fu) (v1 + (r53.2 24 v2)) v2 (v3 + 1) r53.2
                  else none
              else none
            else none
          else
            k4 v1 (v2 + 1) σ
        else none
      else
        k4 v1 (v2 + 1) σ
    else none
def Model_goodMoves_c4 (F : Nat) (fu : Nat) (v1 v2 : Int) (σ : jxS) : Option jxR := match fu with
  | 0 => none
  | fu + 1 =>
    if 12 < jw v2 then
      some (v1, σ)
    else
      Model_goodMoves_c12 F (Model_goodMoves_c4 F fu) F v1 v2 0 σ
def Model_goodMoves (F : Nat) (σ : jxS) : Option jxR :=
  Model_goodMoves_c4 F F 0 1 σ
def jca_Model_goodMoves (F : Nat) : jxA := fun as σ k => match as with
  | [.inr (.inr (.inl t0))] => bif Nat.beq t0 0 then (Model_goodMoves F σ).bind (fun r => k (some (jmi r.1)) r.2) else none
  | _ => none
def Model_state (F : Nat) (σ : jxS) (v1 : Int) : Option jxR :=
  if jw (σ 0 13) = 0 then
    some ((-1), σ)
  else
    (Model_isIn F σ (jw v1) 0 8).bind fun r13 =>
    if jw r13.1 = 0 then
      some ((-1), r13.2)
    else
      (Model_handNumber F r13.2).bind fun r22 =>
      if jw v1 = 0 then
        if 0 ≤ r22.1 ∧ r22.1 < 4600 then
          if jw (r22.2 15 r22.1) = 0 then
            some (1, r22.2)
          else
            some (0, r22.2)
        else none
      else
      if jw v1 = 1 then
        if 0 ≤ r22.1 ∧ r22.1 < 4600 then
          some ((r22.2 16 r22.1), r22.2)
        else none
      else
      if jw v1 = 2 then
        (Model_nimberOfHeaps F 24 r22.2).bind fun r99 =>
        some (r99.1, r99.2)
      else
      if jw v1 = 3 then
        (Model_genusOf F r22.2 r22.1 0).bind fun r106 =>
        some (r106.1, r106.2)
      else
      if jw v1 = 4 then
        (Model_goodMoves F r22.2).bind fun r111 =>
        some (r111.1, r111.2)
      else
      if jw v1 = 5 then
        (Model_isLikeNim F 24 r22.2 r22.1).bind fun r121 =>
        if jw r121.1 = 0 then
          some (0, r121.2)
        else
          some (1, r121.2)
      else
      if jw v1 = 6 then
        if 0 ≤ r22.1 ∧ r22.1 < 4600 then
          some ((r22.2 17 r22.1), r22.2)
        else none
      else
      if jw v1 = 7 then
        if 0 ≤ r22.1 ∧ r22.1 < 4600 then
          some ((r22.2 18 r22.1), r22.2)
        else none
      else
        (Model_nimberOfHeaps F 24 r22.2).bind fun r154 =>
        (Model_isTame F r154.2 r22.1 r154.1).bind fun r157 =>
        if jw r157.1 = 0 then
          some (0, r157.2)
        else
          some (1, r157.2)
def jca_Model_state (F : Nat) : jxA := fun as σ k => match as with
  | [.inr (.inr (.inl t0)), .inl v1] => bif Nat.beq t0 0 then (Model_state F σ v1).bind (fun r => k (some (jmi r.1)) r.2) else none
  | _ => none
def Model_genus (F : Nat) (σ : jxS) (v1 : Int) : Option jxR :=
  if jw (σ 0 13) = 0 then
    some ((-1), σ)
  else
    (Model_isIn F σ (jw v1) 0 2).bind fun r13 =>
    if jw r13.1 = 0 then
      some ((-1), r13.2)
    else
      (Model_handNumber F r13.2).bind fun r21 =>
      (Model_genusOf F r21.2 r21.1 v1).bind fun r25 =>
      some (r25.1, r25.2)
def jca_Model_genus (F : Nat) : jxA := fun as σ k => match as with
  | [.inr (.inr (.inl t0)), .inl v1] => bif Nat.beq t0 0 then (Model_genus F σ v1).bind (fun r => k (some (jmi r.1)) r.2) else none
  | _ => none
def Model_playedOn_c136 (F : Nat) (k29 : Int → Int → Int → Int → jxS → Option jxR) (k39 : Int → Int → Int → Int → Int → jxS → Option jxR) (v1 v4 v5 v6 : Int) (σ : jxS) : Option jxR :=
  if 0 ≤ ((64 * v4) + v5) ∧ ((64 * v4) + v5) < 832 then
    if 0 ≤ v6 ∧ v6 < 4600 then
      k39 v1 ((1000 * v4) + (σ 9 ((64 * v4) + v5))) (σ 16 v6) v4 (v5 + 1) σ
    else none
  else none
def Model_playedOn_c100 (F : Nat) (k29 : Int → Int → Int → Int → jxS → Option jxR) (k39 : Int → Int → Int → Int → Int → jxS → Option jxR) (v1 v2 v3 v4 v5 v6 : Int) (σ : jxS) : Option jxR :=
  if jw v2 < 0 then
    Model_playedOn_c136 F k29 k39 v1 v4 v5 v6 σ
  else
    if jw v1 = 0 then
      if 0 ≤ v6 ∧ v6 < 4600 then
        if jw v3 < jw (σ 16 v6) then
          Model_playedOn_c136 F k29 k39 v1 v4 v5 v6 σ
        else
          k39 v1 v2 v3 v4 (v5 + 1) σ
      else none
    else
      if 0 ≤ v6 ∧ v6 < 4600 then
        if jw (σ 16 v6) < jw v3 then
          Model_playedOn_c136 F k29 k39 v1 v4 v5 v6 σ
        else
          k39 v1 v2 v3 v4 (v5 + 1) σ
      else none
def Model_playedOn_c39 (F : Nat) (k29 : Int → Int → Int → Int → jxS → Option jxR) (fu : Nat) (v1 v2 v3 v4 v5 : Int) (σ : jxS) : Option jxR := match fu with
  | 0 => none
  | fu + 1 =>
    if 0 ≤ v4 ∧ v4 < 13 then
      if jw v5 < jw (σ 10 v4) then
        if 0 ≤ v4 ∧ v4 < 13 then
          if 0 < jw (σ 26 v4) then
            if 0 ≤ ((64 * v4) + v5) ∧ ((64 * v4) + v5) < 832 then
              (Model_behind F 26 σ v4 (σ 9 ((64 * v4) + v5))).bind fun r81 =>
              if jw v1 = 0 then
                Model_playedOn_c100 F k29 (Model_playedOn_c39 F k29 fu) v1 v2 v3 v4 v5 r81.1 r81.2
              else
                if 0 ≤ r81.1 ∧ r81.1 < 4600 then
                  if jw (r81.2 15 r81.1) = 0 then
                    (Model_playedOn_c39 F k29 fu) v1 v2 v3 v4 (v5 + 1) r81.2
                  else
                    Model_playedOn_c100 F k29 (Model_playedOn_c39 F k29 fu) v1 v2 v3 v4 v5 r81.1 r81.2
                else none
            else none
          else
            k29 v1 v2 v3 (v4 + 1) σ
        else none
      else
        k29 v1 v2 v3 (v4 + 1) σ
    else none
def Model_playedOn_c29 (F : Nat) (fu : Nat) (v1 v2 v3 v4 : Int) (σ : jxS) : Option jxR := match fu with
  | 0 => none
  | fu + 1 =>
    if 12 < jw v4 then
      some (v2, σ)
    else
      Model_playedOn_c39 F (Model_playedOn_c29 F fu) F v1 v2 v3 v4 0 σ
def Model_playedOn_c21 (F : Nat) (t0 : Int) (σ : jxS) : Option jxR :=
  Model_playedOn_c29 F F t0 (-1) 0 1 σ
def Model_playedOn (F : Nat) (σ : jxS) : Option jxR :=
  (Model_numberOf F 26 σ).bind fun r9 =>
  if 0 ≤ r9.1 ∧ r9.1 < 4600 then
    if jw (r9.2 15 r9.1) = 0 then
      Model_playedOn_c21 F 1 r9.2
    else
      Model_playedOn_c21 F 0 r9.2
  else none
def jca_Model_playedOn (F : Nat) : jxA := fun as σ k => match as with
  | [.inr (.inr (.inl t0))] => bif Nat.beq t0 0 then (Model_playedOn F σ).bind (fun r => k (some (jmi r.1)) r.2) else none
  | _ => none
def Model_line_c84 (F : Nat) (v2 : Int) (σ : jxS) : Option jxR :=
  if jw v2 < 0 then
    some ((-2), σ)
  else
    some (v2, σ)
def Model_line_c46 (F : Nat) (fu : Nat) (v1 v2 v3 : Int) (σ : jxS) : Option jxR := match fu with
  | 0 => none
  | fu + 1 =>
    if jw v3 < jw v1 then
      if jw v2 < 0 then
        Model_line_c84 F v2 σ
      else
        (Model_changes F 26 σ (jdiv v2 1000) (jrem v2 1000) 1).bind fun r70 =>
        (Model_playedOn F r70.2).bind fun r74 =>
        (Model_line_c46 F fu) v1 r74.1 (v3 + 1) r74.2
    else
      Model_line_c84 F v2 σ
def Model_line_c15 (F : Nat) (fu : Nat) (v1 v2 : Int) (σ : jxS) : Option jxR := match fu with
  | 0 => none
  | fu + 1 =>
    if jw v2 < 13 then
      if 0 ≤ v2 ∧ v2 < 13 then
        if 0 ≤ v2 ∧ v2 < 13 then
          let s32 : jxS := jup σ 26 v2 (σ 24 v2)
          (Model_line_c15 F fu) v1 (v2 + 1) s32
        else none
      else none
    else
      (Model_playedOn F σ).bind fun r40 =>
      Model_line_c46 F F v1 r40.1 0 r40.2
def Model_line (F : Nat) (σ : jxS) (v1 : Int) : Option jxR :=
  if jw (σ 0 13) = 0 then
    some ((-1), σ)
  else
    if jw v1 < 0 then
      some ((-1), σ)
    else
      Model_line_c15 F F v1 0 σ
def jca_Model_line (F : Nat) : jxA := fun as σ k => match as with
  | [.inr (.inr (.inl t0)), .inl v1] => bif Nat.beq t0 0 then (Model_line F σ v1).bind (fun r => k (some (jmi r.1)) r.2) else none
  | _ => none
def Model_losers_c51 (F : Nat) (fu : Nat) (v1 v2 v3 v4 v5 : Int) (σ : jxS) : Option jxR := match fu with
  | 0 => none
  | fu + 1 =>
    if 0 ≤ (v1 + 1) ∧ (v1 + 1) < 24 then
      if jw v5 < jw (σ 14 (v1 + 1)) then
        if 0 ≤ v5 ∧ v5 < 4600 then
          if jw (σ 15 v5) = 0 then
            (Model_losers_c51 F fu) v1 v2 v3 v4 (v5 + 1) σ
          else
            if jw v4 < 0 then
              (Model_losers_c51 F fu) v1 v2 (v3 + 1) v5 (v5 + 1) σ
            else
              (Model_losers_c51 F fu) v1 v2 (v3 + 1) v4 (v5 + 1) σ
        else none
      else
        if jw v2 = (-1) then
          some (v3, σ)
        else
          (Model_told F σ v4 v2).bind fun r113 =>
          some (r113.1, r113.2)
    else none
def Model_losers_c38 (F : Nat) (v1 v2 : Int) (σ : jxS) : Option jxR :=
  if 0 ≤ v1 ∧ v1 < 24 then
    Model_losers_c51 F F v1 v2 0 (-1) (σ 14 v1) σ
  else none
def Model_losers (F : Nat) (σ : jxS) (v1 v2 : Int) : Option jxR :=
  if jw (σ 0 13) = 0 then
    some ((-1), σ)
  else
    (Model_isIn F σ (jw v1) 0 22).bind fun r13 =>
    if jw r13.1 = 0 then
      some ((-1), r13.2)
    else
      if jw v2 = (-1) then
        Model_losers_c38 F v1 v2 r13.2
      else
        (Model_isIn F r13.2 (jw v2) 1 12).bind fun r30 =>
        if jw r30.1 = 0 then
          some ((-1), r30.2)
        else
          Model_losers_c38 F v1 v2 r30.2
def jca_Model_losers (F : Nat) : jxA := fun as σ k => match as with
  | [.inr (.inr (.inl t0)), .inl v1, .inl v2] => bif Nat.beq t0 0 then (Model_losers F σ v1 v2).bind (fun r => k (some (jmi r.1)) r.2) else none
  | _ => none
def Model_keep_c23 (F : Nat) (fu : Nat) (v1 v2 : Int) (σ : jxS) : Option jxR := match fu with
  | 0 => none
  | fu + 1 =>
    if jw v2 < 13 then
      if 0 ≤ v2 ∧ v2 < 13 then
        if 0 ≤ ((13 * v1) + v2) ∧ ((13 * v1) + v2) < 39 then
          let s45 : jxS := jup σ 27 ((13 * v1) + v2) (σ 24 v2)
          (Model_keep_c23 F fu) v1 (v2 + 1) s45
        else none
      else none
    else
      let s61 : jxS := jup σ 0 40 (jor (σ 0 40) (jshl 1 v1))
      (Model_beansOf F 24 s61).bind fun r68 =>
      some (r68.1, r68.2)
def Model_keep (F : Nat) (σ : jxS) (v1 : Int) : Option jxR :=
  if jw (σ 0 13) = 0 then
    some ((-1), σ)
  else
    (Model_isIn F σ (jw v1) 0 2).bind fun r13 =>
    if jw r13.1 = 0 then
      some ((-1), r13.2)
    else
      Model_keep_c23 F F v1 0 r13.2
def jca_Model_keep (F : Nat) : jxA := fun as σ k => match as with
  | [.inr (.inr (.inl t0)), .inl v1] => bif Nat.beq t0 0 then (Model_keep F σ v1).bind (fun r => k (some (jmi r.1)) r.2) else none
  | _ => none
def Model_losesBeside_c39 (F : Nat) (a1 : Nat) (fu : Nat) (v2 v3 : Int) (σ : jxS) : Option jxR := match fu with
  | 0 => none
  | fu + 1 =>
    if 12 < jw v3 then
      if v2 = 0 ∨ v2 = 1 then some (v2, σ) else none
    else
      if 0 ≤ v3 ∧ v3 < 13 then
        if 0 ≤ v3 ∧ v3 < 13 then
          if 0 ≤ v3 ∧ v3 < 13 then
            let s56 : jxS := jup σ a1 v3 ((σ a1 v3) - (σ 29 v3))
            (Model_losesBeside_c39 F a1 fu) v2 (v3 + 1) s56
          else none
        else none
      else none
def Model_losesBeside_c2 (F : Nat) (a1 : Nat) (fu : Nat) (v2 : Int) (σ : jxS) : Option jxR := match fu with
  | 0 => none
  | fu + 1 =>
    if 12 < jw v2 then
      (Model_numberOf F a1 σ).bind fun r32 =>
      if 0 ≤ r32.1 ∧ r32.1 < 4600 then
        Model_losesBeside_c39 F a1 F (r32.2 15 r32.1) 1 r32.2
      else none
    else
      if 0 ≤ v2 ∧ v2 < 13 then
        if 0 ≤ v2 ∧ v2 < 13 then
          if 0 ≤ v2 ∧ v2 < 13 then
            let s19 : jxS := jup σ a1 v2 ((σ a1 v2) + (σ 29 v2))
            (Model_losesBeside_c2 F a1 fu) (v2 + 1) s19
          else none
        else none
      else none
def Model_losesBeside (F : Nat) (a1 : Nat) (σ : jxS) : Option jxR :=
  Model_losesBeside_c2 F a1 F 1 σ
def jids_Model_losesBeside_a1 : List Nat := [24, 28, 38]
def jca_Model_losesBeside (F : Nat) : jxA := fun as σ k => match as with
  | [.inr (.inr (.inl t0)), .inr (.inr (.inl t1))] => bif Nat.beq t0 0 then bif jin jids_Model_losesBeside_a1 t1 then (Model_losesBeside F t1 σ).bind (fun r => k (some (jmi r.1)) r.2) else none else none
  | _ => none
def Model_apartBy_c2 (F : Nat) (a1 : Nat) (a2 : Nat) (fu : Nat) (v3 : Int) (σ : jxS) : Option jxR := match fu with
  | 0 => none
  | fu + 1 =>
    if jw v3 < jw (σ 14 8) then
      (Model_laysHeaps F 29 σ v3).bind fun r19 =>
      (Model_losesBeside F a1 r19.2).bind fun r24 =>
      (Model_losesBeside F a2 r24.2).bind fun r29 =>
      if jw r24.1 = jw r29.1 then
        (Model_apartBy_c2 F a1 a2 fu) (v3 + 1) r29.2
      else
        some (v3, r29.2)
    else
      some ((-1), σ)
def Model_apartBy (F : Nat) (a1 : Nat) (a2 : Nat) (σ : jxS) : Option jxR :=
  Model_apartBy_c2 F a1 a2 F 0 σ
def jids_Model_apartBy_a1 : List Nat := [24]
def jids_Model_apartBy_a2 : List Nat := [28]
def jca_Model_apartBy (F : Nat) : jxA := fun as σ k => match as with
  | [.inr (.inr (.inl t0)), .inr (.inr (.inl t1)), .inr (.inr (.inl t2))] => bif Nat.beq t0 0 then bif jin jids_Model_apartBy_a1 t1 then bif jin jids_Model_apartBy_a2 t2 then (Model_apartBy F t1 t2 σ).bind (fun r => k (some (jmi r.1)) r.2) else none else none else none
  | _ => none
def Model_apart_c46 (F : Nat) (fu : Nat) (v1 v2 v3 : Int) (σ : jxS) : Option jxR := match fu with
  | 0 => none
  | fu + 1 =>
    if jw v3 < 13 then
      if 0 ≤ ((13 * v1) + v3) ∧ ((13 * v1) + v3) < 39 then
        if 0 ≤ v3 ∧ v3 < 13 then
          let s68 : jxS := jup σ 28 v3 (σ 27 ((13 * v1) + v3))
          (Model_apart_c46 F fu) v1 v2 (v3 + 1) s68
        else none
      else none
    else
      (Model_beansOf F 24 σ).bind fun r79 =>
      if 15 < jw r79.1 then
        some ((-3), r79.2)
      else
        (Model_beansOf F 28 r79.2).bind fun r91 =>
        if 15 < jw r91.1 then
          some ((-3), r91.2)
        else
          (Model_apartBy F 24 28 r91.2).bind fun r112 =>
          (Model_told F r112.2 r112.1 v2).bind fun r116 =>
          some (r116.1, r116.2)
def Model_apart (F : Nat) (σ : jxS) (v1 v2 : Int) : Option jxR :=
  if jw (σ 0 13) = 0 then
    some ((-1), σ)
  else
    (Model_isIn F σ (jw v1) 0 2).bind fun r13 =>
    if jw r13.1 = 0 then
      some ((-1), r13.2)
    else
      (Model_has F r13.2 (r13.2 0 40) v1).bind fun r24 =>
      if jw r24.1 = 0 then
        some ((-1), r24.2)
      else
        (Model_isIn F r24.2 (jw v2) 0 12).bind fun r36 =>
        if jw r36.1 = 0 then
          some ((-1), r36.2)
        else
          Model_apart_c46 F F v1 v2 0 r36.2
def jca_Model_apart (F : Nat) : jxA := fun as σ k => match as with
  | [.inr (.inr (.inl t0)), .inl v1, .inl v2] => bif Nat.beq t0 0 then (Model_apart F σ v1 v2).bind (fun r => k (some (jmi r.1)) r.2) else none
  | _ => none
def Model_simplest_c38 (F : Nat) (fu : Nat) (v1 v2 : Int) (σ : jxS) : Option jxR := match fu with
  | 0 => none
  | fu + 1 =>
    if jw v2 < jw (σ 14 8) then
      (Model_laysHeaps F 28 σ v2).bind fun r55 =>
      (Model_apartBy F 24 28 r55.2).bind fun r67 =>
      if jw r67.1 < 0 then
        (Model_partOf F r67.2 v2 v1).bind fun r76 =>
        some (r76.1, r76.2)
      else
        (Model_simplest_c38 F fu) v1 (v2 + 1) r67.2
    else
      some ((-2), σ)
def Model_simplest (F : Nat) (σ : jxS) (v1 : Int) : Option jxR :=
  if jw (σ 0 13) = 0 then
    some ((-1), σ)
  else
    (Model_isIn F σ (jw v1) 0 12).bind fun r13 =>
    if jw r13.1 = 0 then
      some ((-1), r13.2)
    else
      (Model_beansOf F 24 r13.2).bind fun r25 =>
      if 15 < jw r25.1 then
        some ((-3), r25.2)
      else
        Model_simplest_c38 F F v1 0 r25.2
def jca_Model_simplest (F : Nat) : jxA := fun as σ k => match as with
  | [.inr (.inr (.inl t0)), .inl v1] => bif Nat.beq t0 0 then (Model_simplest F σ v1).bind (fun r => k (some (jmi r.1)) r.2) else none
  | _ => none
def Model_answers_c27 (F : Nat) (k18 : Int → Int → Int → jxS → Option jxR) (fu : Nat) (v1 v2 v3 v4 : Int) (σ : jxS) : Option jxR := match fu with
  | 0 => none
  | fu + 1 =>
    if 0 ≤ v3 ∧ v3 < 13 then
      if jw v4 < jw (σ 10 v3) then
        if 0 ≤ v3 ∧ v3 < 13 then
          if 0 < jw (σ 24 v3) then
            if 0 ≤ ((64 * v3) + v4) ∧ ((64 * v3) + v4) < 832 then
              (Model_behind F 24 σ v3 (σ 9 ((64 * v3) + v4))).bind fun r69 =>
              if 0 ≤ r69.1 ∧ r69.1 < 4600 then
                if jw (r69.2 15 r69.1) = 0 then
                  (Model_answers_c27 F k18 fu) v1 v2 v3 (v4 + 1) r69.2
                else
                  if jw v2 = jw v1 then
                    if 0 ≤ ((64 * v3) + v4) ∧ ((64 * v3) + v4) < 832 then
                      some (((1000 * v3) + (r69.2 9 ((64 * v3) + v4))), r69.2)
                    else none
                  else
                    (Model_answers_c27 F k18 fu) v1 (v2 + 1) v3 (v4 + 1) r69.2
              else none
            else none
          else
            k18 v1 v2 (v3 + 1) σ
        else none
      else
        k18 v1 v2 (v3 + 1) σ
    else none
def Model_answers_c18 (F : Nat) (fu : Nat) (v1 v2 v3 : Int) (σ : jxS) : Option jxR := match fu with
  | 0 => none
  | fu + 1 =>
    if 12 < jw v3 then
      if jw v1 = (-1) then
        some (v2, σ)
      else
        some ((-2), σ)
    else
      Model_answers_c27 F (Model_answers_c18 F fu) F v1 v2 v3 0 σ
def Model_answers (F : Nat) (σ : jxS) (v1 : Int) : Option jxR :=
  if jw (σ 0 13) = 0 then
    some ((-1), σ)
  else
    if jw v1 < (-1) then
      some ((-1), σ)
    else
      Model_answers_c18 F F v1 0 1 σ
def jca_Model_answers (F : Nat) : jxA := fun as σ k => match as with
  | [.inr (.inr (.inl t0)), .inl v1] => bif Nat.beq t0 0 then (Model_answers F σ v1).bind (fun r => k (some (jmi r.1)) r.2) else none
  | _ => none
def Model_draws (F : Nat) (σ : jxS) (v1 : Int) : Option jxR :=
  if jw v1 < 0 then
    some ((-1), σ)
  else
    let s13 : jxS := jup σ 0 43 v1
    some ((σ 0 43), s13)
def jca_Model_draws (F : Nat) : jxA := fun as σ k => match as with
  | [.inr (.inr (.inl t0)), .inl v1] => bif Nat.beq t0 0 then (Model_draws F σ v1).bind (fun r => k (some (jmi r.1)) r.2) else none
  | _ => none
def Model_movesOfWalk_c4 (F : Nat) (fu : Nat) (v1 v2 : Int) (σ : jxS) : Option jxR := match fu with
  | 0 => none
  | fu + 1 =>
    if 12 < jw v2 then
      some (v1, σ)
    else
      if 0 ≤ v2 ∧ v2 < 13 then
        if 0 ≤ v2 ∧ v2 < 13 then
          (Model_movesOfWalk_c4 F fu) (v1 + ((σ 26 v2) * (σ 10 v2))) (v2 + 1) σ
        else none
      else none
def Model_movesOfWalk (F : Nat) (σ : jxS) : Option jxR :=
  Model_movesOfWalk_c4 F F 0 1 σ
def jca_Model_movesOfWalk (F : Nat) : jxA := fun as σ k => match as with
  | [.inr (.inr (.inl t0))] => bif Nat.beq t0 0 then (Model_movesOfWalk F σ).bind (fun r => k (some (jmi r.1)) r.2) else none
  | _ => none
def Model_draw (F : Nat) (σ : jxS) (v1 : Int) : Option jxR :=
  let s17 : jxS := jup σ 0 44 (jlrem (((σ 0 44) * 1103515245) + 12345) 2147483648)
  if jw64 (jw v1) = 0 then none else
  some ((jlrem (jldiv (s17 0 44) 65536) (jw v1)), s17)
def jca_Model_draw (F : Nat) : jxA := fun as σ k => match as with
  | [.inr (.inr (.inl t0)), .inl v1] => bif Nat.beq t0 0 then (Model_draw F σ v1).bind (fun r => k (some (jmi r.1)) r.2) else none
  | _ => none
def Model_goesBy_c4 (F : Nat) (fu : Nat) (v2 v3 : Int) (σ : jxS) : Option jxR := match fu with
  | 0 => none
  | fu + 1 =>
    if 0 ≤ v3 ∧ v3 < 13 then
      if 0 ≤ v3 ∧ v3 < 13 then
        if jw v2 < jw ((σ 26 v3) * (σ 10 v3)) then
          if 0 ≤ v3 ∧ v3 < 13 then
            if jw (σ 10 v3) = 0 then none else
            if 0 ≤ ((64 * v3) + (jrem v2 (σ 10 v3))) ∧ ((64 * v3) + (jrem v2 (σ 10 v3))) < 832 then
              (Model_changes F 26 σ v3 (σ 9 ((64 * v3) + (jrem v2 (σ 10 v3)))) 1).bind fun r67 =>
              some (0, r67.2)
            else none
          else none
        else
          if 0 ≤ v3 ∧ v3 < 13 then
            if 0 ≤ v3 ∧ v3 < 13 then
              (Model_goesBy_c4 F fu) (v2 - ((σ 26 v3) * (σ 10 v3))) (v3 + 1) σ
            else none
          else none
      else none
    else none
def Model_goesBy (F : Nat) (σ : jxS) (v1 : Int) : Option jxR :=
  Model_goesBy_c4 F F v1 1 σ
def jca_Model_goesBy (F : Nat) : jxA := fun as σ k => match as with
  | [.inr (.inr (.inl t0)), .inl v1] => bif Nat.beq t0 0 then (Model_goesBy F σ v1).bind (fun r => k none r.2) else none
  | _ => none
def Model_games_c133 (F : Nat) (k48 : Int → Int → Int → Int → Int → jxS → Option jxR) (v1 v2 v4 v5 v6 t0 t1 : Int) (σ : jxS) : Option jxR :=
  k48 v1 v2 (t1 + t0) (v4 + v6) (v5 + 1) σ
def Model_games_c93 (F : Nat) (k48 : Int → Int → Int → Int → Int → jxS → Option jxR) (fu : Nat) (v1 v2 v3 v4 v5 v6 v7 : Int) (σ : jxS) : Option jxR := match fu with
  | 0 => none
  | fu + 1 =>
    if 0 < jw v7 then
      (Model_draw F σ v7).bind fun r102 =>
      (Model_goesBy F r102.2 r102.1).bind fun r105 =>
      (Model_movesOfWalk F r105.2).bind fun r112 =>
      (Model_games_c93 F k48 fu) v1 v2 v3 v4 v5 (v6 + 1) r112.1 r112.2
    else
      if jw (jrem v6 2) = 0 then
        Model_games_c133 F k48 v1 v2 v4 v5 v6 1 v3 σ
      else
        Model_games_c133 F k48 v1 v2 v4 v5 v6 0 v3 σ
def Model_games_c57 (F : Nat) (k48 : Int → Int → Int → Int → Int → jxS → Option jxR) (fu : Nat) (v1 v2 v3 v4 v5 v6 : Int) (σ : jxS) : Option jxR := match fu with
  | 0 => none
  | fu + 1 =>
    if jw v6 < 13 then
      if 0 ≤ v6 ∧ v6 < 13 then
        if 0 ≤ v6 ∧ v6 < 13 then
          let s77 : jxS := jup σ 26 v6 (σ 24 v6)
          (Model_games_c57 F k48 fu) v1 v2 v3 v4 v5 (v6 + 1) s77
        else none
      else none
    else
      (Model_movesOfWalk F σ).bind fun r88 =>
      Model_games_c93 F k48 F v1 v2 v3 v4 v5 0 r88.1 r88.2
def Model_games_c48 (F : Nat) (fu : Nat) (v1 v2 v3 v4 v5 : Int) (σ : jxS) : Option jxR := match fu with
  | 0 => none
  | fu + 1 =>
    if jw v5 < jw v1 then
      Model_games_c57 F (Model_games_c48 F fu) F v1 v2 v3 v4 v5 0 σ
    else
      if jw v2 = 0 then
        some (v3, σ)
      else
        some (v4, σ)
def Model_games (F : Nat) (σ : jxS) (v1 v2 : Int) : Option jxR :=
  if jw (σ 0 13) = 0 then
    some ((-1), σ)
  else
    (Model_isIn F σ (jw v1) 1 20).bind fun r13 =>
    if jw r13.1 = 0 then
      some ((-1), r13.2)
    else
      (Model_isIn F r13.2 (jw v2) 0 1).bind fun r23 =>
      if jw r23.1 = 0 then
        some ((-1), r23.2)
      else
        let s37 : jxS := jup r23.2 0 44 (jw (r23.2 0 43))
        Model_games_c48 F F v1 v2 0 0 0 s37
def jca_Model_games (F : Nat) : jxA := fun as σ k => match as with
  | [.inr (.inr (.inl t0)), .inl v1, .inl v2] => bif Nat.beq t0 0 then (Model_games F σ v1 v2).bind (fun r => k (some (jmi r.1)) r.2) else none
  | _ => none
def Model_markOf_c38 (F : Nat) (k8 : Int → Int → Int → Int → jxS → Option jxR) (fu : Nat) (v1 v2 v4 v5 v6 v7 : Int) (σ : jxS) : Option jxR := match fu with
  | 0 => none
  | fu + 1 =>
    if 12 < jw v7 then
      if jw v6 = 0 then
        k8 v1 v2 v4 (v5 + 1) σ
      else
        (Model_losesBeside F 38 σ).bind fun r87 =>
        if jw r87.1 = 0 then
          k8 v1 (jlor v2 0) (v4 + 1) (v5 + 1) r87.2
        else
          k8 v1 (jlor v2 (jlshl 1 v4)) (v4 + 1) (v5 + 1) r87.2
    else
      if jw v6 = 0 then
        (Model_markOf_c38 F k8 fu) v1 v2 v4 v5 0 (v7 + 1) σ
      else
        if 0 ≤ v7 ∧ v7 < 13 then
          if jw (σ 29 v7) = 0 then
            (Model_markOf_c38 F k8 fu) v1 v2 v4 v5 1 (v7 + 1) σ
          else
            (Model_markOf_c38 F k8 fu) v1 v2 v4 v5 0 (v7 + 1) σ
        else none
def Model_markOf_c8 (F : Nat) (fu : Nat) (v1 v2 v4 v5 : Int) (σ : jxS) : Option jxR := match fu with
  | 0 => none
  | fu + 1 =>
    if jw v5 < jw (σ 14 8) then
      (Model_laysHeaps F 29 σ v5).bind fun r27 =>
      Model_markOf_c38 F (Model_markOf_c8 F fu) F v1 v2 v4 v5 1 (v1 + 1) r27.2
    else
      some (v2, σ)
def Model_markOf (F : Nat) (σ : jxS) (v1 : Int) : Option jxR :=
  Model_markOf_c8 F F v1 0 0 0 σ
def jca_Model_markOf (F : Nat) : jxA := fun as σ k => match as with
  | [.inr (.inr (.inl t0)), .inl v1] => bif Nat.beq t0 0 then (Model_markOf F σ v1).bind (fun r => k (some (jml r.1)) r.2) else none
  | _ => none
def Model_placeOf (F : Nat) (σ : jxS) (v0 v1 v2 : Int) : Option jxR :=
  some ((((112 * v0) + (7 * v1)) + v2), σ)
def jca_Model_placeOf (F : Nat) : jxA := fun as σ k => match as with
  | [.inl v0, .inl v1, .inl v2] => (Model_placeOf F σ v0 v1 v2).bind (fun r => k (some (jmi r.1)) r.2)
  | _ => none
def Model_addsElement_c11 (F : Nat) (fu : Nat) (v1 v2 v4 v5 : Int) (σ : jxS) : Option jxR := match fu with
  | 0 => none
  | fu + 1 =>
    if jw v1 < jw v5 then
      if 0 ≤ v4 ∧ v4 < 16 then
        let s50 : jxS := jup σ 37 v4 v2
        if 0 ≤ v1 ∧ v1 < 7 then
          if 0 ≤ v1 ∧ v1 < 7 then
            let s60 : jxS := jup s50 31 v1 ((s50 31 v1) + 1)
            some (0, s60)
          else none
        else none
      else none
    else
      (Model_placeOf F σ v1 v4 v5).bind fun r26 =>
      if 0 ≤ v5 ∧ v5 < 13 then
        if 0 ≤ r26.1 ∧ r26.1 < 784 then
          let s36 : jxS := jup r26.2 32 r26.1 (r26.2 38 v5)
          (Model_addsElement_c11 F fu) v1 v2 v4 (v5 + 1) s36
        else none
      else none
def Model_addsElement (F : Nat) (σ : jxS) (v1 v2 : Int) : Option jxR :=
  if 0 ≤ v1 ∧ v1 < 7 then
    Model_addsElement_c11 F F v1 v2 (σ 31 v1) 1 σ
  else none
def jca_Model_addsElement (F : Nat) : jxA := fun as σ k => match as with
  | [.inr (.inr (.inl t0)), .inl v1, .inr (.inl v2)] => bif Nat.beq t0 0 then (Model_addsElement F σ v1 v2).bind (fun r => k none r.2) else none
  | _ => none
def Model_takesWord_c2 (F : Nat) (fu : Nat) (v1 v2 v3 : Int) (σ : jxS) : Option jxR := match fu with
  | 0 => none
  | fu + 1 =>
    if jw v3 < 13 then
      if 0 < jw v3 then
        if jw v1 < jw v3 then
          if 0 ≤ v3 ∧ v3 < 13 then
            let s37 : jxS := jup σ 38 v3 0
            (Model_takesWord_c2 F fu) v1 v2 (v3 + 1) s37
          else none
        else
          (Model_placeOf F σ v1 v2 v3).bind fun r29 =>
          if 0 ≤ r29.1 ∧ r29.1 < 784 then
            if 0 ≤ v3 ∧ v3 < 13 then
              let s37 : jxS := jup r29.2 38 v3 (r29.2 32 r29.1)
              (Model_takesWord_c2 F fu) v1 v2 (v3 + 1) s37
            else none
          else none
      else
        if 0 ≤ v3 ∧ v3 < 13 then
          let s37 : jxS := jup σ 38 v3 0
          (Model_takesWord_c2 F fu) v1 v2 (v3 + 1) s37
        else none
    else
      some (0, σ)
def Model_takesWord (F : Nat) (σ : jxS) (v1 v2 : Int) : Option jxR :=
  Model_takesWord_c2 F F v1 v2 0 σ
def jca_Model_takesWord (F : Nat) : jxA := fun as σ k => match as with
  | [.inr (.inr (.inl t0)), .inl v1, .inl v2] => bif Nat.beq t0 0 then (Model_takesWord F σ v1 v2).bind (fun r => k none r.2) else none
  | _ => none
def Model_elementBy_c3 (F : Nat) (fu : Nat) (v1 v2 v4 : Int) (σ : jxS) : Option jxR := match fu with
  | 0 => none
  | fu + 1 =>
    if 0 ≤ v1 ∧ v1 < 7 then
      if jw v4 < jw (σ 31 v1) then
        if 0 ≤ v4 ∧ v4 < 16 then
          if jw (jlcmp (σ 37 v4) v2) = 0 then
            some (v4, σ)
          else
            (Model_elementBy_c3 F fu) v1 v2 (v4 + 1) σ
        else none
      else
        if 0 ≤ v1 ∧ v1 < 7 then
          if jw (σ 31 v1) = 16 then
            some ((-1), σ)
          else
            (Model_addsElement F σ v1 v2).bind fun r51 =>
            if 0 ≤ v1 ∧ v1 < 7 then
              some (((r51.2 31 v1) - 1), r51.2)
            else none
        else none
    else none
def Model_elementBy (F : Nat) (σ : jxS) (v1 v2 : Int) : Option jxR :=
  Model_elementBy_c3 F F v1 v2 0 σ
def jca_Model_elementBy (F : Nat) : jxA := fun as σ k => match as with
  | [.inr (.inr (.inl t0)), .inl v1, .inr (.inl v2)] => bif Nat.beq t0 0 then (Model_elementBy F σ v1 v2).bind (fun r => k (some (jmi r.1)) r.2) else none
  | _ => none
def Model_findsElements_c52 (F : Nat) (k40 : Int → Int → jxS → Option jxR) (fu : Nat) (v1 v2 v3 : Int) (σ : jxS) : Option jxR := match fu with
  | 0 => none
  | fu + 1 =>
    if jw v1 < jw v3 then
      k40 v1 (v2 + 1) σ
    else
      (Model_takesWord F σ v1 v2).bind fun r60 =>
      if 0 ≤ v3 ∧ v3 < 13 then
        if 0 ≤ v3 ∧ v3 < 13 then
          let s72 : jxS := jup r60.2 38 v3 ((r60.2 38 v3) + 1)
          (Model_beansOf F 38 s72).bind fun r77 =>
          if 15 < jw r77.1 then
            some (0, r77.2)
          else
            (Model_markOf F r77.2 v1).bind fun r91 =>
            (Model_elementBy F r91.2 v1 r91.1).bind fun r94 =>
            if jw r94.1 < 0 then
              some (0, r94.2)
            else
              (Model_placeOf F r94.2 v1 v2 v3).bind fun r113 =>
              if 0 ≤ r113.1 ∧ r113.1 < 784 then
                let s118 : jxS := jup r113.2 33 r113.1 r94.1
                (Model_findsElements_c52 F k40 fu) v1 v2 (v3 + 1) s118
              else none
        else none
      else none
def Model_findsElements_c40 (F : Nat) (fu : Nat) (v1 v2 : Int) (σ : jxS) : Option jxR := match fu with
  | 0 => none
  | fu + 1 =>
    if 0 ≤ v1 ∧ v1 < 7 then
      if jw v2 < jw (σ 31 v1) then
        Model_findsElements_c52 F (Model_findsElements_c40 F fu) F v1 v2 1 σ
      else
        some (1, σ)
    else none
def Model_findsElements_c9 (F : Nat) (fu : Nat) (v1 v2 : Int) (σ : jxS) : Option jxR := match fu with
  | 0 => none
  | fu + 1 =>
    if jw v2 < 13 then
      if 0 ≤ v2 ∧ v2 < 13 then
        let s21 : jxS := jup σ 38 v2 0
        (Model_findsElements_c9 F fu) v1 (v2 + 1) s21
      else none
    else
      (Model_markOf F σ v1).bind fun r32 =>
      (Model_addsElement F r32.2 v1 r32.1).bind fun r35 =>
      Model_findsElements_c40 F F v1 0 r35.2
def Model_findsElements (F : Nat) (σ : jxS) (v1 : Int) : Option jxR :=
  if 0 ≤ v1 ∧ v1 < 7 then
    let s6 : jxS := jup σ 31 v1 0
    Model_findsElements_c9 F F v1 0 s6
  else none
def jca_Model_findsElements (F : Nat) : jxA := fun as σ k => match as with
  | [.inr (.inr (.inl t0)), .inl v1] => bif Nat.beq t0 0 then (Model_findsElements F σ v1).bind (fun r => k (some (jmi r.1)) r.2) else none
  | _ => none
def Model_nextBy (F : Nat) (σ : jxS) (v1 v2 v3 : Int) : Option jxR :=
  if jw v3 = 0 then
    some (v2, σ)
  else
    (Model_placeOf F σ v1 v2 v3).bind fun r15 =>
    if 0 ≤ r15.1 ∧ r15.1 < 784 then
      some ((r15.2 33 r15.1), r15.2)
    else none
def jca_Model_nextBy (F : Nat) : jxA := fun as σ k => match as with
  | [.inr (.inr (.inl t0)), .inl v1, .inl v2, .inl v3] => bif Nat.beq t0 0 then (Model_nextBy F σ v1 v2 v3).bind (fun r => k (some (jmi r.1)) r.2) else none
  | _ => none
def Model_setBy_c55 (F : Nat) (fu : Nat) (v1 v2 v4 v5 v6 : Int) (σ : jxS) : Option jxR := match fu with
  | 0 => none
  | fu + 1 =>
    if 0 ≤ v4 ∧ v4 < 13 then
      if jw v6 < jw (σ 10 v4) then
        if 0 ≤ ((64 * v4) + v6) ∧ ((64 * v4) + v6) < 832 then
          (Model_nextBy F σ v1 v2 (jdiv (σ 9 ((64 * v4) + v6)) 13)).bind fun r91 =>
          if 0 ≤ ((64 * v4) + v6) ∧ ((64 * v4) + v6) < 832 then
            (Model_nextBy F r91.2 v1 r91.1 (jrem (r91.2 9 ((64 * v4) + v6)) 13)).bind fun r110 =>
            (Model_setBy_c55 F fu) v1 v2 v4 (jor v5 (jshl 1 r110.1)) (v6 + 1) r110.2
          else none
        else none
      else
        some (v5, σ)
    else none
def Model_setBy_c6 (F : Nat) (fu : Nat) (v1 v2 v3 v4 v5 v6 : Int) (σ : jxS) : Option jxR := match fu with
  | 0 => none
  | fu + 1 =>
    if 0 ≤ v1 ∧ v1 < 7 then
      if jw v6 < jw (σ 31 v1) then
        (Model_has F σ v3 v6).bind fun r22 =>
        if jw r22.1 = 0 then
          (Model_setBy_c6 F fu) v1 v2 v3 v4 (jor v5 0) (v6 + 1) r22.2
        else
          (Model_nextBy F r22.2 v1 v6 v4).bind fun r35 =>
          (Model_setBy_c6 F fu) v1 v2 v3 v4 (jor v5 (jshl 1 r35.1)) (v6 + 1) r35.2
      else
        Model_setBy_c55 F F v1 v2 v4 v5 0 σ
    else none
def Model_setBy (F : Nat) (σ : jxS) (v1 v2 v3 v4 : Int) : Option jxR :=
  Model_setBy_c6 F F v1 v2 v3 v4 0 0 σ
def jca_Model_setBy (F : Nat) : jxA := fun as σ k => match as with
  | [.inr (.inr (.inl t0)), .inl v1, .inl v2, .inl v3, .inl v4] => bif Nat.beq t0 0 then (Model_setBy F σ v1 v2 v3 v4).bind (fun r => k (some (jmi r.1)) r.2) else none
  | _ => none
def Model_pairAt_c3 (F : Nat) (fu : Nat) (v1 v2 v3 v4 : Int) (σ : jxS) : Option jxR := match fu with
  | 0 => none
  | fu + 1 =>
    if jw v4 < jw v1 then
      if 0 ≤ v4 ∧ v4 < 2000 then
        if jw (σ 39 v4) = jw v2 then
          if 0 ≤ v4 ∧ v4 < 2000 then
            if jw (σ 40 v4) = jw v3 then
              some (v4, σ)
            else
              (Model_pairAt_c3 F fu) v1 v2 v3 (v4 + 1) σ
          else none
        else
          (Model_pairAt_c3 F fu) v1 v2 v3 (v4 + 1) σ
      else none
    else
      some ((-1), σ)
def Model_pairAt (F : Nat) (σ : jxS) (v1 v2 v3 : Int) : Option jxR :=
  Model_pairAt_c3 F F v1 v2 v3 0 σ
def jca_Model_pairAt (F : Nat) : jxA := fun as σ k => match as with
  | [.inr (.inr (.inl t0)), .inl v1, .inl v2, .inl v3] => bif Nat.beq t0 0 then (Model_pairAt F σ v1 v2 v3).bind (fun r => k (some (jmi r.1)) r.2) else none
  | _ => none
def Model_findsPairs_c26 (F : Nat) (k18 : Int → Int → Int → jxS → Option jxR) (fu : Nat) (v1 v2 v3 v4 : Int) (σ : jxS) : Option jxR := match fu with
  | 0 => none
  | fu + 1 =>
    if jw v1 < jw v4 then
      k18 v1 v2 (v3 + 1) σ
    else
      if 0 ≤ v3 ∧ v3 < 2000 then
        (Model_nextBy F σ v1 (σ 39 v3) v4).bind fun r42 =>
        if 0 ≤ v3 ∧ v3 < 2000 then
          if 0 ≤ v3 ∧ v3 < 2000 then
            (Model_setBy F r42.2 v1 (r42.2 39 v3) (r42.2 40 v3) v4).bind fun r63 =>
            (Model_pairAt F r63.2 v2 r42.1 r63.1).bind fun r74 =>
            if jw r74.1 < 0 then
              if jw v2 = 2000 then
                some ((-2), r74.2)
              else
                if 0 ≤ v2 ∧ v2 < 2000 then
                  let s100 : jxS := jup r74.2 39 v2 r42.1
                  if 0 ≤ v2 ∧ v2 < 2000 then
                    let s108 : jxS := jup s100 40 v2 r63.1
                    (Model_findsPairs_c26 F k18 fu) v1 (v2 + 1) v3 (v4 + 1) s108
                  else none
                else none
            else
              (Model_findsPairs_c26 F k18 fu) v1 v2 v3 (v4 + 1) r74.2
          else none
        else none
      else none
def Model_findsPairs_c18 (F : Nat) (fu : Nat) (v1 v2 v3 : Int) (σ : jxS) : Option jxR := match fu with
  | 0 => none
  | fu + 1 =>
    if jw v3 < jw v2 then
      Model_findsPairs_c26 F (Model_findsPairs_c18 F fu) F v1 v2 v3 1 σ
    else
      some (v2, σ)
def Model_findsPairs (F : Nat) (σ : jxS) (v1 : Int) : Option jxR :=
  let s6 : jxS := jup σ 39 0 0
  let s13 : jxS := jup s6 40 0 0
  Model_findsPairs_c18 F F v1 1 0 s13
def jca_Model_findsPairs (F : Nat) : jxA := fun as σ k => match as with
  | [.inr (.inr (.inl t0)), .inl v1] => bif Nat.beq t0 0 then (Model_findsPairs F σ v1).bind (fun r => k (some (jmi r.1)) r.2) else none
  | _ => none
def Model_isSteady_c22 (F : Nat) (k2 : Int → Int → jxS → Option jxR) (k14 : Int → Int → Int → jxS → Option jxR) (fu : Nat) (v1 v2 v3 v4 : Int) (σ : jxS) : Option jxR := match fu with
  | 0 => none
  | fu + 1 =>
    if jw v1 < jw v4 then
      k14 v1 v2 (v3 + 1) σ
    else
      (Model_nextBy F σ v1 v2 v3).bind fun r34 =>
      (Model_nextBy F r34.2 v1 r34.1 v4).bind fun r39 =>
      (Model_nextBy F r39.2 v1 v2 v4).bind fun r49 =>
      (Model_nextBy F r49.2 v1 r49.1 v3).bind fun r53 =>
      if jw r39.1 = jw r53.1 then
        (Model_isSteady_c22 F k2 k14 fu) v1 v2 v3 (v4 + 1) r53.2
      else
        some (0, r53.2)
def Model_isSteady_c14 (F : Nat) (k2 : Int → Int → jxS → Option jxR) (fu : Nat) (v1 v2 v3 : Int) (σ : jxS) : Option jxR := match fu with
  | 0 => none
  | fu + 1 =>
    if jw v1 < jw v3 then
      k2 v1 (v2 + 1) σ
    else
      Model_isSteady_c22 F k2 (Model_isSteady_c14 F k2 fu) F v1 v2 v3 1 σ
def Model_isSteady_c2 (F : Nat) (fu : Nat) (v1 v2 : Int) (σ : jxS) : Option jxR := match fu with
  | 0 => none
  | fu + 1 =>
    if 0 ≤ v1 ∧ v1 < 7 then
      if jw v2 < jw (σ 31 v1) then
        Model_isSteady_c14 F (Model_isSteady_c2 F fu) F v1 v2 1 σ
      else
        some (1, σ)
    else none
def Model_isSteady (F : Nat) (σ : jxS) (v1 : Int) : Option jxR :=
  Model_isSteady_c2 F F v1 0 σ
def jca_Model_isSteady (F : Nat) : jxA := fun as σ k => match as with
  | [.inr (.inr (.inl t0)), .inl v1] => bif Nat.beq t0 0 then (Model_isSteady F σ v1).bind (fun r => k (some (jmi r.1)) r.2) else none
  | _ => none
def Model_arePairsRight_c58 (F : Nat) (k2 : Int → Int → jxS → Option jxR) (v1 v2 v3 t0 : Int) (σ : jxS) : Option jxR :=
  if jw v3 = jw t0 then
    k2 v1 (v2 + 1) σ
  else
    some (0, σ)
def Model_arePairsRight_c57 (F : Nat) (k2 : Int → Int → jxS → Option jxR) (v1 v2 v3 : Int) (σ : jxS) : Option jxR :=
  Model_arePairsRight_c58 F k2 v1 v2 v3 0 σ
def Model_arePairsRight_c2 (F : Nat) (fu : Nat) (v1 v2 : Int) (σ : jxS) : Option jxR := match fu with
  | 0 => none
  | fu + 1 =>
    if 0 ≤ v1 ∧ v1 < 7 then
      if jw v2 < jw (σ 35 v1) then
        if 0 ≤ v1 ∧ v1 < 7 then
          if 0 ≤ v2 ∧ v2 < 2000 then
            (Model_has F σ (σ 34 v1) (σ 39 v2)).bind fun r24 =>
            if 0 ≤ v2 ∧ v2 < 2000 then
              if jw (r24.2 40 v2) = 0 then
                Model_arePairsRight_c57 F (Model_arePairsRight_c2 F fu) v1 v2 r24.1 r24.2
              else
                if 0 ≤ v2 ∧ v2 < 2000 then
                  if 0 ≤ v1 ∧ v1 < 7 then
                    if jw (jand (r24.2 40 v2) (r24.2 34 v1)) = 0 then
                      Model_arePairsRight_c58 F (Model_arePairsRight_c2 F fu) v1 v2 r24.1 1 r24.2
                    else
                      Model_arePairsRight_c57 F (Model_arePairsRight_c2 F fu) v1 v2 r24.1 r24.2
                  else none
                else none
            else none
          else none
        else none
      else
        some (1, σ)
    else none
def Model_arePairsRight (F : Nat) (σ : jxS) (v1 : Int) : Option jxR :=
  Model_arePairsRight_c2 F F v1 0 σ
def jca_Model_arePairsRight (F : Nat) : jxA := fun as σ k => match as with
  | [.inr (.inr (.inl t0)), .inl v1] => bif Nat.beq t0 0 then (Model_arePairsRight F σ v1).bind (fun r => k (some (jmi r.1)) r.2) else none
  | _ => none
def Model_laysQuotient_c43 (F : Nat) (fu : Nat) (v1 v2 : Int) (σ : jxS) : Option jxR := match fu with
  | 0 => none
  | fu + 1 =>
    if 0 ≤ v1 ∧ v1 < 7 then
      if jw v2 < jw (σ 31 v1) then
        (Model_takesWord F σ v1 v2).bind fun r56 =>
        if 0 ≤ v1 ∧ v1 < 7 then
          (Model_numberOf F 38 r56.2).bind fun r75 =>
          if 0 ≤ r75.1 ∧ r75.1 < 4600 then
            if jw (r75.2 15 r75.1) = 0 then
              if 0 ≤ v1 ∧ v1 < 7 then
                let s90 : jxS := jup r75.2 34 v1 (jor (r56.2 34 v1) 0)
                (Model_laysQuotient_c43 F fu) v1 (v2 + 1) s90
              else none
            else
              if 0 ≤ v1 ∧ v1 < 7 then
                let s90 : jxS := jup r75.2 34 v1 (jor (r56.2 34 v1) (jshl 1 v2))
                (Model_laysQuotient_c43 F fu) v1 (v2 + 1) s90
              else none
          else none
        else none
      else
        (Model_findsPairs F σ v1).bind fun r104 =>
        if 0 ≤ v1 ∧ v1 < 7 then
          let s107 : jxS := jup r104.2 35 v1 r104.1
          (Model_isSteady F s107 v1).bind fun r115 =>
          if jw r115.1 = 0 then
            if 0 ≤ v1 ∧ v1 < 7 then
              let s147 : jxS := jup r115.2 36 v1 0
              some (0, s147)
            else none
          else
            if 0 ≤ v1 ∧ v1 < 7 then
              if 0 < jw (r115.2 35 v1) then
                (Model_arePairsRight F r115.2 v1).bind fun r136 =>
                if jw r136.1 = 0 then
                  if 0 ≤ v1 ∧ v1 < 7 then
                    let s147 : jxS := jup r136.2 36 v1 1
                    some (0, s147)
                  else none
                else
                  if 0 ≤ v1 ∧ v1 < 7 then
                    let s147 : jxS := jup r136.2 36 v1 2
                    some (0, s147)
                  else none
              else
                if 0 ≤ v1 ∧ v1 < 7 then
                  let s147 : jxS := jup r115.2 36 v1 1
                  some (0, s147)
                else none
            else none
        else none
    else none
def Model_laysQuotient (F : Nat) (σ : jxS) (v1 : Int) : Option jxR :=
  if 0 ≤ v1 ∧ v1 < 7 then
    if jw (σ 30 v1) = 0 then
      if 0 ≤ v1 ∧ v1 < 7 then
        let s16 : jxS := jup σ 30 v1 1
        (Model_findsElements F s16 v1).bind fun r19 =>
        if jw r19.1 = 0 then
          if 0 ≤ v1 ∧ v1 < 7 then
            let s32 : jxS := jup r19.2 31 v1 (-3)
            some (0, s32)
          else none
        else
          if 0 ≤ v1 ∧ v1 < 7 then
            let s40 : jxS := jup r19.2 34 v1 0
            Model_laysQuotient_c43 F F v1 0 s40
          else none
      else none
    else
      some (0, σ)
  else none
def jca_Model_laysQuotient (F : Nat) : jxA := fun as σ k => match as with
  | [.inr (.inr (.inl t0)), .inl v1] => bif Nat.beq t0 0 then (Model_laysQuotient F σ v1).bind (fun r => k none r.2) else none
  | _ => none
def Model_isQuotient (F : Nat) (σ : jxS) (v1 : Int) : Option jxR :=
  if jw (σ 0 13) = 0 then
    some (0, σ)
  else
    (Model_isIn F σ (jw v1) 1 6).bind fun r13 =>
    if jw r13.1 = 0 then
      some (0, r13.2)
    else
      (Model_laysQuotient F r13.2 v1).bind fun r23 =>
      some (1, r23.2)
def jca_Model_isQuotient (F : Nat) : jxA := fun as σ k => match as with
  | [.inr (.inr (.inl t0)), .inl v1] => bif Nat.beq t0 0 then (Model_isQuotient F σ v1).bind (fun r => k (some (jmi r.1)) r.2) else none
  | _ => none
def Model_elements (F : Nat) (σ : jxS) (v1 : Int) : Option jxR :=
  (Model_isQuotient F σ v1).bind fun r2 =>
  if jw r2.1 = 0 then
    some ((-1), r2.2)
  else
    if 0 ≤ v1 ∧ v1 < 7 then
      some ((r2.2 31 v1), r2.2)
    else none
def jca_Model_elements (F : Nat) : jxA := fun as σ k => match as with
  | [.inr (.inr (.inl t0)), .inl v1] => bif Nat.beq t0 0 then (Model_elements F σ v1).bind (fun r => k (some (jmi r.1)) r.2) else none
  | _ => none
def Model_isKnown (F : Nat) (σ : jxS) (v1 : Int) : Option jxR :=
  if 0 ≤ v1 ∧ v1 < 7 then
    if 0 < jw (σ 31 v1) then
      some (1, σ)
    else
      some (0, σ)
  else none
def jca_Model_isKnown (F : Nat) : jxA := fun as σ k => match as with
  | [.inr (.inr (.inl t0)), .inl v1] => bif Nat.beq t0 0 then (Model_isKnown F σ v1).bind (fun r => k (some (jmi r.1)) r.2) else none
  | _ => none
def Model_isElement (F : Nat) (σ : jxS) (v1 v2 : Int) : Option jxR :=
  if 0 ≤ v1 ∧ v1 < 7 then
    (Model_isIn F σ (jw v2) 0 (jw ((σ 31 v1) - 1))).bind fun r12 =>
    if r12.1 = 0 ∨ r12.1 = 1 then some (r12.1, r12.2) else none
  else none
def jca_Model_isElement (F : Nat) : jxA := fun as σ k => match as with
  | [.inr (.inr (.inl t0)), .inl v1, .inl v2] => bif Nat.beq t0 0 then (Model_isElement F σ v1 v2).bind (fun r => k (some (jmi r.1)) r.2) else none
  | _ => none
def Model_word (F : Nat) (σ : jxS) (v1 v2 v3 : Int) : Option jxR :=
  (Model_isQuotient F σ v1).bind fun r2 =>
  if jw r2.1 = 0 then
    some ((-1), r2.2)
  else
    (Model_isIn F r2.2 (jw v3) 0 (jw v1)).bind fun r13 =>
    if jw r13.1 = 0 then
      some ((-1), r13.2)
    else
      (Model_isKnown F r13.2 v1).bind fun r23 =>
      if jw r23.1 = 0 then
        some ((-3), r23.2)
      else
        (Model_isElement F r23.2 v1 v2).bind fun r35 =>
        if jw r35.1 = 0 then
          some ((-1), r35.2)
        else
          (Model_takesWord F r35.2 v1 v2).bind fun r46 =>
          if jw v3 = 0 then
            (Model_beansOf F 38 r46.2).bind fun r57 =>
            some (r57.1, r57.2)
          else
            if 0 ≤ v3 ∧ v3 < 13 then
              some ((r46.2 38 v3), r46.2)
            else none
def jca_Model_word (F : Nat) : jxA := fun as σ k => match as with
  | [.inr (.inr (.inl t0)), .inl v1, .inl v2, .inl v3] => bif Nat.beq t0 0 then (Model_word F σ v1 v2 v3).bind (fun r => k (some (jmi r.1)) r.2) else none
  | _ => none
def Model_next_IIII (F : Nat) (σ : jxS) (v1 v2 v3 : Int) : Option jxR :=
  (Model_isQuotient F σ v1).bind fun r2 =>
  if jw r2.1 = 0 then
    some ((-1), r2.2)
  else
    (Model_isIn F r2.2 (jw v3) 1 (jw v1)).bind fun r13 =>
    if jw r13.1 = 0 then
      some ((-1), r13.2)
    else
      (Model_isKnown F r13.2 v1).bind fun r23 =>
      if jw r23.1 = 0 then
        some ((-3), r23.2)
      else
        (Model_isElement F r23.2 v1 v2).bind fun r35 =>
        if jw r35.1 = 0 then
          some ((-1), r35.2)
        else
          (Model_nextBy F r35.2 v1 v2 v3).bind fun r45 =>
          some (r45.1, r45.2)
def jca_Model_next_IIII (F : Nat) : jxA := fun as σ k => match as with
  | [.inr (.inr (.inl t0)), .inl v1, .inl v2, .inl v3] => bif Nat.beq t0 0 then (Model_next_IIII F σ v1 v2 v3).bind (fun r => k (some (jmi r.1)) r.2) else none
  | _ => none
def Model_timesOf_c15 (F : Nat) (k6 : Int → Int → Int → Int → jxS → Option jxR) (fu : Nat) (v1 v3 v4 v5 v6 : Int) (σ : jxS) : Option jxR := match fu with
  | 0 => none
  | fu + 1 =>
    (Model_placeOf F σ v1 v3 v5).bind fun r25 =>
    if 0 ≤ r25.1 ∧ r25.1 < 784 then
      if jw v6 < jw (r25.2 32 r25.1) then
        (Model_nextBy F r25.2 v1 v4 v5).bind fun r38 =>
        (Model_timesOf_c15 F k6 fu) v1 v3 r38.1 v5 (v6 + 1) r38.2
      else
        k6 v1 v3 v4 (v5 + 1) r25.2
    else none
def Model_timesOf_c6 (F : Nat) (fu : Nat) (v1 v3 v4 v5 : Int) (σ : jxS) : Option jxR := match fu with
  | 0 => none
  | fu + 1 =>
    if jw v1 < jw v5 then
      some (v4, σ)
    else
      Model_timesOf_c15 F (Model_timesOf_c6 F fu) F v1 v3 v4 v5 0 σ
def Model_timesOf (F : Nat) (σ : jxS) (v1 v2 v3 : Int) : Option jxR :=
  Model_timesOf_c6 F F v1 v3 v2 1 σ
def jca_Model_timesOf (F : Nat) : jxA := fun as σ k => match as with
  | [.inr (.inr (.inl t0)), .inl v1, .inl v2, .inl v3] => bif Nat.beq t0 0 then (Model_timesOf F σ v1 v2 v3).bind (fun r => k (some (jmi r.1)) r.2) else none
  | _ => none
def Model_times (F : Nat) (σ : jxS) (v1 v2 v3 : Int) : Option jxR :=
  (Model_isQuotient F σ v1).bind fun r2 =>
  if jw r2.1 = 0 then
    some ((-1), r2.2)
  else
    (Model_isKnown F r2.2 v1).bind fun r12 =>
    if jw r12.1 = 0 then
      some ((-3), r12.2)
    else
      (Model_isElement F r12.2 v1 v2).bind fun r24 =>
      if jw r24.1 = 0 then
        some ((-1), r24.2)
      else
        (Model_isElement F r24.2 v1 v3).bind fun r33 =>
        if jw r33.1 = 0 then
          some ((-1), r33.2)
        else
          (Model_timesOf F r33.2 v1 v2 v3).bind fun r43 =>
          some (r43.1, r43.2)
def jca_Model_times (F : Nat) : jxA := fun as σ k => match as with
  | [.inr (.inr (.inl t0)), .inl v1, .inl v2, .inl v3] => bif Nat.beq t0 0 then (Model_times F σ v1 v2 v3).bind (fun r => k (some (jmi r.1)) r.2) else none
  | _ => none
def Model_comesOf_c5 (F : Nat) (fu : Nat) (v1 v2 v3 v4 : Int) (σ : jxS) : Option jxR := match fu with
  | 0 => none
  | fu + 1 =>
    if 0 ≤ v1 ∧ v1 < 7 then
      if jw v4 < jw (σ 31 v1) then
        (Model_timesOf F σ v1 v2 v4).bind fun r23 =>
        (Model_comesOf_c5 F fu) v1 v2 (jor v3 (jshl 1 r23.1)) (v4 + 1) r23.2
      else
        some (v3, σ)
    else none
def Model_comesOf (F : Nat) (σ : jxS) (v1 v2 : Int) : Option jxR :=
  Model_comesOf_c5 F F v1 v2 0 0 σ
def jca_Model_comesOf (F : Nat) : jxA := fun as σ k => match as with
  | [.inr (.inr (.inl t0)), .inl v1, .inl v2] => bif Nat.beq t0 0 then (Model_comesOf F σ v1 v2).bind (fun r => k (some (jmi r.1)) r.2) else none
  | _ => none
def Model_sets_c98 (F : Nat) (k53 : Int → Int → Int → Int → Int → Int → jxS → Option jxR) (v1 v2 v3 v5 v6 t0 t1 : Int) (σ : jxS) : Option jxR :=
  (Model_timesOf F σ v1 v6 v6).bind fun r109 =>
  if jw r109.1 = jw v6 then
    k53 v1 v2 v3 (jor t1 t0) (jor v5 (jshl 1 v6)) (v6 + 1) r109.2
  else
    k53 v1 v2 v3 (jor t1 t0) (jor v5 0) (v6 + 1) r109.2
def Model_sets_c53 (F : Nat) (fu : Nat) (v1 v2 v3 v4 v5 v6 : Int) (σ : jxS) : Option jxR := match fu with
  | 0 => none
  | fu + 1 =>
    if 0 ≤ v1 ∧ v1 < 7 then
      if jw v6 < jw (σ 31 v1) then
        (Model_comesOf F σ v1 v6).bind fun r69 =>
        (Model_comesOf F r69.2 v1 v6).bind fun r80 =>
        (Model_has F r80.2 r80.1 0).bind fun r84 =>
        if jw r84.1 = 0 then
          Model_sets_c98 F (Model_sets_c53 F fu) v1 v2 (jand v3 r69.1) v5 v6 0 v4 r84.2
        else
          Model_sets_c98 F (Model_sets_c53 F fu) v1 v2 (jand v3 r69.1) v5 v6 (jshl 1 v6) v4 r84.2
      else
        if jw v2 = 0 then
          if 0 ≤ v1 ∧ v1 < 7 then
            some ((σ 34 v1), σ)
          else none
        else
          if jw v2 = 1 then
            some (v3, σ)
          else
            if jw v2 = 2 then
              some (v4, σ)
            else
              some (v5, σ)
    else none
def Model_sets (F : Nat) (σ : jxS) (v1 v2 : Int) : Option jxR :=
  (Model_isQuotient F σ v1).bind fun r2 =>
  if jw r2.1 = 0 then
    some ((-1), r2.2)
  else
    (Model_isIn F r2.2 (jw v2) 0 3).bind fun r14 =>
    if jw r14.1 = 0 then
      some ((-1), r14.2)
    else
      (Model_isKnown F r14.2 v1).bind fun r24 =>
      if jw r24.1 = 0 then
        some ((-3), r24.2)
      else
        if 0 ≤ v1 ∧ v1 < 7 then
          Model_sets_c53 F F v1 v2 ((jshl 1 (r24.2 31 v1)) - 1) 0 0 0 r24.2
        else none
def jca_Model_sets (F : Nat) : jxA := fun as σ k => match as with
  | [.inr (.inr (.inl t0)), .inl v1, .inl v2] => bif Nat.beq t0 0 then (Model_sets F σ v1 v2).bind (fun r => k (some (jmi r.1)) r.2) else none
  | _ => none
def Model_pairs (F : Nat) (σ : jxS) (v1 : Int) : Option jxR :=
  (Model_isQuotient F σ v1).bind fun r2 =>
  if jw r2.1 = 0 then
    some ((-1), r2.2)
  else
    (Model_isKnown F r2.2 v1).bind fun r12 =>
    if jw r12.1 = 0 then
      some ((-3), r12.2)
    else
      if 0 ≤ v1 ∧ v1 < 7 then
        some ((r12.2 35 v1), r12.2)
      else none
def jca_Model_pairs (F : Nat) : jxA := fun as σ k => match as with
  | [.inr (.inr (.inl t0)), .inl v1] => bif Nat.beq t0 0 then (Model_pairs F σ v1).bind (fun r => k (some (jmi r.1)) r.2) else none
  | _ => none
def Model_proved (F : Nat) (σ : jxS) (v1 : Int) : Option jxR :=
  (Model_isQuotient F σ v1).bind fun r2 =>
  if jw r2.1 = 0 then
    some ((-1), r2.2)
  else
    (Model_isKnown F r2.2 v1).bind fun r12 =>
    if jw r12.1 = 0 then
      some ((-3), r12.2)
    else
      if 0 ≤ v1 ∧ v1 < 7 then
        some ((r12.2 36 v1), r12.2)
      else none
def jca_Model_proved (F : Nat) : jxA := fun as σ k => match as with
  | [.inr (.inr (.inl t0)), .inl v1] => bif Nat.beq t0 0 then (Model_proved F σ v1).bind (fun r => k (some (jmi r.1)) r.2) else none
  | _ => none
def Model_areAlike_c47 (F : Nat) (k34 : Int → Int → Int → jxS → Option jxR) (fu : Nat) (v1 v2 v3 v4 : Int) (σ : jxS) : Option jxR := match fu with
  | 0 => none
  | fu + 1 =>
    if jw v1 < jw v4 then
      k34 v1 v2 (v3 + 1) σ
    else
      (Model_nextBy F σ v1 v3 v4).bind fun r58 =>
      (Model_nextBy F r58.2 v2 v3 v4).bind fun r66 =>
      if jw r58.1 = jw r66.1 then
        (Model_areAlike_c47 F k34 fu) v1 v2 v3 (v4 + 1) r66.2
      else
        some (0, r66.2)
def Model_areAlike_c34 (F : Nat) (fu : Nat) (v1 v2 v3 : Int) (σ : jxS) : Option jxR := match fu with
  | 0 => none
  | fu + 1 =>
    if 0 ≤ v1 ∧ v1 < 7 then
      if jw v3 < jw (σ 31 v1) then
        Model_areAlike_c47 F (Model_areAlike_c34 F fu) F v1 v2 v3 1 σ
      else
        some (1, σ)
    else none
def Model_areAlike (F : Nat) (σ : jxS) (v1 v2 : Int) : Option jxR :=
  if 0 ≤ v2 ∧ v2 < 7 then
    if 0 ≤ v1 ∧ v1 < 7 then
      if jw (σ 31 v2) = jw (σ 31 v1) then
        if 0 ≤ v2 ∧ v2 < 7 then
          if 0 ≤ v1 ∧ v1 < 7 then
            if jw (σ 34 v2) = jw (σ 34 v1) then
              Model_areAlike_c34 F F v1 v2 0 σ
            else
              some (0, σ)
          else none
        else none
      else
        some (0, σ)
    else none
  else none
def jca_Model_areAlike (F : Nat) : jxA := fun as σ k => match as with
  | [.inr (.inr (.inl t0)), .inl v1, .inl v2] => bif Nat.beq t0 0 then (Model_areAlike F σ v1 v2).bind (fun r => k (some (jmi r.1)) r.2) else none
  | _ => none
def Model_stays_c23 (F : Nat) (fu : Nat) (v1 v2 : Int) (σ : jxS) : Option jxR := match fu with
  | 0 => none
  | fu + 1 =>
    if jw v2 < 6 then
      (Model_laysQuotient F σ (v2 + 1)).bind fun r33 =>
      (Model_isKnown F r33.2 (v2 + 1)).bind fun r40 =>
      if jw r40.1 = 0 then
        some (v2, r40.2)
      else
        (Model_areAlike F r40.2 v1 (v2 + 1)).bind fun r51 =>
        if jw r51.1 = 0 then
          some (v2, r51.2)
        else
          (Model_stays_c23 F fu) v1 (v2 + 1) r51.2
    else
      some (v2, σ)
def Model_stays (F : Nat) (σ : jxS) (v1 : Int) : Option jxR :=
  (Model_isQuotient F σ v1).bind fun r2 =>
  if jw r2.1 = 0 then
    some ((-1), r2.2)
  else
    (Model_isKnown F r2.2 v1).bind fun r12 =>
    if jw r12.1 = 0 then
      some ((-3), r12.2)
    else
      Model_stays_c23 F F v1 v1 r12.2
def jca_Model_stays (F : Nat) : jxA := fun as σ k => match as with
  | [.inr (.inr (.inl t0)), .inl v1] => bif Nat.beq t0 0 then (Model_stays F σ v1).bind (fun r => k (some (jmi r.1)) r.2) else none
  | _ => none
def Model_power_c72 (F : Nat) (fu : Nat) (v1 v2 v3 v4 v5 : Int) (σ : jxS) : Option jxR := match fu with
  | 0 => none
  | fu + 1 =>
    if 0 ≤ v4 ∧ v4 < 16 then
      if jw (σ 41 v4) = 0 then
        if 0 ≤ v4 ∧ v4 < 16 then
          let s90 : jxS := jup σ 41 v4 v5
          (Model_timesOf F s90 v1 v4 v2).bind fun r96 =>
          (Model_power_c72 F fu) v1 v2 v3 r96.1 (v5 + 1) r96.2
        else none
      else
        if jw v3 = 0 then
          if 0 ≤ v4 ∧ v4 < 16 then
            some ((σ 41 v4), σ)
          else none
        else
          if 0 ≤ v4 ∧ v4 < 16 then
            some ((v5 - (σ 41 v4)), σ)
          else none
    else none
def Model_power_c45 (F : Nat) (fu : Nat) (v1 v2 v3 v4 : Int) (σ : jxS) : Option jxR := match fu with
  | 0 => none
  | fu + 1 =>
    if jw v4 < 16 then
      if 0 ≤ v4 ∧ v4 < 16 then
        let s59 : jxS := jup σ 41 v4 0
        (Model_power_c45 F fu) v1 v2 v3 (v4 + 1) s59
      else none
    else
      Model_power_c72 F F v1 v2 v3 v2 1 σ
def Model_power (F : Nat) (σ : jxS) (v1 v2 v3 : Int) : Option jxR :=
  (Model_isQuotient F σ v1).bind fun r2 =>
  if jw r2.1 = 0 then
    some ((-1), r2.2)
  else
    (Model_isIn F r2.2 (jw v3) 0 1).bind fun r12 =>
    if jw r12.1 = 0 then
      some ((-1), r12.2)
    else
      (Model_isKnown F r12.2 v1).bind fun r22 =>
      if jw r22.1 = 0 then
        some ((-3), r22.2)
      else
        (Model_isElement F r22.2 v1 v2).bind fun r34 =>
        if jw r34.1 = 0 then
          some ((-1), r34.2)
        else
          Model_power_c45 F F v1 v2 v3 0 r34.2
def jca_Model_power (F : Nat) : jxA := fun as σ k => match as with
  | [.inr (.inr (.inl t0)), .inl v1, .inl v2, .inl v3] => bif Nat.beq t0 0 then (Model_power F σ v1 v2 v3).bind (fun r => k (some (jmi r.1)) r.2) else none
  | _ => none
def Model_place_c77 (F : Nat) (k68 : Int → Int → Int → Int → jxS → Option jxR) (fu : Nat) (v1 v2 v3 v4 v5 : Int) (σ : jxS) : Option jxR := match fu with
  | 0 => none
  | fu + 1 =>
    if jw v5 < jw v2 then
      if 0 ≤ v5 ∧ v5 < 200 then
        if jw (σ 1 v5) = jw v4 then
          (Model_nextBy F σ v1 v3 v4).bind fun r100 =>
          (Model_place_c77 F k68 fu) v1 v2 r100.1 v4 (v5 + 1) r100.2
        else
          (Model_place_c77 F k68 fu) v1 v2 v3 v4 (v5 + 1) σ
      else none
    else
      k68 v1 v2 v3 (v4 + 1) σ
def Model_place_c68 (F : Nat) (fu : Nat) (v1 v2 v3 v4 : Int) (σ : jxS) : Option jxR := match fu with
  | 0 => none
  | fu + 1 =>
    if jw v1 < jw v4 then
      some (v3, σ)
    else
      Model_place_c77 F (Model_place_c68 F fu) F v1 v2 v3 v4 0 σ
def Model_place_c22 (F : Nat) (fu : Nat) (v1 v2 v3 : Int) (σ : jxS) : Option jxR := match fu with
  | 0 => none
  | fu + 1 =>
    if jw v3 < jw v2 then
      if 0 ≤ v3 ∧ v3 < 200 then
        (Model_isIn F σ (jw (σ 1 v3)) 1 (jw v1)).bind fun r37 =>
        if jw r37.1 = 0 then
          some ((-2), r37.2)
        else
          (Model_place_c22 F fu) v1 v2 (v3 + 1) r37.2
      else none
    else
      (Model_isKnown F σ v1).bind fun r54 =>
      if jw r54.1 = 0 then
        some ((-3), r54.2)
      else
        Model_place_c68 F F v1 v2 0 1 r54.2
def Model_place (F : Nat) (σ : jxS) (v1 : Int) : Option jxR :=
  (Model_isQuotient F σ v1).bind fun r2 =>
  if jw r2.1 = 0 then
    some ((-1), r2.2)
  else
    let s17 : jxS := jup r2.2 0 1 0
    Model_place_c22 F F v1 (r2.2 0 1) 0 s17
def jca_Model_place (F : Nat) : jxA := fun as σ k => match as with
  | [.inr (.inr (.inl t0)), .inl v1] => bif Nat.beq t0 0 then (Model_place F σ v1).bind (fun r => k (some (jmi r.1)) r.2) else none
  | _ => none
def Model_count (F : Nat) (σ : jxS) (v1 : Int) : Option jxR :=
  if jw v1 = 0 then
    if jw (σ 0 13) = 0 then
      some (0, σ)
    else
      some ((σ 0 11), σ)
  else
  if jw v1 = 1 then
    if jw (σ 0 13) = 0 then
      some (0, σ)
    else
      some ((σ 0 12), σ)
  else
  if jw v1 = 2 then
    some ((σ 0 43), σ)
  else
  if jw v1 = 3 then
    some ((σ 0 37), σ)
  else
  if jw v1 = 4 then
    some ((σ 0 40), σ)
  else
  if jw v1 = 5 then
    some ((σ 0 1), σ)
  else
    some ((-1), σ)
def jca_Model_count (F : Nat) : jxA := fun as σ k => match as with
  | [.inr (.inr (.inl t0)), .inl v1] => bif Nat.beq t0 0 then (Model_count F σ v1).bind (fun r => k (some (jmi r.1)) r.2) else none
  | _ => none
def Model_countsWays_c110 (F : Nat) (fu : Nat) (v1 : Int) (σ : jxS) : Option jxR := match fu with
  | 0 => none
  | fu + 1 =>
    if 22 < jw v1 then
      let s154 : jxS := jup σ 0 24 (σ 14 23)
      some (0, s154)
    else
      if 0 ≤ v1 ∧ v1 < 24 then
        if 0 ≤ (23 + v1) ∧ (23 + v1) < 322 then
          if 0 ≤ (v1 + 1) ∧ (v1 + 1) < 24 then
            let s139 : jxS := jup σ 14 (v1 + 1) ((σ 14 v1) + (σ 13 (23 + v1)))
            (Model_countsWays_c110 F fu) (v1 + 1) s139
          else none
        else none
      else none
def Model_countsWays_c43 (F : Nat) (k36 : Int → jxS → Option jxR) (fu : Nat) (v1 v2 : Int) (σ : jxS) : Option jxR := match fu with
  | 0 => none
  | fu + 1 =>
    if 22 < jw v2 then
      k36 (v1 + (-1)) σ
    else
      if 0 ≤ ((23 * (v1 + 1)) + v2) ∧ ((23 * (v1 + 1)) + v2) < 322 then
        if jw v2 < jw v1 then
          if 0 ≤ ((23 * v1) + v2) ∧ ((23 * v1) + v2) < 322 then
            let s95 : jxS := jup σ 13 ((23 * v1) + v2) ((σ 13 ((23 * (v1 + 1)) + v2)) + 0)
            (Model_countsWays_c43 F k36 fu) v1 (v2 + 1) s95
          else none
        else
          if 0 ≤ (((23 * v1) + v2) - v1) ∧ (((23 * v1) + v2) - v1) < 322 then
            if 0 ≤ ((23 * v1) + v2) ∧ ((23 * v1) + v2) < 322 then
              let s95 : jxS := jup σ 13 ((23 * v1) + v2) ((σ 13 ((23 * (v1 + 1)) + v2)) + (σ 13 (((23 * v1) + v2) - v1)))
              (Model_countsWays_c43 F k36 fu) v1 (v2 + 1) s95
            else none
          else none
      else none
def Model_countsWays_c36 (F : Nat) (fu : Nat) (v1 : Int) (σ : jxS) : Option jxR := match fu with
  | 0 => none
  | fu + 1 =>
    if jw v1 < 1 then
      Model_countsWays_c110 F F 0 σ
    else
      Model_countsWays_c43 F (Model_countsWays_c36 F fu) F v1 0 σ
def Model_countsWays_c2 (F : Nat) (fu : Nat) (v1 : Int) (σ : jxS) : Option jxR := match fu with
  | 0 => none
  | fu + 1 =>
    if 22 < jw v1 then
      Model_countsWays_c36 F F 12 σ
    else
      if jw v1 = 0 then
        if 0 ≤ (299 + v1) ∧ (299 + v1) < 322 then
          let s26 : jxS := jup σ 13 (299 + v1) 1
          (Model_countsWays_c2 F fu) (v1 + 1) s26
        else none
      else
        if 0 ≤ (299 + v1) ∧ (299 + v1) < 322 then
          let s26 : jxS := jup σ 13 (299 + v1) 0
          (Model_countsWays_c2 F fu) (v1 + 1) s26
        else none
def Model_countsWays (F : Nat) (σ : jxS) : Option jxR :=
  Model_countsWays_c2 F F 0 σ
def jca_Model_countsWays (F : Nat) : jxA := fun as σ k => match as with
  | [.inr (.inr (.inl t0))] => bif Nat.beq t0 0 then (Model_countsWays F σ).bind (fun r => k none r.2) else none
  | _ => none
