def Tape_append_c3 (F : Nat) (fu : Nat) (v1 v2 : Int) (σ : jxS) : Option jxR := match fu with
  | 0 => none
  | fu + 1 =>
    if jw v2 < 0 then
      some (0, σ)
    else
      if jw (σ 1 1) < 200 then
        if 0 ≤ (σ 1 1) ∧ (σ 1 1) < 200 then
          let s32 : jxS := jup σ 2 (σ 1 1) (jand (jushr v1 v2) 255)
          let s40 : jxS := jup s32 1 1 ((s32 1 1) + 1)
          (Tape_append_c3 F fu) v1 (v2 + (-8)) s40
        else none
      else
        some (0, σ)
def Tape_append (F : Nat) (σ : jxS) (v1 : Int) : Option jxR :=
  Tape_append_c3 F F v1 24 σ
def jca_Tape_append (F : Nat) : jxA := fun as σ k => match as with
  | [.inr (.inr (.inl t0)), .inl v1] => bif Nat.beq t0 1 then (Tape_append F σ v1).bind (fun r => k none r.2) else none
  | _ => none
def Tape_hasRoom (F : Nat) (σ : jxS) : Option jxR :=
  if 200 < jw ((σ 1 1) + 20) then
    some (0, σ)
  else
    some (1, σ)
def jca_Tape_hasRoom (F : Nat) : jxA := fun as σ k => match as with
  | [.inr (.inr (.inl t0))] => bif Nat.beq t0 1 then (Tape_hasRoom F σ).bind (fun r => k (some (jmi r.1)) r.2) else none
  | _ => none
def Tape_size (F : Nat) (σ : jxS) : Option jxR :=
  some ((σ 1 1), σ)
def jca_Tape_size (F : Nat) : jxA := fun as σ k => match as with
  | [.inr (.inr (.inl t0))] => bif Nat.beq t0 1 then (Tape_size F σ).bind (fun r => k (some (jmi r.1)) r.2) else none
  | _ => none
def LL1_feed (F : Nat) (σ : jxS) (v1 v2 v3 v4 v5 : Int) : Option jxR :=
  (Tape_hasRoom F σ).bind fun r4 =>
  if jw r4.1 = 0 then
    some ((-1), r4.2)
  else
    (Tape_append F r4.2 v1).bind fun r17 =>
    (Tape_append F r17.2 v2).bind fun r25 =>
    (Tape_append F r25.2 v3).bind fun r33 =>
    (Tape_append F r33.2 v4).bind fun r42 =>
    (Tape_append F r42.2 v5).bind fun r51 =>
    (Tape_size F r51.2).bind fun r58 =>
    some (r58.1, r58.2)
def jca_LL1_feed (F : Nat) : jxA := fun as σ k => match as with
  | [.inr (.inr (.inl t0)), .inl v1, .inl v2, .inl v3, .inl v4, .inl v5] => bif Nat.beq t0 0 then (LL1_feed F σ v1 v2 v3 v4 v5).bind (fun r => k (some (jmi r.1)) r.2) else none
  | _ => none
def Rules_allows_c72 (F : Nat) (v1 v4 t0 : Int) (σ : jxS) : Option jxR :=
  if 0 ≤ v1 ∧ v1 < 13 then
    if jw (jand (jshr (σ 54 v1) v4) 1) = 0 then
      if 0 ≤ (v4 - 1) ∧ (v4 - 1) < 8 then
        if jw (jand (σ 53 (v4 - 1)) t0) = 0 then
          some (0, σ)
        else
          some (1, σ)
      else none
    else
      some (0, σ)
  else none
def Rules_allows (F : Nat) (σ : jxS) (v1 v2 v3 : Int) : Option jxR :=
  if 0 ≤ ((v1 * 13) + v2) ∧ ((v1 * 13) + v2) < 169 then
    if jw (jand (jshr (σ 55 ((v1 * 13) + v2)) v3) 1) = 1 then
      some (1, σ)
    else
      if jw ((v1 - v2) - v3) < 1 then
        some (0, σ)
      else
        if jw (σ 52 8) < jw ((v1 - v2) - v3) then
          some (0, σ)
        else
          if 8 < jw ((v1 - v2) - v3) then
            some (0, σ)
          else
            if jw v3 = 0 then
              Rules_allows_c72 F v1 ((v1 - v2) - v3) 1 σ
            else
              if jw v2 = 0 then
                Rules_allows_c72 F v1 ((v1 - v2) - v3) 2 σ
              else
                Rules_allows_c72 F v1 ((v1 - v2) - v3) 4 σ
  else none
def jca_Rules_allows (F : Nat) : jxA := fun as σ k => match as with
  | [.inr (.inr (.inl t0)), .inl v1, .inl v2, .inl v3] => bif Nat.beq t0 52 then (Rules_allows F σ v1 v2 v3).bind (fun r => k (some (jmi r.1)) r.2) else none
  | _ => none
def Rules_listMoves_c28 (F : Nat) (k4 : Int → Int → jxS → Option jxR) (k21 : Int → Int → Int → jxS → Option jxR) (fu : Nat) (v1 v2 v3 v4 : Int) (σ : jxS) : Option jxR := match fu with
  | 0 => none
  | fu + 1 =>
    if jw v3 < jw (v4 + v4) then
      k21 v1 v2 (v3 + (-1)) σ
    else
      (Rules_allows F σ v2 v4 (v3 - v4)).bind fun r45 =>
      if jw r45.1 = 0 then
        (Rules_listMoves_c28 F k4 k21 fu) v1 v2 v3 (v4 + 1) r45.2
      else
        if jw v1 < 203 then
          if 0 ≤ v1 ∧ v1 < 203 then
            let s73 : jxS := jup r45.2 57 v1 (((13 * v4) + v3) - v4)
            (Rules_listMoves_c28 F k4 k21 fu) (v1 + 1) v2 v3 (v4 + 1) s73
          else none
        else
          (Rules_listMoves_c28 F k4 k21 fu) v1 v2 v3 (v4 + 1) r45.2
def Rules_listMoves_c21 (F : Nat) (k4 : Int → Int → jxS → Option jxR) (fu : Nat) (v1 v2 v3 : Int) (σ : jxS) : Option jxR := match fu with
  | 0 => none
  | fu + 1 =>
    if jw v3 < 0 then
      k4 v1 (v2 + 1) σ
    else
      Rules_listMoves_c28 F k4 (Rules_listMoves_c21 F k4 fu) F v1 v2 v3 0 σ
def Rules_listMoves_c4 (F : Nat) (fu : Nat) (v1 v2 : Int) (σ : jxS) : Option jxR := match fu with
  | 0 => none
  | fu + 1 =>
    if 12 < jw v2 then
      let s102 : jxS := jup σ 56 13 v1
      some (0, s102)
    else
      if 0 ≤ v2 ∧ v2 < 14 then
        let s16 : jxS := jup σ 56 v2 v1
        Rules_listMoves_c21 F (Rules_listMoves_c4 F fu) F v1 v2 (v2 - 1) s16
      else none
def Rules_listMoves (F : Nat) (σ : jxS) : Option jxR :=
  Rules_listMoves_c4 F F 0 1 σ
def jca_Rules_listMoves (F : Nat) : jxA := fun as σ k => match as with
  | [.inr (.inr (.inl t0))] => bif Nat.beq t0 52 then (Rules_listMoves F σ).bind (fun r => k none r.2) else none
  | _ => none
def Model_laysOne_c247 (F : Nat) (v1 v5 v7 t0 t1 : Int) (σ : jxS) : Option jxR :=
  if 0 ≤ t1 ∧ t1 < 4600 then
    let s247 : jxS := jup σ 26 t1 t0
    if jw v7 = 0 then
      if 0 ≤ v1 ∧ v1 < 4600 then
        let s266 : jxS := jup s247 27 v1 0
        some (0, s266)
      else none
    else
      if 0 ≤ v1 ∧ v1 < 4600 then
        let s266 : jxS := jup s247 27 v1 (1 + v5)
        some (0, s266)
      else none
  else none
def Model_laysOne_c228 (F : Nat) (v1 v4 v5 v7 t0 t1 : Int) (σ : jxS) : Option jxR :=
  if 0 ≤ t1 ∧ t1 < 4600 then
    let s228 : jxS := jup σ 25 t1 t0
    if jw v7 = 0 then
      Model_laysOne_c247 F v1 v5 v7 0 v1 s228
    else
      Model_laysOne_c247 F v1 v5 v7 (1 + v4) v1 s228
  else none
def Model_laysOne_c227 (F : Nat) (v1 v4 v5 v7 t0 t1 t2 : Int) (σ : jxS) : Option jxR :=
  Model_laysOne_c228 F v1 v4 v5 v7 (t1 + t0) t2 σ
def Model_laysOne_c201 (F : Nat) (v1 v2 v3 v4 v5 v6 v7 t0 t1 : Int) (σ : jxS) : Option jxR :=
  if 0 ≤ t1 ∧ t1 < 4600 then
    let s201 : jxS := jup σ 24 t1 (t0 % 2)
    if jw v7 = 0 then
      Model_laysOne_c228 F v1 v4 v5 v7 0 v1 s201
    else
      if jw v6 = 0 then
        Model_laysOne_c227 F v1 v4 v5 v7 v3 1 v1 s201
      else
        Model_laysOne_c227 F v1 v4 v5 v7 v2 1 v1 s201
  else none
def Model_laysOne_c200 (F : Nat) (v1 v2 v3 v4 v5 v6 v7 t0 : Int) (σ : jxS) : Option jxR :=
  Model_laysOne_c201 F v1 v2 v3 v4 v5 v6 v7 0 t0 σ
def Model_laysOne_c179 (F : Nat) (v1 v2 v3 v4 v5 v6 t0 : Int) (σ : jxS) : Option jxR :=
  if jw t0 = 0 then
    Model_laysOne_c200 F v1 v2 v3 v4 v5 v6 t0 v1 σ
  else
    if jw v6 = 0 then
      Model_laysOne_c201 F v1 v2 v3 v4 v5 v6 t0 1 v1 σ
    else
      Model_laysOne_c200 F v1 v2 v3 v4 v5 v6 t0 v1 σ
def Model_laysOne_c152 (F : Nat) (k16 : Int → Int → Int → Int → Int → Int → Int → jxS → Option jxR) (v1 v2 v3 v4 v6 v7 v8 : Int) (σ : jxS) : Option jxR :=
  if 0 ≤ v8 ∧ v8 < 4600 then
    k16 v1 v2 v3 v4 (σ 27 v8) v6 (v7 + 1) σ
  else none
def Model_laysOne_c135 (F : Nat) (k16 : Int → Int → Int → Int → Int → Int → Int → jxS → Option jxR) (v1 v2 v3 v4 v5 v6 v7 v8 : Int) (σ : jxS) : Option jxR :=
  if jw v7 = 0 then
    Model_laysOne_c152 F k16 v1 v2 v3 v4 v6 v7 v8 σ
  else
    if 0 ≤ v8 ∧ v8 < 4600 then
      if jw v5 < jw (σ 27 v8) then
        Model_laysOne_c152 F k16 v1 v2 v3 v4 v6 v7 v8 σ
      else
        k16 v1 v2 v3 v4 v5 v6 (v7 + 1) σ
    else none
def Model_laysOne_c126 (F : Nat) (k16 : Int → Int → Int → Int → Int → Int → Int → jxS → Option jxR) (v1 v2 v3 v5 v6 v7 v8 : Int) (σ : jxS) : Option jxR :=
  if 0 ≤ v8 ∧ v8 < 4600 then
    Model_laysOne_c135 F k16 v1 v2 v3 (σ 26 v8) v5 v6 v7 v8 σ
  else none
def Model_laysOne_c109 (F : Nat) (k16 : Int → Int → Int → Int → Int → Int → Int → jxS → Option jxR) (v1 v2 v3 v4 v5 v6 v7 v8 : Int) (σ : jxS) : Option jxR :=
  if jw v7 = 0 then
    Model_laysOne_c126 F k16 v1 v2 v3 v5 v6 v7 v8 σ
  else
    if 0 ≤ v8 ∧ v8 < 4600 then
      if jw (σ 26 v8) < jw v4 then
        Model_laysOne_c126 F k16 v1 v2 v3 v5 v6 v7 v8 σ
      else
        Model_laysOne_c135 F k16 v1 v2 v3 v4 v5 v6 v7 v8 σ
    else none
def Model_laysOne_c88 (F : Nat) (k16 : Int → Int → Int → Int → Int → Int → Int → jxS → Option jxR) (v1 v2 v3 v4 v5 v7 v8 t0 : Int) (σ : jxS) : Option jxR :=
  if 0 ≤ v8 ∧ v8 < 4600 then
    if jw v3 < jw (σ 25 v8) then
      if 0 ≤ v8 ∧ v8 < 4600 then
        Model_laysOne_c109 F k16 v1 v2 (σ 25 v8) v4 v5 t0 v7 v8 σ
      else none
    else
      Model_laysOne_c109 F k16 v1 v2 v3 v4 v5 t0 v7 v8 σ
  else none
def Model_laysOne_c83 (F : Nat) (k16 : Int → Int → Int → Int → Int → Int → Int → jxS → Option jxR) (v1 v2 v3 v4 v5 v7 v8 : Int) (σ : jxS) : Option jxR :=
  Model_laysOne_c88 F k16 v1 v2 v3 v4 v5 v7 v8 1 σ
def Model_laysOne_c68 (F : Nat) (k16 : Int → Int → Int → Int → Int → Int → Int → jxS → Option jxR) (v1 v2 v3 v4 v5 v6 v7 v8 : Int) (σ : jxS) : Option jxR :=
  if jw v6 = 0 then
    if 0 ≤ v8 ∧ v8 < 4600 then
      if jw (σ 24 v8) = 0 then
        Model_laysOne_c88 F k16 v1 v2 v3 v4 v5 v7 v8 0 σ
      else
        Model_laysOne_c83 F k16 v1 v2 v3 v4 v5 v7 v8 σ
    else none
  else
    Model_laysOne_c83 F k16 v1 v2 v3 v4 v5 v7 v8 σ
def Model_laysOne_c60 (F : Nat) (k16 : Int → Int → Int → Int → Int → Int → Int → jxS → Option jxR) (v1 v3 v4 v5 v6 v7 v8 : Int) (σ : jxS) : Option jxR :=
  if 0 ≤ v8 ∧ v8 < 4600 then
    Model_laysOne_c68 F k16 v1 (σ 25 v8) v3 v4 v5 v6 v7 v8 σ
  else none
def Model_laysOne_c16 (F : Nat) (fu : Nat) (v1 v2 v3 v4 v5 v6 v7 : Int) (σ : jxS) : Option jxR := match fu with
  | 0 => none
  | fu + 1 =>
    if jw v7 < jw (σ 9 32) then
      if 0 ≤ v7 ∧ v7 < 512 then
        if 0 ≤ (σ 30 v7) ∧ (σ 30 v7) < 4600 then
          if jw (σ 24 (σ 30 v7)) = 0 then
            Model_laysOne_c68 F (Model_laysOne_c16 F fu) v1 v2 v3 v4 v5 v6 v7 (σ 30 v7) σ
          else
            if jw v6 = 0 then
              Model_laysOne_c60 F (Model_laysOne_c16 F fu) v1 v3 v4 v5 v6 v7 (σ 30 v7) σ
            else
              if 0 ≤ (σ 30 v7) ∧ (σ 30 v7) < 4600 then
                if jw (σ 25 (σ 30 v7)) < jw v2 then
                  Model_laysOne_c60 F (Model_laysOne_c16 F fu) v1 v3 v4 v5 v6 v7 (σ 30 v7) σ
                else
                  Model_laysOne_c68 F (Model_laysOne_c16 F fu) v1 v2 v3 v4 v5 v6 v7 (σ 30 v7) σ
              else none
        else none
      else none
    else
      if 0 < jw (σ 9 32) then
        Model_laysOne_c179 F v1 v2 v3 v4 v5 v6 1 σ
      else
        Model_laysOne_c179 F v1 v2 v3 v4 v5 v6 0 σ
def Model_laysOne (F : Nat) (σ : jxS) (v1 : Int) : Option jxR :=
  Model_laysOne_c16 F F v1 0 0 0 0 0 0 σ
def jca_Model_laysOne (F : Nat) : jxA := fun as σ k => match as with
  | [.inr (.inr (.inl t0)), .inl v1] => bif Nat.beq t0 9 then (Model_laysOne F σ v1).bind (fun r => k none r.2) else none
  | _ => none
def Model_beansOf_c4 (F : Nat) (a0 : Nat) (fu : Nat) (v1 v2 : Int) (σ : jxS) : Option jxR := match fu with
  | 0 => none
  | fu + 1 =>
    if 12 < jw v2 then
      some (v1, σ)
    else
      if 0 ≤ v2 ∧ v2 < 13 then
        (Model_beansOf_c4 F a0 fu) (v1 + (v2 * (σ a0 v2))) (v2 + 1) σ
      else none
def Model_beansOf (F : Nat) (a0 : Nat) (σ : jxS) : Option jxR :=
  Model_beansOf_c4 F a0 F 0 1 σ
def jids_Model_beansOf_a0 : List Nat := [29, 33, 35, 37, 38, 47]
def jca_Model_beansOf (F : Nat) : jxA := fun as σ k => match as with
  | [.inr (.inr (.inl t0))] => bif jin jids_Model_beansOf_a0 t0 then (Model_beansOf F t0 σ).bind (fun r => k (some (jmi r.1)) r.2) else none
  | _ => none
def Model_numberOf_c25 (F : Nat) (a1 : Nat) (k15 : Int → Int → Int → jxS → Option jxR) (fu : Nat) (v2 v3 v4 v5 : Int) (σ : jxS) : Option jxR := match fu with
  | 0 => none
  | fu + 1 =>
    if 0 ≤ v4 ∧ v4 < 13 then
      if jw v5 < jw (σ a1 v4) then
        if 0 ≤ (((23 * (v4 + 1)) + v2) - (v5 * v4)) ∧ (((23 * (v4 + 1)) + v2) - (v5 * v4)) < 322 then
          (Model_numberOf_c25 F a1 k15 fu) v2 (v3 + (σ 22 (((23 * (v4 + 1)) + v2) - (v5 * v4)))) v4 (v5 + 1) σ
        else none
      else
        if 0 ≤ v4 ∧ v4 < 13 then
          k15 (v2 - (v4 * (σ a1 v4))) v3 (v4 + 1) σ
        else none
    else none
def Model_numberOf_c15 (F : Nat) (a1 : Nat) (fu : Nat) (v2 v3 v4 : Int) (σ : jxS) : Option jxR := match fu with
  | 0 => none
  | fu + 1 =>
    if 12 < jw v4 then
      some (v3, σ)
    else
      Model_numberOf_c25 F a1 (Model_numberOf_c15 F a1 fu) F v2 v3 v4 0 σ
def Model_numberOf (F : Nat) (a1 : Nat) (σ : jxS) : Option jxR :=
  (Model_beansOf F a1 σ).bind fun r1 =>
  if 0 ≤ r1.1 ∧ r1.1 < 24 then
    Model_numberOf_c15 F a1 F r1.1 (r1.2 23 r1.1) 1 r1.2
  else none
def jids_Model_numberOf_a1 : List Nat := [29, 33, 35, 37, 38, 47]
def jca_Model_numberOf (F : Nat) : jxA := fun as σ k => match as with
  | [.inr (.inr (.inl t0)), .inr (.inr (.inl t1))] => bif Nat.beq t0 9 then bif jin jids_Model_numberOf_a1 t1 then (Model_numberOf F t1 σ).bind (fun r => k (some (jmi r.1)) r.2) else none else none
  | _ => none
def Model_puts (F : Nat) (a0 : Nat) (σ : jxS) (v1 v2 : Int) : Option jxR :=
  if 0 < jw v1 then
    if 0 ≤ v1 ∧ v1 < 13 then
      if 0 ≤ v1 ∧ v1 < 13 then
        let s10 : jxS := jup σ a0 v1 ((σ a0 v1) + v2)
        some (0, s10)
      else none
    else none
  else
    some (0, σ)
def jids_Model_puts_a0 : List Nat := [29, 33, 35, 37, 38, 47]
def jca_Model_puts (F : Nat) : jxA := fun as σ k => match as with
  | [.inr (.inr (.inl t0)), .inl v1, .inl v2] => bif jin jids_Model_puts_a0 t0 then (Model_puts F t0 σ v1 v2).bind (fun r => k none r.2) else none
  | _ => none
def Model_changes (F : Nat) (a0 : Nat) (σ : jxS) (v1 v2 v3 : Int) : Option jxR :=
  if 0 ≤ v1 ∧ v1 < 13 then
    if 0 ≤ v1 ∧ v1 < 13 then
      let s6 : jxS := jup σ a0 v1 ((σ a0 v1) - v3)
      (Model_puts F a0 s6 (jdiv v2 13) v3).bind fun r13 =>
      (Model_puts F a0 r13.2 (jrem v2 13) v3).bind fun r22 =>
      some (0, r22.2)
    else none
  else none
def jids_Model_changes_a0 : List Nat := [29, 33, 35, 37, 38, 47]
def jca_Model_changes (F : Nat) : jxA := fun as σ k => match as with
  | [.inr (.inr (.inl t0)), .inl v1, .inl v2, .inl v3] => bif jin jids_Model_changes_a0 t0 then (Model_changes F t0 σ v1 v2 v3).bind (fun r => k none r.2) else none
  | _ => none
def Model_behind (F : Nat) (a1 : Nat) (σ : jxS) (v2 v3 : Int) : Option jxR :=
  (Model_changes F a1 σ v2 v3 1).bind fun r4 =>
  (Model_numberOf F a1 r4.2).bind fun r9 =>
  (Model_changes F a1 r9.2 v2 v3 (-1)).bind fun r18 =>
  some (r9.1, r18.2)
def jids_Model_behind_a1 : List Nat := [29, 33, 35, 37, 38, 47]
def jca_Model_behind (F : Nat) : jxA := fun as σ k => match as with
  | [.inr (.inr (.inl t0)), .inr (.inr (.inl t1)), .inl v2, .inl v3] => bif Nat.beq t0 9 then bif jin jids_Model_behind_a1 t1 then (Model_behind F t1 σ v2 v3).bind (fun r => k (some (jmi r.1)) r.2) else none else none
  | _ => none
def Model_playedOn_c136 (F : Nat) (k29 : Int → Int → Int → Int → jxS → Option jxR) (k39 : Int → Int → Int → Int → Int → jxS → Option jxR) (v1 v4 v5 v6 : Int) (σ : jxS) : Option jxR :=
  if 0 ≤ ((64 * v4) + v5) ∧ ((64 * v4) + v5) < 832 then
    if 0 ≤ v6 ∧ v6 < 4600 then
      k39 v1 ((1000 * v4) + (σ 18 ((64 * v4) + v5))) (σ 25 v6) v4 (v5 + 1) σ
    else none
  else none
def Model_playedOn_c100 (F : Nat) (k29 : Int → Int → Int → Int → jxS → Option jxR) (k39 : Int → Int → Int → Int → Int → jxS → Option jxR) (v1 v2 v3 v4 v5 v6 : Int) (σ : jxS) : Option jxR :=
  if jw v2 < 0 then
    Model_playedOn_c136 F k29 k39 v1 v4 v5 v6 σ
  else
    if jw v1 = 0 then
      if 0 ≤ v6 ∧ v6 < 4600 then
        if jw v3 < jw (σ 25 v6) then
          Model_playedOn_c136 F k29 k39 v1 v4 v5 v6 σ
        else
          k39 v1 v2 v3 v4 (v5 + 1) σ
      else none
    else
      if 0 ≤ v6 ∧ v6 < 4600 then
        if jw (σ 25 v6) < jw v3 then
          Model_playedOn_c136 F k29 k39 v1 v4 v5 v6 σ
        else
          k39 v1 v2 v3 v4 (v5 + 1) σ
      else none
def Model_playedOn_c39 (F : Nat) (k29 : Int → Int → Int → Int → jxS → Option jxR) (fu : Nat) (v1 v2 v3 v4 v5 : Int) (σ : jxS) : Option jxR := match fu with
  | 0 => none
  | fu + 1 =>
    if 0 ≤ v4 ∧ v4 < 13 then
      if jw v5 < jw (σ 19 v4) then
        if 0 ≤ v4 ∧ v4 < 13 then
          if 0 < jw (σ 35 v4) then
            if 0 ≤ ((64 * v4) + v5) ∧ ((64 * v4) + v5) < 832 then
              (Model_behind F 35 σ v4 (σ 18 ((64 * v4) + v5))).bind fun r81 =>
              if jw v1 = 0 then
                Model_playedOn_c100 F k29 (Model_playedOn_c39 F k29 fu) v1 v2 v3 v4 v5 r81.1 r81.2
              else
                if 0 ≤ r81.1 ∧ r81.1 < 4600 then
                  if jw (r81.2 24 r81.1) = 0 then
                    (Model_playedOn_c39 F k29 fu) v1 v2 v3 v4 (v5 + 1) r81.2
                  else
                    Model_playedOn_c100 F k29 (Model_playedOn_c39 F k29 fu) v1 v2 v3 v4 v5 r81.1 r81.2
                else none
            else none
          else
            k29 v1 v2 v3 (v4 + 1) σ
        else none
      else
        k29 v1 v2 v3 (v4 + 1) σ
    else none
def Model_playedOn_c29 (F : Nat) (fu : Nat) (v1 v2 v3 v4 : Int) (σ : jxS) : Option jxR := match fu with
  | 0 => none
  | fu + 1 =>
    if 12 < jw v4 then
      some (v2, σ)
    else
      Model_playedOn_c39 F (Model_playedOn_c29 F fu) F v1 v2 v3 v4 0 σ
def Model_playedOn_c21 (F : Nat) (t0 : Int) (σ : jxS) : Option jxR :=
  Model_playedOn_c29 F F t0 (-1) 0 1 σ
def Model_playedOn (F : Nat) (σ : jxS) : Option jxR :=
  (Model_numberOf F 35 σ).bind fun r9 =>
  if 0 ≤ r9.1 ∧ r9.1 < 4600 then
    if jw (r9.2 24 r9.1) = 0 then
      Model_playedOn_c21 F 1 r9.2
    else
      Model_playedOn_c21 F 0 r9.2
  else none
def jca_Model_playedOn (F : Nat) : jxA := fun as σ k => match as with
  | [.inr (.inr (.inl t0))] => bif Nat.beq t0 9 then (Model_playedOn F σ).bind (fun r => k (some (jmi r.1)) r.2) else none
  | _ => none
def Model_line_c84 (F : Nat) (v2 : Int) (σ : jxS) : Option jxR :=
  if jw v2 < 0 then
    some ((-2), σ)
  else
    some (v2, σ)
def Model_line_c46 (F : Nat) (fu : Nat) (v1 v2 v3 : Int) (σ : jxS) : Option jxR := match fu with
  | 0 => none
  | fu + 1 =>
    if jw v3 < jw v1 then
      if jw v2 < 0 then
        Model_line_c84 F v2 σ
      else
        (Model_changes F 35 σ (jdiv v2 1000) (jrem v2 1000) 1).bind fun r70 =>
        (Model_playedOn F r70.2).bind fun r74 =>
        (Model_line_c46 F fu) v1 r74.1 (v3 + 1) r74.2
    else
      Model_line_c84 F v2 σ
def Model_line_c15 (F : Nat) (fu : Nat) (v1 v2 : Int) (σ : jxS) : Option jxR := match fu with
  | 0 => none
  | fu + 1 =>
    if jw v2 < 13 then
      if 0 ≤ v2 ∧ v2 < 13 then
        if 0 ≤ v2 ∧ v2 < 13 then
          let s32 : jxS := jup σ 35 v2 (σ 33 v2)
          (Model_line_c15 F fu) v1 (v2 + 1) s32
        else none
      else none
    else
      (Model_playedOn F σ).bind fun r40 =>
      Model_line_c46 F F v1 r40.1 0 r40.2
def Model_line (F : Nat) (σ : jxS) (v1 : Int) : Option jxR :=
  if jw (σ 9 13) = 0 then
    some ((-1), σ)
  else
    if jw v1 < 0 then
      some ((-1), σ)
    else
      Model_line_c15 F F v1 0 σ
def jca_Model_line (F : Nat) : jxA := fun as σ k => match as with
  | [.inr (.inr (.inl t0)), .inl v1] => bif Nat.beq t0 9 then (Model_line F σ v1).bind (fun r => k (some (jmi r.1)) r.2) else none
  | _ => none
def jtb_Tape_append : List (Nat × Instr) := [(0, .bipush 24), (2, .istore_n 2), (3, .iload_n 2), (4, .ifCond .lt 45), (7, .aload_n 0), (8, .getfield 15), (11, .sipush 200), (14, .if_icmp .ge 35), (17, .aload_n 0), (18, .getfield 11), (21, .aload_n 0), (22, .getfield 15), (25, .iload_n 1), (26, .iload_n 2), (27, .iushr), (28, .sipush 255), (31, .iand), (32, .iastore), (33, .aload_n 0), (34, .dup), (35, .getfield 15), (38, .iconst 1), (39, .iadd), (40, .putfield 15), (43, .iinc 2 (-8)), (46, .goto (-43)), (49, .return_)]
theorem jtk_Tape_append : jtok cX9_append jtb_Tape_append = true := by decide +kernel
set_option maxRecDepth 100000 in
theorem jfl_X9_11 : jFl RX9 11 9 0 := ⟨RX9, TX9, 2, tyX9, rfl, by decide, jin_X9, tyX9_ok, nmX9, jow_X9, (Or.inl (jTB_at 146 rfl rfl))⟩
set_option maxRecDepth 100000 in
theorem jfl_X9_15 : jFl RX9 15 9 1 := ⟨RX9, TX9, 2, tyX9, rfl, by decide, jin_X9, tyX9_ok, nmX9, jow_X9, (Or.inl (jTB_at 147 rfl rfl))⟩
def jE_Tape_append (F : Nat) : jxE := jmk [(11, 9, 0), (15, 9, 1)] [] [] [] 0 jc_T
set_option maxRecDepth 100000 in
set_option maxHeartbeats 4000000 in
theorem jmet_Tape_append (F : Nat) (sh : List jxC) (hs : jHas sh jc_T) (σ0 : jxS) (v1 : Int) (x : Int) (σ' : jxS) (h : Tape_append F σ0 v1 = some (x, σ')) : jMC yX9_append cX9_append 3 (jrt 0) 0 0 sh σ0 [(jmr 1), (jmi v1)] (jrv 0 x) σ' := by
  refine jMC_of (kd := 0) (by decide) rfl h ?_
  intro X hX
  have hG : jGd X (jE_Tape_append F) jtb_Tape_append := jGd_of hX jtk_Tape_append (jcon jfl_X9_11 (jcon jfl_X9_15 jnil)) jnil jnil jnil hs
  have rr3 : ∀ (fu : Nat) (v1 v2 : Int) (σ : jxS), jRf X (Tape_append_c3 F fu v1 v2 σ) 3 [some (jmr 1), some (jmi v1), some (jmi v2)] [] σ := by
    intro  fu
    induction fu with
    | zero => intros; exact jRf_none
    | succ fu ih =>
      intro v1 v2 σ
      exact jRf_by (jex_ok hG (cs := [(3, [some (.inr (some 1)), some (.inl 0), some (.inl 0)], [], fun xs σ => match xs with
      | [v1, v2] => (Tape_append_c3 F fu) v1 v2 σ
      | _ => none)]) (jcon (jl2 (fun y0 y1 => jl0 (fun σ => ih y0 y1 σ))) jnil) 30 3 [some (jmr 1), some (jmi v1), some (jmi v2)] [] σ) rfl
  exact jRf_by (jex_ok hG (cs := [(3, [some (.inr (some 1)), some (.inl 0), some (.inl 0)], [], fun xs σ => match xs with
      | [v1, v2] => Tape_append_c3 F F v1 v2 σ
      | _ => none)]) (jcon (jl2 (fun y0 y1 => jl0 (fun σ => rr3 F y0 y1 σ))) jnil) 30 0 [some (jmr 1), some (jmi v1), none] [] σ0) rfl
theorem jad_Tape_append (F : Nat) (sh : List jxC) (hs : jHas sh jc_T) : jAdV (jca_Tape_append F) yX9_append cX9_append 3 0 0 0 1 sh := by
  intro as σ k x σ' h
  unfold jca_Tape_append at h
  split at h
  · rename_i t0 v1
    obtain ⟨g0, hh1⟩ := jcond h
    obtain rfl := jbeq g0
    obtain ⟨r, h1, h2⟩ := Option.bind_eq_some_iff.mp hh1
    exact ⟨_, _, h2, ⟨_, _, _, _, _, _, rfl, rfl, (hs _ (jkf_in (l := jc_T) (idx := 1) rfl)).1, rfl⟩, jmet_Tape_append F  sh hs σ v1 r.1 r.2 h1⟩
  · cases h
def jtb_Tape_hasRoom : List (Nat × Instr) := [(0, .aload_n 0), (1, .getfield 15), (4, .bipush 20), (6, .iadd), (7, .sipush 200), (10, .if_icmp .gt 7), (13, .iconst 1), (14, .goto 4), (17, .iconst 0), (18, .ireturn)]
theorem jtk_Tape_hasRoom : jtok cX9_hasRoom jtb_Tape_hasRoom = true := by decide +kernel
def jE_Tape_hasRoom (F : Nat) : jxE := jmk [(15, 9, 1)] [] [] [] 4 jc_T
set_option maxRecDepth 100000 in
set_option maxHeartbeats 4000000 in
theorem jmet_Tape_hasRoom (F : Nat) (sh : List jxC) (hs : jHas sh jc_T) (σ0 : jxS) (x : Int) (σ' : jxS) (h : Tape_hasRoom F σ0 = some (x, σ')) : jMC yX9_hasRoom cX9_hasRoom 1 (jrt 4) 0 0 sh σ0 [(jmr 1)] (jrv 4 x) σ' := by
  refine jMC_of (kd := 4) (by decide) rfl h ?_
  intro X hX
  have hG : jGd X (jE_Tape_hasRoom F) jtb_Tape_hasRoom := jGd_of hX jtk_Tape_hasRoom (jcon jfl_X9_15 jnil) jnil jnil jnil hs
  exact jRf_by (jex_ok hG (cs := []) jnil 13 0 [some (jmr 1)] [] σ0) rfl
theorem jad_Tape_hasRoom (F : Nat) (sh : List jxC) (hs : jHas sh jc_T) : jAdV (jca_Tape_hasRoom F) yX9_hasRoom cX9_hasRoom 1 4 0 0 0 sh := by
  intro as σ k x σ' h
  unfold jca_Tape_hasRoom at h
  split at h
  · rename_i t0
    obtain ⟨g0, hh1⟩ := jcond h
    obtain rfl := jbeq g0
    obtain ⟨r, h1, h2⟩ := Option.bind_eq_some_iff.mp hh1
    exact ⟨_, _, h2, ⟨_, _, _, _, _, _, rfl, rfl, (hs _ (jkf_in (l := jc_T) (idx := 1) rfl)).1, rfl⟩, jmet_Tape_hasRoom F  sh hs σ  r.1 r.2 h1⟩
  · cases h
def jtb_Tape_size : List (Nat × Instr) := [(0, .aload_n 0), (1, .getfield 15), (4, .ireturn)]
theorem jtk_Tape_size : jtok cX9_size jtb_Tape_size = true := by decide +kernel
def jE_Tape_size (F : Nat) : jxE := jmk [(15, 9, 1)] [] [] [] 1 jc_T
set_option maxRecDepth 100000 in
set_option maxHeartbeats 4000000 in
theorem jmet_Tape_size (F : Nat) (sh : List jxC) (hs : jHas sh jc_T) (σ0 : jxS) (x : Int) (σ' : jxS) (h : Tape_size F σ0 = some (x, σ')) : jMC yX9_size cX9_size 1 (jrt 1) 0 0 sh σ0 [(jmr 1)] (jrv 1 x) σ' := by
  refine jMC_of (kd := 1) (by decide) rfl h ?_
  intro X hX
  have hG : jGd X (jE_Tape_size F) jtb_Tape_size := jGd_of hX jtk_Tape_size (jcon jfl_X9_15 jnil) jnil jnil jnil hs
  exact jRf_by (jex_ok hG (cs := []) jnil 6 0 [some (jmr 1)] [] σ0) rfl
theorem jad_Tape_size (F : Nat) (sh : List jxC) (hs : jHas sh jc_T) : jAdV (jca_Tape_size F) yX9_size cX9_size 1 1 0 0 0 sh := by
  intro as σ k x σ' h
  unfold jca_Tape_size at h
  split at h
  · rename_i t0
    obtain ⟨g0, hh1⟩ := jcond h
    obtain rfl := jbeq g0
    obtain ⟨r, h1, h2⟩ := Option.bind_eq_some_iff.mp hh1
    exact ⟨_, _, h2, ⟨_, _, _, _, _, _, rfl, rfl, (hs _ (jkf_in (l := jc_T) (idx := 1) rfl)).1, rfl⟩, jmet_Tape_size F  sh hs σ  r.1 r.2 h1⟩
  · cases h
def jtb_LL1_feed : List (Nat × Instr) := [(0, .aload_n 0), (1, .getfield 10), (4, .invokevirtual 29), (7, .ifCond .ne 5), (10, .iconst (-1)), (11, .ireturn), (12, .aload_n 0), (13, .getfield 10), (16, .iload_n 1), (17, .invokevirtual 33), (20, .aload_n 0), (21, .getfield 10), (24, .iload_n 2), (25, .invokevirtual 33), (28, .aload_n 0), (29, .getfield 10), (32, .iload_n 3), (33, .invokevirtual 33), (36, .aload_n 0), (37, .getfield 10), (40, .iload 4), (42, .invokevirtual 33), (45, .aload_n 0), (46, .getfield 10), (49, .iload 5), (51, .invokevirtual 33), (54, .aload_n 0), (55, .getfield 10), (58, .invokevirtual 37), (61, .ireturn)]
theorem jtk_LL1_feed : jtok cX11_feed jtb_LL1_feed = true := by decide +kernel
set_option maxRecDepth 100000 in
theorem jfl_X11_10 : jFl RX11 10 11 0 := ⟨RX11, TX11, 4, tyX11, rfl, by decide, jin_X11, tyX11_ok, nmX11, jow_X11, (Or.inl (jTB_at 198 rfl rfl))⟩
set_option maxRecDepth 100000 in
theorem jlk_X11_29 : jLkV RX11 29 yX9_hasRoom cX9_hasRoom 1 4 0 := ⟨(jTB_at 215 rfl rfl), (jTB_at 216 rfl rfl), (jTB_at 217 rfl rfl), (jTB_at 113 rfl rfl), jTB_at 218 rfl rfl, ⟨by decide, by decide, by decide +kernel⟩⟩
set_option maxRecDepth 100000 in
theorem jlk_X11_33 : jLkV RX11 33 yX9_append cX9_append 3 0 1 := ⟨(jTB_at 219 rfl rfl), (jTB_at 220 rfl rfl), (jTB_at 221 rfl rfl), (jTB_at 113 rfl rfl), jTB_at 222 rfl rfl, ⟨by decide, by decide, by decide +kernel⟩⟩
set_option maxRecDepth 100000 in
theorem jlk_X11_37 : jLkV RX11 37 yX9_size cX9_size 1 1 0 := ⟨(jTB_at 223 rfl rfl), (jTB_at 224 rfl rfl), (jTB_at 225 rfl rfl), (jTB_at 113 rfl rfl), jTB_at 226 rfl rfl, ⟨by decide, by decide, by decide +kernel⟩⟩
def jE_LL1_feed (F : Nat) : jxE := jmk [(10, 11, 0)] [] [] [(29, (1, false), jca_Tape_hasRoom F), (33, (2, false), jca_Tape_append F), (37, (1, false), jca_Tape_size F)] 1 jc_L1
set_option maxRecDepth 100000 in
set_option maxHeartbeats 4000000 in
theorem jmet_LL1_feed (F : Nat) (sh : List jxC) (hs : jHas sh jc_L1) (σ0 : jxS) (v1 : Int) (v2 : Int) (v3 : Int) (v4 : Int) (v5 : Int) (x : Int) (σ' : jxS) (h : LL1_feed F σ0 v1 v2 v3 v4 v5 = some (x, σ')) : jMC yX11_feed cX11_feed 6 (jrt 1) 1 22 sh σ0 [(jmr 0), (jmi v1), (jmi v2), (jmi v3), (jmi v4), (jmi v5)] (jrv 1 x) σ' := by
  refine jMC_of (kd := 1) (by decide) rfl h ?_
  intro X hX
  have hG : jGd X (jE_LL1_feed F) jtb_LL1_feed := jGd_of hX jtk_LL1_feed (jcon jfl_X11_10 jnil) jnil jnil (jcon (jsV jlk_X11_29 ⟨rfl, rfl⟩ (jad_Tape_hasRoom F sh (jh_L1T hs))) (jcon (jsV jlk_X11_33 ⟨rfl, rfl⟩ (jad_Tape_append F sh (jh_L1T hs))) (jcon (jsV jlk_X11_37 ⟨rfl, rfl⟩ (jad_Tape_size F sh (jh_L1T hs))) jnil))) hs
  exact jRf_by (jex_ok hG (cs := []) jnil 33 0 [some (jmr 0), some (jmi v1), some (jmi v2), some (jmi v3), some (jmi v4), some (jmi v5)] [] σ0) rfl
theorem jad_LL1_feed (F : Nat) (sh : List jxC) (hs : jHas sh jc_L1) : jAdV (jca_LL1_feed F) yX11_feed cX11_feed 6 1 1 22 5 sh := by
  intro as σ k x σ' h
  unfold jca_LL1_feed at h
  split at h
  · rename_i t0 v1 v2 v3 v4 v5
    obtain ⟨g0, hh1⟩ := jcond h
    obtain rfl := jbeq g0
    obtain ⟨r, h1, h2⟩ := Option.bind_eq_some_iff.mp hh1
    exact ⟨_, _, h2, ⟨_, _, _, _, _, _, rfl, rfl, (hs _ (jkf_in (l := jc_L1) (idx := 0) rfl)).1, rfl⟩, jmet_LL1_feed F  sh hs σ v1 v2 v3 v4 v5 r.1 r.2 h1⟩
  · cases h
def jtb_Rules_allows : List (Nat × Instr) := [(0, .aload_n 0), (1, .getfield 20), (4, .iload_n 1), (5, .bipush 13), (7, .imul), (8, .iload_n 2), (9, .iadd), (10, .iaload), (11, .iload_n 3), (12, .ishr), (13, .iconst 1), (14, .iand), (15, .iconst 1), (16, .if_icmp .ne 5), (19, .iconst 1), (20, .ireturn), (21, .iload_n 1), (22, .iload_n 2), (23, .isub), (24, .iload_n 3), (25, .isub), (26, .istore 4), (28, .iload 4), (30, .iconst 1), (31, .if_icmp .lt 22), (34, .iload 4), (36, .aload_n 0), (37, .getfield 42), (40, .if_icmp .gt 13), (43, .iload 4), (45, .aload_n 0), (46, .getfield 11), (49, .arraylength), (50, .if_icmp .le 5), (53, .iconst 0), (54, .ireturn), (55, .iload_n 3), (56, .ifCond .ne 7), (59, .iconst 1), (60, .goto 12), (63, .iload_n 2), (64, .ifCond .ne 7), (67, .iconst 2), (68, .goto 4), (71, .iconst 4), (72, .istore 5), (74, .aload_n 0), (75, .getfield 17), (78, .iload_n 1), (79, .iaload), (80, .iload 4), (82, .ishr), (83, .iconst 1), (84, .iand), (85, .ifCond .ne 22), (88, .aload_n 0), (89, .getfield 11), (92, .iload 4), (94, .iconst 1), (95, .isub), (96, .iaload), (97, .iload 5), (99, .iand), (100, .ifCond .eq 7), (103, .iconst 1), (104, .goto 4), (107, .iconst 0), (108, .ireturn)]
theorem jtk_Rules_allows : jtok cX8_allows jtb_Rules_allows = true := by decide +kernel
set_option maxRecDepth 100000 in
theorem jfl_X8_11 : jFl RX8 11 8 0 := ⟨RX8, TX8, 10, tyX8, rfl, by decide, jin_X8, tyX8_ok, nmX8, jow_X8, (Or.inl (jTB_at 366 rfl rfl))⟩
set_option maxRecDepth 100000 in
theorem jfl_X8_17 : jFl RX8 17 8 1 := ⟨RX8, TX8, 10, tyX8, rfl, by decide, jin_X8, tyX8_ok, nmX8, jow_X8, (Or.inl (jTB_at 367 rfl rfl))⟩
set_option maxRecDepth 100000 in
theorem jfl_X8_20 : jFl RX8 20 8 2 := ⟨RX8, TX8, 10, tyX8, rfl, by decide, jin_X8, tyX8_ok, nmX8, jow_X8, (Or.inl (jTB_at 368 rfl rfl))⟩
set_option maxRecDepth 100000 in
theorem jfl_X8_42 : jFl RX8 42 8 8 := ⟨RX8, TX8, 10, tyX8, rfl, by decide, jin_X8, tyX8_ok, nmX8, jow_X8, (Or.inl (jTB_at 374 rfl rfl))⟩
def jE_Rules_allows (F : Nat) : jxE := jmk [(11, 8, 0), (17, 8, 1), (20, 8, 2), (42, 8, 8)] [] [] [] 4 jc_C
set_option maxRecDepth 100000 in
set_option maxHeartbeats 4000000 in
theorem jmet_Rules_allows (F : Nat) (sh : List jxC) (hs : jHas sh jc_C) (σ0 : jxS) (v1 : Int) (v2 : Int) (v3 : Int) (x : Int) (σ' : jxS) (h : Rules_allows F σ0 v1 v2 v3 = some (x, σ')) : jMC yX8_allows cX8_allows 6 (jrt 4) 0 0 sh σ0 [(jmr 52), (jmi v1), (jmi v2), (jmi v3)] (jrv 4 x) σ' := by
  refine jMC_of (kd := 4) (by decide) rfl h ?_
  intro X hX
  have hG : jGd X (jE_Rules_allows F) jtb_Rules_allows := jGd_of hX jtk_Rules_allows (jcon jfl_X8_11 (jcon jfl_X8_17 (jcon jfl_X8_20 (jcon jfl_X8_42 jnil)))) jnil jnil jnil hs
  have rr72 : ∀ (v1 v4 t0 : Int) (σ : jxS), jRf X (Rules_allows_c72 F v1 v4 t0 σ) 72 [some (jmr 52), some (jmi v1), none, none, some (jmi v4), none] [(jmi t0)] σ := by
    intro  v1 v4 t0 σ
    exact jRf_by (jex_ok hG (cs := []) jnil 71 72 [some (jmr 52), some (jmi v1), none, none, some (jmi v4), none] [(jmi t0)] σ) rfl
  exact jRf_by (jex_ok hG (cs := [(72, [some (.inr (some 52)), some (.inl 0), none, none, some (.inl 0), none], [(.inl 0)], fun xs σ => match xs with
      | [v1, v4, t0] => Rules_allows_c72 F v1 v4 t0 σ
      | _ => none)]) (jcon (jl2 (fun y0 y1 => jl1 (fun y2 => (fun σ => rr72 y0 y1 y2 σ)))) jnil) 71 0 [some (jmr 52), some (jmi v1), some (jmi v2), some (jmi v3), none, none] [] σ0) rfl
theorem jad_Rules_allows (F : Nat) (sh : List jxC) (hs : jHas sh jc_C) : jAdV (jca_Rules_allows F) yX8_allows cX8_allows 6 4 0 0 3 sh := by
  intro as σ k x σ' h
  unfold jca_Rules_allows at h
  split at h
  · rename_i t0 v1 v2 v3
    obtain ⟨g0, hh1⟩ := jcond h
    obtain rfl := jbeq g0
    obtain ⟨r, h1, h2⟩ := Option.bind_eq_some_iff.mp hh1
    exact ⟨_, _, h2, ⟨_, _, _, _, _, _, rfl, rfl, (hs _ (jkf_in (l := jc_C) (idx := 52) rfl)).1, rfl⟩, jmet_Rules_allows F  sh hs σ v1 v2 v3 r.1 r.2 h1⟩
  · cases h
def jtb_Rules_listMoves : List (Nat × Instr) := [(0, .iconst 0), (1, .istore_n 1), (2, .iconst 1), (3, .istore_n 2), (4, .iload_n 2), (5, .bipush 12), (7, .if_icmp .gt 88), (10, .aload_n 0), (11, .getfield 23), (14, .iload_n 2), (15, .iload_n 1), (16, .iastore), (17, .iload_n 2), (18, .iconst 1), (19, .isub), (20, .istore_n 3), (21, .iload_n 3), (22, .ifCond .lt 67), (25, .iconst 0), (26, .istore 4), (28, .iload 4), (30, .iload 4), (32, .iadd), (33, .iload_n 3), (34, .if_icmp .gt 49), (37, .aload_n 0), (38, .iload_n 2), (39, .iload 4), (41, .iload_n 3), (42, .iload 4), (44, .isub), (45, .invokevirtual 103), (48, .ifCond .eq 29), (51, .iload_n 1), (52, .sipush 203), (55, .if_icmp .ge 22), (58, .aload_n 0), (59, .getfield 26), (62, .iload_n 1), (63, .bipush 13), (65, .iload 4), (67, .imul), (68, .iload_n 3), (69, .iadd), (70, .iload 4), (72, .isub), (73, .iastore), (74, .iinc 1 1), (77, .iinc 4 1), (80, .goto (-52)), (83, .iinc 3 (-1)), (86, .goto (-65)), (89, .iinc 2 1), (92, .goto (-88)), (95, .aload_n 0), (96, .getfield 23), (99, .bipush 13), (101, .iload_n 1), (102, .iastore), (103, .return_)]
theorem jtk_Rules_listMoves : jtok cX8_listMoves jtb_Rules_listMoves = true := by decide +kernel
set_option maxRecDepth 100000 in
theorem jfl_X8_23 : jFl RX8 23 8 3 := ⟨RX8, TX8, 10, tyX8, rfl, by decide, jin_X8, tyX8_ok, nmX8, jow_X8, (Or.inl (jTB_at 369 rfl rfl))⟩
set_option maxRecDepth 100000 in
theorem jfl_X8_26 : jFl RX8 26 8 4 := ⟨RX8, TX8, 10, tyX8, rfl, by decide, jin_X8, tyX8_ok, nmX8, jow_X8, (Or.inl (jTB_at 370 rfl rfl))⟩
set_option maxRecDepth 100000 in
theorem jlk_X8_103 : jLkV RX8 103 yX8_allows cX8_allows 6 4 3 := ⟨(jTB_at 709 rfl rfl), (jTB_at 711 rfl rfl), (jTB_at 19 rfl rfl), (jTB_at 121 rfl rfl), jTB_at 712 rfl rfl, ⟨by decide, by decide, by decide +kernel⟩⟩
def jE_Rules_listMoves (F : Nat) : jxE := jmk [(23, 8, 3), (26, 8, 4)] [] [] [(103, (4, false), jca_Rules_allows F)] 0 jc_C
set_option maxRecDepth 100000 in
set_option maxHeartbeats 4000000 in
theorem jmet_Rules_listMoves (F : Nat) (sh : List jxC) (hs : jHas sh jc_C) (σ0 : jxS) (x : Int) (σ' : jxS) (h : Rules_listMoves F σ0 = some (x, σ')) : jMC yX8_listMoves cX8_listMoves 5 (jrt 0) 1 25 sh σ0 [(jmr 52)] (jrv 0 x) σ' := by
  refine jMC_of (kd := 0) (by decide) rfl h ?_
  intro X hX
  have hG : jGd X (jE_Rules_listMoves F) jtb_Rules_listMoves := jGd_of hX jtk_Rules_listMoves (jcon jfl_X8_23 (jcon jfl_X8_26 jnil)) jnil jnil (jcon (jsV jlk_X8_103 ⟨rfl, rfl⟩ (jad_Rules_allows F sh hs)) jnil) hs
  have rr28 : ∀ (k4 : Int → Int → jxS → Option jxR) (h4 : ∀ v1 v2 σ, jRf X (k4 v1 v2 σ) 4 [some (jmr 52), some (jmi v1), some (jmi v2), none, none] [] σ) (k21 : Int → Int → Int → jxS → Option jxR) (h21 : ∀ v1 v2 v3 σ, jRf X (k21 v1 v2 v3 σ) 21 [some (jmr 52), some (jmi v1), some (jmi v2), some (jmi v3), none] [] σ) (fu : Nat) (v1 v2 v3 v4 : Int) (σ : jxS), jRf X (Rules_listMoves_c28 F k4 k21 fu v1 v2 v3 v4 σ) 28 [some (jmr 52), some (jmi v1), some (jmi v2), some (jmi v3), some (jmi v4)] [] σ := by
    intro k4 h4 k21 h21 fu
    induction fu with
    | zero => intros; exact jRf_none
    | succ fu ih =>
      intro v1 v2 v3 v4 σ
      exact jRf_by (jex_ok hG (cs := [(21, [some (.inr (some 52)), some (.inl 0), some (.inl 0), some (.inl 0), none], [], fun xs σ => match xs with
      | [v1, v2, v3] => k21 v1 v2 v3 σ
      | _ => none), (28, [some (.inr (some 52)), some (.inl 0), some (.inl 0), some (.inl 0), some (.inl 0)], [], fun xs σ => match xs with
      | [v1, v2, v3, v4] => (Rules_listMoves_c28 F k4 k21 fu) v1 v2 v3 v4 σ
      | _ => none)]) (jcon (jl3 (fun y0 y1 y2 => jl0 (fun σ => h21 y0 y1 y2 σ))) (jcon (jl4 (fun y0 y1 y2 y3 => jl0 (fun σ => ih y0 y1 y2 y3 σ))) jnil)) 63 28 [some (jmr 52), some (jmi v1), some (jmi v2), some (jmi v3), some (jmi v4)] [] σ) rfl
  have rr21 : ∀ (k4 : Int → Int → jxS → Option jxR) (h4 : ∀ v1 v2 σ, jRf X (k4 v1 v2 σ) 4 [some (jmr 52), some (jmi v1), some (jmi v2), none, none] [] σ) (fu : Nat) (v1 v2 v3 : Int) (σ : jxS), jRf X (Rules_listMoves_c21 F k4 fu v1 v2 v3 σ) 21 [some (jmr 52), some (jmi v1), some (jmi v2), some (jmi v3), none] [] σ := by
    intro k4 h4 fu
    induction fu with
    | zero => intros; exact jRf_none
    | succ fu ih =>
      intro v1 v2 v3 σ
      exact jRf_by (jex_ok hG (cs := [(4, [some (.inr (some 52)), some (.inl 0), some (.inl 0), none, none], [], fun xs σ => match xs with
      | [v1, v2] => k4 v1 v2 σ
      | _ => none), (28, [some (.inr (some 52)), some (.inl 0), some (.inl 0), some (.inl 0), some (.inl 0)], [], fun xs σ => match xs with
      | [v1, v2, v3, v4] => Rules_listMoves_c28 F k4 (Rules_listMoves_c21 F k4 fu) F v1 v2 v3 v4 σ
      | _ => none)]) (jcon (jl2 (fun y0 y1 => jl0 (fun σ => h4 y0 y1 σ))) (jcon (jl4 (fun y0 y1 y2 y3 => jl0 (fun σ => rr28 _ h4 _ ih F y0 y1 y2 y3 σ))) jnil)) 63 21 [some (jmr 52), some (jmi v1), some (jmi v2), some (jmi v3), none] [] σ) rfl
  have rr4 : ∀ (fu : Nat) (v1 v2 : Int) (σ : jxS), jRf X (Rules_listMoves_c4 F fu v1 v2 σ) 4 [some (jmr 52), some (jmi v1), some (jmi v2), none, none] [] σ := by
    intro  fu
    induction fu with
    | zero => intros; exact jRf_none
    | succ fu ih =>
      intro v1 v2 σ
      exact jRf_by (jex_ok hG (cs := [(21, [some (.inr (some 52)), some (.inl 0), some (.inl 0), some (.inl 0), none], [], fun xs σ => match xs with
      | [v1, v2, v3] => Rules_listMoves_c21 F (Rules_listMoves_c4 F fu) F v1 v2 v3 σ
      | _ => none)]) (jcon (jl3 (fun y0 y1 y2 => jl0 (fun σ => rr21 _ ih F y0 y1 y2 σ))) jnil) 63 4 [some (jmr 52), some (jmi v1), some (jmi v2), none, none] [] σ) rfl
  exact jRf_by (jex_ok hG (cs := [(4, [some (.inr (some 52)), some (.inl 0), some (.inl 0), none, none], [], fun xs σ => match xs with
      | [v1, v2] => Rules_listMoves_c4 F F v1 v2 σ
      | _ => none)]) (jcon (jl2 (fun y0 y1 => jl0 (fun σ => rr4 F y0 y1 σ))) jnil) 63 0 [some (jmr 52), none, none, none, none] [] σ0) rfl
theorem jad_Rules_listMoves (F : Nat) (sh : List jxC) (hs : jHas sh jc_C) : jAdV (jca_Rules_listMoves F) yX8_listMoves cX8_listMoves 5 0 1 25 0 sh := by
  intro as σ k x σ' h
  unfold jca_Rules_listMoves at h
  split at h
  · rename_i t0
    obtain ⟨g0, hh1⟩ := jcond h
    obtain rfl := jbeq g0
    obtain ⟨r, h1, h2⟩ := Option.bind_eq_some_iff.mp hh1
    exact ⟨_, _, h2, ⟨_, _, _, _, _, _, rfl, rfl, (hs _ (jkf_in (l := jc_C) (idx := 52) rfl)).1, rfl⟩, jmet_Rules_listMoves F  sh hs σ  r.1 r.2 h1⟩
  · cases h
def jtb_Model_laysOne : List (Nat × Instr) := [(0, .iconst 0), (1, .istore_n 2), (2, .iconst 0), (3, .istore_n 3), (4, .iconst 0), (5, .istore 4), (7, .iconst 0), (8, .istore 5), (10, .iconst 0), (11, .istore 6), (13, .iconst 0), (14, .istore 7), (16, .iload 7), (18, .aload_n 0), (19, .getfield 269), (22, .if_icmp .ge 145), (25, .aload_n 0), (26, .getfield 72), (29, .iload 7), (31, .iaload), (32, .istore 8), (34, .aload_n 0), (35, .getfield 54), (38, .iload 8), (40, .baload), (41, .ifCond .eq 27), (44, .iload 6), (46, .ifCond .eq 14), (49, .aload_n 0), (50, .getfield 57), (53, .iload 8), (55, .iaload), (56, .iload_n 2), (57, .if_icmp .ge 11), (60, .aload_n 0), (61, .getfield 57), (64, .iload 8), (66, .iaload), (67, .istore_n 2), (68, .iload 6), (70, .ifCond .ne 13), (73, .aload_n 0), (74, .getfield 54), (77, .iload 8), (79, .baload), (80, .ifCond .eq 7), (83, .iconst 1), (84, .goto 4), (87, .iconst 0), (88, .istore 6), (90, .aload_n 0), (91, .getfield 57), (94, .iload 8), (96, .iaload), (97, .iload_n 3), (98, .if_icmp .le 11), (101, .aload_n 0), (102, .getfield 57), (105, .iload 8), (107, .iaload), (108, .istore_n 3), (109, .iload 7), (111, .ifCond .eq 15), (114, .aload_n 0), (115, .getfield 60), (118, .iload 8), (120, .iaload), (121, .iload 4), (123, .if_icmp .ge 12), (126, .aload_n 0), (127, .getfield 60), (130, .iload 8), (132, .iaload), (133, .istore 4), (135, .iload 7), (137, .ifCond .eq 15), (140, .aload_n 0), (141, .getfield 63), (144, .iload 8), (146, .iaload), (147, .iload 5), (149, .if_icmp .le 12), (152, .aload_n 0), (153, .getfield 63), (156, .iload 8), (158, .iaload), (159, .istore 5), (161, .iinc 7 1), (164, .goto (-148)), (167, .aload_n 0), (168, .getfield 269), (171, .ifCond .le 7), (174, .iconst 1), (175, .goto 4), (178, .iconst 0), (179, .istore 7), (181, .aload_n 0), (182, .getfield 54), (185, .iload_n 1), (186, .iload 7), (188, .ifCond .eq 12), (191, .iload 6), (193, .ifCond .ne 7), (196, .iconst 1), (197, .goto 4), (200, .iconst 0), (201, .bastore), (202, .aload_n 0), (203, .getfield 57), (206, .iload_n 1), (207, .iload 7), (209, .ifCond .ne 7), (212, .iconst 0), (213, .goto 15), (216, .iconst 1), (217, .iload 6), (219, .ifCond .eq 7), (222, .iload_n 2), (223, .goto 4), (226, .iload_n 3), (227, .iadd), (228, .iastore), (229, .aload_n 0), (230, .getfield 60), (233, .iload_n 1), (234, .iload 7), (236, .ifCond .eq 10), (239, .iconst 1), (240, .iload 4), (242, .iadd), (243, .goto 4), (246, .iconst 0), (247, .iastore), (248, .aload_n 0), (249, .getfield 63), (252, .iload_n 1), (253, .iload 7), (255, .ifCond .eq 10), (258, .iconst 1), (259, .iload 5), (261, .iadd), (262, .goto 4), (265, .iconst 0), (266, .iastore), (267, .return_)]
theorem jtk_Model_laysOne : jtok cX12_laysOne jtb_Model_laysOne = true := by decide +kernel
set_option maxRecDepth 100000 in
theorem jfl_X12_54 : jFl RX12 54 12 25 := ⟨RX12, TX12, 57, tyX12, rfl, by decide, jin_X12, tyX12_ok, nmX12, jow_X12, (Or.inl (jTB_at 1366 rfl rfl))⟩
set_option maxRecDepth 100000 in
theorem jfl_X12_57 : jFl RX12 57 12 26 := ⟨RX12, TX12, 57, tyX12, rfl, by decide, jin_X12, tyX12_ok, nmX12, jow_X12, (Or.inl (jTB_at 1367 rfl rfl))⟩
set_option maxRecDepth 100000 in
theorem jfl_X12_60 : jFl RX12 60 12 27 := ⟨RX12, TX12, 57, tyX12, rfl, by decide, jin_X12, tyX12_ok, nmX12, jow_X12, (Or.inl (jTB_at 1368 rfl rfl))⟩
set_option maxRecDepth 100000 in
theorem jfl_X12_63 : jFl RX12 63 12 28 := ⟨RX12, TX12, 57, tyX12, rfl, by decide, jin_X12, tyX12_ok, nmX12, jow_X12, (Or.inl (jTB_at 1369 rfl rfl))⟩
set_option maxRecDepth 100000 in
theorem jfl_X12_72 : jFl RX12 72 12 31 := ⟨RX12, TX12, 57, tyX12, rfl, by decide, jin_X12, tyX12_ok, nmX12, jow_X12, (Or.inl (jTB_at 1372 rfl rfl))⟩
set_option maxRecDepth 100000 in
theorem jfl_X12_269 : jFl RX12 269 12 32 := ⟨RX12, TX12, 57, tyX12, rfl, by decide, jin_X12, tyX12_ok, nmX12, jow_X12, (Or.inl (jTB_at 1373 rfl rfl))⟩
def jE_Model_laysOne (F : Nat) : jxE := jmk [(54, 12, 25), (57, 12, 26), (60, 12, 27), (63, 12, 28), (72, 12, 31), (269, 12, 32)] [] [] [] 0 jc_M
set_option maxRecDepth 100000 in
set_option maxHeartbeats 4000000 in
theorem jmet_Model_laysOne (F : Nat) (sh : List jxC) (hs : jHas sh jc_M) (σ0 : jxS) (v1 : Int) (x : Int) (σ' : jxS) (h : Model_laysOne F σ0 v1 = some (x, σ')) : jMC yX12_laysOne cX12_laysOne 9 (jrt 0) 0 0 sh σ0 [(jmr 9), (jmi v1)] (jrv 0 x) σ' := by
  refine jMC_of (kd := 0) (by decide) rfl h ?_
  intro X hX
  have hG : jGd X (jE_Model_laysOne F) jtb_Model_laysOne := jGd_of hX jtk_Model_laysOne (jcon jfl_X12_54 (jcon jfl_X12_57 (jcon jfl_X12_60 (jcon jfl_X12_63 (jcon jfl_X12_72 (jcon jfl_X12_269 jnil)))))) jnil jnil jnil hs
  have rr247 : ∀ (v1 v5 v7 t0 t1 : Int) (σ : jxS), jRf X (Model_laysOne_c247 F v1 v5 v7 t0 t1 σ) 247 [some (jmr 9), some (jmi v1), none, none, none, some (jmi v5), none, some (jmi v7), none] [(jmi t0), (jmi t1), (jmr 26)] σ := by
    intro  v1 v5 v7 t0 t1 σ
    exact jRf_by (jex_ok hG (cs := []) jnil 148 247 [some (jmr 9), some (jmi v1), none, none, none, some (jmi v5), none, some (jmi v7), none] [(jmi t0), (jmi t1), (jmr 26)] σ) rfl
  have rr228 : ∀ (v1 v4 v5 v7 t0 t1 : Int) (σ : jxS), jRf X (Model_laysOne_c228 F v1 v4 v5 v7 t0 t1 σ) 228 [some (jmr 9), some (jmi v1), none, none, some (jmi v4), some (jmi v5), none, some (jmi v7), none] [(jmi t0), (jmi t1), (jmr 25)] σ := by
    intro  v1 v4 v5 v7 t0 t1 σ
    exact jRf_by (jex_ok hG (cs := [(247, [some (.inr (some 9)), some (.inl 0), none, none, none, some (.inl 0), none, some (.inl 0), none], [(.inl 0), (.inl 0), (.inr (some 26))], fun xs σ => match xs with
      | [v1, v5, v7, t0, t1] => Model_laysOne_c247 F v1 v5 v7 t0 t1 σ
      | _ => none)]) (jcon (jl3 (fun y0 y1 y2 => jl2 (fun y3 y4 => (fun σ => rr247 y0 y1 y2 y3 y4 σ)))) jnil) 148 228 [some (jmr 9), some (jmi v1), none, none, some (jmi v4), some (jmi v5), none, some (jmi v7), none] [(jmi t0), (jmi t1), (jmr 25)] σ) rfl
  have rr227 : ∀ (v1 v4 v5 v7 t0 t1 t2 : Int) (σ : jxS), jRf X (Model_laysOne_c227 F v1 v4 v5 v7 t0 t1 t2 σ) 227 [some (jmr 9), some (jmi v1), none, none, some (jmi v4), some (jmi v5), none, some (jmi v7), none] [(jmi t0), (jmi t1), (jmi t2), (jmr 25)] σ := by
    intro  v1 v4 v5 v7 t0 t1 t2 σ
    exact jRf_by (jex_ok hG (cs := [(228, [some (.inr (some 9)), some (.inl 0), none, none, some (.inl 0), some (.inl 0), none, some (.inl 0), none], [(.inl 0), (.inl 0), (.inr (some 25))], fun xs σ => match xs with
      | [v1, v4, v5, v7, t0, t1] => Model_laysOne_c228 F v1 v4 v5 v7 t0 t1 σ
      | _ => none)]) (jcon (jl4 (fun y0 y1 y2 y3 => jl2 (fun y4 y5 => (fun σ => rr228 y0 y1 y2 y3 y4 y5 σ)))) jnil) 148 227 [some (jmr 9), some (jmi v1), none, none, some (jmi v4), some (jmi v5), none, some (jmi v7), none] [(jmi t0), (jmi t1), (jmi t2), (jmr 25)] σ) rfl
  have rr201 : ∀ (v1 v2 v3 v4 v5 v6 v7 t0 t1 : Int) (σ : jxS), jRf X (Model_laysOne_c201 F v1 v2 v3 v4 v5 v6 v7 t0 t1 σ) 201 [some (jmr 9), some (jmi v1), some (jmi v2), some (jmi v3), some (jmi v4), some (jmi v5), some (jmi v6), some (jmi v7), none] [(jmi t0), (jmi t1), (jmr 24)] σ := by
    intro  v1 v2 v3 v4 v5 v6 v7 t0 t1 σ
    exact jRf_by (jex_ok hG (cs := [(227, [some (.inr (some 9)), some (.inl 0), none, none, some (.inl 0), some (.inl 0), none, some (.inl 0), none], [(.inl 0), (.inl 0), (.inl 0), (.inr (some 25))], fun xs σ => match xs with
      | [v1, v4, v5, v7, t0, t1, t2] => Model_laysOne_c227 F v1 v4 v5 v7 t0 t1 t2 σ
      | _ => none), (228, [some (.inr (some 9)), some (.inl 0), none, none, some (.inl 0), some (.inl 0), none, some (.inl 0), none], [(.inl 0), (.inl 0), (.inr (some 25))], fun xs σ => match xs with
      | [v1, v4, v5, v7, t0, t1] => Model_laysOne_c228 F v1 v4 v5 v7 t0 t1 σ
      | _ => none)]) (jcon (jl4 (fun y0 y1 y2 y3 => jl3 (fun y4 y5 y6 => (fun σ => rr227 y0 y1 y2 y3 y4 y5 y6 σ)))) (jcon (jl4 (fun y0 y1 y2 y3 => jl2 (fun y4 y5 => (fun σ => rr228 y0 y1 y2 y3 y4 y5 σ)))) jnil)) 148 201 [some (jmr 9), some (jmi v1), some (jmi v2), some (jmi v3), some (jmi v4), some (jmi v5), some (jmi v6), some (jmi v7), none] [(jmi t0), (jmi t1), (jmr 24)] σ) rfl
  have rr200 : ∀ (v1 v2 v3 v4 v5 v6 v7 t0 : Int) (σ : jxS), jRf X (Model_laysOne_c200 F v1 v2 v3 v4 v5 v6 v7 t0 σ) 200 [some (jmr 9), some (jmi v1), some (jmi v2), some (jmi v3), some (jmi v4), some (jmi v5), some (jmi v6), some (jmi v7), none] [(jmi t0), (jmr 24)] σ := by
    intro  v1 v2 v3 v4 v5 v6 v7 t0 σ
    exact jRf_by (jex_ok hG (cs := [(201, [some (.inr (some 9)), some (.inl 0), some (.inl 0), some (.inl 0), some (.inl 0), some (.inl 0), some (.inl 0), some (.inl 0), none], [(.inl 0), (.inl 0), (.inr (some 24))], fun xs σ => match xs with
      | [v1, v2, v3, v4, v5, v6, v7, t0, t1] => Model_laysOne_c201 F v1 v2 v3 v4 v5 v6 v7 t0 t1 σ
      | _ => none)]) (jcon (jl7 (fun y0 y1 y2 y3 y4 y5 y6 => jl2 (fun y7 y8 => (fun σ => rr201 y0 y1 y2 y3 y4 y5 y6 y7 y8 σ)))) jnil) 148 200 [some (jmr 9), some (jmi v1), some (jmi v2), some (jmi v3), some (jmi v4), some (jmi v5), some (jmi v6), some (jmi v7), none] [(jmi t0), (jmr 24)] σ) rfl
  have rr179 : ∀ (v1 v2 v3 v4 v5 v6 t0 : Int) (σ : jxS), jRf X (Model_laysOne_c179 F v1 v2 v3 v4 v5 v6 t0 σ) 179 [some (jmr 9), some (jmi v1), some (jmi v2), some (jmi v3), some (jmi v4), some (jmi v5), some (jmi v6), none, none] [(jmi t0)] σ := by
    intro  v1 v2 v3 v4 v5 v6 t0 σ
    exact jRf_by (jex_ok hG (cs := [(200, [some (.inr (some 9)), some (.inl 0), some (.inl 0), some (.inl 0), some (.inl 0), some (.inl 0), some (.inl 0), some (.inl 0), none], [(.inl 0), (.inr (some 24))], fun xs σ => match xs with
      | [v1, v2, v3, v4, v5, v6, v7, t0] => Model_laysOne_c200 F v1 v2 v3 v4 v5 v6 v7 t0 σ
      | _ => none), (201, [some (.inr (some 9)), some (.inl 0), some (.inl 0), some (.inl 0), some (.inl 0), some (.inl 0), some (.inl 0), some (.inl 0), none], [(.inl 0), (.inl 0), (.inr (some 24))], fun xs σ => match xs with
      | [v1, v2, v3, v4, v5, v6, v7, t0, t1] => Model_laysOne_c201 F v1 v2 v3 v4 v5 v6 v7 t0 t1 σ
      | _ => none)]) (jcon (jl7 (fun y0 y1 y2 y3 y4 y5 y6 => jl1 (fun y7 => (fun σ => rr200 y0 y1 y2 y3 y4 y5 y6 y7 σ)))) (jcon (jl7 (fun y0 y1 y2 y3 y4 y5 y6 => jl2 (fun y7 y8 => (fun σ => rr201 y0 y1 y2 y3 y4 y5 y6 y7 y8 σ)))) jnil)) 148 179 [some (jmr 9), some (jmi v1), some (jmi v2), some (jmi v3), some (jmi v4), some (jmi v5), some (jmi v6), none, none] [(jmi t0)] σ) rfl
  have rr152 : ∀ (k16 : Int → Int → Int → Int → Int → Int → Int → jxS → Option jxR) (h16 : ∀ v1 v2 v3 v4 v5 v6 v7 σ, jRf X (k16 v1 v2 v3 v4 v5 v6 v7 σ) 16 [some (jmr 9), some (jmi v1), some (jmi v2), some (jmi v3), some (jmi v4), some (jmi v5), some (jmi v6), some (jmi v7), none] [] σ) (v1 v2 v3 v4 v6 v7 v8 : Int) (σ : jxS), jRf X (Model_laysOne_c152 F k16 v1 v2 v3 v4 v6 v7 v8 σ) 152 [some (jmr 9), some (jmi v1), some (jmi v2), some (jmi v3), some (jmi v4), none, some (jmi v6), some (jmi v7), some (jmi v8)] [] σ := by
    intro k16 h16 v1 v2 v3 v4 v6 v7 v8 σ
    exact jRf_by (jex_ok hG (cs := [(16, [some (.inr (some 9)), some (.inl 0), some (.inl 0), some (.inl 0), some (.inl 0), some (.inl 0), some (.inl 0), some (.inl 0), none], [], fun xs σ => match xs with
      | [v1, v2, v3, v4, v5, v6, v7] => k16 v1 v2 v3 v4 v5 v6 v7 σ
      | _ => none)]) (jcon (jl7 (fun y0 y1 y2 y3 y4 y5 y6 => jl0 (fun σ => h16 y0 y1 y2 y3 y4 y5 y6 σ))) jnil) 148 152 [some (jmr 9), some (jmi v1), some (jmi v2), some (jmi v3), some (jmi v4), none, some (jmi v6), some (jmi v7), some (jmi v8)] [] σ) rfl
  have rr135 : ∀ (k16 : Int → Int → Int → Int → Int → Int → Int → jxS → Option jxR) (h16 : ∀ v1 v2 v3 v4 v5 v6 v7 σ, jRf X (k16 v1 v2 v3 v4 v5 v6 v7 σ) 16 [some (jmr 9), some (jmi v1), some (jmi v2), some (jmi v3), some (jmi v4), some (jmi v5), some (jmi v6), some (jmi v7), none] [] σ) (v1 v2 v3 v4 v5 v6 v7 v8 : Int) (σ : jxS), jRf X (Model_laysOne_c135 F k16 v1 v2 v3 v4 v5 v6 v7 v8 σ) 135 [some (jmr 9), some (jmi v1), some (jmi v2), some (jmi v3), some (jmi v4), some (jmi v5), some (jmi v6), some (jmi v7), some (jmi v8)] [] σ := by
    intro k16 h16 v1 v2 v3 v4 v5 v6 v7 v8 σ
    exact jRf_by (jex_ok hG (cs := [(16, [some (.inr (some 9)), some (.inl 0), some (.inl 0), some (.inl 0), some (.inl 0), some (.inl 0), some (.inl 0), some (.inl 0), none], [], fun xs σ => match xs with
      | [v1, v2, v3, v4, v5, v6, v7] => k16 v1 v2 v3 v4 v5 v6 v7 σ
      | _ => none), (152, [some (.inr (some 9)), some (.inl 0), some (.inl 0), some (.inl 0), some (.inl 0), none, some (.inl 0), some (.inl 0), some (.inl 0)], [], fun xs σ => match xs with
      | [v1, v2, v3, v4, v6, v7, v8] => Model_laysOne_c152 F k16 v1 v2 v3 v4 v6 v7 v8 σ
      | _ => none)]) (jcon (jl7 (fun y0 y1 y2 y3 y4 y5 y6 => jl0 (fun σ => h16 y0 y1 y2 y3 y4 y5 y6 σ))) (jcon (jl7 (fun y0 y1 y2 y3 y4 y5 y6 => jl0 (fun σ => rr152 _ h16 y0 y1 y2 y3 y4 y5 y6 σ))) jnil)) 148 135 [some (jmr 9), some (jmi v1), some (jmi v2), some (jmi v3), some (jmi v4), some (jmi v5), some (jmi v6), some (jmi v7), some (jmi v8)] [] σ) rfl
  have rr126 : ∀ (k16 : Int → Int → Int → Int → Int → Int → Int → jxS → Option jxR) (h16 : ∀ v1 v2 v3 v4 v5 v6 v7 σ, jRf X (k16 v1 v2 v3 v4 v5 v6 v7 σ) 16 [some (jmr 9), some (jmi v1), some (jmi v2), some (jmi v3), some (jmi v4), some (jmi v5), some (jmi v6), some (jmi v7), none] [] σ) (v1 v2 v3 v5 v6 v7 v8 : Int) (σ : jxS), jRf X (Model_laysOne_c126 F k16 v1 v2 v3 v5 v6 v7 v8 σ) 126 [some (jmr 9), some (jmi v1), some (jmi v2), some (jmi v3), none, some (jmi v5), some (jmi v6), some (jmi v7), some (jmi v8)] [] σ := by
    intro k16 h16 v1 v2 v3 v5 v6 v7 v8 σ
    exact jRf_by (jex_ok hG (cs := [(135, [some (.inr (some 9)), some (.inl 0), some (.inl 0), some (.inl 0), some (.inl 0), some (.inl 0), some (.inl 0), some (.inl 0), some (.inl 0)], [], fun xs σ => match xs with
      | [v1, v2, v3, v4, v5, v6, v7, v8] => Model_laysOne_c135 F k16 v1 v2 v3 v4 v5 v6 v7 v8 σ
      | _ => none)]) (jcon (jl8 (fun y0 y1 y2 y3 y4 y5 y6 y7 => jl0 (fun σ => rr135 _ h16 y0 y1 y2 y3 y4 y5 y6 y7 σ))) jnil) 148 126 [some (jmr 9), some (jmi v1), some (jmi v2), some (jmi v3), none, some (jmi v5), some (jmi v6), some (jmi v7), some (jmi v8)] [] σ) rfl
  have rr109 : ∀ (k16 : Int → Int → Int → Int → Int → Int → Int → jxS → Option jxR) (h16 : ∀ v1 v2 v3 v4 v5 v6 v7 σ, jRf X (k16 v1 v2 v3 v4 v5 v6 v7 σ) 16 [some (jmr 9), some (jmi v1), some (jmi v2), some (jmi v3), some (jmi v4), some (jmi v5), some (jmi v6), some (jmi v7), none] [] σ) (v1 v2 v3 v4 v5 v6 v7 v8 : Int) (σ : jxS), jRf X (Model_laysOne_c109 F k16 v1 v2 v3 v4 v5 v6 v7 v8 σ) 109 [some (jmr 9), some (jmi v1), some (jmi v2), some (jmi v3), some (jmi v4), some (jmi v5), some (jmi v6), some (jmi v7), some (jmi v8)] [] σ := by
    intro k16 h16 v1 v2 v3 v4 v5 v6 v7 v8 σ
    exact jRf_by (jex_ok hG (cs := [(126, [some (.inr (some 9)), some (.inl 0), some (.inl 0), some (.inl 0), none, some (.inl 0), some (.inl 0), some (.inl 0), some (.inl 0)], [], fun xs σ => match xs with
      | [v1, v2, v3, v5, v6, v7, v8] => Model_laysOne_c126 F k16 v1 v2 v3 v5 v6 v7 v8 σ
      | _ => none), (135, [some (.inr (some 9)), some (.inl 0), some (.inl 0), some (.inl 0), some (.inl 0), some (.inl 0), some (.inl 0), some (.inl 0), some (.inl 0)], [], fun xs σ => match xs with
      | [v1, v2, v3, v4, v5, v6, v7, v8] => Model_laysOne_c135 F k16 v1 v2 v3 v4 v5 v6 v7 v8 σ
      | _ => none)]) (jcon (jl7 (fun y0 y1 y2 y3 y4 y5 y6 => jl0 (fun σ => rr126 _ h16 y0 y1 y2 y3 y4 y5 y6 σ))) (jcon (jl8 (fun y0 y1 y2 y3 y4 y5 y6 y7 => jl0 (fun σ => rr135 _ h16 y0 y1 y2 y3 y4 y5 y6 y7 σ))) jnil)) 148 109 [some (jmr 9), some (jmi v1), some (jmi v2), some (jmi v3), some (jmi v4), some (jmi v5), some (jmi v6), some (jmi v7), some (jmi v8)] [] σ) rfl
  have rr88 : ∀ (k16 : Int → Int → Int → Int → Int → Int → Int → jxS → Option jxR) (h16 : ∀ v1 v2 v3 v4 v5 v6 v7 σ, jRf X (k16 v1 v2 v3 v4 v5 v6 v7 σ) 16 [some (jmr 9), some (jmi v1), some (jmi v2), some (jmi v3), some (jmi v4), some (jmi v5), some (jmi v6), some (jmi v7), none] [] σ) (v1 v2 v3 v4 v5 v7 v8 t0 : Int) (σ : jxS), jRf X (Model_laysOne_c88 F k16 v1 v2 v3 v4 v5 v7 v8 t0 σ) 88 [some (jmr 9), some (jmi v1), some (jmi v2), some (jmi v3), some (jmi v4), some (jmi v5), none, some (jmi v7), some (jmi v8)] [(jmi t0)] σ := by
    intro k16 h16 v1 v2 v3 v4 v5 v7 v8 t0 σ
    exact jRf_by (jex_ok hG (cs := [(109, [some (.inr (some 9)), some (.inl 0), some (.inl 0), some (.inl 0), some (.inl 0), some (.inl 0), some (.inl 0), some (.inl 0), some (.inl 0)], [], fun xs σ => match xs with
      | [v1, v2, v3, v4, v5, v6, v7, v8] => Model_laysOne_c109 F k16 v1 v2 v3 v4 v5 v6 v7 v8 σ
      | _ => none)]) (jcon (jl8 (fun y0 y1 y2 y3 y4 y5 y6 y7 => jl0 (fun σ => rr109 _ h16 y0 y1 y2 y3 y4 y5 y6 y7 σ))) jnil) 148 88 [some (jmr 9), some (jmi v1), some (jmi v2), some (jmi v3), some (jmi v4), some (jmi v5), none, some (jmi v7), some (jmi v8)] [(jmi t0)] σ) rfl
  have rr83 : ∀ (k16 : Int → Int → Int → Int → Int → Int → Int → jxS → Option jxR) (h16 : ∀ v1 v2 v3 v4 v5 v6 v7 σ, jRf X (k16 v1 v2 v3 v4 v5 v6 v7 σ) 16 [some (jmr 9), some (jmi v1), some (jmi v2), some (jmi v3), some (jmi v4), some (jmi v5), some (jmi v6), some (jmi v7), none] [] σ) (v1 v2 v3 v4 v5 v7 v8 : Int) (σ : jxS), jRf X (Model_laysOne_c83 F k16 v1 v2 v3 v4 v5 v7 v8 σ) 83 [some (jmr 9), some (jmi v1), some (jmi v2), some (jmi v3), some (jmi v4), some (jmi v5), none, some (jmi v7), some (jmi v8)] [] σ := by
    intro k16 h16 v1 v2 v3 v4 v5 v7 v8 σ
    exact jRf_by (jex_ok hG (cs := [(88, [some (.inr (some 9)), some (.inl 0), some (.inl 0), some (.inl 0), some (.inl 0), some (.inl 0), none, some (.inl 0), some (.inl 0)], [(.inl 0)], fun xs σ => match xs with
      | [v1, v2, v3, v4, v5, v7, v8, t0] => Model_laysOne_c88 F k16 v1 v2 v3 v4 v5 v7 v8 t0 σ
      | _ => none)]) (jcon (jl7 (fun y0 y1 y2 y3 y4 y5 y6 => jl1 (fun y7 => (fun σ => rr88 _ h16 y0 y1 y2 y3 y4 y5 y6 y7 σ)))) jnil) 148 83 [some (jmr 9), some (jmi v1), some (jmi v2), some (jmi v3), some (jmi v4), some (jmi v5), none, some (jmi v7), some (jmi v8)] [] σ) rfl
  have rr68 : ∀ (k16 : Int → Int → Int → Int → Int → Int → Int → jxS → Option jxR) (h16 : ∀ v1 v2 v3 v4 v5 v6 v7 σ, jRf X (k16 v1 v2 v3 v4 v5 v6 v7 σ) 16 [some (jmr 9), some (jmi v1), some (jmi v2), some (jmi v3), some (jmi v4), some (jmi v5), some (jmi v6), some (jmi v7), none] [] σ) (v1 v2 v3 v4 v5 v6 v7 v8 : Int) (σ : jxS), jRf X (Model_laysOne_c68 F k16 v1 v2 v3 v4 v5 v6 v7 v8 σ) 68 [some (jmr 9), some (jmi v1), some (jmi v2), some (jmi v3), some (jmi v4), some (jmi v5), some (jmi v6), some (jmi v7), some (jmi v8)] [] σ := by
    intro k16 h16 v1 v2 v3 v4 v5 v6 v7 v8 σ
    exact jRf_by (jex_ok hG (cs := [(83, [some (.inr (some 9)), some (.inl 0), some (.inl 0), some (.inl 0), some (.inl 0), some (.inl 0), none, some (.inl 0), some (.inl 0)], [], fun xs σ => match xs with
      | [v1, v2, v3, v4, v5, v7, v8] => Model_laysOne_c83 F k16 v1 v2 v3 v4 v5 v7 v8 σ
      | _ => none), (88, [some (.inr (some 9)), some (.inl 0), some (.inl 0), some (.inl 0), some (.inl 0), some (.inl 0), none, some (.inl 0), some (.inl 0)], [(.inl 0)], fun xs σ => match xs with
      | [v1, v2, v3, v4, v5, v7, v8, t0] => Model_laysOne_c88 F k16 v1 v2 v3 v4 v5 v7 v8 t0 σ
      | _ => none)]) (jcon (jl7 (fun y0 y1 y2 y3 y4 y5 y6 => jl0 (fun σ => rr83 _ h16 y0 y1 y2 y3 y4 y5 y6 σ))) (jcon (jl7 (fun y0 y1 y2 y3 y4 y5 y6 => jl1 (fun y7 => (fun σ => rr88 _ h16 y0 y1 y2 y3 y4 y5 y6 y7 σ)))) jnil)) 148 68 [some (jmr 9), some (jmi v1), some (jmi v2), some (jmi v3), some (jmi v4), some (jmi v5), some (jmi v6), some (jmi v7), some (jmi v8)] [] σ) rfl
  have rr60 : ∀ (k16 : Int → Int → Int → Int → Int → Int → Int → jxS → Option jxR) (h16 : ∀ v1 v2 v3 v4 v5 v6 v7 σ, jRf X (k16 v1 v2 v3 v4 v5 v6 v7 σ) 16 [some (jmr 9), some (jmi v1), some (jmi v2), some (jmi v3), some (jmi v4), some (jmi v5), some (jmi v6), some (jmi v7), none] [] σ) (v1 v3 v4 v5 v6 v7 v8 : Int) (σ : jxS), jRf X (Model_laysOne_c60 F k16 v1 v3 v4 v5 v6 v7 v8 σ) 60 [some (jmr 9), some (jmi v1), none, some (jmi v3), some (jmi v4), some (jmi v5), some (jmi v6), some (jmi v7), some (jmi v8)] [] σ := by
    intro k16 h16 v1 v3 v4 v5 v6 v7 v8 σ
    exact jRf_by (jex_ok hG (cs := [(68, [some (.inr (some 9)), some (.inl 0), some (.inl 0), some (.inl 0), some (.inl 0), some (.inl 0), some (.inl 0), some (.inl 0), some (.inl 0)], [], fun xs σ => match xs with
      | [v1, v2, v3, v4, v5, v6, v7, v8] => Model_laysOne_c68 F k16 v1 v2 v3 v4 v5 v6 v7 v8 σ
      | _ => none)]) (jcon (jl8 (fun y0 y1 y2 y3 y4 y5 y6 y7 => jl0 (fun σ => rr68 _ h16 y0 y1 y2 y3 y4 y5 y6 y7 σ))) jnil) 148 60 [some (jmr 9), some (jmi v1), none, some (jmi v3), some (jmi v4), some (jmi v5), some (jmi v6), some (jmi v7), some (jmi v8)] [] σ) rfl
  have rr16 : ∀ (fu : Nat) (v1 v2 v3 v4 v5 v6 v7 : Int) (σ : jxS), jRf X (Model_laysOne_c16 F fu v1 v2 v3 v4 v5 v6 v7 σ) 16 [some (jmr 9), some (jmi v1), some (jmi v2), some (jmi v3), some (jmi v4), some (jmi v5), some (jmi v6), some (jmi v7), none] [] σ := by
    intro  fu
    induction fu with
    | zero => intros; exact jRf_none
    | succ fu ih =>
      intro v1 v2 v3 v4 v5 v6 v7 σ
      exact jRf_by (jex_ok hG (cs := [(60, [some (.inr (some 9)), some (.inl 0), none, some (.inl 0), some (.inl 0), some (.inl 0), some (.inl 0), some (.inl 0), some (.inl 0)], [], fun xs σ => match xs with
      | [v1, v3, v4, v5, v6, v7, v8] => Model_laysOne_c60 F (Model_laysOne_c16 F fu) v1 v3 v4 v5 v6 v7 v8 σ
      | _ => none), (68, [some (.inr (some 9)), some (.inl 0), some (.inl 0), some (.inl 0), some (.inl 0), some (.inl 0), some (.inl 0), some (.inl 0), some (.inl 0)], [], fun xs σ => match xs with
      | [v1, v2, v3, v4, v5, v6, v7, v8] => Model_laysOne_c68 F (Model_laysOne_c16 F fu) v1 v2 v3 v4 v5 v6 v7 v8 σ
      | _ => none), (179, [some (.inr (some 9)), some (.inl 0), some (.inl 0), some (.inl 0), some (.inl 0), some (.inl 0), some (.inl 0), none, none], [(.inl 0)], fun xs σ => match xs with
      | [v1, v2, v3, v4, v5, v6, t0] => Model_laysOne_c179 F v1 v2 v3 v4 v5 v6 t0 σ
      | _ => none)]) (jcon (jl7 (fun y0 y1 y2 y3 y4 y5 y6 => jl0 (fun σ => rr60 _ ih y0 y1 y2 y3 y4 y5 y6 σ))) (jcon (jl8 (fun y0 y1 y2 y3 y4 y5 y6 y7 => jl0 (fun σ => rr68 _ ih y0 y1 y2 y3 y4 y5 y6 y7 σ))) (jcon (jl6 (fun y0 y1 y2 y3 y4 y5 => jl1 (fun y6 => (fun σ => rr179 y0 y1 y2 y3 y4 y5 y6 σ)))) jnil))) 148 16 [some (jmr 9), some (jmi v1), some (jmi v2), some (jmi v3), some (jmi v4), some (jmi v5), some (jmi v6), some (jmi v7), none] [] σ) rfl
  exact jRf_by (jex_ok hG (cs := [(16, [some (.inr (some 9)), some (.inl 0), some (.inl 0), some (.inl 0), some (.inl 0), some (.inl 0), some (.inl 0), some (.inl 0), none], [], fun xs σ => match xs with
      | [v1, v2, v3, v4, v5, v6, v7] => Model_laysOne_c16 F F v1 v2 v3 v4 v5 v6 v7 σ
      | _ => none)]) (jcon (jl7 (fun y0 y1 y2 y3 y4 y5 y6 => jl0 (fun σ => rr16 F y0 y1 y2 y3 y4 y5 y6 σ))) jnil) 148 0 [some (jmr 9), some (jmi v1), none, none, none, none, none, none, none] [] σ0) rfl
theorem jad_Model_laysOne (F : Nat) (sh : List jxC) (hs : jHas sh jc_M) : jAdV (jca_Model_laysOne F) yX12_laysOne cX12_laysOne 9 0 0 0 1 sh := by
  intro as σ k x σ' h
  unfold jca_Model_laysOne at h
  split at h
  · rename_i t0 v1
    obtain ⟨g0, hh1⟩ := jcond h
    obtain rfl := jbeq g0
    obtain ⟨r, h1, h2⟩ := Option.bind_eq_some_iff.mp hh1
    exact ⟨_, _, h2, ⟨_, _, _, _, _, _, rfl, rfl, (hs _ (jkf_in (l := jc_M) (idx := 9) rfl)).1, rfl⟩, jmet_Model_laysOne F  sh hs σ v1 r.1 r.2 h1⟩
  · cases h
def jtb_Model_beansOf : List (Nat × Instr) := [(0, .iconst 0), (1, .istore_n 1), (2, .iconst 1), (3, .istore_n 2), (4, .iload_n 2), (5, .bipush 12), (7, .if_icmp .gt 17), (10, .iload_n 1), (11, .iload_n 2), (12, .aload_n 0), (13, .iload_n 2), (14, .iaload), (15, .imul), (16, .iadd), (17, .istore_n 1), (18, .iinc 2 1), (21, .goto (-17)), (24, .iload_n 1), (25, .ireturn)]
theorem jtk_Model_beansOf : jtok cX12_beansOf jtb_Model_beansOf = true := by decide +kernel
def jE_Model_beansOf (F : Nat) : jxE := jmk [] [] [] [] 1 jc_M
set_option maxRecDepth 100000 in
set_option maxHeartbeats 4000000 in
theorem jmet_Model_beansOf_29 (F : Nat) (sh : List jxC) (hs : jHas sh jc_M) (σ0 : jxS) (x : Int) (σ' : jxS) (h : Model_beansOf F 29 σ0 = some (x, σ')) : jMC yX12_beansOf cX12_beansOf 3 (jrt 1) 0 0 sh σ0 [(jmr 29)] (jrv 1 x) σ' := by
  refine jMC_of (kd := 1) (by decide) rfl h ?_
  intro X hX
  have hG : jGd X (jE_Model_beansOf F) jtb_Model_beansOf := jGd_of hX jtk_Model_beansOf jnil jnil jnil jnil hs
  have rr4 : ∀ (fu : Nat) (v1 v2 : Int) (σ : jxS), jRf X (Model_beansOf_c4 F 29 fu v1 v2 σ) 4 [some (jmr 29), some (jmi v1), some (jmi v2)] [] σ := by
    intro  fu
    induction fu with
    | zero => intros; exact jRf_none
    | succ fu ih =>
      intro v1 v2 σ
      exact jRf_by (jex_ok hG (cs := [(4, [some (.inr (some 29)), some (.inl 0), some (.inl 0)], [], fun xs σ => match xs with
      | [v1, v2] => (Model_beansOf_c4 F 29 fu) v1 v2 σ
      | _ => none)]) (jcon (jl2 (fun y0 y1 => jl0 (fun σ => ih y0 y1 σ))) jnil) 22 4 [some (jmr 29), some (jmi v1), some (jmi v2)] [] σ) rfl
  exact jRf_by (jex_ok hG (cs := [(4, [some (.inr (some 29)), some (.inl 0), some (.inl 0)], [], fun xs σ => match xs with
      | [v1, v2] => Model_beansOf_c4 F 29 F v1 v2 σ
      | _ => none)]) (jcon (jl2 (fun y0 y1 => jl0 (fun σ => rr4 F y0 y1 σ))) jnil) 22 0 [some (jmr 29), none, none] [] σ0) rfl
set_option maxRecDepth 100000 in
set_option maxHeartbeats 4000000 in
theorem jmet_Model_beansOf_33 (F : Nat) (sh : List jxC) (hs : jHas sh jc_M) (σ0 : jxS) (x : Int) (σ' : jxS) (h : Model_beansOf F 33 σ0 = some (x, σ')) : jMC yX12_beansOf cX12_beansOf 3 (jrt 1) 0 0 sh σ0 [(jmr 33)] (jrv 1 x) σ' := by
  refine jMC_of (kd := 1) (by decide) rfl h ?_
  intro X hX
  have hG : jGd X (jE_Model_beansOf F) jtb_Model_beansOf := jGd_of hX jtk_Model_beansOf jnil jnil jnil jnil hs
  have rr4 : ∀ (fu : Nat) (v1 v2 : Int) (σ : jxS), jRf X (Model_beansOf_c4 F 33 fu v1 v2 σ) 4 [some (jmr 33), some (jmi v1), some (jmi v2)] [] σ := by
    intro  fu
    induction fu with
    | zero => intros; exact jRf_none
    | succ fu ih =>
      intro v1 v2 σ
      exact jRf_by (jex_ok hG (cs := [(4, [some (.inr (some 33)), some (.inl 0), some (.inl 0)], [], fun xs σ => match xs with
      | [v1, v2] => (Model_beansOf_c4 F 33 fu) v1 v2 σ
      | _ => none)]) (jcon (jl2 (fun y0 y1 => jl0 (fun σ => ih y0 y1 σ))) jnil) 22 4 [some (jmr 33), some (jmi v1), some (jmi v2)] [] σ) rfl
  exact jRf_by (jex_ok hG (cs := [(4, [some (.inr (some 33)), some (.inl 0), some (.inl 0)], [], fun xs σ => match xs with
      | [v1, v2] => Model_beansOf_c4 F 33 F v1 v2 σ
      | _ => none)]) (jcon (jl2 (fun y0 y1 => jl0 (fun σ => rr4 F y0 y1 σ))) jnil) 22 0 [some (jmr 33), none, none] [] σ0) rfl
set_option maxRecDepth 100000 in
set_option maxHeartbeats 4000000 in
theorem jmet_Model_beansOf_35 (F : Nat) (sh : List jxC) (hs : jHas sh jc_M) (σ0 : jxS) (x : Int) (σ' : jxS) (h : Model_beansOf F 35 σ0 = some (x, σ')) : jMC yX12_beansOf cX12_beansOf 3 (jrt 1) 0 0 sh σ0 [(jmr 35)] (jrv 1 x) σ' := by
  refine jMC_of (kd := 1) (by decide) rfl h ?_
  intro X hX
  have hG : jGd X (jE_Model_beansOf F) jtb_Model_beansOf := jGd_of hX jtk_Model_beansOf jnil jnil jnil jnil hs
  have rr4 : ∀ (fu : Nat) (v1 v2 : Int) (σ : jxS), jRf X (Model_beansOf_c4 F 35 fu v1 v2 σ) 4 [some (jmr 35), some (jmi v1), some (jmi v2)] [] σ := by
    intro  fu
    induction fu with
    | zero => intros; exact jRf_none
    | succ fu ih =>
      intro v1 v2 σ
      exact jRf_by (jex_ok hG (cs := [(4, [some (.inr (some 35)), some (.inl 0), some (.inl 0)], [], fun xs σ => match xs with
      | [v1, v2] => (Model_beansOf_c4 F 35 fu) v1 v2 σ
      | _ => none)]) (jcon (jl2 (fun y0 y1 => jl0 (fun σ => ih y0 y1 σ))) jnil) 22 4 [some (jmr 35), some (jmi v1), some (jmi v2)] [] σ) rfl
  exact jRf_by (jex_ok hG (cs := [(4, [some (.inr (some 35)), some (.inl 0), some (.inl 0)], [], fun xs σ => match xs with
      | [v1, v2] => Model_beansOf_c4 F 35 F v1 v2 σ
      | _ => none)]) (jcon (jl2 (fun y0 y1 => jl0 (fun σ => rr4 F y0 y1 σ))) jnil) 22 0 [some (jmr 35), none, none] [] σ0) rfl
set_option maxRecDepth 100000 in
set_option maxHeartbeats 4000000 in
theorem jmet_Model_beansOf_37 (F : Nat) (sh : List jxC) (hs : jHas sh jc_M) (σ0 : jxS) (x : Int) (σ' : jxS) (h : Model_beansOf F 37 σ0 = some (x, σ')) : jMC yX12_beansOf cX12_beansOf 3 (jrt 1) 0 0 sh σ0 [(jmr 37)] (jrv 1 x) σ' := by
  refine jMC_of (kd := 1) (by decide) rfl h ?_
  intro X hX
  have hG : jGd X (jE_Model_beansOf F) jtb_Model_beansOf := jGd_of hX jtk_Model_beansOf jnil jnil jnil jnil hs
  have rr4 : ∀ (fu : Nat) (v1 v2 : Int) (σ : jxS), jRf X (Model_beansOf_c4 F 37 fu v1 v2 σ) 4 [some (jmr 37), some (jmi v1), some (jmi v2)] [] σ := by
    intro  fu
    induction fu with
    | zero => intros; exact jRf_none
    | succ fu ih =>
      intro v1 v2 σ
      exact jRf_by (jex_ok hG (cs := [(4, [some (.inr (some 37)), some (.inl 0), some (.inl 0)], [], fun xs σ => match xs with
      | [v1, v2] => (Model_beansOf_c4 F 37 fu) v1 v2 σ
      | _ => none)]) (jcon (jl2 (fun y0 y1 => jl0 (fun σ => ih y0 y1 σ))) jnil) 22 4 [some (jmr 37), some (jmi v1), some (jmi v2)] [] σ) rfl
  exact jRf_by (jex_ok hG (cs := [(4, [some (.inr (some 37)), some (.inl 0), some (.inl 0)], [], fun xs σ => match xs with
      | [v1, v2] => Model_beansOf_c4 F 37 F v1 v2 σ
      | _ => none)]) (jcon (jl2 (fun y0 y1 => jl0 (fun σ => rr4 F y0 y1 σ))) jnil) 22 0 [some (jmr 37), none, none] [] σ0) rfl
set_option maxRecDepth 100000 in
set_option maxHeartbeats 4000000 in
theorem jmet_Model_beansOf_38 (F : Nat) (sh : List jxC) (hs : jHas sh jc_M) (σ0 : jxS) (x : Int) (σ' : jxS) (h : Model_beansOf F 38 σ0 = some (x, σ')) : jMC yX12_beansOf cX12_beansOf 3 (jrt 1) 0 0 sh σ0 [(jmr 38)] (jrv 1 x) σ' := by
  refine jMC_of (kd := 1) (by decide) rfl h ?_
  intro X hX
  have hG : jGd X (jE_Model_beansOf F) jtb_Model_beansOf := jGd_of hX jtk_Model_beansOf jnil jnil jnil jnil hs
  have rr4 : ∀ (fu : Nat) (v1 v2 : Int) (σ : jxS), jRf X (Model_beansOf_c4 F 38 fu v1 v2 σ) 4 [some (jmr 38), some (jmi v1), some (jmi v2)] [] σ := by
    intro  fu
    induction fu with
    | zero => intros; exact jRf_none
    | succ fu ih =>
      intro v1 v2 σ
      exact jRf_by (jex_ok hG (cs := [(4, [some (.inr (some 38)), some (.inl 0), some (.inl 0)], [], fun xs σ => match xs with
      | [v1, v2] => (Model_beansOf_c4 F 38 fu) v1 v2 σ
      | _ => none)]) (jcon (jl2 (fun y0 y1 => jl0 (fun σ => ih y0 y1 σ))) jnil) 22 4 [some (jmr 38), some (jmi v1), some (jmi v2)] [] σ) rfl
  exact jRf_by (jex_ok hG (cs := [(4, [some (.inr (some 38)), some (.inl 0), some (.inl 0)], [], fun xs σ => match xs with
      | [v1, v2] => Model_beansOf_c4 F 38 F v1 v2 σ
      | _ => none)]) (jcon (jl2 (fun y0 y1 => jl0 (fun σ => rr4 F y0 y1 σ))) jnil) 22 0 [some (jmr 38), none, none] [] σ0) rfl
set_option maxRecDepth 100000 in
set_option maxHeartbeats 4000000 in
theorem jmet_Model_beansOf_47 (F : Nat) (sh : List jxC) (hs : jHas sh jc_M) (σ0 : jxS) (x : Int) (σ' : jxS) (h : Model_beansOf F 47 σ0 = some (x, σ')) : jMC yX12_beansOf cX12_beansOf 3 (jrt 1) 0 0 sh σ0 [(jmr 47)] (jrv 1 x) σ' := by
  refine jMC_of (kd := 1) (by decide) rfl h ?_
  intro X hX
  have hG : jGd X (jE_Model_beansOf F) jtb_Model_beansOf := jGd_of hX jtk_Model_beansOf jnil jnil jnil jnil hs
  have rr4 : ∀ (fu : Nat) (v1 v2 : Int) (σ : jxS), jRf X (Model_beansOf_c4 F 47 fu v1 v2 σ) 4 [some (jmr 47), some (jmi v1), some (jmi v2)] [] σ := by
    intro  fu
    induction fu with
    | zero => intros; exact jRf_none
    | succ fu ih =>
      intro v1 v2 σ
      exact jRf_by (jex_ok hG (cs := [(4, [some (.inr (some 47)), some (.inl 0), some (.inl 0)], [], fun xs σ => match xs with
      | [v1, v2] => (Model_beansOf_c4 F 47 fu) v1 v2 σ
      | _ => none)]) (jcon (jl2 (fun y0 y1 => jl0 (fun σ => ih y0 y1 σ))) jnil) 22 4 [some (jmr 47), some (jmi v1), some (jmi v2)] [] σ) rfl
  exact jRf_by (jex_ok hG (cs := [(4, [some (.inr (some 47)), some (.inl 0), some (.inl 0)], [], fun xs σ => match xs with
      | [v1, v2] => Model_beansOf_c4 F 47 F v1 v2 σ
      | _ => none)]) (jcon (jl2 (fun y0 y1 => jl0 (fun σ => rr4 F y0 y1 σ))) jnil) 22 0 [some (jmr 47), none, none] [] σ0) rfl
theorem jmet_Model_beansOf (F : Nat) (a0 : Nat) (ha0 : a0 ∈ jids_Model_beansOf_a0) (sh : List jxC) (hs : jHas sh jc_M) (σ0 : jxS) (x : Int) (σ' : jxS) (h : Model_beansOf F a0 σ0 = some (x, σ')) : jMC yX12_beansOf cX12_beansOf 3 (jrt 1) 0 0 sh σ0 [(jmr a0)] (jrv 1 x) σ' := by
  simp only [jids_Model_beansOf_a0, List.mem_cons, List.not_mem_nil, or_false] at ha0
  rcases ha0 with rfl | rfl | rfl | rfl | rfl | rfl
  · exact jmet_Model_beansOf_29 F sh hs σ0  x σ' h
  · exact jmet_Model_beansOf_33 F sh hs σ0  x σ' h
  · exact jmet_Model_beansOf_35 F sh hs σ0  x σ' h
  · exact jmet_Model_beansOf_37 F sh hs σ0  x σ' h
  · exact jmet_Model_beansOf_38 F sh hs σ0  x σ' h
  · exact jmet_Model_beansOf_47 F sh hs σ0  x σ' h
theorem jad_Model_beansOf (F : Nat) (sh : List jxC) (hs : jHas sh jc_M) : jAdS (jca_Model_beansOf F) yX12_beansOf cX12_beansOf 3 1 0 0 1 sh := by
  intro as σ k x σ' h
  unfold jca_Model_beansOf at h
  split at h
  · rename_i t0
    obtain ⟨g0, hh1⟩ := jcond h
    have g0 := jin_of g0
    obtain ⟨r, h1, h2⟩ := Option.bind_eq_some_iff.mp hh1
    exact ⟨_, _, h2, rfl, jmet_Model_beansOf F t0 g0 sh hs σ  r.1 r.2 h1⟩
  · cases h
def jtb_Model_numberOf : List (Nat × Instr) := [(0, .aload_n 1), (1, .invokestatic 254), (4, .istore_n 2), (5, .aload_n 0), (6, .getfield 51), (9, .iload_n 2), (10, .iaload), (11, .istore_n 3), (12, .iconst 1), (13, .istore 4), (15, .iload 4), (17, .bipush 12), (19, .if_icmp .gt 60), (22, .iconst 0), (23, .istore 5), (25, .iload 5), (27, .aload_n 1), (28, .iload 4), (30, .iaload), (31, .if_icmp .ge 32), (34, .iload_n 3), (35, .aload_n 0), (36, .getfield 48), (39, .bipush 23), (41, .iload 4), (43, .iconst 1), (44, .iadd), (45, .imul), (46, .iload_n 2), (47, .iadd), (48, .iload 5), (50, .iload 4), (52, .imul), (53, .isub), (54, .iaload), (55, .iadd), (56, .istore_n 3), (57, .iinc 5 1), (60, .goto (-35)), (63, .iload_n 2), (64, .iload 4), (66, .aload_n 1), (67, .iload 4), (69, .iaload), (70, .imul), (71, .isub), (72, .istore_n 2), (73, .iinc 4 1), (76, .goto (-61)), (79, .iload_n 3), (80, .ireturn)]
theorem jtk_Model_numberOf : jtok cX12_numberOf jtb_Model_numberOf = true := by decide +kernel
set_option maxRecDepth 100000 in
theorem jfl_X12_48 : jFl RX12 48 12 22 := ⟨RX12, TX12, 57, tyX12, rfl, by decide, jin_X12, tyX12_ok, nmX12, jow_X12, (Or.inl (jTB_at 1363 rfl rfl))⟩
set_option maxRecDepth 100000 in
theorem jfl_X12_51 : jFl RX12 51 12 23 := ⟨RX12, TX12, 57, tyX12, rfl, by decide, jin_X12, tyX12_ok, nmX12, jow_X12, (Or.inl (jTB_at 1364 rfl rfl))⟩
set_option maxRecDepth 100000 in
theorem jlk_X12_254 : jLkS RX12 254 yX12_beansOf cX12_beansOf 3 1 1 := ⟨Or.inl (jTB_at 1632 rfl rfl), (jTB_at 1633 rfl rfl), (jTB_at 115 rfl rfl), jTB_at 1634 rfl rfl, ⟨by decide, by decide, by decide +kernel⟩⟩
def jE_Model_numberOf (F : Nat) : jxE := jmk [(48, 12, 22), (51, 12, 23)] [] [] [(254, (1, true), jca_Model_beansOf F)] 1 jc_M
set_option maxRecDepth 100000 in
set_option maxHeartbeats 4000000 in
theorem jmet_Model_numberOf_29 (F : Nat) (sh : List jxC) (hs : jHas sh jc_M) (σ0 : jxS) (x : Int) (σ' : jxS) (h : Model_numberOf F 29 σ0 = some (x, σ')) : jMC yX12_numberOf cX12_numberOf 6 (jrt 1) 1 22 sh σ0 [(jmr 9), (jmr 29)] (jrv 1 x) σ' := by
  refine jMC_of (kd := 1) (by decide) rfl h ?_
  intro X hX
  have hG : jGd X (jE_Model_numberOf F) jtb_Model_numberOf := jGd_of hX jtk_Model_numberOf (jcon jfl_X12_48 (jcon jfl_X12_51 jnil)) jnil jnil (jcon (jsS jlk_X12_254 ⟨rfl, rfl⟩ (jad_Model_beansOf F sh hs)) jnil) hs
  have rr25 : ∀ (k15 : Int → Int → Int → jxS → Option jxR) (h15 : ∀ v2 v3 v4 σ, jRf X (k15 v2 v3 v4 σ) 15 [some (jmr 9), some (jmr 29), some (jmi v2), some (jmi v3), some (jmi v4), none] [] σ) (fu : Nat) (v2 v3 v4 v5 : Int) (σ : jxS), jRf X (Model_numberOf_c25 F 29 k15 fu v2 v3 v4 v5 σ) 25 [some (jmr 9), some (jmr 29), some (jmi v2), some (jmi v3), some (jmi v4), some (jmi v5)] [] σ := by
    intro k15 h15 fu
    induction fu with
    | zero => intros; exact jRf_none
    | succ fu ih =>
      intro v2 v3 v4 v5 σ
      exact jRf_by (jex_ok hG (cs := [(15, [some (.inr (some 9)), some (.inr (some 29)), some (.inl 0), some (.inl 0), some (.inl 0), none], [], fun xs σ => match xs with
      | [v2, v3, v4] => k15 v2 v3 v4 σ
      | _ => none), (25, [some (.inr (some 9)), some (.inr (some 29)), some (.inl 0), some (.inl 0), some (.inl 0), some (.inl 0)], [], fun xs σ => match xs with
      | [v2, v3, v4, v5] => (Model_numberOf_c25 F 29 k15 fu) v2 v3 v4 v5 σ
      | _ => none)]) (jcon (jl3 (fun y0 y1 y2 => jl0 (fun σ => h15 y0 y1 y2 σ))) (jcon (jl4 (fun y0 y1 y2 y3 => jl0 (fun σ => ih y0 y1 y2 y3 σ))) jnil)) 54 25 [some (jmr 9), some (jmr 29), some (jmi v2), some (jmi v3), some (jmi v4), some (jmi v5)] [] σ) rfl
  have rr15 : ∀ (fu : Nat) (v2 v3 v4 : Int) (σ : jxS), jRf X (Model_numberOf_c15 F 29 fu v2 v3 v4 σ) 15 [some (jmr 9), some (jmr 29), some (jmi v2), some (jmi v3), some (jmi v4), none] [] σ := by
    intro  fu
    induction fu with
    | zero => intros; exact jRf_none
    | succ fu ih =>
      intro v2 v3 v4 σ
      exact jRf_by (jex_ok hG (cs := [(25, [some (.inr (some 9)), some (.inr (some 29)), some (.inl 0), some (.inl 0), some (.inl 0), some (.inl 0)], [], fun xs σ => match xs with
      | [v2, v3, v4, v5] => Model_numberOf_c25 F 29 (Model_numberOf_c15 F 29 fu) F v2 v3 v4 v5 σ
      | _ => none)]) (jcon (jl4 (fun y0 y1 y2 y3 => jl0 (fun σ => rr25 _ ih F y0 y1 y2 y3 σ))) jnil) 54 15 [some (jmr 9), some (jmr 29), some (jmi v2), some (jmi v3), some (jmi v4), none] [] σ) rfl
  exact jRf_by (jex_ok hG (cs := [(15, [some (.inr (some 9)), some (.inr (some 29)), some (.inl 0), some (.inl 0), some (.inl 0), none], [], fun xs σ => match xs with
      | [v2, v3, v4] => Model_numberOf_c15 F 29 F v2 v3 v4 σ
      | _ => none)]) (jcon (jl3 (fun y0 y1 y2 => jl0 (fun σ => rr15 F y0 y1 y2 σ))) jnil) 54 0 [some (jmr 9), some (jmr 29), none, none, none, none] [] σ0) rfl
set_option maxRecDepth 100000 in
set_option maxHeartbeats 4000000 in
theorem jmet_Model_numberOf_33 (F : Nat) (sh : List jxC) (hs : jHas sh jc_M) (σ0 : jxS) (x : Int) (σ' : jxS) (h : Model_numberOf F 33 σ0 = some (x, σ')) : jMC yX12_numberOf cX12_numberOf 6 (jrt 1) 1 22 sh σ0 [(jmr 9), (jmr 33)] (jrv 1 x) σ' := by
  refine jMC_of (kd := 1) (by decide) rfl h ?_
  intro X hX
  have hG : jGd X (jE_Model_numberOf F) jtb_Model_numberOf := jGd_of hX jtk_Model_numberOf (jcon jfl_X12_48 (jcon jfl_X12_51 jnil)) jnil jnil (jcon (jsS jlk_X12_254 ⟨rfl, rfl⟩ (jad_Model_beansOf F sh hs)) jnil) hs
  have rr25 : ∀ (k15 : Int → Int → Int → jxS → Option jxR) (h15 : ∀ v2 v3 v4 σ, jRf X (k15 v2 v3 v4 σ) 15 [some (jmr 9), some (jmr 33), some (jmi v2), some (jmi v3), some (jmi v4), none] [] σ) (fu : Nat) (v2 v3 v4 v5 : Int) (σ : jxS), jRf X (Model_numberOf_c25 F 33 k15 fu v2 v3 v4 v5 σ) 25 [some (jmr 9), some (jmr 33), some (jmi v2), some (jmi v3), some (jmi v4), some (jmi v5)] [] σ := by
    intro k15 h15 fu
    induction fu with
    | zero => intros; exact jRf_none
    | succ fu ih =>
      intro v2 v3 v4 v5 σ
      exact jRf_by (jex_ok hG (cs := [(15, [some (.inr (some 9)), some (.inr (some 33)), some (.inl 0), some (.inl 0), some (.inl 0), none], [], fun xs σ => match xs with
      | [v2, v3, v4] => k15 v2 v3 v4 σ
      | _ => none), (25, [some (.inr (some 9)), some (.inr (some 33)), some (.inl 0), some (.inl 0), some (.inl 0), some (.inl 0)], [], fun xs σ => match xs with
      | [v2, v3, v4, v5] => (Model_numberOf_c25 F 33 k15 fu) v2 v3 v4 v5 σ
      | _ => none)]) (jcon (jl3 (fun y0 y1 y2 => jl0 (fun σ => h15 y0 y1 y2 σ))) (jcon (jl4 (fun y0 y1 y2 y3 => jl0 (fun σ => ih y0 y1 y2 y3 σ))) jnil)) 54 25 [some (jmr 9), some (jmr 33), some (jmi v2), some (jmi v3), some (jmi v4), some (jmi v5)] [] σ) rfl
  have rr15 : ∀ (fu : Nat) (v2 v3 v4 : Int) (σ : jxS), jRf X (Model_numberOf_c15 F 33 fu v2 v3 v4 σ) 15 [some (jmr 9), some (jmr 33), some (jmi v2), some (jmi v3), some (jmi v4), none] [] σ := by
    intro  fu
    induction fu with
    | zero => intros; exact jRf_none
    | succ fu ih =>
      intro v2 v3 v4 σ
      exact jRf_by (jex_ok hG (cs := [(25, [some (.inr (some 9)), some (.inr (some 33)), some (.inl 0), some (.inl 0), some (.inl 0), some (.inl 0)], [], fun xs σ => match xs with
      | [v2, v3, v4, v5] => Model_numberOf_c25 F 33 (Model_numberOf_c15 F 33 fu) F v2 v3 v4 v5 σ
      | _ => none)]) (jcon (jl4 (fun y0 y1 y2 y3 => jl0 (fun σ => rr25 _ ih F y0 y1 y2 y3 σ))) jnil) 54 15 [some (jmr 9), some (jmr 33), some (jmi v2), some (jmi v3), some (jmi v4), none] [] σ) rfl
  exact jRf_by (jex_ok hG (cs := [(15, [some (.inr (some 9)), some (.inr (some 33)), some (.inl 0), some (.inl 0), some (.inl 0), none], [], fun xs σ => match xs with
      | [v2, v3, v4] => Model_numberOf_c15 F 33 F v2 v3 v4 σ
      | _ => none)]) (jcon (jl3 (fun y0 y1 y2 => jl0 (fun σ => rr15 F y0 y1 y2 σ))) jnil) 54 0 [some (jmr 9), some (jmr 33), none, none, none, none] [] σ0) rfl
set_option maxRecDepth 100000 in
set_option maxHeartbeats 4000000 in
theorem jmet_Model_numberOf_35 (F : Nat) (sh : List jxC) (hs : jHas sh jc_M) (σ0 : jxS) (x : Int) (σ' : jxS) (h : Model_numberOf F 35 σ0 = some (x, σ')) : jMC yX12_numberOf cX12_numberOf 6 (jrt 1) 1 22 sh σ0 [(jmr 9), (jmr 35)] (jrv 1 x) σ' := by
  refine jMC_of (kd := 1) (by decide) rfl h ?_
  intro X hX
  have hG : jGd X (jE_Model_numberOf F) jtb_Model_numberOf := jGd_of hX jtk_Model_numberOf (jcon jfl_X12_48 (jcon jfl_X12_51 jnil)) jnil jnil (jcon (jsS jlk_X12_254 ⟨rfl, rfl⟩ (jad_Model_beansOf F sh hs)) jnil) hs
  have rr25 : ∀ (k15 : Int → Int → Int → jxS → Option jxR) (h15 : ∀ v2 v3 v4 σ, jRf X (k15 v2 v3 v4 σ) 15 [some (jmr 9), some (jmr 35), some (jmi v2), some (jmi v3), some (jmi v4), none] [] σ) (fu : Nat) (v2 v3 v4 v5 : Int) (σ : jxS), jRf X (Model_numberOf_c25 F 35 k15 fu v2 v3 v4 v5 σ) 25 [some (jmr 9), some (jmr 35), some (jmi v2), some (jmi v3), some (jmi v4), some (jmi v5)] [] σ := by
    intro k15 h15 fu
    induction fu with
    | zero => intros; exact jRf_none
    | succ fu ih =>
      intro v2 v3 v4 v5 σ
      exact jRf_by (jex_ok hG (cs := [(15, [some (.inr (some 9)), some (.inr (some 35)), some (.inl 0), some (.inl 0), some (.inl 0), none], [], fun xs σ => match xs with
      | [v2, v3, v4] => k15 v2 v3 v4 σ
      | _ => none), (25, [some (.inr (some 9)), some (.inr (some 35)), some (.inl 0), some (.inl 0), some (.inl 0), some (.inl 0)], [], fun xs σ => match xs with
      | [v2, v3, v4, v5] => (Model_numberOf_c25 F 35 k15 fu) v2 v3 v4 v5 σ
      | _ => none)]) (jcon (jl3 (fun y0 y1 y2 => jl0 (fun σ => h15 y0 y1 y2 σ))) (jcon (jl4 (fun y0 y1 y2 y3 => jl0 (fun σ => ih y0 y1 y2 y3 σ))) jnil)) 54 25 [some (jmr 9), some (jmr 35), some (jmi v2), some (jmi v3), some (jmi v4), some (jmi v5)] [] σ) rfl
  have rr15 : ∀ (fu : Nat) (v2 v3 v4 : Int) (σ : jxS), jRf X (Model_numberOf_c15 F 35 fu v2 v3 v4 σ) 15 [some (jmr 9), some (jmr 35), some (jmi v2), some (jmi v3), some (jmi v4), none] [] σ := by
    intro  fu
    induction fu with
    | zero => intros; exact jRf_none
    | succ fu ih =>
      intro v2 v3 v4 σ
      exact jRf_by (jex_ok hG (cs := [(25, [some (.inr (some 9)), some (.inr (some 35)), some (.inl 0), some (.inl 0), some (.inl 0), some (.inl 0)], [], fun xs σ => match xs with
      | [v2, v3, v4, v5] => Model_numberOf_c25 F 35 (Model_numberOf_c15 F 35 fu) F v2 v3 v4 v5 σ
      | _ => none)]) (jcon (jl4 (fun y0 y1 y2 y3 => jl0 (fun σ => rr25 _ ih F y0 y1 y2 y3 σ))) jnil) 54 15 [some (jmr 9), some (jmr 35), some (jmi v2), some (jmi v3), some (jmi v4), none] [] σ) rfl
  exact jRf_by (jex_ok hG (cs := [(15, [some (.inr (some 9)), some (.inr (some 35)), some (.inl 0), some (.inl 0), some (.inl 0), none], [], fun xs σ => match xs with
      | [v2, v3, v4] => Model_numberOf_c15 F 35 F v2 v3 v4 σ
      | _ => none)]) (jcon (jl3 (fun y0 y1 y2 => jl0 (fun σ => rr15 F y0 y1 y2 σ))) jnil) 54 0 [some (jmr 9), some (jmr 35), none, none, none, none] [] σ0) rfl
set_option maxRecDepth 100000 in
set_option maxHeartbeats 4000000 in
theorem jmet_Model_numberOf_37 (F : Nat) (sh : List jxC) (hs : jHas sh jc_M) (σ0 : jxS) (x : Int) (σ' : jxS) (h : Model_numberOf F 37 σ0 = some (x, σ')) : jMC yX12_numberOf cX12_numberOf 6 (jrt 1) 1 22 sh σ0 [(jmr 9), (jmr 37)] (jrv 1 x) σ' := by
  refine jMC_of (kd := 1) (by decide) rfl h ?_
  intro X hX
  have hG : jGd X (jE_Model_numberOf F) jtb_Model_numberOf := jGd_of hX jtk_Model_numberOf (jcon jfl_X12_48 (jcon jfl_X12_51 jnil)) jnil jnil (jcon (jsS jlk_X12_254 ⟨rfl, rfl⟩ (jad_Model_beansOf F sh hs)) jnil) hs
  have rr25 : ∀ (k15 : Int → Int → Int → jxS → Option jxR) (h15 : ∀ v2 v3 v4 σ, jRf X (k15 v2 v3 v4 σ) 15 [some (jmr 9), some (jmr 37), some (jmi v2), some (jmi v3), some (jmi v4), none] [] σ) (fu : Nat) (v2 v3 v4 v5 : Int) (σ : jxS), jRf X (Model_numberOf_c25 F 37 k15 fu v2 v3 v4 v5 σ) 25 [some (jmr 9), some (jmr 37), some (jmi v2), some (jmi v3), some (jmi v4), some (jmi v5)] [] σ := by
    intro k15 h15 fu
    induction fu with
    | zero => intros; exact jRf_none
    | succ fu ih =>
      intro v2 v3 v4 v5 σ
      exact jRf_by (jex_ok hG (cs := [(15, [some (.inr (some 9)), some (.inr (some 37)), some (.inl 0), some (.inl 0), some (.inl 0), none], [], fun xs σ => match xs with
      | [v2, v3, v4] => k15 v2 v3 v4 σ
      | _ => none), (25, [some (.inr (some 9)), some (.inr (some 37)), some (.inl 0), some (.inl 0), some (.inl 0), some (.inl 0)], [], fun xs σ => match xs with
      | [v2, v3, v4, v5] => (Model_numberOf_c25 F 37 k15 fu) v2 v3 v4 v5 σ
      | _ => none)]) (jcon (jl3 (fun y0 y1 y2 => jl0 (fun σ => h15 y0 y1 y2 σ))) (jcon (jl4 (fun y0 y1 y2 y3 => jl0 (fun σ => ih y0 y1 y2 y3 σ))) jnil)) 54 25 [some (jmr 9), some (jmr 37), some (jmi v2), some (jmi v3), some (jmi v4), some (jmi v5)] [] σ) rfl
  have rr15 : ∀ (fu : Nat) (v2 v3 v4 : Int) (σ : jxS), jRf X (Model_numberOf_c15 F 37 fu v2 v3 v4 σ) 15 [some (jmr 9), some (jmr 37), some (jmi v2), some (jmi v3), some (jmi v4), none] [] σ := by
    intro  fu
    induction fu with
    | zero => intros; exact jRf_none
    | succ fu ih =>
      intro v2 v3 v4 σ
      exact jRf_by (jex_ok hG (cs := [(25, [some (.inr (some 9)), some (.inr (some 37)), some (.inl 0), some (.inl 0), some (.inl 0), some (.inl 0)], [], fun xs σ => match xs with
      | [v2, v3, v4, v5] => Model_numberOf_c25 F 37 (Model_numberOf_c15 F 37 fu) F v2 v3 v4 v5 σ
      | _ => none)]) (jcon (jl4 (fun y0 y1 y2 y3 => jl0 (fun σ => rr25 _ ih F y0 y1 y2 y3 σ))) jnil) 54 15 [some (jmr 9), some (jmr 37), some (jmi v2), some (jmi v3), some (jmi v4), none] [] σ) rfl
  exact jRf_by (jex_ok hG (cs := [(15, [some (.inr (some 9)), some (.inr (some 37)), some (.inl 0), some (.inl 0), some (.inl 0), none], [], fun xs σ => match xs with
      | [v2, v3, v4] => Model_numberOf_c15 F 37 F v2 v3 v4 σ
      | _ => none)]) (jcon (jl3 (fun y0 y1 y2 => jl0 (fun σ => rr15 F y0 y1 y2 σ))) jnil) 54 0 [some (jmr 9), some (jmr 37), none, none, none, none] [] σ0) rfl
set_option maxRecDepth 100000 in
set_option maxHeartbeats 4000000 in
theorem jmet_Model_numberOf_38 (F : Nat) (sh : List jxC) (hs : jHas sh jc_M) (σ0 : jxS) (x : Int) (σ' : jxS) (h : Model_numberOf F 38 σ0 = some (x, σ')) : jMC yX12_numberOf cX12_numberOf 6 (jrt 1) 1 22 sh σ0 [(jmr 9), (jmr 38)] (jrv 1 x) σ' := by
  refine jMC_of (kd := 1) (by decide) rfl h ?_
  intro X hX
  have hG : jGd X (jE_Model_numberOf F) jtb_Model_numberOf := jGd_of hX jtk_Model_numberOf (jcon jfl_X12_48 (jcon jfl_X12_51 jnil)) jnil jnil (jcon (jsS jlk_X12_254 ⟨rfl, rfl⟩ (jad_Model_beansOf F sh hs)) jnil) hs
  have rr25 : ∀ (k15 : Int → Int → Int → jxS → Option jxR) (h15 : ∀ v2 v3 v4 σ, jRf X (k15 v2 v3 v4 σ) 15 [some (jmr 9), some (jmr 38), some (jmi v2), some (jmi v3), some (jmi v4), none] [] σ) (fu : Nat) (v2 v3 v4 v5 : Int) (σ : jxS), jRf X (Model_numberOf_c25 F 38 k15 fu v2 v3 v4 v5 σ) 25 [some (jmr 9), some (jmr 38), some (jmi v2), some (jmi v3), some (jmi v4), some (jmi v5)] [] σ := by
    intro k15 h15 fu
    induction fu with
    | zero => intros; exact jRf_none
    | succ fu ih =>
      intro v2 v3 v4 v5 σ
      exact jRf_by (jex_ok hG (cs := [(15, [some (.inr (some 9)), some (.inr (some 38)), some (.inl 0), some (.inl 0), some (.inl 0), none], [], fun xs σ => match xs with
      | [v2, v3, v4] => k15 v2 v3 v4 σ
      | _ => none), (25, [some (.inr (some 9)), some (.inr (some 38)), some (.inl 0), some (.inl 0), some (.inl 0), some (.inl 0)], [], fun xs σ => match xs with
      | [v2, v3, v4, v5] => (Model_numberOf_c25 F 38 k15 fu) v2 v3 v4 v5 σ
      | _ => none)]) (jcon (jl3 (fun y0 y1 y2 => jl0 (fun σ => h15 y0 y1 y2 σ))) (jcon (jl4 (fun y0 y1 y2 y3 => jl0 (fun σ => ih y0 y1 y2 y3 σ))) jnil)) 54 25 [some (jmr 9), some (jmr 38), some (jmi v2), some (jmi v3), some (jmi v4), some (jmi v5)] [] σ) rfl
  have rr15 : ∀ (fu : Nat) (v2 v3 v4 : Int) (σ : jxS), jRf X (Model_numberOf_c15 F 38 fu v2 v3 v4 σ) 15 [some (jmr 9), some (jmr 38), some (jmi v2), some (jmi v3), some (jmi v4), none] [] σ := by
    intro  fu
    induction fu with
    | zero => intros; exact jRf_none
    | succ fu ih =>
      intro v2 v3 v4 σ
      exact jRf_by (jex_ok hG (cs := [(25, [some (.inr (some 9)), some (.inr (some 38)), some (.inl 0), some (.inl 0), some (.inl 0), some (.inl 0)], [], fun xs σ => match xs with
      | [v2, v3, v4, v5] => Model_numberOf_c25 F 38 (Model_numberOf_c15 F 38 fu) F v2 v3 v4 v5 σ
      | _ => none)]) (jcon (jl4 (fun y0 y1 y2 y3 => jl0 (fun σ => rr25 _ ih F y0 y1 y2 y3 σ))) jnil) 54 15 [some (jmr 9), some (jmr 38), some (jmi v2), some (jmi v3), some (jmi v4), none] [] σ) rfl
  exact jRf_by (jex_ok hG (cs := [(15, [some (.inr (some 9)), some (.inr (some 38)), some (.inl 0), some (.inl 0), some (.inl 0), none], [], fun xs σ => match xs with
      | [v2, v3, v4] => Model_numberOf_c15 F 38 F v2 v3 v4 σ
      | _ => none)]) (jcon (jl3 (fun y0 y1 y2 => jl0 (fun σ => rr15 F y0 y1 y2 σ))) jnil) 54 0 [some (jmr 9), some (jmr 38), none, none, none, none] [] σ0) rfl
set_option maxRecDepth 100000 in
set_option maxHeartbeats 4000000 in
theorem jmet_Model_numberOf_47 (F : Nat) (sh : List jxC) (hs : jHas sh jc_M) (σ0 : jxS) (x : Int) (σ' : jxS) (h : Model_numberOf F 47 σ0 = some (x, σ')) : jMC yX12_numberOf cX12_numberOf 6 (jrt 1) 1 22 sh σ0 [(jmr 9), (jmr 47)] (jrv 1 x) σ' := by
  refine jMC_of (kd := 1) (by decide) rfl h ?_
  intro X hX
  have hG : jGd X (jE_Model_numberOf F) jtb_Model_numberOf := jGd_of hX jtk_Model_numberOf (jcon jfl_X12_48 (jcon jfl_X12_51 jnil)) jnil jnil (jcon (jsS jlk_X12_254 ⟨rfl, rfl⟩ (jad_Model_beansOf F sh hs)) jnil) hs
  have rr25 : ∀ (k15 : Int → Int → Int → jxS → Option jxR) (h15 : ∀ v2 v3 v4 σ, jRf X (k15 v2 v3 v4 σ) 15 [some (jmr 9), some (jmr 47), some (jmi v2), some (jmi v3), some (jmi v4), none] [] σ) (fu : Nat) (v2 v3 v4 v5 : Int) (σ : jxS), jRf X (Model_numberOf_c25 F 47 k15 fu v2 v3 v4 v5 σ) 25 [some (jmr 9), some (jmr 47), some (jmi v2), some (jmi v3), some (jmi v4), some (jmi v5)] [] σ := by
    intro k15 h15 fu
    induction fu with
    | zero => intros; exact jRf_none
    | succ fu ih =>
      intro v2 v3 v4 v5 σ
      exact jRf_by (jex_ok hG (cs := [(15, [some (.inr (some 9)), some (.inr (some 47)), some (.inl 0), some (.inl 0), some (.inl 0), none], [], fun xs σ => match xs with
      | [v2, v3, v4] => k15 v2 v3 v4 σ
      | _ => none), (25, [some (.inr (some 9)), some (.inr (some 47)), some (.inl 0), some (.inl 0), some (.inl 0), some (.inl 0)], [], fun xs σ => match xs with
      | [v2, v3, v4, v5] => (Model_numberOf_c25 F 47 k15 fu) v2 v3 v4 v5 σ
      | _ => none)]) (jcon (jl3 (fun y0 y1 y2 => jl0 (fun σ => h15 y0 y1 y2 σ))) (jcon (jl4 (fun y0 y1 y2 y3 => jl0 (fun σ => ih y0 y1 y2 y3 σ))) jnil)) 54 25 [some (jmr 9), some (jmr 47), some (jmi v2), some (jmi v3), some (jmi v4), some (jmi v5)] [] σ) rfl
  have rr15 : ∀ (fu : Nat) (v2 v3 v4 : Int) (σ : jxS), jRf X (Model_numberOf_c15 F 47 fu v2 v3 v4 σ) 15 [some (jmr 9), some (jmr 47), some (jmi v2), some (jmi v3), some (jmi v4), none] [] σ := by
    intro  fu
    induction fu with
    | zero => intros; exact jRf_none
    | succ fu ih =>
      intro v2 v3 v4 σ
      exact jRf_by (jex_ok hG (cs := [(25, [some (.inr (some 9)), some (.inr (some 47)), some (.inl 0), some (.inl 0), some (.inl 0), some (.inl 0)], [], fun xs σ => match xs with
      | [v2, v3, v4, v5] => Model_numberOf_c25 F 47 (Model_numberOf_c15 F 47 fu) F v2 v3 v4 v5 σ
      | _ => none)]) (jcon (jl4 (fun y0 y1 y2 y3 => jl0 (fun σ => rr25 _ ih F y0 y1 y2 y3 σ))) jnil) 54 15 [some (jmr 9), some (jmr 47), some (jmi v2), some (jmi v3), some (jmi v4), none] [] σ) rfl
  exact jRf_by (jex_ok hG (cs := [(15, [some (.inr (some 9)), some (.inr (some 47)), some (.inl 0), some (.inl 0), some (.inl 0), none], [], fun xs σ => match xs with
      | [v2, v3, v4] => Model_numberOf_c15 F 47 F v2 v3 v4 σ
      | _ => none)]) (jcon (jl3 (fun y0 y1 y2 => jl0 (fun σ => rr15 F y0 y1 y2 σ))) jnil) 54 0 [some (jmr 9), some (jmr 47), none, none, none, none] [] σ0) rfl
theorem jmet_Model_numberOf (F : Nat) (a1 : Nat) (ha1 : a1 ∈ jids_Model_numberOf_a1) (sh : List jxC) (hs : jHas sh jc_M) (σ0 : jxS) (x : Int) (σ' : jxS) (h : Model_numberOf F a1 σ0 = some (x, σ')) : jMC yX12_numberOf cX12_numberOf 6 (jrt 1) 1 22 sh σ0 [(jmr 9), (jmr a1)] (jrv 1 x) σ' := by
  simp only [jids_Model_numberOf_a1, List.mem_cons, List.not_mem_nil, or_false] at ha1
  rcases ha1 with rfl | rfl | rfl | rfl | rfl | rfl
  · exact jmet_Model_numberOf_29 F sh hs σ0  x σ' h
  · exact jmet_Model_numberOf_33 F sh hs σ0  x σ' h
  · exact jmet_Model_numberOf_35 F sh hs σ0  x σ' h
  · exact jmet_Model_numberOf_37 F sh hs σ0  x σ' h
  · exact jmet_Model_numberOf_38 F sh hs σ0  x σ' h
  · exact jmet_Model_numberOf_47 F sh hs σ0  x σ' h
theorem jad_Model_numberOf (F : Nat) (sh : List jxC) (hs : jHas sh jc_M) : jAdV (jca_Model_numberOf F) yX12_numberOf cX12_numberOf 6 1 1 22 1 sh := by
  intro as σ k x σ' h
  unfold jca_Model_numberOf at h
  split at h
  · rename_i t0 t1
    obtain ⟨g0, hh1⟩ := jcond h
    obtain rfl := jbeq g0
    obtain ⟨g1, hh2⟩ := jcond hh1
    have g1 := jin_of g1
    obtain ⟨r, h1, h2⟩ := Option.bind_eq_some_iff.mp hh2
    exact ⟨_, _, h2, ⟨_, _, _, _, _, _, rfl, rfl, (hs _ (jkf_in (l := jc_M) (idx := 9) rfl)).1, rfl⟩, jmet_Model_numberOf F t1 g1 sh hs σ  r.1 r.2 h1⟩
  · cases h
def jtb_Model_puts : List (Nat × Instr) := [(0, .iload_n 1), (1, .ifCond .le 10), (4, .aload_n 0), (5, .iload_n 1), (6, .dup2), (7, .iaload), (8, .iload_n 2), (9, .iadd), (10, .iastore), (11, .return_)]
theorem jtk_Model_puts : jtok cX12_puts jtb_Model_puts = true := by decide +kernel
def jE_Model_puts (F : Nat) : jxE := jmk [] [] [] [] 0 jc_M
set_option maxRecDepth 100000 in
set_option maxHeartbeats 4000000 in
theorem jmet_Model_puts_29 (F : Nat) (sh : List jxC) (hs : jHas sh jc_M) (σ0 : jxS) (v1 : Int) (v2 : Int) (x : Int) (σ' : jxS) (h : Model_puts F 29 σ0 v1 v2 = some (x, σ')) : jMC yX12_puts cX12_puts 3 (jrt 0) 0 0 sh σ0 [(jmr 29), (jmi v1), (jmi v2)] (jrv 0 x) σ' := by
  refine jMC_of (kd := 0) (by decide) rfl h ?_
  intro X hX
  have hG : jGd X (jE_Model_puts F) jtb_Model_puts := jGd_of hX jtk_Model_puts jnil jnil jnil jnil hs
  exact jRf_by (jex_ok hG (cs := []) jnil 13 0 [some (jmr 29), some (jmi v1), some (jmi v2)] [] σ0) rfl
set_option maxRecDepth 100000 in
set_option maxHeartbeats 4000000 in
theorem jmet_Model_puts_33 (F : Nat) (sh : List jxC) (hs : jHas sh jc_M) (σ0 : jxS) (v1 : Int) (v2 : Int) (x : Int) (σ' : jxS) (h : Model_puts F 33 σ0 v1 v2 = some (x, σ')) : jMC yX12_puts cX12_puts 3 (jrt 0) 0 0 sh σ0 [(jmr 33), (jmi v1), (jmi v2)] (jrv 0 x) σ' := by
  refine jMC_of (kd := 0) (by decide) rfl h ?_
  intro X hX
  have hG : jGd X (jE_Model_puts F) jtb_Model_puts := jGd_of hX jtk_Model_puts jnil jnil jnil jnil hs
  exact jRf_by (jex_ok hG (cs := []) jnil 13 0 [some (jmr 33), some (jmi v1), some (jmi v2)] [] σ0) rfl
set_option maxRecDepth 100000 in
set_option maxHeartbeats 4000000 in
theorem jmet_Model_puts_35 (F : Nat) (sh : List jxC) (hs : jHas sh jc_M) (σ0 : jxS) (v1 : Int) (v2 : Int) (x : Int) (σ' : jxS) (h : Model_puts F 35 σ0 v1 v2 = some (x, σ')) : jMC yX12_puts cX12_puts 3 (jrt 0) 0 0 sh σ0 [(jmr 35), (jmi v1), (jmi v2)] (jrv 0 x) σ' := by
  refine jMC_of (kd := 0) (by decide) rfl h ?_
  intro X hX
  have hG : jGd X (jE_Model_puts F) jtb_Model_puts := jGd_of hX jtk_Model_puts jnil jnil jnil jnil hs
  exact jRf_by (jex_ok hG (cs := []) jnil 13 0 [some (jmr 35), some (jmi v1), some (jmi v2)] [] σ0) rfl
set_option maxRecDepth 100000 in
set_option maxHeartbeats 4000000 in
theorem jmet_Model_puts_37 (F : Nat) (sh : List jxC) (hs : jHas sh jc_M) (σ0 : jxS) (v1 : Int) (v2 : Int) (x : Int) (σ' : jxS) (h : Model_puts F 37 σ0 v1 v2 = some (x, σ')) : jMC yX12_puts cX12_puts 3 (jrt 0) 0 0 sh σ0 [(jmr 37), (jmi v1), (jmi v2)] (jrv 0 x) σ' := by
  refine jMC_of (kd := 0) (by decide) rfl h ?_
  intro X hX
  have hG : jGd X (jE_Model_puts F) jtb_Model_puts := jGd_of hX jtk_Model_puts jnil jnil jnil jnil hs
  exact jRf_by (jex_ok hG (cs := []) jnil 13 0 [some (jmr 37), some (jmi v1), some (jmi v2)] [] σ0) rfl
set_option maxRecDepth 100000 in
set_option maxHeartbeats 4000000 in
theorem jmet_Model_puts_38 (F : Nat) (sh : List jxC) (hs : jHas sh jc_M) (σ0 : jxS) (v1 : Int) (v2 : Int) (x : Int) (σ' : jxS) (h : Model_puts F 38 σ0 v1 v2 = some (x, σ')) : jMC yX12_puts cX12_puts 3 (jrt 0) 0 0 sh σ0 [(jmr 38), (jmi v1), (jmi v2)] (jrv 0 x) σ' := by
  refine jMC_of (kd := 0) (by decide) rfl h ?_
  intro X hX
  have hG : jGd X (jE_Model_puts F) jtb_Model_puts := jGd_of hX jtk_Model_puts jnil jnil jnil jnil hs
  exact jRf_by (jex_ok hG (cs := []) jnil 13 0 [some (jmr 38), some (jmi v1), some (jmi v2)] [] σ0) rfl
set_option maxRecDepth 100000 in
set_option maxHeartbeats 4000000 in
theorem jmet_Model_puts_47 (F : Nat) (sh : List jxC) (hs : jHas sh jc_M) (σ0 : jxS) (v1 : Int) (v2 : Int) (x : Int) (σ' : jxS) (h : Model_puts F 47 σ0 v1 v2 = some (x, σ')) : jMC yX12_puts cX12_puts 3 (jrt 0) 0 0 sh σ0 [(jmr 47), (jmi v1), (jmi v2)] (jrv 0 x) σ' := by
  refine jMC_of (kd := 0) (by decide) rfl h ?_
  intro X hX
  have hG : jGd X (jE_Model_puts F) jtb_Model_puts := jGd_of hX jtk_Model_puts jnil jnil jnil jnil hs
  exact jRf_by (jex_ok hG (cs := []) jnil 13 0 [some (jmr 47), some (jmi v1), some (jmi v2)] [] σ0) rfl
theorem jmet_Model_puts (F : Nat) (a0 : Nat) (ha0 : a0 ∈ jids_Model_puts_a0) (sh : List jxC) (hs : jHas sh jc_M) (σ0 : jxS) (v1 : Int) (v2 : Int) (x : Int) (σ' : jxS) (h : Model_puts F a0 σ0 v1 v2 = some (x, σ')) : jMC yX12_puts cX12_puts 3 (jrt 0) 0 0 sh σ0 [(jmr a0), (jmi v1), (jmi v2)] (jrv 0 x) σ' := by
  simp only [jids_Model_puts_a0, List.mem_cons, List.not_mem_nil, or_false] at ha0
  rcases ha0 with rfl | rfl | rfl | rfl | rfl | rfl
  · exact jmet_Model_puts_29 F sh hs σ0 v1 v2 x σ' h
  · exact jmet_Model_puts_33 F sh hs σ0 v1 v2 x σ' h
  · exact jmet_Model_puts_35 F sh hs σ0 v1 v2 x σ' h
  · exact jmet_Model_puts_37 F sh hs σ0 v1 v2 x σ' h
  · exact jmet_Model_puts_38 F sh hs σ0 v1 v2 x σ' h
  · exact jmet_Model_puts_47 F sh hs σ0 v1 v2 x σ' h
theorem jad_Model_puts (F : Nat) (sh : List jxC) (hs : jHas sh jc_M) : jAdS (jca_Model_puts F) yX12_puts cX12_puts 3 0 0 0 3 sh := by
  intro as σ k x σ' h
  unfold jca_Model_puts at h
  split at h
  · rename_i t0 v1 v2
    obtain ⟨g0, hh1⟩ := jcond h
    have g0 := jin_of g0
    obtain ⟨r, h1, h2⟩ := Option.bind_eq_some_iff.mp hh1
    exact ⟨_, _, h2, rfl, jmet_Model_puts F t0 g0 sh hs σ v1 v2 r.1 r.2 h1⟩
  · cases h
def jtb_Model_changes : List (Nat × Instr) := [(0, .aload_n 0), (1, .iload_n 1), (2, .dup2), (3, .iaload), (4, .iload_n 3), (5, .isub), (6, .iastore), (7, .aload_n 0), (8, .iload_n 2), (9, .bipush 13), (11, .idiv), (12, .iload_n 3), (13, .invokestatic 258), (16, .aload_n 0), (17, .iload_n 2), (18, .bipush 13), (20, .irem), (21, .iload_n 3), (22, .invokestatic 258), (25, .return_)]
theorem jtk_Model_changes : jtok cX12_changes jtb_Model_changes = true := by decide +kernel
set_option maxRecDepth 100000 in
theorem jlk_X12_258 : jLkS RX12 258 yX12_puts cX12_puts 3 0 3 := ⟨Or.inl (jTB_at 1625 rfl rfl), (jTB_at 1626 rfl rfl), (jTB_at 115 rfl rfl), jTB_at 1627 rfl rfl, ⟨by decide, by decide, by decide +kernel⟩⟩
def jE_Model_changes (F : Nat) : jxE := jmk [] [] [] [(258, (3, true), jca_Model_puts F)] 0 jc_M
set_option maxRecDepth 100000 in
set_option maxHeartbeats 4000000 in
theorem jmet_Model_changes_29 (F : Nat) (sh : List jxC) (hs : jHas sh jc_M) (σ0 : jxS) (v1 : Int) (v2 : Int) (v3 : Int) (x : Int) (σ' : jxS) (h : Model_changes F 29 σ0 v1 v2 v3 = some (x, σ')) : jMC yX12_changes cX12_changes 4 (jrt 0) 1 22 sh σ0 [(jmr 29), (jmi v1), (jmi v2), (jmi v3)] (jrv 0 x) σ' := by
  refine jMC_of (kd := 0) (by decide) rfl h ?_
  intro X hX
  have hG : jGd X (jE_Model_changes F) jtb_Model_changes := jGd_of hX jtk_Model_changes jnil jnil jnil (jcon (jsS jlk_X12_258 ⟨rfl, rfl⟩ (jad_Model_puts F sh hs)) jnil) hs
  exact jRf_by (jex_ok hG (cs := []) jnil 23 0 [some (jmr 29), some (jmi v1), some (jmi v2), some (jmi v3)] [] σ0) rfl
set_option maxRecDepth 100000 in
set_option maxHeartbeats 4000000 in
theorem jmet_Model_changes_33 (F : Nat) (sh : List jxC) (hs : jHas sh jc_M) (σ0 : jxS) (v1 : Int) (v2 : Int) (v3 : Int) (x : Int) (σ' : jxS) (h : Model_changes F 33 σ0 v1 v2 v3 = some (x, σ')) : jMC yX12_changes cX12_changes 4 (jrt 0) 1 22 sh σ0 [(jmr 33), (jmi v1), (jmi v2), (jmi v3)] (jrv 0 x) σ' := by
  refine jMC_of (kd := 0) (by decide) rfl h ?_
  intro X hX
  have hG : jGd X (jE_Model_changes F) jtb_Model_changes := jGd_of hX jtk_Model_changes jnil jnil jnil (jcon (jsS jlk_X12_258 ⟨rfl, rfl⟩ (jad_Model_puts F sh hs)) jnil) hs
  exact jRf_by (jex_ok hG (cs := []) jnil 23 0 [some (jmr 33), some (jmi v1), some (jmi v2), some (jmi v3)] [] σ0) rfl
set_option maxRecDepth 100000 in
set_option maxHeartbeats 4000000 in
theorem jmet_Model_changes_35 (F : Nat) (sh : List jxC) (hs : jHas sh jc_M) (σ0 : jxS) (v1 : Int) (v2 : Int) (v3 : Int) (x : Int) (σ' : jxS) (h : Model_changes F 35 σ0 v1 v2 v3 = some (x, σ')) : jMC yX12_changes cX12_changes 4 (jrt 0) 1 22 sh σ0 [(jmr 35), (jmi v1), (jmi v2), (jmi v3)] (jrv 0 x) σ' := by
  refine jMC_of (kd := 0) (by decide) rfl h ?_
  intro X hX
  have hG : jGd X (jE_Model_changes F) jtb_Model_changes := jGd_of hX jtk_Model_changes jnil jnil jnil (jcon (jsS jlk_X12_258 ⟨rfl, rfl⟩ (jad_Model_puts F sh hs)) jnil) hs
  exact jRf_by (jex_ok hG (cs := []) jnil 23 0 [some (jmr 35), some (jmi v1), some (jmi v2), some (jmi v3)] [] σ0) rfl
set_option maxRecDepth 100000 in
set_option maxHeartbeats 4000000 in
theorem jmet_Model_changes_37 (F : Nat) (sh : List jxC) (hs : jHas sh jc_M) (σ0 : jxS) (v1 : Int) (v2 : Int) (v3 : Int) (x : Int) (σ' : jxS) (h : Model_changes F 37 σ0 v1 v2 v3 = some (x, σ')) : jMC yX12_changes cX12_changes 4 (jrt 0) 1 22 sh σ0 [(jmr 37), (jmi v1), (jmi v2), (jmi v3)] (jrv 0 x) σ' := by
  refine jMC_of (kd := 0) (by decide) rfl h ?_
  intro X hX
  have hG : jGd X (jE_Model_changes F) jtb_Model_changes := jGd_of hX jtk_Model_changes jnil jnil jnil (jcon (jsS jlk_X12_258 ⟨rfl, rfl⟩ (jad_Model_puts F sh hs)) jnil) hs
  exact jRf_by (jex_ok hG (cs := []) jnil 23 0 [some (jmr 37), some (jmi v1), some (jmi v2), some (jmi v3)] [] σ0) rfl
set_option maxRecDepth 100000 in
set_option maxHeartbeats 4000000 in
theorem jmet_Model_changes_38 (F : Nat) (sh : List jxC) (hs : jHas sh jc_M) (σ0 : jxS) (v1 : Int) (v2 : Int) (v3 : Int) (x : Int) (σ' : jxS) (h : Model_changes F 38 σ0 v1 v2 v3 = some (x, σ')) : jMC yX12_changes cX12_changes 4 (jrt 0) 1 22 sh σ0 [(jmr 38), (jmi v1), (jmi v2), (jmi v3)] (jrv 0 x) σ' := by
  refine jMC_of (kd := 0) (by decide) rfl h ?_
  intro X hX
  have hG : jGd X (jE_Model_changes F) jtb_Model_changes := jGd_of hX jtk_Model_changes jnil jnil jnil (jcon (jsS jlk_X12_258 ⟨rfl, rfl⟩ (jad_Model_puts F sh hs)) jnil) hs
  exact jRf_by (jex_ok hG (cs := []) jnil 23 0 [some (jmr 38), some (jmi v1), some (jmi v2), some (jmi v3)] [] σ0) rfl
set_option maxRecDepth 100000 in
set_option maxHeartbeats 4000000 in
theorem jmet_Model_changes_47 (F : Nat) (sh : List jxC) (hs : jHas sh jc_M) (σ0 : jxS) (v1 : Int) (v2 : Int) (v3 : Int) (x : Int) (σ' : jxS) (h : Model_changes F 47 σ0 v1 v2 v3 = some (x, σ')) : jMC yX12_changes cX12_changes 4 (jrt 0) 1 22 sh σ0 [(jmr 47), (jmi v1), (jmi v2), (jmi v3)] (jrv 0 x) σ' := by
  refine jMC_of (kd := 0) (by decide) rfl h ?_
  intro X hX
  have hG : jGd X (jE_Model_changes F) jtb_Model_changes := jGd_of hX jtk_Model_changes jnil jnil jnil (jcon (jsS jlk_X12_258 ⟨rfl, rfl⟩ (jad_Model_puts F sh hs)) jnil) hs
  exact jRf_by (jex_ok hG (cs := []) jnil 23 0 [some (jmr 47), some (jmi v1), some (jmi v2), some (jmi v3)] [] σ0) rfl
theorem jmet_Model_changes (F : Nat) (a0 : Nat) (ha0 : a0 ∈ jids_Model_changes_a0) (sh : List jxC) (hs : jHas sh jc_M) (σ0 : jxS) (v1 : Int) (v2 : Int) (v3 : Int) (x : Int) (σ' : jxS) (h : Model_changes F a0 σ0 v1 v2 v3 = some (x, σ')) : jMC yX12_changes cX12_changes 4 (jrt 0) 1 22 sh σ0 [(jmr a0), (jmi v1), (jmi v2), (jmi v3)] (jrv 0 x) σ' := by
  simp only [jids_Model_changes_a0, List.mem_cons, List.not_mem_nil, or_false] at ha0
  rcases ha0 with rfl | rfl | rfl | rfl | rfl | rfl
  · exact jmet_Model_changes_29 F sh hs σ0 v1 v2 v3 x σ' h
  · exact jmet_Model_changes_33 F sh hs σ0 v1 v2 v3 x σ' h
  · exact jmet_Model_changes_35 F sh hs σ0 v1 v2 v3 x σ' h
  · exact jmet_Model_changes_37 F sh hs σ0 v1 v2 v3 x σ' h
  · exact jmet_Model_changes_38 F sh hs σ0 v1 v2 v3 x σ' h
  · exact jmet_Model_changes_47 F sh hs σ0 v1 v2 v3 x σ' h
theorem jad_Model_changes (F : Nat) (sh : List jxC) (hs : jHas sh jc_M) : jAdS (jca_Model_changes F) yX12_changes cX12_changes 4 0 1 22 4 sh := by
  intro as σ k x σ' h
  unfold jca_Model_changes at h
  split at h
  · rename_i t0 v1 v2 v3
    obtain ⟨g0, hh1⟩ := jcond h
    have g0 := jin_of g0
    obtain ⟨r, h1, h2⟩ := Option.bind_eq_some_iff.mp hh1
    exact ⟨_, _, h2, rfl, jmet_Model_changes F t0 g0 sh hs σ v1 v2 v3 r.1 r.2 h1⟩
  · cases h
def jtb_Model_behind : List (Nat × Instr) := [(0, .aload_n 1), (1, .iload_n 2), (2, .iload_n 3), (3, .iconst 1), (4, .invokestatic 262), (7, .aload_n 0), (8, .aload_n 1), (9, .invokevirtual 266), (12, .istore 4), (14, .aload_n 1), (15, .iload_n 2), (16, .iload_n 3), (17, .iconst (-1)), (18, .invokestatic 262), (21, .iload 4), (23, .ireturn)]
theorem jtk_Model_behind : jtok cX12_behind jtb_Model_behind = true := by decide +kernel
set_option maxRecDepth 100000 in
theorem jlk_X12_262 : jLkS RX12 262 yX12_changes cX12_changes 4 0 4 := ⟨Or.inl (jTB_at 1622 rfl rfl), (jTB_at 1623 rfl rfl), (jTB_at 115 rfl rfl), jTB_at 1624 rfl rfl, ⟨by decide, by decide, by decide +kernel⟩⟩
set_option maxRecDepth 100000 in
theorem jlk_X12_266 : jLkV RX12 266 yX12_numberOf cX12_numberOf 6 1 1 := ⟨(jTB_at 1628 rfl rfl), (jTB_at 1630 rfl rfl), (jTB_at 70 rfl rfl), (jTB_at 115 rfl rfl), jTB_at 1631 rfl rfl, ⟨by decide, by decide, by decide +kernel⟩⟩
def jE_Model_behind (F : Nat) : jxE := jmk [] [] [] [(262, (4, true), jca_Model_changes F), (266, (2, false), jca_Model_numberOf F)] 1 jc_M
set_option maxRecDepth 100000 in
set_option maxHeartbeats 4000000 in
theorem jmet_Model_behind_29 (F : Nat) (sh : List jxC) (hs : jHas sh jc_M) (σ0 : jxS) (v2 : Int) (v3 : Int) (x : Int) (σ' : jxS) (h : Model_behind F 29 σ0 v2 v3 = some (x, σ')) : jMC yX12_behind cX12_behind 5 (jrt 1) 2 47 sh σ0 [(jmr 9), (jmr 29), (jmi v2), (jmi v3)] (jrv 1 x) σ' := by
  refine jMC_of (kd := 1) (by decide) rfl h ?_
  intro X hX
  have hG : jGd X (jE_Model_behind F) jtb_Model_behind := jGd_of hX jtk_Model_behind jnil jnil jnil (jcon (jsS jlk_X12_262 ⟨rfl, rfl⟩ (jad_Model_changes F sh hs)) (jcon (jsV jlk_X12_266 ⟨rfl, rfl⟩ (jad_Model_numberOf F sh hs)) jnil)) hs
  exact jRf_by (jex_ok hG (cs := []) jnil 19 0 [some (jmr 9), some (jmr 29), some (jmi v2), some (jmi v3), none] [] σ0) rfl
set_option maxRecDepth 100000 in
set_option maxHeartbeats 4000000 in
theorem jmet_Model_behind_33 (F : Nat) (sh : List jxC) (hs : jHas sh jc_M) (σ0 : jxS) (v2 : Int) (v3 : Int) (x : Int) (σ' : jxS) (h : Model_behind F 33 σ0 v2 v3 = some (x, σ')) : jMC yX12_behind cX12_behind 5 (jrt 1) 2 47 sh σ0 [(jmr 9), (jmr 33), (jmi v2), (jmi v3)] (jrv 1 x) σ' := by
  refine jMC_of (kd := 1) (by decide) rfl h ?_
  intro X hX
  have hG : jGd X (jE_Model_behind F) jtb_Model_behind := jGd_of hX jtk_Model_behind jnil jnil jnil (jcon (jsS jlk_X12_262 ⟨rfl, rfl⟩ (jad_Model_changes F sh hs)) (jcon (jsV jlk_X12_266 ⟨rfl, rfl⟩ (jad_Model_numberOf F sh hs)) jnil)) hs
  exact jRf_by (jex_ok hG (cs := []) jnil 19 0 [some (jmr 9), some (jmr 33), some (jmi v2), some (jmi v3), none] [] σ0) rfl
set_option maxRecDepth 100000 in
set_option maxHeartbeats 4000000 in
theorem jmet_Model_behind_35 (F : Nat) (sh : List jxC) (hs : jHas sh jc_M) (σ0 : jxS) (v2 : Int) (v3 : Int) (x : Int) (σ' : jxS) (h : Model_behind F 35 σ0 v2 v3 = some (x, σ')) : jMC yX12_behind cX12_behind 5 (jrt 1) 2 47 sh σ0 [(jmr 9), (jmr 35), (jmi v2), (jmi v3)] (jrv 1 x) σ' := by
  refine jMC_of (kd := 1) (by decide) rfl h ?_
  intro X hX
  have hG : jGd X (jE_Model_behind F) jtb_Model_behind := jGd_of hX jtk_Model_behind jnil jnil jnil (jcon (jsS jlk_X12_262 ⟨rfl, rfl⟩ (jad_Model_changes F sh hs)) (jcon (jsV jlk_X12_266 ⟨rfl, rfl⟩ (jad_Model_numberOf F sh hs)) jnil)) hs
  exact jRf_by (jex_ok hG (cs := []) jnil 19 0 [some (jmr 9), some (jmr 35), some (jmi v2), some (jmi v3), none] [] σ0) rfl
set_option maxRecDepth 100000 in
set_option maxHeartbeats 4000000 in
theorem jmet_Model_behind_37 (F : Nat) (sh : List jxC) (hs : jHas sh jc_M) (σ0 : jxS) (v2 : Int) (v3 : Int) (x : Int) (σ' : jxS) (h : Model_behind F 37 σ0 v2 v3 = some (x, σ')) : jMC yX12_behind cX12_behind 5 (jrt 1) 2 47 sh σ0 [(jmr 9), (jmr 37), (jmi v2), (jmi v3)] (jrv 1 x) σ' := by
  refine jMC_of (kd := 1) (by decide) rfl h ?_
  intro X hX
  have hG : jGd X (jE_Model_behind F) jtb_Model_behind := jGd_of hX jtk_Model_behind jnil jnil jnil (jcon (jsS jlk_X12_262 ⟨rfl, rfl⟩ (jad_Model_changes F sh hs)) (jcon (jsV jlk_X12_266 ⟨rfl, rfl⟩ (jad_Model_numberOf F sh hs)) jnil)) hs
  exact jRf_by (jex_ok hG (cs := []) jnil 19 0 [some (jmr 9), some (jmr 37), some (jmi v2), some (jmi v3), none] [] σ0) rfl
set_option maxRecDepth 100000 in
set_option maxHeartbeats 4000000 in
theorem jmet_Model_behind_38 (F : Nat) (sh : List jxC) (hs : jHas sh jc_M) (σ0 : jxS) (v2 : Int) (v3 : Int) (x : Int) (σ' : jxS) (h : Model_behind F 38 σ0 v2 v3 = some (x, σ')) : jMC yX12_behind cX12_behind 5 (jrt 1) 2 47 sh σ0 [(jmr 9), (jmr 38), (jmi v2), (jmi v3)] (jrv 1 x) σ' := by
  refine jMC_of (kd := 1) (by decide) rfl h ?_
  intro X hX
  have hG : jGd X (jE_Model_behind F) jtb_Model_behind := jGd_of hX jtk_Model_behind jnil jnil jnil (jcon (jsS jlk_X12_262 ⟨rfl, rfl⟩ (jad_Model_changes F sh hs)) (jcon (jsV jlk_X12_266 ⟨rfl, rfl⟩ (jad_Model_numberOf F sh hs)) jnil)) hs
  exact jRf_by (jex_ok hG (cs := []) jnil 19 0 [some (jmr 9), some (jmr 38), some (jmi v2), some (jmi v3), none] [] σ0) rfl
set_option maxRecDepth 100000 in
set_option maxHeartbeats 4000000 in
theorem jmet_Model_behind_47 (F : Nat) (sh : List jxC) (hs : jHas sh jc_M) (σ0 : jxS) (v2 : Int) (v3 : Int) (x : Int) (σ' : jxS) (h : Model_behind F 47 σ0 v2 v3 = some (x, σ')) : jMC yX12_behind cX12_behind 5 (jrt 1) 2 47 sh σ0 [(jmr 9), (jmr 47), (jmi v2), (jmi v3)] (jrv 1 x) σ' := by
  refine jMC_of (kd := 1) (by decide) rfl h ?_
  intro X hX
  have hG : jGd X (jE_Model_behind F) jtb_Model_behind := jGd_of hX jtk_Model_behind jnil jnil jnil (jcon (jsS jlk_X12_262 ⟨rfl, rfl⟩ (jad_Model_changes F sh hs)) (jcon (jsV jlk_X12_266 ⟨rfl, rfl⟩ (jad_Model_numberOf F sh hs)) jnil)) hs
  exact jRf_by (jex_ok hG (cs := []) jnil 19 0 [some (jmr 9), some (jmr 47), some (jmi v2), some (jmi v3), none] [] σ0) rfl
theorem jmet_Model_behind (F : Nat) (a1 : Nat) (ha1 : a1 ∈ jids_Model_behind_a1) (sh : List jxC) (hs : jHas sh jc_M) (σ0 : jxS) (v2 : Int) (v3 : Int) (x : Int) (σ' : jxS) (h : Model_behind F a1 σ0 v2 v3 = some (x, σ')) : jMC yX12_behind cX12_behind 5 (jrt 1) 2 47 sh σ0 [(jmr 9), (jmr a1), (jmi v2), (jmi v3)] (jrv 1 x) σ' := by
  simp only [jids_Model_behind_a1, List.mem_cons, List.not_mem_nil, or_false] at ha1
  rcases ha1 with rfl | rfl | rfl | rfl | rfl | rfl
  · exact jmet_Model_behind_29 F sh hs σ0 v2 v3 x σ' h
  · exact jmet_Model_behind_33 F sh hs σ0 v2 v3 x σ' h
  · exact jmet_Model_behind_35 F sh hs σ0 v2 v3 x σ' h
  · exact jmet_Model_behind_37 F sh hs σ0 v2 v3 x σ' h
  · exact jmet_Model_behind_38 F sh hs σ0 v2 v3 x σ' h
  · exact jmet_Model_behind_47 F sh hs σ0 v2 v3 x σ' h
theorem jad_Model_behind (F : Nat) (sh : List jxC) (hs : jHas sh jc_M) : jAdV (jca_Model_behind F) yX12_behind cX12_behind 5 1 2 47 3 sh := by
  intro as σ k x σ' h
  unfold jca_Model_behind at h
  split at h
  · rename_i t0 t1 v2 v3
    obtain ⟨g0, hh1⟩ := jcond h
    obtain rfl := jbeq g0
    obtain ⟨g1, hh2⟩ := jcond hh1
    have g1 := jin_of g1
    obtain ⟨r, h1, h2⟩ := Option.bind_eq_some_iff.mp hh2
    exact ⟨_, _, h2, ⟨_, _, _, _, _, _, rfl, rfl, (hs _ (jkf_in (l := jc_M) (idx := 9) rfl)).1, rfl⟩, jmet_Model_behind F t1 g1 sh hs σ v2 v3 r.1 r.2 h1⟩
  · cases h
def jtb_Model_playedOn : List (Nat × Instr) := [(0, .aload_n 0), (1, .getfield 54), (4, .aload_n 0), (5, .aload_n 0), (6, .getfield 87), (9, .invokevirtual 266), (12, .baload), (13, .ifCond .ne 7), (16, .iconst 1), (17, .goto 4), (20, .iconst 0), (21, .istore_n 1), (22, .iconst (-1)), (23, .istore_n 2), (24, .iconst 0), (25, .istore_n 3), (26, .iconst 1), (27, .istore 4), (29, .iload 4), (31, .bipush 12), (33, .if_icmp .gt 144), (36, .iconst 0), (37, .istore 5), (39, .iload 5), (41, .aload_n 0), (42, .getfield 39), (45, .iload 4), (47, .iaload), (48, .if_icmp .ge 123), (51, .aload_n 0), (52, .getfield 87), (55, .iload 4), (57, .iaload), (58, .ifCond .le 113), (61, .aload_n 0), (62, .aload_n 0), (63, .getfield 87), (66, .iload 4), (68, .aload_n 0), (69, .getfield 36), (72, .bipush 64), (74, .iload 4), (76, .imul), (77, .iload 5), (79, .iadd), (80, .iaload), (81, .invokevirtual 272), (84, .istore 6), (86, .iload_n 1), (87, .ifCond .eq 13), (90, .aload_n 0), (91, .getfield 54), (94, .iload 6), (96, .baload), (97, .ifCond .eq 68), (100, .iload_n 2), (101, .ifCond .lt 35), (104, .iload_n 1), (105, .ifCond .eq 17), (108, .aload_n 0), (109, .getfield 57), (112, .iload 6), (114, .iaload), (115, .iload_n 3), (116, .if_icmp .lt 20), (119, .goto 46), (122, .aload_n 0), (123, .getfield 57), (126, .iload 6), (128, .iaload), (129, .iload_n 3), (130, .if_icmp .gt 6), (133, .goto 32), (136, .sipush 1000), (139, .iload 4), (141, .imul), (142, .aload_n 0), (143, .getfield 36), (146, .bipush 64), (148, .iload 4), (150, .imul), (151, .iload 5), (153, .iadd), (154, .iaload), (155, .iadd), (156, .istore_n 2), (157, .aload_n 0), (158, .getfield 57), (161, .iload 6), (163, .iaload), (164, .istore_n 3), (165, .iinc 5 1), (168, .goto (-129)), (171, .iinc 4 1), (174, .goto (-145)), (177, .iload_n 2), (178, .ireturn)]
theorem jtk_Model_playedOn : jtok cX12_playedOn jtb_Model_playedOn = true := by decide +kernel
set_option maxRecDepth 100000 in
theorem jfl_X12_36 : jFl RX12 36 12 18 := ⟨RX12, TX12, 57, tyX12, rfl, by decide, jin_X12, tyX12_ok, nmX12, jow_X12, (Or.inl (jTB_at 1359 rfl rfl))⟩
set_option maxRecDepth 100000 in
theorem jfl_X12_39 : jFl RX12 39 12 19 := ⟨RX12, TX12, 57, tyX12, rfl, by decide, jin_X12, tyX12_ok, nmX12, jow_X12, (Or.inl (jTB_at 1360 rfl rfl))⟩
set_option maxRecDepth 100000 in
theorem jfl_X12_87 : jFl RX12 87 12 38 := ⟨RX12, TX12, 57, tyX12, rfl, by decide, jin_X12, tyX12_ok, nmX12, jow_X12, (Or.inl (jTB_at 1379 rfl rfl))⟩
set_option maxRecDepth 100000 in
theorem jlk_X12_272 : jLkV RX12 272 yX12_behind cX12_behind 5 1 3 := ⟨(jTB_at 1618 rfl rfl), (jTB_at 1620 rfl rfl), (jTB_at 69 rfl rfl), (jTB_at 115 rfl rfl), jTB_at 1621 rfl rfl, ⟨by decide, by decide, by decide +kernel⟩⟩
def jE_Model_playedOn (F : Nat) : jxE := jmk [(36, 12, 18), (39, 12, 19), (54, 12, 25), (57, 12, 26), (87, 12, 38)] [] [] [(266, (2, false), jca_Model_numberOf F), (272, (4, false), jca_Model_behind F)] 1 jc_M
set_option maxRecDepth 100000 in
set_option maxHeartbeats 4000000 in
theorem jmet_Model_playedOn (F : Nat) (sh : List jxC) (hs : jHas sh jc_M) (σ0 : jxS) (x : Int) (σ' : jxS) (h : Model_playedOn F σ0 = some (x, σ')) : jMC yX12_playedOn cX12_playedOn 7 (jrt 1) 3 71 sh σ0 [(jmr 9)] (jrv 1 x) σ' := by
  refine jMC_of (kd := 1) (by decide) rfl h ?_
  intro X hX
  have hG : jGd X (jE_Model_playedOn F) jtb_Model_playedOn := jGd_of hX jtk_Model_playedOn (jcon jfl_X12_36 (jcon jfl_X12_39 (jcon jfl_X12_54 (jcon jfl_X12_57 (jcon jfl_X12_87 jnil))))) jnil jnil (jcon (jsV jlk_X12_266 ⟨rfl, rfl⟩ (jad_Model_numberOf F sh hs)) (jcon (jsV jlk_X12_272 ⟨rfl, rfl⟩ (jad_Model_behind F sh hs)) jnil)) hs
  have rr136 : ∀ (k29 : Int → Int → Int → Int → jxS → Option jxR) (h29 : ∀ v1 v2 v3 v4 σ, jRf X (k29 v1 v2 v3 v4 σ) 29 [some (jmr 9), some (jmi v1), some (jmi v2), some (jmi v3), some (jmi v4), none, none] [] σ) (k39 : Int → Int → Int → Int → Int → jxS → Option jxR) (h39 : ∀ v1 v2 v3 v4 v5 σ, jRf X (k39 v1 v2 v3 v4 v5 σ) 39 [some (jmr 9), some (jmi v1), some (jmi v2), some (jmi v3), some (jmi v4), some (jmi v5), none] [] σ) (v1 v4 v5 v6 : Int) (σ : jxS), jRf X (Model_playedOn_c136 F k29 k39 v1 v4 v5 v6 σ) 136 [some (jmr 9), some (jmi v1), none, none, some (jmi v4), some (jmi v5), some (jmi v6)] [] σ := by
    intro k29 h29 k39 h39 v1 v4 v5 v6 σ
    exact jRf_by (jex_ok hG (cs := [(39, [some (.inr (some 9)), some (.inl 0), some (.inl 0), some (.inl 0), some (.inl 0), some (.inl 0), none], [], fun xs σ => match xs with
      | [v1, v2, v3, v4, v5] => k39 v1 v2 v3 v4 v5 σ
      | _ => none)]) (jcon (jl5 (fun y0 y1 y2 y3 y4 => jl0 (fun σ => h39 y0 y1 y2 y3 y4 σ))) jnil) 100 136 [some (jmr 9), some (jmi v1), none, none, some (jmi v4), some (jmi v5), some (jmi v6)] [] σ) rfl
  have rr100 : ∀ (k29 : Int → Int → Int → Int → jxS → Option jxR) (h29 : ∀ v1 v2 v3 v4 σ, jRf X (k29 v1 v2 v3 v4 σ) 29 [some (jmr 9), some (jmi v1), some (jmi v2), some (jmi v3), some (jmi v4), none, none] [] σ) (k39 : Int → Int → Int → Int → Int → jxS → Option jxR) (h39 : ∀ v1 v2 v3 v4 v5 σ, jRf X (k39 v1 v2 v3 v4 v5 σ) 39 [some (jmr 9), some (jmi v1), some (jmi v2), some (jmi v3), some (jmi v4), some (jmi v5), none] [] σ) (v1 v2 v3 v4 v5 v6 : Int) (σ : jxS), jRf X (Model_playedOn_c100 F k29 k39 v1 v2 v3 v4 v5 v6 σ) 100 [some (jmr 9), some (jmi v1), some (jmi v2), some (jmi v3), some (jmi v4), some (jmi v5), some (jmi v6)] [] σ := by
    intro k29 h29 k39 h39 v1 v2 v3 v4 v5 v6 σ
    exact jRf_by (jex_ok hG (cs := [(39, [some (.inr (some 9)), some (.inl 0), some (.inl 0), some (.inl 0), some (.inl 0), some (.inl 0), none], [], fun xs σ => match xs with
      | [v1, v2, v3, v4, v5] => k39 v1 v2 v3 v4 v5 σ
      | _ => none), (136, [some (.inr (some 9)), some (.inl 0), none, none, some (.inl 0), some (.inl 0), some (.inl 0)], [], fun xs σ => match xs with
      | [v1, v4, v5, v6] => Model_playedOn_c136 F k29 k39 v1 v4 v5 v6 σ
      | _ => none)]) (jcon (jl5 (fun y0 y1 y2 y3 y4 => jl0 (fun σ => h39 y0 y1 y2 y3 y4 σ))) (jcon (jl4 (fun y0 y1 y2 y3 => jl0 (fun σ => rr136 _ h29 _ h39 y0 y1 y2 y3 σ))) jnil)) 100 100 [some (jmr 9), some (jmi v1), some (jmi v2), some (jmi v3), some (jmi v4), some (jmi v5), some (jmi v6)] [] σ) rfl
  have rr39 : ∀ (k29 : Int → Int → Int → Int → jxS → Option jxR) (h29 : ∀ v1 v2 v3 v4 σ, jRf X (k29 v1 v2 v3 v4 σ) 29 [some (jmr 9), some (jmi v1), some (jmi v2), some (jmi v3), some (jmi v4), none, none] [] σ) (fu : Nat) (v1 v2 v3 v4 v5 : Int) (σ : jxS), jRf X (Model_playedOn_c39 F k29 fu v1 v2 v3 v4 v5 σ) 39 [some (jmr 9), some (jmi v1), some (jmi v2), some (jmi v3), some (jmi v4), some (jmi v5), none] [] σ := by
    intro k29 h29 fu
    induction fu with
    | zero => intros; exact jRf_none
    | succ fu ih =>
      intro v1 v2 v3 v4 v5 σ
      exact jRf_by (jex_ok hG (cs := [(29, [some (.inr (some 9)), some (.inl 0), some (.inl 0), some (.inl 0), some (.inl 0), none, none], [], fun xs σ => match xs with
      | [v1, v2, v3, v4] => k29 v1 v2 v3 v4 σ
      | _ => none), (39, [some (.inr (some 9)), some (.inl 0), some (.inl 0), some (.inl 0), some (.inl 0), some (.inl 0), none], [], fun xs σ => match xs with
      | [v1, v2, v3, v4, v5] => (Model_playedOn_c39 F k29 fu) v1 v2 v3 v4 v5 σ
      | _ => none), (100, [some (.inr (some 9)), some (.inl 0), some (.inl 0), some (.inl 0), some (.inl 0), some (.inl 0), some (.inl 0)], [], fun xs σ => match xs with
      | [v1, v2, v3, v4, v5, v6] => Model_playedOn_c100 F k29 (Model_playedOn_c39 F k29 fu) v1 v2 v3 v4 v5 v6 σ
      | _ => none)]) (jcon (jl4 (fun y0 y1 y2 y3 => jl0 (fun σ => h29 y0 y1 y2 y3 σ))) (jcon (jl5 (fun y0 y1 y2 y3 y4 => jl0 (fun σ => ih y0 y1 y2 y3 y4 σ))) (jcon (jl6 (fun y0 y1 y2 y3 y4 y5 => jl0 (fun σ => rr100 _ h29 _ ih y0 y1 y2 y3 y4 y5 σ))) jnil))) 100 39 [some (jmr 9), some (jmi v1), some (jmi v2), some (jmi v3), some (jmi v4), some (jmi v5), none] [] σ) rfl
  have rr29 : ∀ (fu : Nat) (v1 v2 v3 v4 : Int) (σ : jxS), jRf X (Model_playedOn_c29 F fu v1 v2 v3 v4 σ) 29 [some (jmr 9), some (jmi v1), some (jmi v2), some (jmi v3), some (jmi v4), none, none] [] σ := by
    intro  fu
    induction fu with
    | zero => intros; exact jRf_none
    | succ fu ih =>
      intro v1 v2 v3 v4 σ
      exact jRf_by (jex_ok hG (cs := [(39, [some (.inr (some 9)), some (.inl 0), some (.inl 0), some (.inl 0), some (.inl 0), some (.inl 0), none], [], fun xs σ => match xs with
      | [v1, v2, v3, v4, v5] => Model_playedOn_c39 F (Model_playedOn_c29 F fu) F v1 v2 v3 v4 v5 σ
      | _ => none)]) (jcon (jl5 (fun y0 y1 y2 y3 y4 => jl0 (fun σ => rr39 _ ih F y0 y1 y2 y3 y4 σ))) jnil) 100 29 [some (jmr 9), some (jmi v1), some (jmi v2), some (jmi v3), some (jmi v4), none, none] [] σ) rfl
  have rr21 : ∀ (t0 : Int) (σ : jxS), jRf X (Model_playedOn_c21 F t0 σ) 21 [some (jmr 9), none, none, none, none, none, none] [(jmi t0)] σ := by
    intro  t0 σ
    exact jRf_by (jex_ok hG (cs := [(29, [some (.inr (some 9)), some (.inl 0), some (.inl 0), some (.inl 0), some (.inl 0), none, none], [], fun xs σ => match xs with
      | [v1, v2, v3, v4] => Model_playedOn_c29 F F v1 v2 v3 v4 σ
      | _ => none)]) (jcon (jl4 (fun y0 y1 y2 y3 => jl0 (fun σ => rr29 F y0 y1 y2 y3 σ))) jnil) 100 21 [some (jmr 9), none, none, none, none, none, none] [(jmi t0)] σ) rfl
  exact jRf_by (jex_ok hG (cs := [(21, [some (.inr (some 9)), none, none, none, none, none, none], [(.inl 0)], fun xs σ => match xs with
      | [t0] => Model_playedOn_c21 F t0 σ
      | _ => none)]) (jcon (jl0 (jl1 (fun y0 => (fun σ => rr21 y0 σ)))) jnil) 100 0 [some (jmr 9), none, none, none, none, none, none] [] σ0) rfl
theorem jad_Model_playedOn (F : Nat) (sh : List jxC) (hs : jHas sh jc_M) : jAdV (jca_Model_playedOn F) yX12_playedOn cX12_playedOn 7 1 3 71 0 sh := by
  intro as σ k x σ' h
  unfold jca_Model_playedOn at h
  split at h
  · rename_i t0
    obtain ⟨g0, hh1⟩ := jcond h
    obtain rfl := jbeq g0
    obtain ⟨r, h1, h2⟩ := Option.bind_eq_some_iff.mp hh1
    exact ⟨_, _, h2, ⟨_, _, _, _, _, _, rfl, rfl, (hs _ (jkf_in (l := jc_M) (idx := 9) rfl)).1, rfl⟩, jmet_Model_playedOn F  sh hs σ  r.1 r.2 h1⟩
  · cases h
def jtb_Model_line : List (Nat × Instr) := [(0, .aload_n 0), (1, .getfield 212), (4, .ifCond .eq 7), (7, .iload_n 1), (8, .ifCond .ge 5), (11, .iconst (-1)), (12, .ireturn), (13, .iconst 0), (14, .istore_n 2), (15, .iload_n 2), (16, .bipush 13), (18, .if_icmp .ge 21), (21, .aload_n 0), (22, .getfield 87), (25, .iload_n 2), (26, .aload_n 0), (27, .getfield 81), (30, .iload_n 2), (31, .iaload), (32, .iastore), (33, .iinc 2 1), (36, .goto (-21)), (39, .aload_n 0), (40, .invokevirtual 341), (43, .istore_n 2), (44, .iconst 0), (45, .istore_n 3), (46, .iload_n 3), (47, .iload_n 1), (48, .if_icmp .ge 36), (51, .iload_n 2), (52, .ifCond .lt 32), (55, .aload_n 0), (56, .getfield 87), (59, .iload_n 2), (60, .sipush 1000), (63, .idiv), (64, .iload_n 2), (65, .sipush 1000), (68, .irem), (69, .iconst 1), (70, .invokestatic 262), (73, .aload_n 0), (74, .invokevirtual 341), (77, .istore_n 2), (78, .iinc 3 1), (81, .goto (-35)), (84, .iload_n 2), (85, .ifCond .ge 8), (88, .bipush (-2)), (90, .goto 4), (93, .iload_n 2), (94, .ireturn)]
theorem jtk_Model_line : jtok cX12_line jtb_Model_line = true := by decide +kernel
set_option maxRecDepth 100000 in
theorem jfl_X12_81 : jFl RX12 81 12 35 := ⟨RX12, TX12, 57, tyX12, rfl, by decide, jin_X12, tyX12_ok, nmX12, jow_X12, (Or.inl (jTB_at 1376 rfl rfl))⟩
set_option maxRecDepth 100000 in
theorem jfl_X12_212 : jFl RX12 212 12 13 := ⟨RX12, TX12, 57, tyX12, rfl, by decide, jin_X12, tyX12_ok, nmX12, jow_X12, (Or.inl (jTB_at 1354 rfl rfl))⟩
set_option maxRecDepth 100000 in
theorem jlk_X12_341 : jLkV RX12 341 yX12_playedOn cX12_playedOn 7 1 0 := ⟨(jTB_at 1762 rfl rfl), (jTB_at 1764 rfl rfl), (jTB_at 87 rfl rfl), (jTB_at 115 rfl rfl), jTB_at 1765 rfl rfl, ⟨by decide, by decide, by decide +kernel⟩⟩
def jE_Model_line (F : Nat) : jxE := jmk [(81, 12, 35), (87, 12, 38), (212, 12, 13)] [] [] [(262, (4, true), jca_Model_changes F), (341, (1, false), jca_Model_playedOn F)] 1 jc_M
set_option maxRecDepth 100000 in
set_option maxHeartbeats 4000000 in
theorem jmet_Model_line (F : Nat) (sh : List jxC) (hs : jHas sh jc_M) (σ0 : jxS) (v1 : Int) (x : Int) (σ' : jxS) (h : Model_line F σ0 v1 = some (x, σ')) : jMC yX12_line cX12_line 4 (jrt 1) 4 97 sh σ0 [(jmr 9), (jmi v1)] (jrv 1 x) σ' := by
  refine jMC_of (kd := 1) (by decide) rfl h ?_
  intro X hX
  have hG : jGd X (jE_Model_line F) jtb_Model_line := jGd_of hX jtk_Model_line (jcon jfl_X12_81 (jcon jfl_X12_87 (jcon jfl_X12_212 jnil))) jnil jnil (jcon (jsS jlk_X12_262 ⟨rfl, rfl⟩ (jad_Model_changes F sh hs)) (jcon (jsV jlk_X12_341 ⟨rfl, rfl⟩ (jad_Model_playedOn F sh hs)) jnil)) hs
  have rr84 : ∀ (v2 : Int) (σ : jxS), jRf X (Model_line_c84 F v2 σ) 84 [none, none, some (jmi v2), none] [] σ := by
    intro  v2 σ
    exact jRf_by (jex_ok hG (cs := []) jnil 56 84 [none, none, some (jmi v2), none] [] σ) rfl
  have rr46 : ∀ (fu : Nat) (v1 v2 v3 : Int) (σ : jxS), jRf X (Model_line_c46 F fu v1 v2 v3 σ) 46 [some (jmr 9), some (jmi v1), some (jmi v2), some (jmi v3)] [] σ := by
    intro  fu
    induction fu with
    | zero => intros; exact jRf_none
    | succ fu ih =>
      intro v1 v2 v3 σ
      exact jRf_by (jex_ok hG (cs := [(46, [some (.inr (some 9)), some (.inl 0), some (.inl 0), some (.inl 0)], [], fun xs σ => match xs with
      | [v1, v2, v3] => (Model_line_c46 F fu) v1 v2 v3 σ
      | _ => none), (84, [none, none, some (.inl 0), none], [], fun xs σ => match xs with
      | [v2] => Model_line_c84 F v2 σ
      | _ => none)]) (jcon (jl3 (fun y0 y1 y2 => jl0 (fun σ => ih y0 y1 y2 σ))) (jcon (jl1 (fun y0 => jl0 (fun σ => rr84 y0 σ))) jnil)) 56 46 [some (jmr 9), some (jmi v1), some (jmi v2), some (jmi v3)] [] σ) rfl
  have rr15 : ∀ (fu : Nat) (v1 v2 : Int) (σ : jxS), jRf X (Model_line_c15 F fu v1 v2 σ) 15 [some (jmr 9), some (jmi v1), some (jmi v2), none] [] σ := by
    intro  fu
    induction fu with
    | zero => intros; exact jRf_none
    | succ fu ih =>
      intro v1 v2 σ
      exact jRf_by (jex_ok hG (cs := [(15, [some (.inr (some 9)), some (.inl 0), some (.inl 0), none], [], fun xs σ => match xs with
      | [v1, v2] => (Model_line_c15 F fu) v1 v2 σ
      | _ => none), (46, [some (.inr (some 9)), some (.inl 0), some (.inl 0), some (.inl 0)], [], fun xs σ => match xs with
      | [v1, v2, v3] => Model_line_c46 F F v1 v2 v3 σ
      | _ => none)]) (jcon (jl2 (fun y0 y1 => jl0 (fun σ => ih y0 y1 σ))) (jcon (jl3 (fun y0 y1 y2 => jl0 (fun σ => rr46 F y0 y1 y2 σ))) jnil)) 56 15 [some (jmr 9), some (jmi v1), some (jmi v2), none] [] σ) rfl
  exact jRf_by (jex_ok hG (cs := [(15, [some (.inr (some 9)), some (.inl 0), some (.inl 0), none], [], fun xs σ => match xs with
      | [v1, v2] => Model_line_c15 F F v1 v2 σ
      | _ => none)]) (jcon (jl2 (fun y0 y1 => jl0 (fun σ => rr15 F y0 y1 σ))) jnil) 56 0 [some (jmr 9), some (jmi v1), none, none] [] σ0) rfl
theorem jad_Model_line (F : Nat) (sh : List jxC) (hs : jHas sh jc_M) : jAdV (jca_Model_line F) yX12_line cX12_line 4 1 4 97 1 sh := by
  intro as σ k x σ' h
  unfold jca_Model_line at h
  split at h
  · rename_i t0 v1
    obtain ⟨g0, hh1⟩ := jcond h
    obtain rfl := jbeq g0
    obtain ⟨r, h1, h2⟩ := Option.bind_eq_some_iff.mp hh1
    exact ⟨_, _, h2, ⟨_, _, _, _, _, _, rfl, rfl, (hs _ (jkf_in (l := jc_M) (idx := 9) rfl)).1, rfl⟩, jmet_Model_line F  sh hs σ v1 r.1 r.2 h1⟩
  · cases h
