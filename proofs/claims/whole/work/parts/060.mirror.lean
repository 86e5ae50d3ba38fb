def m_X7_get (a n : Nat) (v1 : Int32) (σ : Mem) : Option (Int32 × Mem) :=
  if v1 < 0 then
    some ((-1), σ)
  else
    if (Int32.ofNat n) ≤ v1 then
      some ((-1), σ)
    else
      obind (ald σ a n v1) fun x1 =>
      some (x1, σ)

def m_X11_isIn (v0 v1 : Int32) (σ : Mem) : Option (Int32 × Mem) :=
  if v1 < 0 then
    some (0, σ)
  else
    if ((v0 >>> (v1 &&& 31)) &&& 1) = 1 then
      some (1, σ)
    else
      some (0, σ)

def m_X9_isHidden (v1 : Int32) (σ : Mem) : Option (Int32 × Mem) :=
  obind (m_X11_isIn ((σ) 2 8) v1 σ) fun x1 =>
  if x1.1 = 0 then
    some (0, x1.2)
  else
    obind (m_X7_get 4 24 v1 x1.2) fun x2 =>
    obind (m_X11_isIn (x1.2 2 9) x2.1 x2.2) fun x3 =>
    if x3.1 = 0 then
      some (0, x3.2)
    else
      some (1, x3.2)

def m_X9_isYanked (v1 : Int32) (σ : Mem) : Option (Int32 × Mem) :=
  obind (m_X11_isIn ((σ) 2 7) v1 σ) fun x1 =>
  obind (zchk x1.1) fun z => some (z, x1.2)

def m_X11_isUpTo (v0 v1 : Int32) (σ : Mem) : Option (Int32 × Mem) :=
  if v1 < 0 then
    some (0, σ)
  else
    if v0 < v1 then
      some (0, σ)
    else
      some (1, σ)

def m_X6_holds (v1 v2 : Int32) (σ : Mem) : Option (Int32 × Mem) :=
  obind (m_X11_isUpTo (((σ) 17 7) - 1) v1 σ) fun x1 =>
  if x1.1 = 0 then
    some (0, x1.2)
  else
    obind (m_X7_get 31 30 v1 x1.2) fun x2 =>
    obind (m_X11_isIn x2.1 v2 x2.2) fun x3 =>
    if x3.1 = 0 then
      some (0, x3.2)
    else
      some (1, x3.2)

def m_X10_flaw_75 : Nat → Int32 → Int32 → Int32 → Mem → Option (Int32 × Mem)
  | 0, _, _, _, _ => none
  | fuel + 1, v1, v2, v3, σ =>
    if ((σ) 1 9) ≤ v3 then
      some (0, σ)
    else
      obind (m_X7_get 59 8 v3 σ) fun x1 =>
      if x1.1 = v2 then
        obind (m_X7_get 61 8 v3 x1.2) fun x2 =>
        obind (m_X6_holds x2.1 v1 x2.2) fun x3 =>
        if x3.1 = 0 then
          m_X10_flaw_75 fuel v1 v2 (v3 + 1) x3.2
        else
          some (4, x3.2)
      else
        m_X10_flaw_75 fuel v1 v2 (v3 + 1) x1.2

def m_X10_flaw_50 (v1 v2 : Int32) (σ : Mem) : Option (Int32 × Mem) :=
  obind (m_X7_get 10 24 v1 σ) fun x1 =>
  obind (m_X11_isIn x1.1 (x1.2 1 10) x1.2) fun x2 =>
  if x2.1 = 0 then
    some (3, x2.2)
  else
    m_X10_flaw_75 FU v1 v2 0 x2.2

def m_X10_flaw (v1 : Int32) (σ : Mem) : Option (Int32 × Mem) :=
  obind (m_X7_get 4 24 v1 σ) fun x1 =>
  obind (m_X9_isHidden v1 x1.2) fun x2 =>
  if x2.1 = 0 then
    obind (m_X9_isYanked v1 x2.2) fun x3 =>
    if x3.1 = 0 then
      m_X10_flaw_50 v1 x1.1 x3.2
    else
      obind (m_X7_get 57 6 x1.1 x3.2) fun x4 =>
      if x4.1 = v1 then
        m_X10_flaw_50 v1 x1.1 x4.2
      else
        some (2, x4.2)
  else
    some (1, x2.2)

def m_X10_usable_4 : Nat → Int32 → Int32 → Mem → Option (Int32 × Mem)
  | 0, _, _, _ => none
  | fuel + 1, v1, v2, σ =>
    if ((σ) 2 10) ≤ v2 then
      some (v1, σ)
    else
      obind (m_X10_flaw v2 σ) fun x1 =>
      if x1.1 = 0 then
        obind (some (v1 ||| (1 <<< (v2 &&& 31)))) fun y2 =>
        m_X10_usable_4 fuel y2 (v2 + 1) x1.2
      else
        m_X10_usable_4 fuel v1 (v2 + 1) x1.2

def m_X10_usable (σ : Mem) : Option (Int32 × Mem) :=
  m_X10_usable_4 FU 0 0 (σ)

def m_X2_ofWorkspaces_4 : Nat → Int32 → Int32 → Int32 → Mem → Option (Int32 × Mem)
  | 0, _, _, _, _ => none
  | fuel + 1, v1, v2, v3, σ =>
    if ((σ) 47 4) ≤ v3 then
      some (v2, σ)
    else
      obind (m_X7_get 49 6 v3 σ) fun x1 =>
      obind (m_X11_isIn v1 x1.1 x1.2) fun x2 =>
      if x2.1 = 0 then
        m_X2_ofWorkspaces_4 fuel v1 v2 (v3 + 1) x2.2
      else
        obind (some (v2 ||| (1 <<< (v3 &&& 31)))) fun y3 =>
        m_X2_ofWorkspaces_4 fuel v1 y3 (v3 + 1) x2.2

def m_X2_ofWorkspaces (v1 : Int32) (σ : Mem) : Option (Int32 × Mem) :=
  m_X2_ofWorkspaces_4 FU v1 0 0 (σ)

def m_X5_demands (σ : Mem) : Option (Int32 × Mem) :=
  obind (m_X2_ofWorkspaces ((σ) 66 1) σ) fun x1 =>
  some (x1.1, x1.2)

def m_J7_fill_53178_5 (a n : Nat) : Nat → Int32 → Int32 → Int32 → Mem → Option (Int32 × Mem)
  | 0, _, _, _, _ => none
  | fuel + 1, v1, v2, v3, σ =>
    if v3 ≤ v2 then
      some (0, σ)
    else
      obind (ast σ a n v2 v1) fun m1 =>
      m_J7_fill_53178_5 a n fuel v1 (v2 + 1) v3 m1

def m_J7_fill_53178 (a n : Nat) (v1 : Int32) (σ : Mem) : Option (Int32 × Mem) :=
  obind (some (Int32.ofNat n)) fun y1 =>
  m_J7_fill_53178_5 a n FU v1 0 y1 (σ)

def m_X7_fill (a n : Nat) (v1 : Int32) (σ : Mem) : Option (Int32 × Mem) :=
  obind (m_J7_fill_53178 a n v1 σ) fun x1 =>
  some (0, x1.2)

def m_X9_member (v1 v2 : Int32) (σ : Mem) : Option (Int32 × Mem) :=
  obind (m_X11_isUpTo 3 v2 σ) fun x1 =>
  if x1.1 = 0 then
    some ((-1), x1.2)
  else
    obind (m_X7_get 14 24 ((v1 * 4) + v2) x1.2) fun x2 =>
    some (x2.1, x2.2)

def m_X7_set (a n : Nat) (v1 v2 : Int32) (σ : Mem) : Option (Int32 × Mem) :=
  if v1 < 0 then
    some (0, σ)
  else
    if (Int32.ofNat n) ≤ v1 then
      some (0, σ)
    else
      obind (ast σ a n v1 v2) fun m1 =>
      some (0, m1)

def m_X0_pickAll_54 (f5 : Int32 → Int32 → Int32 → Mem → Option (Int32 × Mem)) (v2 v3 v4 v6 : Int32) (σ : Mem) : Option (Int32 × Mem) :=
  obind (m_X7_set 86 6 v4 v6 σ) fun x1 =>
  f5 v2 v3 (v4 + (-1)) x1.2

def m_X0_pickAll_5 : Nat → Int32 → Int32 → Int32 → Mem → Option (Int32 × Mem)
  | 0, _, _, _, _ => none
  | fuel + 1, v2, v3, v4, σ =>
    if v4 < 0 then
      some (1, σ)
    else
      obind (some (v3 - v3 / 5 * 5)) fun y1 =>
      obind (some (v3 / 5)) fun y2 =>
      obind (m_X9_member v4 (3 - y1) σ) fun x3 =>
      if 4 ≤ y1 then
        m_X0_pickAll_54 (m_X0_pickAll_5 fuel) v2 y2 v4 x3.1 x3.2
      else
        obind (m_X11_isIn v2 x3.1 x3.2) fun x4 =>
        if x4.1 = 0 then
          some (0, x4.2)
        else
          m_X0_pickAll_54 (m_X0_pickAll_5 fuel) v2 y2 v4 x3.1 x4.2

def m_X0_pickAll (v1 v2 : Int32) (σ : Mem) : Option (Int32 × Mem) :=
  m_X0_pickAll_5 FU v2 v1 5 (σ)

def m_X5_changes_5 (a n : Nat) : Nat → Int32 → Int32 → Int32 → Mem → Option (Int32 × Mem)
  | 0, _, _, _, _ => none
  | fuel + 1, v2, v3, v4, σ =>
    if v2 < v4 then
      some (v3, σ)
    else
      obind (m_X7_get 57 6 v4 σ) fun x1 =>
      if x1.1 = (-1) then
        m_X5_changes_5 a n fuel v2 v3 (v4 + 1) x1.2
      else
        obind (m_X11_isIn (x1.2 66 2) v4 x1.2) fun x2 =>
        if x2.1 = 0 then
          obind (m_X7_get a n v4 x2.2) fun x3 =>
          if x3.1 = x1.1 then
            m_X5_changes_5 a n fuel v2 v3 (v4 + 1) x3.2
          else
            m_X5_changes_5 a n fuel v2 (v3 + 1) (v4 + 1) x3.2
        else
          m_X5_changes_5 a n fuel v2 v3 (v4 + 1) x2.2

def m_X5_changes (a n : Nat) (v2 : Int32) (σ : Mem) : Option (Int32 × Mem) :=
  m_X5_changes_5 a n FU v2 0 0 (σ)

def m_X5_worth_44 (v2 : Int32) (σ : Mem) : Option (Int32 × Mem) :=
  obind (m_X7_get 6 24 v2 σ) fun x1 =>
  some (x1.1, x1.2)

def m_X5_worth_25 (v1 v2 s0 : Int32) (σ : Mem) : Option (Int32 × Mem) :=
  if s0 = 0 then
    m_X5_worth_44 v2 (σ)
  else
    obind (m_X11_isIn ((σ) 66 2) v1 σ) fun x1 =>
    if x1.1 = 0 then
      some (65536, x1.2)
    else
      m_X5_worth_44 v2 x1.2

def m_X5_worth_24 (v1 v2 : Int32) (σ : Mem) : Option (Int32 × Mem) :=
  m_X5_worth_25 v1 v2 0 (σ)

def m_X5_worth (v1 v2 : Int32) (σ : Mem) : Option (Int32 × Mem) :=
  if v2 = (-1) then
    m_X5_worth_24 v1 v2 (σ)
  else
    obind (m_X7_get 57 6 v1 σ) fun x1 =>
    if x1.1 = v2 then
      m_X5_worth_25 v1 v2 1 x1.2
    else
      m_X5_worth_24 v1 v2 x1.2

def m_X0_isBetter_47 : Nat → Int32 → Mem → Option (Int32 × Mem)
  | 0, _, _ => none
  | fuel + 1, v3, σ =>
    if 6 ≤ v3 then
      some (0, σ)
    else
      obind (m_X7_get 86 6 v3 σ) fun x1 =>
      obind (m_X5_worth v3 x1.1 x1.2) fun x2 =>
      obind (m_X7_get 83 6 v3 x2.2) fun x3 =>
      obind (m_X5_worth v3 x3.1 x3.2) fun x4 =>
      if x2.1 = x4.1 then
        m_X0_isBetter_47 fuel (v3 + 1) x4.2
      else
        if x2.1 ≤ x4.1 then
          some (0, x4.2)
        else
          some (1, x4.2)

def m_X0_isBetter (σ : Mem) : Option (Int32 × Mem) :=
  obind (m_X5_changes 86 6 5 σ) fun x1 =>
  obind (m_X5_changes 83 6 5 x1.2) fun x2 =>
  if x1.1 = x2.1 then
    m_X0_isBetter_47 FU 0 x2.2
  else
    if x2.1 ≤ x1.1 then
      some (0, x2.2)
    else
      some (1, x2.2)

def m_X10_targetOfDemand (v1 : Int32) (σ : Mem) : Option (Int32 × Mem) :=
  obind (m_X7_get 51 6 v1 σ) fun x1 =>
  obind (m_X7_get 65 6 x1.1 x1.2) fun x2 =>
  some (x2.1, x2.2)

def m_X1_meets_2 (pa oa : Nat) : Nat → Int32 → Int32 → Mem → Option (Int32 × Mem)
  | 0, _, _, _ => none
  | fuel + 1, v1, v2, σ =>
    if ((σ) 47 4) ≤ v2 then
      some (1, σ)
    else
      obind (m_X10_targetOfDemand v2 σ) fun x1 =>
      obind (m_X7_get pa 6 x1.1 x1.2) fun x2 =>
      obind (m_X11_isIn v1 v2 x2.2) fun x3 =>
      if x3.1 = 0 then
        m_X1_meets_2 pa oa fuel v1 (v2 + 1) x3.2
      else
        obind (m_X7_get 53 6 v2 x3.2) fun x4 =>
        obind (m_X6_holds x4.1 x2.1 x4.2) fun x5 =>
        if x5.1 = 0 then
          some (0, x5.2)
        else
          m_X1_meets_2 pa oa fuel v1 (v2 + 1) x5.2

def m_X1_meets (pa oa : Nat) (v1 : Int32) (σ : Mem) : Option (Int32 × Mem) :=
  m_X1_meets_2 pa oa FU v1 0 (σ)

def m_X7_merge (a n : Nat) (v1 v2 : Int32) (σ : Mem) : Option (Int32 × Mem) :=
  if v1 < 0 then
    some (0, σ)
  else
    if v1 < (Int32.ofNat n) then
      obind (ald σ a n v1) fun x1 =>
      obind (ast σ a n v1 (x1 ||| v2)) fun m2 =>
      obind (ald m2 a n v1) fun x3 =>
      if x3 = x1 then
        some (0, m2)
      else
        some (1, m2)
    else
      some (0, σ)

def m_X9_broughtBy_5 : Nat → Int32 → Int32 → Int32 → Int32 → Mem → Option (Int32 × Mem)
  | 0, _, _, _, _, _ => none
  | fuel + 1, v1, v2, v3, v4, σ =>
    if 3 ≤ v4 then
      some (v3, σ)
    else
      obind (m_X11_isIn v2 v4 σ) fun x1 =>
      if x1.1 = 0 then
        m_X9_broughtBy_5 fuel v1 v2 v3 (v4 + 1) x1.2
      else
        obind (m_X7_get 12 72 ((v1 * 3) + v4) x1.2) fun x2 =>
        obind (some (v3 ||| x2.1)) fun y3 =>
        m_X9_broughtBy_5 fuel v1 v2 y3 (v4 + 1) x2.2

def m_X9_broughtBy (v1 v2 : Int32) (σ : Mem) : Option (Int32 × Mem) :=
  m_X9_broughtBy_5 FU v1 v2 0 0 (σ)

def m_X4_end (v1 : Int32) (σ : Mem) : Option (Int32 × Mem) :=
  obind (m_X7_get 46 24 v1 σ) fun x1 =>
  some ((v1 * 5) + x1.1, x1.2)

def m_X4_first (v1 : Int32) (σ : Mem) : Option (Int32 × Mem) :=
  some (v1 * 5, σ)

def m_X10_counts (v1 v2 : Int32) (σ : Mem) : Option (Int32 × Mem) :=
  obind (m_X7_get 40 120 v1 σ) fun x1 =>
  obind (m_X7_get 42 120 v1 x1.2) fun x2 =>
  obind (m_X11_isIn x2.1 (x2.2 1 10) x2.2) fun x3 =>
  if x3.1 = 0 then
    some (0, x3.2)
  else
    if x1.1 = (-1) then
      some (1, x3.2)
    else
      obind (m_X11_isIn v2 x1.1 x3.2) fun x4 =>
      if x4.1 = 0 then
        some (0, x4.2)
      else
        some (1, x4.2)

def m_X10_targetOfNeed (v1 : Int32) (σ : Mem) : Option (Int32 × Mem) :=
  obind (m_X7_get 34 120 v1 σ) fun x1 =>
  obind (m_X7_get 65 6 x1.1 x1.2) fun x2 =>
  some (x2.1, x2.2)

def m_X1_turnOnBy_70 (pa oa : Nat) : Nat → Int32 → Int32 → Int32 → Int32 → Mem → Option (Int32 × Mem)
  | 0, _, _, _, _, _ => none
  | fuel + 1, v1, v3, v4, v5, σ =>
    if v4 ≤ v5 then
      obind (zchk v3) fun z => some (z, σ)
    else
      obind (m_X7_get 44 120 v5 σ) fun x1 =>
      if x1.1 = 0 then
        m_X1_turnOnBy_70 pa oa fuel v1 v3 v4 (v5 + 1) x1.2
      else
        obind (m_X7_get oa 6 v1 x1.2) fun x2 =>
        obind (m_X10_counts v5 x2.1 x2.2) fun x3 =>
        if x3.1 = 0 then
          m_X1_turnOnBy_70 pa oa fuel v1 v3 v4 (v5 + 1) x3.2
        else
          obind (m_X10_targetOfNeed v5 x3.2) fun x4 =>
          obind (m_X7_merge oa 6 x4.1 x1.1 x4.2) fun x5 =>
          if x5.1 = 0 then
            m_X1_turnOnBy_70 pa oa fuel v1 v3 v4 (v5 + 1) x5.2
          else
            m_X1_turnOnBy_70 pa oa fuel v1 1 v4 (v5 + 1) x5.2

def m_X1_turnOnBy (pa oa : Nat) (v1 : Int32) (σ : Mem) : Option (Int32 × Mem) :=
  obind (m_X7_get pa 6 v1 σ) fun x1 =>
  if x1.1 = (-1) then
    some (0, x1.2)
  else
    obind (m_X7_get oa 6 v1 x1.2) fun x2 =>
    obind (m_X9_broughtBy x1.1 x2.1 x2.2) fun x3 =>
    obind (m_X7_merge oa 6 v1 x3.1 x3.2) fun x4 =>
    obind (m_X4_end x1.1 x4.2) fun x5 =>
    obind (m_X4_first x1.1 x5.2) fun x6 =>
    m_X1_turnOnBy_70 pa oa FU v1 x4.1 x5.1 x6.1 x6.2

def m_X1_turnOn_87 (pa oa : Nat) (f72 : Int32 → Int32 → Mem → Option (Int32 × Mem)) : Nat → Int32 → Int32 → Int32 → Mem → Option (Int32 × Mem)
  | 0, _, _, _, _ => none
  | fuel + 1, v2, v3, v4, σ =>
    if 6 ≤ v4 then
      f72 v2 (v3 + 1) (σ)
    else
      obind (m_X1_turnOnBy pa oa v4 σ) fun x1 =>
      if x1.1 = 0 then
        m_X1_turnOn_87 pa oa f72 fuel v2 v3 (v4 + 1) x1.2
      else
        m_X1_turnOn_87 pa oa f72 fuel 1 v3 (v4 + 1) x1.2

def m_X1_turnOn_72 (pa oa : Nat) : Nat → Int32 → Int32 → Mem → Option (Int32 × Mem)
  | 0, _, _, _ => none
  | fuel + 1, v2, v3, σ =>
    if v2 = 0 then
      some (0, σ)
    else
      if 18 < v3 then
        some (0, σ)
      else
        m_X1_turnOn_87 pa oa (m_X1_turnOn_72 pa oa fuel) FU 0 v3 0 (σ)

def m_X1_turnOn_10 (pa oa : Nat) : Nat → Int32 → Int32 → Mem → Option (Int32 × Mem)
  | 0, _, _, _ => none
  | fuel + 1, v1, v2, σ =>
    if ((σ) 47 4) ≤ v2 then
      m_X1_turnOn_72 pa oa FU 1 0 (σ)
    else
      obind (m_X11_isIn v1 v2 σ) fun x1 =>
      if x1.1 = 0 then
        m_X1_turnOn_10 pa oa fuel v1 (v2 + 1) x1.2
      else
        obind (m_X10_targetOfDemand v2 x1.2) fun x2 =>
        obind (m_X7_get 55 6 v2 x2.2) fun x3 =>
        obind (m_X7_merge oa 6 x2.1 x3.1 x3.2) fun x4 =>
        m_X1_turnOn_10 pa oa fuel v1 (v2 + 1) x4.2

def m_X1_turnOn (pa oa : Nat) (v1 : Int32) (σ : Mem) : Option (Int32 × Mem) :=
  obind (m_X7_fill oa 6 0 σ) fun x1 =>
  m_X1_turnOn_10 pa oa FU v1 0 x1.2

def m_X1_isServed (pa oa : Nat) (v1 v2 : Int32) (σ : Mem) : Option (Int32 × Mem) :=
  if v2 = (-1) then
    obind (m_X7_get 38 120 v1 σ) fun x4 =>
    if x4.1 = 1 then
      some (1, x4.2)
    else
      some (0, x4.2)
  else
    obind (m_X7_get 36 120 v1 σ) fun x1 =>
    obind (m_X7_get 31 30 x1.1 x1.2) fun x2 =>
    obind (m_X11_isIn x2.1 v2 x2.2) fun x3 =>
    obind (zchk x3.1) fun z => some (z, x3.2)

def m_X1_holdsNeeds_35 (pa oa : Nat) : Nat → Int32 → Int32 → Int32 → Int32 → Mem → Option (Int32 × Mem)
  | 0, _, _, _, _, _ => none
  | fuel + 1, v1, v2, v4, v5, σ =>
    if v4 ≤ v5 then
      some (1, σ)
    else
      obind (m_X10_targetOfNeed v5 σ) fun x1 =>
      if v2 < x1.1 then
        m_X1_holdsNeeds_35 pa oa fuel v1 v2 v4 (v5 + 1) x1.2
      else
        obind (m_X7_get oa 6 v1 x1.2) fun x2 =>
        obind (m_X10_counts v5 x2.1 x2.2) fun x3 =>
        if x3.1 = 0 then
          m_X1_holdsNeeds_35 pa oa fuel v1 v2 v4 (v5 + 1) x3.2
        else
          obind (m_X7_get pa 6 x1.1 x3.2) fun x4 =>
          obind (m_X1_isServed pa oa v5 x4.1 x4.2) fun x5 =>
          if x5.1 = 0 then
            some (0, x5.2)
          else
            m_X1_holdsNeeds_35 pa oa fuel v1 v2 v4 (v5 + 1) x5.2

def m_X1_holdsNeeds (pa oa : Nat) (v1 v2 : Int32) (σ : Mem) : Option (Int32 × Mem) :=
  obind (m_X7_get pa 6 v1 σ) fun x1 =>
  obind (m_X4_end x1.1 x1.2) fun x2 =>
  obind (m_X4_first x1.1 x2.2) fun x3 =>
  m_X1_holdsNeeds_35 pa oa FU v1 v2 x2.1 x3.1 x3.2

def m_X1_standsUpTo_2 (pa oa : Nat) : Nat → Int32 → Int32 → Mem → Option (Int32 × Mem)
  | 0, _, _, _ => none
  | fuel + 1, v1, v2, σ =>
    if v1 < v2 then
      some (1, σ)
    else
      obind (m_X1_holdsNeeds pa oa v2 v1 σ) fun x1 =>
      if x1.1 = 0 then
        some (0, x1.2)
      else
        m_X1_standsUpTo_2 pa oa fuel v1 (v2 + 1) x1.2

def m_X1_standsUpTo (pa oa : Nat) (v1 : Int32) (σ : Mem) : Option (Int32 × Mem) :=
  m_X1_standsUpTo_2 pa oa FU v1 0 (σ)

def m_X10_demanded_4 : Nat → Int32 → Int32 → Int32 → Mem → Option (Int32 × Mem)
  | 0, _, _, _, _ => none
  | fuel + 1, v1, v2, v3, σ =>
    if ((σ) 47 4) ≤ v3 then
      some (v2, σ)
    else
      obind (m_X11_isIn v1 v3 σ) fun x1 =>
      if x1.1 = 0 then
        m_X10_demanded_4 fuel v1 v2 (v3 + 1) x1.2
      else
        obind (m_X10_targetOfDemand v3 x1.2) fun x2 =>
        obind (some (v2 ||| (1 <<< (x2.1 &&& 31)))) fun y3 =>
        m_X10_demanded_4 fuel v1 y3 (v3 + 1) x2.2

def m_X10_demanded (v1 : Int32) (σ : Mem) : Option (Int32 × Mem) :=
  m_X10_demanded_4 FU v1 0 0 (σ)

def m_X10_pulledBy_22 : Nat → Int32 → Int32 → Int32 → Int32 → Mem → Option (Int32 × Mem)
  | 0, _, _, _, _, _ => none
  | fuel + 1, v2, v3, v4, v5, σ =>
    if v4 ≤ v5 then
      some (v3, σ)
    else
      obind (m_X7_get 38 120 v5 σ) fun x1 =>
      if x1.1 = 2 then
        m_X10_pulledBy_22 fuel v2 v3 v4 (v5 + 1) x1.2
      else
        obind (m_X10_counts v5 v2 x1.2) fun x2 =>
        if x2.1 = 0 then
          m_X10_pulledBy_22 fuel v2 v3 v4 (v5 + 1) x2.2
        else
          obind (m_X10_targetOfNeed v5 x2.2) fun x3 =>
          obind (some (v3 ||| (1 <<< (x3.1 &&& 31)))) fun y4 =>
          m_X10_pulledBy_22 fuel v2 y4 v4 (v5 + 1) x3.2

def m_X10_pulledBy (v1 v2 : Int32) (σ : Mem) : Option (Int32 × Mem) :=
  obind (m_X4_end v1 σ) fun x1 =>
  obind (m_X4_first v1 x1.2) fun x2 =>
  m_X10_pulledBy_22 FU v2 0 x1.1 x2.1 x2.2

def m_X1_isPulled_78 (pa oa : Nat) : Nat → Int32 → Int32 → Mem → Option (Int32 × Mem)
  | 0, _, _, _ => none
  | fuel + 1, v2, v3, σ =>
    if 6 ≤ v3 then
      some (1, σ)
    else
      obind (m_X7_get pa 6 v3 σ) fun x1 =>
      if x1.1 = (-1) then
        m_X1_isPulled_78 pa oa fuel v2 (v3 + 1) x1.2
      else
        obind (m_X11_isIn v2 v3 x1.2) fun x2 =>
        if x2.1 = 0 then
          some (0, x2.2)
        else
          m_X1_isPulled_78 pa oa fuel v2 (v3 + 1) x2.2

def m_X1_isPulled_20 (pa oa : Nat) (f11 : Int32 → Int32 → Mem → Option (Int32 × Mem)) : Nat → Int32 → Int32 → Int32 → Mem → Option (Int32 × Mem)
  | 0, _, _, _, _ => none
  | fuel + 1, v2, v3, v4, σ =>
    if 6 ≤ v4 then
      f11 v2 (v3 + 1) (σ)
    else
      obind (m_X11_isIn v2 v4 σ) fun x1 =>
      if x1.1 = 0 then
        m_X1_isPulled_20 pa oa f11 fuel v2 v3 (v4 + 1) x1.2
      else
        obind (m_X7_get pa 6 v4 x1.2) fun x2 =>
        obind (m_X7_get oa 6 v4 x2.2) fun x3 =>
        obind (m_X10_pulledBy x2.1 x3.1 x3.2) fun x4 =>
        obind (some (v2 ||| x4.1)) fun y5 =>
        m_X1_isPulled_20 pa oa f11 fuel y5 v3 (v4 + 1) x4.2

def m_X1_isPulled_11 (pa oa : Nat) : Nat → Int32 → Int32 → Mem → Option (Int32 × Mem)
  | 0, _, _, _ => none
  | fuel + 1, v2, v3, σ =>
    if 6 ≤ v3 then
      m_X1_isPulled_78 pa oa FU v2 0 (σ)
    else
      m_X1_isPulled_20 pa oa (m_X1_isPulled_11 pa oa fuel) FU v2 v3 0 (σ)

def m_X1_isPulled (pa oa : Nat) (v1 : Int32) (σ : Mem) : Option (Int32 × Mem) :=
  obind (m_X10_demanded v1 σ) fun x1 =>
  m_X1_isPulled_11 pa oa FU x1.1 0 x1.2

def m_X1_isSolution (pa oa : Nat) (v1 : Int32) (σ : Mem) : Option (Int32 × Mem) :=
  obind (m_X1_meets pa oa v1 σ) fun x1 =>
  if x1.1 = 0 then
    some (0, x1.2)
  else
    obind (m_X1_turnOn pa oa v1 x1.2) fun x2 =>
    obind (m_X1_standsUpTo pa oa 5 x2.2) fun x3 =>
    if x3.1 = 0 then
      some (0, x3.2)
    else
      obind (m_X1_isPulled pa oa v1 x3.2) fun x4 =>
      if x4.1 = 0 then
        some (0, x4.2)
      else
        some (1, x4.2)

def m_X7_copy_2 (a n : Nat) (a1 n1 : Nat) : Nat → Int32 → Mem → Option (Int32 × Mem)
  | 0, _, _ => none
  | fuel + 1, v2, σ =>
    if (Int32.ofNat n) ≤ v2 then
      some (0, σ)
    else
      obind (m_X7_get a1 n1 v2 σ) fun x1 =>
      obind (ast x1.2 a n v2 x1.1) fun m2 =>
      m_X7_copy_2 a n a1 n1 fuel (v2 + 1) m2

def m_X7_copy (a n : Nat) (a1 n1 : Nat) (σ : Mem) : Option (Int32 × Mem) :=
  m_X7_copy_2 a n a1 n1 FU 0 (σ)

def m_X0_findBest_58 (f29 : Int32 → Int32 → Int32 → Int32 → Mem → Option (Int32 × Mem)) (v1 v2 v3 v4 : Int32) (σ : Mem) : Option (Int32 × Mem) :=
  obind (m_X1_isSolution 86 88 v2 σ) fun x1 =>
  if x1.1 = 0 then
    f29 v1 v2 v3 (v4 + 1) x1.2
  else
    obind (m_X7_copy 83 6 86 6 x1.2) fun x2 =>
    f29 v1 v2 1 (v4 + 1) x2.2

def m_X0_findBest_29 : Nat → Int32 → Int32 → Int32 → Int32 → Mem → Option (Int32 × Mem)
  | 0, _, _, _, _, _ => none
  | fuel + 1, v1, v2, v3, v4, σ =>
    if 15625 ≤ v4 then
      obind (zchk v3) fun z => some (z, σ)
    else
      obind (m_X0_pickAll v4 v1 σ) fun x1 =>
      if x1.1 = 0 then
        m_X0_findBest_29 fuel v1 v2 v3 (v4 + 1) x1.2
      else
        if v3 = 0 then
          m_X0_findBest_58 (m_X0_findBest_29 fuel) v1 v2 v3 v4 x1.2
        else
          obind (m_X0_isBetter x1.2) fun x2 =>
          if x2.1 = 0 then
            m_X0_findBest_29 fuel v1 v2 v3 (v4 + 1) x2.2
          else
            m_X0_findBest_58 (m_X0_findBest_29 fuel) v1 v2 v3 v4 x2.2

def m_X0_findBest (σ : Mem) : Option (Int32 × Mem) :=
  obind (m_X10_usable σ) fun x1 =>
  obind (m_X5_demands x1.2) fun x2 =>
  obind (m_X7_fill 83 6 (-1) x2.2) fun x3 =>
  m_X0_findBest_29 FU x1.1 x2.1 0 0 x3.2

def m_X2_isFull (σ : Mem) : Option (Int32 × Mem) :=
  if ((σ) 47 4) < 6 then
    some (0, σ)
  else
    some (1, σ)

def m_X2_add (v1 v2 v3 v4 : Int32) (σ : Mem) : Option (Int32 × Mem) :=
  obind (some ((σ) 47 4)) fun y1 =>
  obind (m_X7_set 49 6 y1 v1 σ) fun x2 =>
  obind (m_X7_set 51 6 y1 v2 x2.2) fun x3 =>
  obind (m_X7_set 53 6 y1 v3 x3.2) fun x4 =>
  obind (m_X7_set 55 6 y1 v4 x4.2) fun x5 =>
  obind (some (up x5.2 47 4 ((x5.2 47 4) + 1))) fun m6 =>
  some (y1, m6)

def m_X3_differs (v1 v2 v3 : Int32) (σ : Mem) : Option (Int32 × Mem) :=
  obind (m_X7_get 91 6 v1 σ) fun x1 =>
  if x1.1 = v2 then
    if v2 = (-1) then
      some (0, x1.2)
    else
      obind (m_X7_get 93 6 v1 x1.2) fun x2 =>
      if x2.1 = v3 then
        some (0, x2.2)
      else
        some (1, x2.2)
  else
    some (1, x1.2)

def m_X3_put (v1 v2 v3 : Int32) (σ : Mem) : Option (Int32 × Mem) :=
  obind (m_X7_set 91 6 v1 v2 σ) fun x1 =>
  obind (m_X7_set 93 6 v1 v3 x1.2) fun x2 =>
  some (0, x2.2)

def m_X4_isFull (v1 : Int32) (σ : Mem) : Option (Int32 × Mem) :=
  obind (m_X7_get 46 24 v1 σ) fun x1 =>
  if x1.1 < 5 then
    some (0, x1.2)
  else
    some (1, x1.2)

def m_X4_add (v1 v2 v3 v4 v5 v6 v7 : Int32) (σ : Mem) : Option (Int32 × Mem) :=
  obind (m_X4_end v1 σ) fun x1 =>
  obind (m_X7_set 34 120 x1.1 v2 x1.2) fun x2 =>
  obind (m_X7_set 36 120 x1.1 v3 x2.2) fun x3 =>
  obind (m_X7_set 38 120 x1.1 v4 x3.2) fun x4 =>
  obind (m_X7_set 40 120 x1.1 v5 x4.2) fun x5 =>
  obind (m_X7_set 42 120 x1.1 v6 x5.2) fun x6 =>
  obind (m_X7_set 44 120 x1.1 v7 x6.2) fun x7 =>
  obind (m_X7_get 46 24 v1 x7.2) fun x8 =>
  obind (m_X7_set 46 24 v1 (x8.1 + 1) x8.2) fun x9 =>
  obind (m_X7_get 46 24 v1 x9.2) fun x10 =>
  some (x10.1, x10.2)

def m_X6_isFull (σ : Mem) : Option (Int32 × Mem) :=
  if ((σ) 17 7) < 30 then
    some (0, σ)
  else
    some (1, σ)

def m_X11_hasPre (v0 : Int32) (σ : Mem) : Option (Int32 × Mem) :=
  if (v0 &&& 15) = 10 then
    some (0, σ)
  else
    some (1, σ)

def m_X11_triple (v0 : Int32) (σ : Mem) : Option (Int32 × Mem) :=
  some (v0 >>> (4 &&& 31), σ)

def m_X6_reaches (v1 v2 : Int32) (σ : Mem) : Option (Int32 × Mem) :=
  obind (m_X7_get 21 30 v1 σ) fun x1 =>
  if v2 < x1.1 then
    some (0, x1.2)
  else
    obind (m_X7_get 23 30 v1 x1.2) fun x2 =>
    if x2.1 ≤ v2 then
      some (0, x2.2)
    else
      obind (m_X11_hasPre v2 x2.2) fun x3 =>
      if x3.1 = 0 then
        some (1, x3.2)
      else
        obind (m_X7_get 25 30 v1 x3.2) fun x4 =>
        obind (m_X11_triple v2 x4.2) fun x5 =>
        if x4.1 = x5.1 then
          some (1, x5.2)
        else
          some (0, x5.2)

def m_X6_add_39 : Nat → Int32 → Int32 → Mem → Option (Int32 × Mem)
  | 0, _, _, _ => none
  | fuel + 1, v5, v6, σ =>
    if ((σ) 2 10) ≤ v6 then
      obind (some (up (σ) 17 7 (((σ) 17 7) + 1))) fun m1 =>
      some (v5, m1)
    else
      obind (m_X7_get 6 24 v6 σ) fun x2 =>
      obind (m_X6_reaches v5 x2.1 x2.2) fun x3 =>
      if x3.1 = 0 then
        m_X6_add_39 fuel v5 (v6 + 1) x3.2
      else
        obind (m_X7_merge 31 30 v5 (1 <<< (v6 &&& 31)) x3.2) fun x4 =>
        m_X6_add_39 fuel v5 (v6 + 1) x4.2

def m_X6_add (v1 v2 v3 : Int32) (σ : Mem) : Option (Int32 × Mem) :=
  obind (some ((σ) 17 7)) fun y1 =>
  obind (m_X7_set 21 30 y1 v1 σ) fun x2 =>
  obind (m_X7_set 23 30 y1 v2 x2.2) fun x3 =>
  obind (m_X7_set 25 30 y1 v3 x3.2) fun x4 =>
  m_X6_add_39 FU y1 0 x4.2

def m_X6_addJoined_81 (v4 s1 s2 : Int32) (σ : Mem) : Option (Int32 × Mem) :=
  obind (m_X7_set 31 30 s1 s2 σ) fun x1 =>
  obind (some (up x1.2 17 7 ((x1.2 17 7) + 1))) fun m2 =>
  some (v4, m2)

def m_X6_addJoined (v1 v2 v3 : Int32) (σ : Mem) : Option (Int32 × Mem) :=
  obind (some ((σ) 17 7)) fun y1 =>
  obind (m_X7_set 19 30 y1 v1 σ) fun x2 =>
  obind (m_X7_set 27 30 y1 v2 x2.2) fun x3 =>
  obind (m_X7_set 29 30 y1 v3 x3.2) fun x4 =>
  obind (m_X7_get 31 30 v2 x4.2) fun x5 =>
  obind (m_X7_get 31 30 v3 x5.2) fun x6 =>
  if v1 = 8 then
    m_X6_addJoined_81 y1 y1 (x5.1 &&& x6.1) x6.2
  else
    m_X6_addJoined_81 y1 y1 (x5.1 ||| x6.1) x6.2

def m_X6_take_106 (f2 : Int32 → Int32 → Int32 → Mem → Option (Int32 × Mem)) (v1 v2 v3 s0 : Int32) (σ : Mem) : Option (Int32 × Mem) :=
  if s0 = 0 then
    f2 v1 v2 (v3 + 1) (σ)
  else
    obind (m_X7_merge 31 30 v3 (1 <<< (v1 &&& 31)) σ) fun x1 =>
    f2 v1 v2 (v3 + 1) x1.2

def m_X6_take_2 : Nat → Int32 → Int32 → Int32 → Mem → Option (Int32 × Mem)
  | 0, _, _, _, _ => none
  | fuel + 1, v1, v2, v3, σ =>
    if ((σ) 17 7) ≤ v3 then
      some (0, σ)
    else
      obind (m_X7_get 19 30 v3 σ) fun x1 =>
      obind (m_X7_get 27 30 v3 x1.2) fun x2 =>
      obind (m_X6_holds x2.1 v1 x2.2) fun x3 =>
      obind (m_X7_get 29 30 v3 x3.2) fun x4 =>
      obind (m_X6_holds x4.1 v1 x4.2) fun x5 =>
      if x1.1 = 8 then
        if x3.1 = 0 then
          m_X6_take_106 (m_X6_take_2 fuel) v1 v2 v3 0 x5.2
        else
          if x5.1 = 0 then
            m_X6_take_106 (m_X6_take_2 fuel) v1 v2 v3 0 x5.2
          else
            m_X6_take_106 (m_X6_take_2 fuel) v1 v2 v3 1 x5.2
      else
        if x1.1 = 9 then
          if x3.1 = 0 then
            if x5.1 = 0 then
              m_X6_take_106 (m_X6_take_2 fuel) v1 v2 v3 0 x5.2
            else
              m_X6_take_106 (m_X6_take_2 fuel) v1 v2 v3 1 x5.2
          else
            m_X6_take_106 (m_X6_take_2 fuel) v1 v2 v3 1 x5.2
        else
          obind (m_X6_reaches v3 v2 x5.2) fun x6 =>
          m_X6_take_106 (m_X6_take_2 fuel) v1 v2 v3 x6.1 x6.2

def m_X6_take (v1 v2 : Int32) (σ : Mem) : Option (Int32 × Mem) :=
  m_X6_take_2 FU v1 v2 0 (σ)

def m_X7_exchange (a n : Nat) (v1 v2 : Int32) (σ : Mem) : Option (Int32 × Mem) :=
  obind (m_X7_get a n v1 σ) fun x1 =>
  obind (m_X7_set a n v1 v2 x1.2) fun x2 =>
  some (x1.1, x2.2)

def m_X7_count_4 (a n : Nat) : Nat → Int32 → Int32 → Int32 → Mem → Option (Int32 × Mem)
  | 0, _, _, _, _ => none
  | fuel + 1, v1, v2, v3, σ =>
    if (Int32.ofNat n) ≤ v3 then
      some (v2, σ)
    else
      obind (ald σ a n v3) fun x1 =>
      if x1 = v1 then
        m_X7_count_4 a n fuel v1 (v2 + 1) (v3 + 1) (σ)
      else
        m_X7_count_4 a n fuel v1 v2 (v3 + 1) (σ)

def m_X7_count (a n : Nat) (v1 : Int32) (σ : Mem) : Option (Int32 × Mem) :=
  m_X7_count_4 a n FU v1 0 0 (σ)

def m_X8_reachable_23 (f14 : Int32 → Int32 → Int32 → Mem → Option (Int32 × Mem)) : Nat → Int32 → Int32 → Int32 → Int32 → Mem → Option (Int32 × Mem)
  | 0, _, _, _, _, _ => none
  | fuel + 1, v1, v2, v3, v4, σ =>
    if ((σ) 2 10) ≤ v4 then
      f14 v1 v2 (v3 + 1) (σ)
    else
      obind (m_X11_isIn v1 v4 σ) fun x1 =>
      if x1.1 = 0 then
        m_X8_reachable_23 f14 fuel v1 v2 v3 (v4 + 1) x1.2
      else
        obind (m_X7_get 4 24 v4 x1.2) fun x2 =>
        obind (m_X11_isIn v2 x2.1 x2.2) fun x3 =>
        if x3.1 = 0 then
          m_X8_reachable_23 f14 fuel v1 v2 v3 (v4 + 1) x3.2
        else
          obind (m_X10_pulledBy v4 7 x3.2) fun x4 =>
          obind (some (v2 ||| x4.1)) fun y5 =>
          m_X8_reachable_23 f14 fuel v1 y5 v3 (v4 + 1) x4.2

def m_X8_reachable_14 : Nat → Int32 → Int32 → Int32 → Mem → Option (Int32 × Mem)
  | 0, _, _, _, _ => none
  | fuel + 1, v1, v2, v3, σ =>
    if 6 ≤ v3 then
      some (v2, σ)
    else
      m_X8_reachable_23 (m_X8_reachable_14 fuel) FU v1 v2 v3 0 (σ)

def m_X8_reachable (v1 : Int32) (σ : Mem) : Option (Int32 × Mem) :=
  obind (m_X10_demanded ((σ) 67 7) σ) fun x1 =>
  m_X8_reachable_14 FU v1 x1.1 0 x1.2

def m_X10_refuses_15 : Nat → Int32 → Int32 → Int32 → Int32 → Mem → Option (Int32 × Mem)
  | 0, _, _, _, _, _ => none
  | fuel + 1, v1, v2, v3, v4, σ =>
    if ((σ) 47 4) ≤ v4 then
      some (0, σ)
    else
      obind (m_X11_isIn v1 v4 σ) fun x1 =>
      if x1.1 = 0 then
        m_X10_refuses_15 fuel v1 v2 v3 (v4 + 1) x1.2
      else
        obind (m_X10_targetOfDemand v4 x1.2) fun x2 =>
        if x2.1 = v3 then
          obind (m_X7_get 53 6 v4 x2.2) fun x3 =>
          obind (m_X6_holds x3.1 v2 x3.2) fun x4 =>
          if x4.1 = 0 then
            some (1, x4.2)
          else
            m_X10_refuses_15 fuel v1 v2 v3 (v4 + 1) x4.2
        else
          m_X10_refuses_15 fuel v1 v2 v3 (v4 + 1) x2.2

def m_X10_refuses (v1 v2 : Int32) (σ : Mem) : Option (Int32 × Mem) :=
  obind (m_X7_get 4 24 v2 σ) fun x1 =>
  m_X10_refuses_15 FU v1 v2 x1.1 0 x1.2

def m_X8_offer_82 (v1 v2 v3 : Int32) (σ : Mem) : Option (Int32 × Mem) :=
  obind (m_X7_set 71 30 v3 v2 σ) fun x1 =>
  obind (m_X7_get 73 6 v1 x1.2) fun x2 =>
  obind (m_X7_set 73 6 v1 (x2.1 + 1) x2.2) fun x3 =>
  some (0, x3.2)

def m_X8_offer_29 : Nat → Int32 → Int32 → Int32 → Int32 → Int32 → Mem → Option (Int32 × Mem)
  | 0, _, _, _, _, _, _ => none
  | fuel + 1, v1, v2, v3, v4, v5, σ =>
    if v3 ≤ v4 then
      m_X8_offer_82 v1 v2 v3 (σ)
    else
      obind (m_X7_get 71 30 (v3 - 1) σ) fun x1 =>
      obind (m_X5_worth v1 x1.1 x1.2) fun x2 =>
      if v5 ≤ x2.1 then
        m_X8_offer_82 v1 v2 v3 x2.2
      else
        obind (m_X7_get 71 30 (v3 - 1) x2.2) fun x3 =>
        obind (m_X7_set 71 30 v3 x3.1 x3.2) fun x4 =>
        m_X8_offer_29 fuel v1 v2 (v3 + (-1)) v4 v5 x4.2

def m_X8_offer (v1 v2 : Int32) (σ : Mem) : Option (Int32 × Mem) :=
  obind (m_X7_get 73 6 v1 σ) fun x1 =>
  obind (some ((v1 * 5) + x1.1)) fun y2 =>
  obind (some (v1 * 5)) fun y3 =>
  obind (m_X5_worth v1 v2 x1.2) fun x4 =>
  m_X8_offer_29 FU v1 v2 y2 y3 x4.1 x4.2

def m_X8_offerAll_78 (f37 : Int32 → Int32 → Int32 → Int32 → Int32 → Mem → Option (Int32 × Mem)) (v1 v2 v3 v4 v5 v6 : Int32) (σ : Mem) : Option (Int32 × Mem) :=
  obind (m_X10_refuses ((σ) 67 7) v6 σ) fun x1 =>
  if x1.1 = 0 then
    obind (m_X8_offer v1 v6 x1.2) fun x2 =>
    f37 v1 v2 v3 v4 (v5 + 1) x2.2
  else
    f37 v1 v2 v3 v4 (v5 + 1) x1.2

def m_X8_offerAll_37 : Nat → Int32 → Int32 → Int32 → Int32 → Int32 → Mem → Option (Int32 × Mem)
  | 0, _, _, _, _, _, _ => none
  | fuel + 1, v1, v2, v3, v4, v5, σ =>
    if 4 ≤ v5 then
      if v4 = 0 then
        obind (m_X10_demanded ((σ) 67 7) σ) fun x1 =>
        obind (m_X11_isIn x1.1 v1 x1.2) fun x2 =>
        if x2.1 = 0 then
          obind (m_X8_offer v1 (-1) x2.2) fun x3 =>
          some (0, x3.2)
        else
          some (0, x2.2)
      else
        some (0, σ)
    else
      obind (m_X9_member v1 v5 σ) fun x4 =>
      obind (m_X11_isIn v2 x4.1 x4.2) fun x5 =>
      if x5.1 = 0 then
        m_X8_offerAll_37 fuel v1 v2 v3 v4 (v5 + 1) x5.2
      else
        if v4 = 0 then
          m_X8_offerAll_78 (m_X8_offerAll_37 fuel) v1 v2 v3 v4 v5 x4.1 x5.2
        else
          if x4.1 = v3 then
            m_X8_offerAll_78 (m_X8_offerAll_37 fuel) v1 v2 v3 v4 v5 x4.1 x5.2
          else
            m_X8_offerAll_37 fuel v1 v2 v3 v4 (v5 + 1) x5.2

def m_X8_offerAll_23 (v1 v2 v3 s0 : Int32) (σ : Mem) : Option (Int32 × Mem) :=
  obind (m_X7_set 73 6 v1 0 σ) fun x1 =>
  m_X8_offerAll_37 FU v1 v2 v3 s0 0 x1.2

def m_X8_offerAll (v1 v2 v3 : Int32) (σ : Mem) : Option (Int32 × Mem) :=
  obind (m_X7_get 4 24 v3 σ) fun x1 =>
  if x1.1 = v1 then
    m_X8_offerAll_23 v1 v2 v3 1 x1.2
  else
    m_X8_offerAll_23 v1 v2 v3 0 x1.2

def m_X8_begin_78 (f53 : Int32 → Int32 → Int32 → Int32 → Mem → Option (Int32 × Mem)) (v2 v3 v4 v5 s1 s2 : Int32) (σ : Mem) : Option (Int32 × Mem) :=
  obind (m_X8_offerAll s1 s2 v2 σ) fun x1 =>
  f53 v2 v3 v4 (v5 + 1) x1.2

def m_X8_begin_53 : Nat → Int32 → Int32 → Int32 → Int32 → Mem → Option (Int32 × Mem)
  | 0, _, _, _, _, _ => none
  | fuel + 1, v2, v3, v4, v5, σ =>
    if 6 ≤ v5 then
      some (0, σ)
    else
      obind (m_X11_isIn v4 v5 σ) fun x1 =>
      if x1.1 = 0 then
        m_X8_begin_78 (m_X8_begin_53 fuel) v2 v3 v4 v5 v5 0 x1.2
      else
        m_X8_begin_78 (m_X8_begin_53 fuel) v2 v3 v4 v5 v5 v3 x1.2

def m_X8_begin (v1 v2 : Int32) (σ : Mem) : Option (Int32 × Mem) :=
  obind (some (up (σ) 67 7 v1)) fun m1 =>
  obind (some (up m1 67 8 6)) fun m2 =>
  obind (some (up m2 67 9 0)) fun m3 =>
  obind (m_X7_fill 75 6 0 m3) fun x4 =>
  obind (m_X7_fill 78 6 (-1) x4.2) fun x5 =>
  obind (m_X10_usable x5.2) fun x6 =>
  obind (m_X8_reachable x6.1 x6.2) fun x7 =>
  m_X8_begin_53 FU v2 x6.1 x7.1 0 x7.2

def m_X8_pickNext_67 (v1 v2 s1 s2 : Int32) (σ : Mem) : Option (Int32 × Mem) :=
  obind (m_X7_set 78 6 s1 s2 σ) fun x1 =>
  obind (m_X7_set 75 6 (x1.2 67 9) (v1 + 1) x1.2) fun x2 =>
  obind (zchk v2) fun z => some (z, x2.2)

def m_X8_pickNext_32 (v1 s0 : Int32) (σ : Mem) : Option (Int32 × Mem) :=
  if s0 = 0 then
    m_X8_pickNext_67 v1 s0 ((σ) 67 9) (-1) (σ)
  else
    obind (m_X7_get 71 30 ((((σ) 67 9) * 5) + v1) σ) fun x1 =>
    m_X8_pickNext_67 v1 s0 ((σ) 67 9) x1.1 x1.2

def m_X8_pickNext (σ : Mem) : Option (Int32 × Mem) :=
  obind (m_X7_get 75 6 ((σ) 67 9) σ) fun x1 =>
  obind (m_X7_get 73 6 (x1.2 67 9) x1.2) fun x2 =>
  if x2.1 ≤ x1.1 then
    m_X8_pickNext_32 x1.1 0 x2.2
  else
    m_X8_pickNext_32 x1.1 1 x2.2

def m_X8_next_2 : Nat → Int32 → Mem → Option (Int32 × Mem)
  | 0, _, _ => none
  | fuel + 1, v1, σ =>
    if 1000000 ≤ v1 then
      some (0, σ)
    else
      if ((σ) 67 9) < 0 then
        some (0, σ)
      else
        obind (m_X8_pickNext σ) fun x1 =>
        if x1.1 = 0 then
          obind (some (up x1.2 67 9 ((x1.2 67 9) - 1))) fun m8 =>
          m_X8_next_2 fuel (v1 + 1) m8
        else
          obind (m_X5_changes 78 6 (x1.2 67 9) x1.2) fun x2 =>
          if x2.1 ≤ (x2.2 67 8) then
            obind (m_X1_turnOn 78 80 (x2.2 67 7) x2.2) fun x3 =>
            obind (m_X1_standsUpTo 78 80 (x3.2 67 9) x3.2) fun x4 =>
            if x4.1 = 0 then
              m_X8_next_2 fuel (v1 + 1) x4.2
            else
              if 5 ≤ (x4.2 67 9) then
                obind (m_X1_isPulled 78 80 (x4.2 67 7) x4.2) fun x5 =>
                if x5.1 = 0 then
                  m_X8_next_2 fuel (v1 + 1) x5.2
                else
                  some (1, x5.2)
              else
                obind (some (up x4.2 67 9 ((x4.2 67 9) + 1))) fun m6 =>
                obind (m_X7_set 75 6 (m6 67 9) 0 m6) fun x7 =>
                m_X8_next_2 fuel (v1 + 1) x7.2
          else
            m_X8_next_2 fuel (v1 + 1) x2.2

def m_X8_next (σ : Mem) : Option (Int32 × Mem) :=
  m_X8_next_2 FU 0 (σ)

def m_X8_findBest_24 : Nat → Int32 → Int32 → Mem → Option (Int32 × Mem)
  | 0, _, _, _ => none
  | fuel + 1, v1, v2, σ =>
    if 6 < v2 then
      obind (zchk v1) fun z => some (z, σ)
    else
      obind (m_X8_next σ) fun x1 =>
      if x1.1 = 0 then
        obind (zchk v1) fun z => some (z, x1.2)
      else
        obind (m_X7_copy 69 6 78 6 x1.2) fun x2 =>
        obind (m_X5_changes 69 6 5 x2.2) fun x3 =>
        obind (some (up x3.2 67 8 (x3.1 - 1))) fun m4 =>
        m_X8_findBest_24 fuel 1 (v2 + 1) m4

def m_X8_findBest (σ : Mem) : Option (Int32 × Mem) :=
  obind (m_X5_demands σ) fun x1 =>
  obind (m_X8_begin x1.1 (-1) x1.2) fun x2 =>
  obind (m_X7_fill 69 6 (-1) x2.2) fun x3 =>
  m_X8_findBest_24 FU 0 0 x3.2

def m_X8_bestFeatures (v1 : Int32) (σ : Mem) : Option (Int32 × Mem) :=
  obind (m_X7_copy 78 6 69 6 σ) fun x1 =>
  obind (m_X1_turnOn 78 80 (x1.2 67 7) x1.2) fun x2 =>
  obind (m_X7_get 80 6 v1 x2.2) fun x3 =>
  some (x3.1, x3.2)

def m_X8_isSolvable (v1 : Int32) (σ : Mem) : Option (Int32 × Mem) :=
  obind (m_X8_begin v1 (-1) σ) fun x1 =>
  obind (m_X8_next x1.2) fun x2 =>
  obind (zchk x2.1) fun z => some (z, x2.2)

def m_X9_isFull (v1 : Int32) (σ : Mem) : Option (Int32 × Mem) :=
  obind (m_X7_get 16 6 v1 σ) fun x1 =>
  if 4 ≤ x1.1 then
    some (1, x1.2)
  else
    if (x1.2 2 10) < 24 then
      some (0, x1.2)
    else
      some (1, x1.2)

def m_X9_hasRank_2 : Nat → Int32 → Int32 → Int32 → Mem → Option (Int32 × Mem)
  | 0, _, _, _, _ => none
  | fuel + 1, v1, v2, v3, σ =>
    if 4 ≤ v3 then
      some (0, σ)
    else
      obind (m_X9_member v1 v3 σ) fun x1 =>
      obind (m_X7_get 6 24 x1.1 x1.2) fun x2 =>
      if x2.1 = v2 then
        some (1, x2.2)
      else
        m_X9_hasRank_2 fuel v1 v2 (v3 + 1) x2.2

def m_X9_hasRank (v1 v2 : Int32) (σ : Mem) : Option (Int32 × Mem) :=
  m_X9_hasRank_2 FU v1 v2 0 (σ)

def m_X9_add_118 (v5 : Int32) (σ : Mem) : Option (Int32 × Mem) :=
  obind (some (up (σ) 2 10 (((σ) 2 10) + 1))) fun m1 =>
  some (v5, m1)

def m_X9_add (v1 v2 v3 v4 : Int32) (σ : Mem) : Option (Int32 × Mem) :=
  obind (some ((σ) 2 10)) fun y1 =>
  obind (m_X7_set 4 24 y1 v1 σ) fun x2 =>
  obind (m_X7_set 6 24 y1 v2 x2.2) fun x3 =>
  obind (m_X7_set 8 24 y1 (((31 * y1) + v3) - ((31 * y1) + v3) / 9973 * 9973) x3.2) fun x4 =>
  obind (m_X7_get 16 6 v1 x4.2) fun x5 =>
  obind (m_X7_set 14 24 ((v1 * 4) + x5.1) y1 x5.2) fun x6 =>
  obind (m_X7_get 16 6 v1 x6.2) fun x7 =>
  obind (m_X7_set 16 6 v1 (x7.1 + 1) x7.2) fun x8 =>
  if v4 = 0 then
    obind (some (up x8.2 2 9 ((x8.2 2 9) ||| (1 <<< (v1 &&& 31))))) fun m10 =>
    m_X9_add_118 y1 m10
  else
    obind (some (up x8.2 2 8 ((x8.2 2 8) ||| (1 <<< (y1 &&& 31))))) fun m9 =>
    m_X9_add_118 y1 m9

def m_X9_toggleYanked (v1 : Int32) (σ : Mem) : Option (Int32 × Mem) :=
  obind (some (up (σ) 2 7 (((σ) 2 7) ^^^ (1 <<< (v1 &&& 31))))) fun m1 =>
  obind (m_X9_isYanked v1 m1) fun x2 =>
  obind (zchk x2.1) fun z => some (z, x2.2)

def m_X10_warn (v1 v2 : Int32) (σ : Mem) : Option (Int32 × Mem) :=
  obind (m_X7_set 59 8 ((σ) 1 9) v1 σ) fun x1 =>
  obind (m_X7_set 61 8 (x1.2 1 9) v2 x1.2) fun x2 =>
  obind (some (up x2.2 1 9 ((x2.2 1 9) + 1))) fun m3 =>
  some (m3 1 9, m3)

def m_X10_nextUsable_95 (f17 : Int32 → Int32 → Int32 → Int32 → Mem → Option (Int32 × Mem)) (v1 v2 v4 v5 : Int32) (σ : Mem) : Option (Int32 × Mem) :=
  f17 v1 v2 v5 (v4 + 1) (σ)

def m_X10_nextUsable_17 : Nat → Int32 → Int32 → Int32 → Int32 → Mem → Option (Int32 × Mem)
  | 0, _, _, _, _, _ => none
  | fuel + 1, v1, v2, v3, v4, σ =>
    if 4 ≤ v4 then
      some (v3, σ)
    else
      obind (m_X9_member v2 v4 σ) fun x1 =>
      obind (m_X7_get 6 24 x1.1 x1.2) fun x2 =>
      obind (m_X7_get 6 24 v1 x2.2) fun x3 =>
      if x2.1 ≤ x3.1 then
        m_X10_nextUsable_17 fuel v1 v2 v3 (v4 + 1) x3.2
      else
        obind (m_X10_flaw x1.1 x3.2) fun x4 =>
        if x4.1 = 0 then
          if v3 = (-1) then
            m_X10_nextUsable_95 (m_X10_nextUsable_17 fuel) v1 v2 v4 x1.1 x4.2
          else
            obind (m_X7_get 6 24 v3 x4.2) fun x5 =>
            if x5.1 ≤ x2.1 then
              m_X10_nextUsable_17 fuel v1 v2 v3 (v4 + 1) x5.2
            else
              m_X10_nextUsable_95 (m_X10_nextUsable_17 fuel) v1 v2 v4 x1.1 x5.2
        else
          m_X10_nextUsable_17 fuel v1 v2 v3 (v4 + 1) x4.2

def m_X10_nextUsable (v1 : Int32) (σ : Mem) : Option (Int32 × Mem) :=
  obind (m_X7_get 4 24 v1 σ) fun x1 =>
  m_X10_nextUsable_17 FU v1 x1.1 (-1) 0 x1.2

def m_X10_leadsTo_5 : Nat → Int32 → Int32 → Int32 → Mem → Option (Int32 × Mem)
  | 0, _, _, _, _ => none
  | fuel + 1, v2, v3, v4, σ =>
    if 6 ≤ v4 then
      some (0, σ)
    else
      if v3 = (-1) then
        some (0, σ)
      else
        if v3 = v2 then
          some (1, σ)
        else
          obind (m_X7_get 63 6 v3 σ) fun x1 =>
          m_X10_leadsTo_5 fuel v2 x1.1 (v4 + 1) x1.2

def m_X10_leadsTo (v1 v2 : Int32) (σ : Mem) : Option (Int32 × Mem) :=
  m_X10_leadsTo_5 FU v2 v1 0 (σ)

def m_X10_lastSuccessor_4 : Nat → Int32 → Int32 → Mem → Option (Int32 × Mem)
  | 0, _, _, _ => none
  | fuel + 1, v2, v3, σ =>
    if 6 ≤ v3 then
      some (v2, σ)
    else
      obind (m_X7_get 63 6 v2 σ) fun x1 =>
      if x1.1 = (-1) then
        some (v2, x1.2)
      else
        obind (m_X7_get 63 6 v2 x1.2) fun x2 =>
        m_X10_lastSuccessor_4 fuel x2.1 (v3 + 1) x2.2

def m_X10_lastSuccessor (v1 : Int32) (σ : Mem) : Option (Int32 × Mem) :=
  m_X10_lastSuccessor_4 FU v1 0 (σ)

def m_X10_redirect_13 : Nat → Int32 → Int32 → Mem → Option (Int32 × Mem)
  | 0, _, _, _ => none
  | fuel + 1, v3, v4, σ =>
    if 6 ≤ v4 then
      some (v3, σ)
    else
      obind (m_X10_lastSuccessor v4 σ) fun x1 =>
      obind (m_X7_set 65 6 v4 x1.1 x1.2) fun x2 =>
      m_X10_redirect_13 fuel v3 (v4 + 1) x2.2

def m_X10_redirect (v1 v2 : Int32) (σ : Mem) : Option (Int32 × Mem) :=
  obind (m_X7_exchange 63 6 v1 v2 σ) fun x1 =>
  m_X10_redirect_13 FU x1.1 0 x1.2

def m_X11_isPackage (v0 : Int32) (σ : Mem) : Option (Int32 × Mem) :=
  obind (m_X11_isUpTo 5 v0 σ) fun x1 =>
  obind (zchk x1.1) fun z => some (z, x1.2)

def m_X11_isDigit (v0 : Int32) (σ : Mem) : Option (Int32 × Mem) :=
  obind (m_X11_isUpTo 9 v0 σ) fun x1 =>
  obind (zchk x1.1) fun z => some (z, x1.2)

def m_X11_rankOf (v0 v1 v2 v3 : Int32) (σ : Mem) : Option (Int32 × Mem) :=
  obind (some ((((v0 <<< (4 &&& 31)) ||| v1) <<< (4 &&& 31)) ||| v2)) fun y1 =>
  if v3 = 0 then
    some ((y1 <<< (4 &&& 31)) ||| 10, σ)
  else
    some ((y1 <<< (4 &&& 31)) ||| v3, σ)

def m_X11_publish (v1 v2 v3 v4 v5 v6 : Int32) (σ : Mem) : Option ((Nat × Int32) × Mem) :=
  obind (m_X11_isPackage v1 σ) fun x1 =>
  if x1.1 = 0 then
    some ((1, 0), x1.2)
  else
    obind (m_X11_isUpTo 1 v6 x1.2) fun x2 =>
    if x2.1 = 0 then
      some ((1, 0), x2.2)
    else
      obind (m_X11_isDigit v2 x2.2) fun x3 =>
      if x3.1 = 0 then
        some ((2, 0), x3.2)
      else
        obind (m_X11_isDigit v3 x3.2) fun x4 =>
        if x4.1 = 0 then
          some ((2, 0), x4.2)
        else
          obind (m_X11_isDigit v4 x4.2) fun x5 =>
          if x5.1 = 0 then
            some ((2, 0), x5.2)
          else
            obind (m_X11_isDigit v5 x5.2) fun x6 =>
            if x6.1 = 0 then
              some ((2, 0), x6.2)
            else
              obind (m_X11_rankOf v2 v3 v4 v5 x6.2) fun x7 =>
              obind (m_X9_isFull v1 x7.2) fun x8 =>
              if x8.1 = 0 then
                obind (m_X9_hasRank v1 x7.1 x8.2) fun x9 =>
                if x9.1 = 0 then
                  obind (some (((((7 * v2) + (5 * v3)) + (3 * v4)) + v5) + 1)) fun y10 =>
                  obind (m_X9_add v1 x7.1 y10 v6 x9.2) fun x11 =>
                  obind (m_X6_take x11.1 x7.1 x11.2) fun x12 =>
                  some ((0, x11.1), x12.2)
                else
                  some ((3, 0), x9.2)
              else
                some ((3, 0), x8.2)

def m_X11_isVersion (v1 : Int32) (σ : Mem) : Option (Int32 × Mem) :=
  obind (m_X11_isUpTo (((σ) 2 10) - 1) v1 σ) fun x1 =>
  obind (zchk x1.1) fun z => some (z, x1.2)

def m_J6_compare_7cf53 (v0 v1 : Int32) (σ : Mem) : Option (Int32 × Mem) :=
  if v1 ≤ v0 then
    if v0 = v1 then
      some (0, σ)
    else
      some (1, σ)
  else
    some ((-1), σ)

def m_X11_compare (v1 v2 : Int32) (σ : Mem) : Option ((Nat × Int32) × Mem) :=
  obind (m_X11_isVersion v1 σ) fun x1 =>
  if x1.1 = 0 then
    some ((1, 0), x1.2)
  else
    obind (m_X11_isVersion v2 x1.2) fun x2 =>
    if x2.1 = 0 then
      some ((1, 0), x2.2)
    else
      obind (m_X7_get 4 24 v1 x2.2) fun x3 =>
      obind (m_X7_get 4 24 v2 x3.2) fun x4 =>
      if x3.1 = x4.1 then
        obind (m_X7_get 6 24 v1 x4.2) fun x5 =>
        obind (m_X7_get 6 24 v2 x5.2) fun x6 =>
        obind (m_J6_compare_7cf53 x5.1 x6.1 x6.2) fun x7 =>
        some ((0, x7.1), x7.2)
      else
        some ((2, 0), x4.2)

def m_X11_yank (v1 : Int32) (σ : Mem) : Option ((Nat × Int32) × Mem) :=
  obind (m_X11_isVersion v1 σ) fun x1 =>
  if x1.1 = 0 then
    some ((1, 0), x1.2)
  else
    obind (m_X9_toggleYanked v1 x1.2) fun x2 =>
    obind (zchk x2.1) fun z => some ((0, z), x2.2)

def m_X11_setPlatforms (v1 v2 : Int32) (σ : Mem) : Option ((Nat × Int32) × Mem) :=
  obind (m_X11_isVersion v1 σ) fun x1 =>
  if x1.1 = 0 then
    some ((1, 0), x1.2)
  else
    obind (m_X11_isUpTo 7 v2 x1.2) fun x2 =>
    if x2.1 = 0 then
      some ((2, 0), x2.2)
    else
      obind (m_X7_exchange 10 24 v1 v2 x2.2) fun x3 =>
      some ((0, x3.1), x3.2)

def m_X11_bring (v1 v2 v3 : Int32) (σ : Mem) : Option ((Nat × Int32) × Mem) :=
  obind (m_X11_isVersion v1 σ) fun x1 =>
  if x1.1 = 0 then
    some ((1, 0), x1.2)
  else
    obind (m_X11_isUpTo 2 v2 x1.2) fun x2 =>
    if x2.1 = 0 then
      some ((1, 0), x2.2)
    else
      obind (m_X11_isUpTo 2 v3 x2.2) fun x3 =>
      if x3.1 = 0 then
        some ((1, 0), x3.2)
      else
        obind (m_X7_merge 12 72 ((v1 * 3) + v2) (1 <<< (v3 &&& 31)) x3.2) fun x4 =>
        obind (zchk x4.1) fun z => some ((0, z), x4.2)

def m_X11_hasWholeVersion (v0 : Int32) (σ : Mem) : Option (Int32 × Mem) :=
  if v0 = 3 then
    some (0, σ)
  else
    if v0 = 6 then
      some (0, σ)
    else
      if v0 = 7 then
        some (0, σ)
      else
        some (1, σ)

def m_X11_endOfCompatible (v0 v1 v2 : Int32) (σ : Mem) : Option (Int32 × Mem) :=
  if v0 ≤ 0 then
    if v1 ≤ 0 then
      obind (m_X11_rankOf 0 0 (v2 + 1) 0 σ) fun x1 =>
      some (x1.1, x1.2)
    else
      obind (m_X11_rankOf 0 (v1 + 1) 0 0 σ) fun x2 =>
      some (x2.1, x2.2)
  else
    obind (m_X11_rankOf (v0 + 1) 0 0 0 σ) fun x3 =>
    some (x3.1, x3.2)

def m_X11_endOf (v0 v1 v2 v3 v4 : Int32) (σ : Mem) : Option (Int32 × Mem) :=
  if v0 = 0 then
    some (v4 + 1, σ)
  else if v0 = 1 then
    some (65536, σ)
  else if v0 = 2 then
    some (v4, σ)
  else if v0 = 3 then
    some (65536, σ)
  else if v0 = 4 then
    obind (m_X11_endOfCompatible v1 v2 v3 σ) fun x1 =>
    some (x1.1, x1.2)
  else if v0 = 5 then
    obind (m_X11_rankOf v1 (v2 + 1) 0 0 σ) fun x2 =>
    some (x2.1, x2.2)
  else if v0 = 6 then
    obind (m_X11_rankOf (v1 + 1) 0 0 0 σ) fun x3 =>
    some (x3.1, x3.2)
  else if v0 = 7 then
    obind (m_X11_rankOf v1 (v2 + 1) 0 0 σ) fun x4 =>
    some (x4.1, x4.2)
  else 
    some (65536, σ)

def m_X11_range_202 (s1 s2 s3 : Int32) (σ : Mem) : Option ((Nat × Int32) × Mem) :=
  obind (m_X6_add s1 s2 s3 σ) fun x1 =>
  some ((0, x1.1), x1.2)

def m_X11_range_163 (v1 v2 v3 v4 v5 v6 s0 : Int32) (σ : Mem) : Option ((Nat × Int32) × Mem) :=
  obind (m_X11_endOf v1 v2 v3 v4 v6 σ) fun x1 =>
  if v5 = 0 then
    m_X11_range_202 s0 x1.1 (-1) x1.2
  else
    obind (m_X11_triple v6 x1.2) fun x2 =>
    m_X11_range_202 s0 x1.1 x2.1 x2.2

def m_X11_range_95 (v1 v2 v3 v4 v5 s0 : Int32) (σ : Mem) : Option ((Nat × Int32) × Mem) :=
  obind (m_X11_isUpTo s0 v5 σ) fun x1 =>
  if x1.1 = 0 then
    some ((2, 0), x1.2)
  else
    obind (m_X6_isFull x1.2) fun x2 =>
    if x2.1 = 0 then
      obind (m_X11_rankOf v2 v3 v4 v5 x2.2) fun x3 =>
      if v1 = 2 then
        m_X11_range_163 v1 v2 v3 v4 v5 x3.1 0 x3.2
      else
        if v1 = 3 then
          m_X11_range_163 v1 v2 v3 v4 v5 x3.1 0 x3.2
        else
          m_X11_range_163 v1 v2 v3 v4 v5 x3.1 x3.1 x3.2
    else
      some ((3, 0), x2.2)

def m_X11_range_74 (v1 v2 v3 v4 v5 s0 : Int32) (σ : Mem) : Option ((Nat × Int32) × Mem) :=
  obind (m_X11_isUpTo s0 v4 σ) fun x1 =>
  if x1.1 = 0 then
    some ((2, 0), x1.2)
  else
    obind (m_X11_hasWholeVersion v1 x1.2) fun x2 =>
    if x2.1 = 0 then
      m_X11_range_95 v1 v2 v3 v4 v5 0 x2.2
    else
      m_X11_range_95 v1 v2 v3 v4 v5 9 x2.2

def m_X11_range_54 (v1 v2 v3 v4 v5 s0 : Int32) (σ : Mem) : Option ((Nat × Int32) × Mem) :=
  obind (m_X11_isUpTo s0 v3 σ) fun x1 =>
  if x1.1 = 0 then
    some ((2, 0), x1.2)
  else
    obind (m_X11_hasWholeVersion v1 x1.2) fun x2 =>
    if x2.1 = 0 then
      m_X11_range_74 v1 v2 v3 v4 v5 0 x2.2
    else
      m_X11_range_74 v1 v2 v3 v4 v5 9 x2.2

def m_X11_range_30 (v1 v2 v3 v4 v5 s0 : Int32) (σ : Mem) : Option ((Nat × Int32) × Mem) :=
  obind (m_X11_isUpTo s0 v2 σ) fun x1 =>
  if x1.1 = 0 then
    some ((2, 0), x1.2)
  else
    if v1 = 3 then
      m_X11_range_54 v1 v2 v3 v4 v5 0 x1.2
    else
      if v1 = 6 then
        m_X11_range_54 v1 v2 v3 v4 v5 0 x1.2
      else
        m_X11_range_54 v1 v2 v3 v4 v5 9 x1.2

def m_X11_range (v1 v2 v3 v4 v5 : Int32) (σ : Mem) : Option ((Nat × Int32) × Mem) :=
  obind (m_X11_isUpTo 7 v1 σ) fun x1 =>
  if x1.1 = 0 then
    some ((1, 0), x1.2)
  else
    if v1 = 3 then
      m_X11_range_30 v1 v2 v3 v4 v5 0 x1.2
    else
      m_X11_range_30 v1 v2 v3 v4 v5 9 x1.2

def m_X11_isRange (v1 : Int32) (σ : Mem) : Option (Int32 × Mem) :=
  obind (m_X11_isUpTo (((σ) 17 7) - 1) v1 σ) fun x1 =>
  obind (zchk x1.1) fun z => some (z, x1.2)

def m_X11_join_12 (v1 v2 v3 : Int32) (σ : Mem) : Option ((Nat × Int32) × Mem) :=
  obind (m_X11_isRange v2 σ) fun x1 =>
  if x1.1 = 0 then
    some ((1, 0), x1.2)
  else
    obind (m_X11_isRange v3 x1.2) fun x2 =>
    if x2.1 = 0 then
      some ((1, 0), x2.2)
    else
      obind (m_X6_isFull x2.2) fun x3 =>
      if x3.1 = 0 then
        obind (m_X6_addJoined v1 v2 v3 x3.2) fun x4 =>
        some ((0, x4.1), x4.2)
      else
        some ((3, 0), x3.2)

def m_X11_join (v1 v2 v3 : Int32) (σ : Mem) : Option ((Nat × Int32) × Mem) :=
  if v1 = 8 then
    m_X11_join_12 v1 v2 v3 (σ)
  else
    if v1 = 9 then
      m_X11_join_12 v1 v2 v3 (σ)
    else
      some ((1, 0), σ)

def m_X11_has (v1 v2 : Int32) (σ : Mem) : Option ((Nat × Int32) × Mem) :=
  obind (m_X11_isRange v1 σ) fun x1 =>
  if x1.1 = 0 then
    some ((1, 0), x1.2)
  else
    obind (m_X11_isVersion v2 x1.2) fun x2 =>
    if x2.1 = 0 then
      some ((1, 0), x2.2)
    else
      obind (m_X6_holds v1 v2 x2.2) fun x3 =>
      obind (zchk x3.1) fun z => some ((0, z), x3.2)

def m_X11_need_57 (v1 v2 v3 v4 v5 v6 v7 : Int32) (σ : Mem) : Option ((Nat × Int32) × Mem) :=
  obind (m_X11_isUpTo 7 v6 σ) fun x1 =>
  if x1.1 = 0 then
    some ((2, 0), x1.2)
  else
    obind (m_X11_isUpTo 7 v7 x1.2) fun x2 =>
    if x2.1 = 0 then
      some ((2, 0), x2.2)
    else
      obind (m_X4_isFull v1 x2.2) fun x3 =>
      if x3.1 = 0 then
        obind (m_X4_add v1 v2 v3 v4 v5 v6 v7 x3.2) fun x4 =>
        some ((0, x4.1), x4.2)
      else
        some ((3, 0), x3.2)

def m_X11_need (v1 v2 v3 v4 v5 v6 v7 : Int32) (σ : Mem) : Option ((Nat × Int32) × Mem) :=
  obind (m_X11_isVersion v1 σ) fun x1 =>
  if x1.1 = 0 then
    some ((1, 0), x1.2)
  else
    obind (m_X11_isPackage v2 x1.2) fun x2 =>
    if x2.1 = 0 then
      some ((1, 0), x2.2)
    else
      obind (m_X11_isRange v3 x2.2) fun x3 =>
      if x3.1 = 0 then
        some ((1, 0), x3.2)
      else
        obind (m_X11_isUpTo 2 v4 x3.2) fun x4 =>
        if x4.1 = 0 then
          some ((1, 0), x4.2)
        else
          if v5 = (-1) then
            m_X11_need_57 v1 v2 v3 v4 v5 v6 v7 x4.2
          else
            obind (m_X11_isUpTo 2 v5 x4.2) fun x5 =>
            if x5.1 = 0 then
              some ((1, 0), x5.2)
            else
              m_X11_need_57 v1 v2 v3 v4 v5 v6 v7 x5.2

def m_X11_demand (v1 v2 v3 v4 : Int32) (σ : Mem) : Option ((Nat × Int32) × Mem) :=
  obind (m_X11_isUpTo 2 v1 σ) fun x1 =>
  if x1.1 = 0 then
    some ((1, 0), x1.2)
  else
    obind (m_X11_isPackage v2 x1.2) fun x2 =>
    if x2.1 = 0 then
      some ((1, 0), x2.2)
    else
      obind (m_X11_isRange v3 x2.2) fun x3 =>
      if x3.1 = 0 then
        some ((1, 0), x3.2)
      else
        obind (m_X11_isUpTo 7 v4 x3.2) fun x4 =>
        if x4.1 = 0 then
          some ((2, 0), x4.2)
        else
          obind (m_X2_isFull x4.2) fun x5 =>
          if x5.1 = 0 then
            obind (m_X2_add v1 v2 v3 v4 x5.2) fun x6 =>
            some ((0, x6.1), x6.2)
          else
            some ((3, 0), x5.2)

def m_X11_advise (v1 v2 : Int32) (σ : Mem) : Option ((Nat × Int32) × Mem) :=
  obind (m_X11_isPackage v1 σ) fun x1 =>
  if x1.1 = 0 then
    some ((1, 0), x1.2)
  else
    obind (m_X11_isRange v2 x1.2) fun x2 =>
    if x2.1 = 0 then
      some ((1, 0), x2.2)
    else
      if (x2.2 1 9) < 8 then
        obind (m_X10_warn v1 v2 x2.2) fun x3 =>
        some ((0, x3.1), x3.2)
      else
        some ((3, 0), x2.2)

def m_X11_mending (v1 : Int32) (σ : Mem) : Option ((Nat × Int32) × Mem) :=
  obind (m_X11_isVersion v1 σ) fun x1 =>
  if x1.1 = 0 then
    some ((1, 0), x1.2)
  else
    obind (m_X10_nextUsable v1 x1.2) fun x2 =>
    some ((0, x2.1), x2.2)

def m_X11_replace_29 (v1 v2 : Int32) (σ : Mem) : Option ((Nat × Int32) × Mem) :=
  obind (m_X10_leadsTo v2 v1 σ) fun x1 =>
  if x1.1 = 0 then
    obind (m_X10_redirect v1 v2 x1.2) fun x2 =>
    some ((0, x2.1), x2.2)
  else
    some ((3, 0), x1.2)

def m_X11_replace (v1 v2 : Int32) (σ : Mem) : Option ((Nat × Int32) × Mem) :=
  obind (m_X11_isPackage v1 σ) fun x1 =>
  if x1.1 = 0 then
    some ((1, 0), x1.2)
  else
    if v2 = (-1) then
      m_X11_replace_29 v1 v2 x1.2
    else
      obind (m_X11_isPackage v2 x1.2) fun x2 =>
      if x2.1 = 0 then
        some ((1, 0), x2.2)
      else
        m_X11_replace_29 v1 v2 x2.2

def m_X11_setPlatform (v1 : Int32) (σ : Mem) : Option ((Nat × Int32) × Mem) :=
  obind (m_X11_isUpTo 2 v1 σ) fun x1 =>
  if x1.1 = 0 then
    some ((1, 0), x1.2)
  else
    obind (some (x1.2 1 10)) fun y2 =>
    obind (some (up x1.2 1 10 v1)) fun m3 =>
    some ((0, y2), m3)

def m_X11_solve (v1 v2 : Int32) (σ : Mem) : Option ((Nat × Int32) × Mem) :=
  obind (m_X11_isUpTo 7 v1 σ) fun x1 =>
  if x1.1 = 0 then
    some ((2, 0), x1.2)
  else
    obind (m_X11_isUpTo 63 v2 x1.2) fun x2 =>
    if x2.1 = 0 then
      some ((2, 0), x2.2)
    else
      obind (some (up x2.2 66 1 v1)) fun m3 =>
      obind (some (up m3 66 2 v2)) fun m4 =>
      obind (m_X8_findBest m4) fun x5 =>
      if x5.1 = 0 then
        some ((0, (-1)), x5.2)
      else
        obind (m_X7_count 69 6 (-1) x5.2) fun x6 =>
        some ((0, 6 - x6.1), x6.2)

def m_X11_chosen (v1 : Int32) (σ : Mem) : Option ((Nat × Int32) × Mem) :=
  obind (m_X11_isPackage v1 σ) fun x1 =>
  if x1.1 = 0 then
    some ((1, 0), x1.2)
  else
    obind (m_X8_findBest x1.2) fun x2 =>
    if x2.1 = 0 then
      some ((0, (-1)), x2.2)
    else
      obind (m_X7_get 69 6 v1 x2.2) fun x3 =>
      some ((0, x3.1), x3.2)

def m_X11_chosenAnew (v1 : Int32) (σ : Mem) : Option ((Nat × Int32) × Mem) :=
  obind (m_X11_isPackage v1 σ) fun x1 =>
  if x1.1 = 0 then
    some ((1, 0), x1.2)
  else
    obind (m_X0_findBest x1.2) fun x2 =>
    if x2.1 = 0 then
      some ((0, (-1)), x2.2)
    else
      obind (m_X7_get 83 6 v1 x2.2) fun x3 =>
      some ((0, x3.1), x3.2)

def m_X11_features (v1 : Int32) (σ : Mem) : Option ((Nat × Int32) × Mem) :=
  obind (m_X11_isPackage v1 σ) fun x1 =>
  if x1.1 = 0 then
    some ((1, 0), x1.2)
  else
    obind (m_X8_findBest x1.2) fun x2 =>
    if x2.1 = 0 then
      some ((0, 0), x2.2)
    else
      obind (m_X7_get 69 6 v1 x2.2) fun x3 =>
      if x3.1 = (-1) then
        some ((0, 0), x3.2)
      else
        obind (m_X8_bestFeatures v1 x3.2) fun x4 =>
        some ((0, x4.1), x4.2)

def m_X11_solutions_17 : Nat → Int32 → Mem → Option (Int32 × Mem)
  | 0, _, _ => none
  | fuel + 1, v1, σ =>
    if 1000 ≤ v1 then
      some (v1, σ)
    else
      obind (m_X8_next σ) fun x1 =>
      if x1.1 = 0 then
        some (v1, x1.2)
      else
        m_X11_solutions_17 fuel (v1 + 1) x1.2

def m_X11_solutions (σ : Mem) : Option (Int32 × Mem) :=
  obind (m_X5_demands σ) fun x1 =>
  obind (m_X8_begin x1.1 (-1) x1.2) fun x2 =>
  m_X11_solutions_17 FU 0 x2.2

def m_J6_bitCount_0f7a4 (v0 : Int32) (σ : Mem) : Option (Int32 × Mem) :=
  obind (some (v0 - ((ushr v0 1) &&& 1431655765))) fun y1 =>
  obind (some ((y1 &&& 858993459) + ((ushr y1 2) &&& 858993459))) fun y2 =>
  obind (some ((y2 + (ushr y2 4)) &&& 252645135)) fun y3 =>
  obind (some (y3 + (ushr y3 8))) fun y4 =>
  obind (some (y4 + (ushr y4 16))) fun y5 =>
  some (y5 &&& 63, σ)

def m_X11_why_31 (f23 : Int32 → Int32 → Mem → Option (Int32 × Mem)) : Nat → Int32 → Int32 → Int32 → Mem → Option (Int32 × Mem)
  | 0, _, _, _, _ => none
  | fuel + 1, v1, v2, v3, σ =>
    if v1 < v3 then
      f23 v1 (v2 + 1) (σ)
    else
      if (v3 &&& (v1 ^^^ (-1))) = 0 then
        obind (m_J6_bitCount_0f7a4 v3 σ) fun x1 =>
        if x1.1 = v2 then
          obind (m_X8_isSolvable v3 x1.2) fun x2 =>
          if x2.1 = 0 then
            some (v3, x2.2)
          else
            m_X11_why_31 f23 fuel v1 v2 (v3 + 1) x2.2
        else
          m_X11_why_31 f23 fuel v1 v2 (v3 + 1) x1.2
      else
        m_X11_why_31 f23 fuel v1 v2 (v3 + 1) (σ)

def m_X11_why_23 : Nat → Int32 → Int32 → Mem → Option (Int32 × Mem)
  | 0, _, _, _ => none
  | fuel + 1, v1, v2, σ =>
    if 6 < v2 then
      some (v1, σ)
    else
      m_X11_why_31 (m_X11_why_23 fuel) FU v1 v2 1 (σ)

def m_X11_why (σ : Mem) : Option (Int32 × Mem) :=
  obind (m_X5_demands σ) fun x1 =>
  obind (m_X8_isSolvable x1.1 x1.2) fun x2 =>
  if x2.1 = 0 then
    m_X11_why_23 FU x1.1 1 x2.2
  else
    some (0, x2.2)

def m_X11_against (v1 : Int32) (σ : Mem) : Option ((Nat × Int32) × Mem) :=
  obind (m_X11_isVersion v1 σ) fun x1 =>
  if x1.1 = 0 then
    some ((1, 0), x1.2)
  else
    obind (m_X10_flaw v1 x1.2) fun x2 =>
    if x2.1 = 0 then
      obind (m_X5_demands x2.2) fun x3 =>
      obind (m_X10_refuses x3.1 v1 x3.2) fun x4 =>
      if x4.1 = 0 then
        obind (m_X5_demands x4.2) fun x5 =>
        obind (m_X8_begin x5.1 v1 x5.2) fun x6 =>
        obind (m_X8_next x6.2) fun x7 =>
        if x7.1 = 0 then
          some ((0, 6), x7.2)
        else
          obind (m_X7_get 4 24 v1 x7.2) fun x8 =>
          obind (m_X8_findBest x8.2) fun x9 =>
          if x9.1 = 0 then
            some ((0, 7), x9.2)
          else
            obind (m_X7_get 69 6 x8.1 x9.2) fun x10 =>
            if x10.1 = v1 then
              some ((0, 0), x10.2)
            else
              some ((0, 7), x10.2)
      else
        some ((0, 5), x4.2)
    else
      some ((0, x2.1), x2.2)

def m_X11_lock_25 : Nat → Int32 → Int32 → Mem → Option ((Nat × Int32) × Mem)
  | 0, _, _, _ => none
  | fuel + 1, v1, v2, σ =>
    if 6 ≤ v2 then
      some ((0, v1), σ)
    else
      obind (m_X7_get 69 6 v2 σ) fun x1 =>
      obind (m_X7_exchange 57 6 v2 x1.1 x1.2) fun x2 =>
      if x2.1 = x1.1 then
        m_X11_lock_25 fuel v1 (v2 + 1) x2.2
      else
        m_X11_lock_25 fuel (v1 + 1) (v2 + 1) x2.2

def m_X11_lock (σ : Mem) : Option ((Nat × Int32) × Mem) :=
  obind (m_X8_findBest σ) fun x1 =>
  if x1.1 = 0 then
    some ((3, 0), x1.2)
  else
    m_X11_lock_25 FU 0 0 x1.2

def m_X11_unlock (v1 : Int32) (σ : Mem) : Option ((Nat × Int32) × Mem) :=
  obind (m_X11_isPackage v1 σ) fun x1 =>
  if x1.1 = 0 then
    some ((1, 0), x1.2)
  else
    obind (m_X7_exchange 57 6 v1 (-1) x1.2) fun x2 =>
    some ((0, x2.1), x2.2)

def m_X11_install_47 : Nat → Int32 → Int32 → Int32 → Mem → Option ((Nat × Int32) × Mem)
  | 0, _, _, _, _ => none
  | fuel + 1, v1, v2, v3, σ =>
    if 6 ≤ v3 then
      some ((0, v2), σ)
    else
      if v1 ≤ v2 then
        some ((0, v2), σ)
      else
        obind (m_X7_get 69 6 v3 σ) fun x1 =>
        obind (m_X7_get 8 24 x1.1 x1.2) fun x2 =>
        obind (m_X3_differs v3 x1.1 x2.1 x2.2) fun x3 =>
        if x3.1 = 0 then
          m_X11_install_47 fuel v1 v2 (v3 + 1) x3.2
        else
          obind (m_X3_put v3 x1.1 x2.1 x3.2) fun x4 =>
          m_X11_install_47 fuel v1 (v2 + 1) (v3 + 1) x4.2

def m_X11_install (v1 : Int32) (σ : Mem) : Option ((Nat × Int32) × Mem) :=
  if v1 < 1 then
    some ((2, 0), σ)
  else
    if v1 ≤ 10 then
      obind (m_X8_findBest σ) fun x1 =>
      if x1.1 = 0 then
        some ((3, 0), x1.2)
      else
        m_X11_install_47 FU v1 0 0 x1.2
    else
      some ((2, 0), σ)

def m_X11_spoil (v1 : Int32) (σ : Mem) : Option ((Nat × Int32) × Mem) :=
  obind (m_X11_isPackage v1 σ) fun x1 =>
  if x1.1 = 0 then
    some ((1, 0), x1.2)
  else
    obind (m_X7_get 91 6 v1 x1.2) fun x2 =>
    if x2.1 = (-1) then
      some ((3, 0), x2.2)
    else
      obind (m_X7_get 93 6 v1 x2.2) fun x3 =>
      obind (some (x3.1 + 1)) fun y4 =>
      obind (m_X7_set 93 6 v1 y4 x3.2) fun x5 =>
      some ((0, y4), x5.2)

def m_X11_onDisk (v1 : Int32) (σ : Mem) : Option ((Nat × Int32) × Mem) :=
  obind (m_X11_isPackage v1 σ) fun x1 =>
  if x1.1 = 0 then
    some ((1, 0), x1.2)
  else
    obind (m_X7_get 91 6 v1 x1.2) fun x2 =>
    if x2.1 = (-1) then
      some ((0, (-1)), x2.2)
    else
      obind (m_X7_get 93 6 v1 x2.2) fun x3 =>
      some ((0, (10000 * x2.1) + x3.1), x3.2)

def m_X11_pending_16 : Nat → Int32 → Int32 → Mem → Option (Int32 × Mem)
  | 0, _, _, _ => none
  | fuel + 1, v1, v2, σ =>
    if 6 ≤ v2 then
      some (v1, σ)
    else
      obind (m_X7_get 69 6 v2 σ) fun x1 =>
      obind (m_X7_get 8 24 x1.1 x1.2) fun x2 =>
      obind (m_X3_differs v2 x1.1 x2.1 x2.2) fun x3 =>
      if x3.1 = 0 then
        m_X11_pending_16 fuel v1 (v2 + 1) x3.2
      else
        m_X11_pending_16 fuel (v1 + 1) (v2 + 1) x3.2

def m_X11_pending (σ : Mem) : Option (Int32 × Mem) :=
  obind (m_X8_findBest σ) fun x1 =>
  if x1.1 = 0 then
    some ((-1), x1.2)
  else
    m_X11_pending_16 FU 0 0 x1.2

def m_X12_thrown (σ : Mem) : Option (Int32 × Mem) :=
  some ((σ) 94 0, σ)

def m_X12_goesWell (v1 : Int32) (σ : Mem) : Option (Int32 × Mem) :=
  obind (some (up (σ) 94 0 v1)) fun m1 =>
  if v1 = 0 then
    some (1, m1)
  else
    some (0, m1)

def m_X12_in (v0 v1 v2 : Int32) (σ : Mem) : Option (Int32 × Mem) :=
  if v0 < v1 then
    some (0, σ)
  else
    if v2 < v0 then
      some (0, σ)
    else
      some (1, σ)

def m_X12_isPackage (v0 : Int32) (σ : Mem) : Option (Int32 × Mem) :=
  obind (m_X12_in v0 0 5 σ) fun x1 =>
  obind (zchk x1.1) fun z => some (z, x1.2)

def m_X12_isVersion (v1 : Int32) (σ : Mem) : Option (Int32 × Mem) :=
  obind (m_X12_in v1 0 (((σ) 94 1) - 1) σ) fun x1 =>
  obind (zchk x1.1) fun z => some (z, x1.2)

def m_X12_isRange (v1 : Int32) (σ : Mem) : Option (Int32 × Mem) :=
  obind (m_X12_in v1 0 (((σ) 94 2) - 1) σ) fun x1 =>
  obind (zchk x1.1) fun z => some (z, x1.2)

def m_X12_packageOf (v1 : Int32) (σ : Mem) : Option (Int32 × Mem) :=
  obind (ald σ 95 216 (9 * v1)) fun x1 =>
  some (x1, σ)

def m_X12_compareTo_72 (v5 v6 s0 : Int32) (σ : Mem) : Option (Int32 × Mem) :=
  if s0 = 0 then
    obind (ald σ 95 216 (v6 + 4)) fun x1 =>
    if x1 = v5 then
      some (s0, σ)
    else
      obind (ald σ 95 216 (v6 + 4)) fun x2 =>
      if x2 = 0 then
        some (1, σ)
      else
        if v5 = 0 then
          some ((-1), σ)
        else
          obind (ald σ 95 216 (v6 + 4)) fun x3 =>
          some (x3 - v5, σ)
  else
    some (s0, σ)

def m_X12_compareTo (v1 v2 v3 v4 v5 : Int32) (σ : Mem) : Option (Int32 × Mem) :=
  obind (some (9 * v1)) fun y1 =>
  obind (ald σ 95 216 (y1 + 1)) fun x2 =>
  if x2 = v2 then
    obind (ald σ 95 216 (y1 + 2)) fun x3 =>
    if x3 = v3 then
      obind (ald σ 95 216 (y1 + 3)) fun x4 =>
      m_X12_compareTo_72 v5 y1 (x4 - v4) (σ)
    else
      obind (ald σ 95 216 (y1 + 2)) fun x5 =>
      m_X12_compareTo_72 v5 y1 (x5 - v3) (σ)
  else
    obind (ald σ 95 216 (y1 + 1)) fun x6 =>
    m_X12_compareTo_72 v5 y1 (x6 - v2) (σ)

def m_X12_compared (v1 v2 : Int32) (σ : Mem) : Option (Int32 × Mem) :=
  obind (some (9 * v2)) fun y1 =>
  obind (ald σ 95 216 (y1 + 1)) fun x2 =>
  obind (ald σ 95 216 (y1 + 2)) fun x3 =>
  obind (ald σ 95 216 (y1 + 3)) fun x4 =>
  obind (ald σ 95 216 (y1 + 4)) fun x5 =>
  obind (m_X12_compareTo v1 x2 x3 x4 x5 σ) fun x6 =>
  some (x6.1, x6.2)

def m_X12_isIn_374 (s0 : Int32) (σ : Mem) : Option (Int32 × Mem) :=
  if 0 ≤ s0 then
    some (0, σ)
  else
    some (1, σ)

def m_X12_isIn_237 (v2 v4 v5 v6 v8 v9 : Int32) (σ : Mem) : Option (Int32 × Mem) :=
  if v8 = 0 then
    if v9 = 0 then
      some (1, σ)
    else
      some (0, σ)
  else if v8 = 1 then
    if v9 < 0 then
      some (0, σ)
    else
      some (1, σ)
  else if v8 = 2 then
    if 0 ≤ v9 then
      some (0, σ)
    else
      some (1, σ)
  else if v8 = 3 then
    some (1, σ)
  else if v8 = 4 then
    if v9 < 0 then
      some (0, σ)
    else
      if v4 ≤ 0 then
        if v5 ≤ 0 then
          obind (m_X12_compareTo v2 0 0 (v6 + 1) 0 σ) fun x1 =>
          m_X12_isIn_374 x1.1 x1.2
        else
          obind (m_X12_compareTo v2 0 (v5 + 1) 0 0 σ) fun x2 =>
          m_X12_isIn_374 x2.1 x2.2
      else
        obind (m_X12_compareTo v2 (v4 + 1) 0 0 0 σ) fun x3 =>
        m_X12_isIn_374 x3.1 x3.2
  else if v8 = 5 then
    if v9 < 0 then
      some (0, σ)
    else
      obind (m_X12_compareTo v2 v4 (v5 + 1) 0 0 σ) fun x4 =>
      if 0 ≤ x4.1 then
        some (0, x4.2)
      else
        some (1, x4.2)
  else if v8 = 6 then
    obind (ald σ 95 216 ((9 * v2) + 1)) fun x5 =>
    if x5 = v4 then
      some (1, σ)
    else
      some (0, σ)
  else if v8 = 7 then
    obind (ald σ 95 216 ((9 * v2) + 1)) fun x6 =>
    if x6 = v4 then
      obind (ald σ 95 216 ((9 * v2) + 2)) fun x7 =>
      if x7 = v5 then
        some (1, σ)
      else
        some (0, σ)
    else
      some (0, σ)
  else 
    some (1, σ)

def m_X12_isIn_217 (v2 v4 v5 v6 v7 v8 v9 s0 : Int32) (σ : Mem) : Option (Int32 × Mem) :=
  if v8 = 3 then
    some (0, σ)
  else
    if v7 = 0 then
      some (0, σ)
    else
      if s0 = 0 then
        some (0, σ)
      else
        m_X12_isIn_237 v2 v4 v5 v6 v8 v9 (σ)

def m_X12_isIn_216 (v2 v4 v5 v6 v7 v8 v9 : Int32) (σ : Mem) : Option (Int32 × Mem) :=
  m_X12_isIn_217 v2 v4 v5 v6 v7 v8 v9 0 (σ)

def m_X12_isIn_66 (v2 v4 v5 v8 : Int32) (σ : Mem) : Option (Int32 × Mem) :=
  obind (ald σ 99 720 ((24 * v4) + v2)) fun x1 =>
  obind (ald σ 99 720 ((24 * v5) + v2)) fun x2 =>
  if v8 = 8 then
    if x1 = 0 then
      some (0, σ)
    else
      if x2 = 0 then
        some (0, σ)
      else
        some (1, σ)
  else
    if x1 = 0 then
      if x2 = 0 then
        some (0, σ)
      else
        some (1, σ)
    else
      some (1, σ)

def m_X12_isIn (v1 v2 : Int32) (σ : Mem) : Option (Int32 × Mem) :=
  obind (some (5 * v1)) fun y1 =>
  obind (ald σ 98 150 (y1 + 1)) fun x2 =>
  obind (ald σ 98 150 (y1 + 2)) fun x3 =>
  obind (ald σ 98 150 (y1 + 3)) fun x4 =>
  obind (ald σ 98 150 (y1 + 4)) fun x5 =>
  obind (ald σ 98 150 y1) fun x6 =>
  if x6 = 8 then
    m_X12_isIn_66 v2 x2 x3 x6 (σ)
  else
    if x6 = 9 then
      m_X12_isIn_66 v2 x2 x3 x6 (σ)
    else
      obind (m_X12_compareTo v2 x2 x3 x4 x5 σ) fun x7 =>
      obind (ald x7.2 95 216 ((9 * v2) + 4)) fun x8 =>
      if x8 ≤ 0 then
        m_X12_isIn_237 v2 x2 x3 x4 x6 x7.1 x7.2
      else
        obind (ald x7.2 95 216 ((9 * v2) + 1)) fun x9 =>
        if x9 = x2 then
          obind (ald x7.2 95 216 ((9 * v2) + 2)) fun x10 =>
          if x10 = x3 then
            obind (ald x7.2 95 216 ((9 * v2) + 3)) fun x11 =>
            if x11 = x4 then
              m_X12_isIn_217 v2 x2 x3 x4 x5 x6 x7.1 1 x7.2
            else
              m_X12_isIn_216 v2 x2 x3 x4 x5 x6 x7.1 x7.2
          else
            m_X12_isIn_216 v2 x2 x3 x4 x5 x6 x7.1 x7.2
        else
          m_X12_isIn_216 v2 x2 x3 x4 x5 x6 x7.1 x7.2

def m_X12_fill_2 : Nat → Int32 → Int32 → Mem → Option (Int32 × Mem)
  | 0, _, _, _ => none
  | fuel + 1, v1, v2, σ =>
    if ((σ) 94 1) ≤ v2 then
      some (0, σ)
    else
      obind (m_X12_isIn v1 v2 σ) fun x1 =>
      obind (zchk x1.1) fun z3 =>
      obind (ast x1.2 99 720 ((24 * v1) + v2) z3) fun m2 =>
      m_X12_fill_2 fuel v1 (v2 + 1) m2

def m_X12_fill (v1 : Int32) (σ : Mem) : Option (Int32 × Mem) :=
  m_X12_fill_2 FU v1 0 (σ)

def m_X12_publish_299 : Nat → Int32 → Mem → Option (Int32 × Mem)
  | 0, _, _ => none
  | fuel + 1, v12, σ =>
    if ((σ) 94 2) ≤ v12 then
      obind (some (up (σ) 94 31 0)) fun m1 =>
      some ((m1 94 1) - 1, m1)
    else
      obind (m_X12_isIn v12 (((σ) 94 1) - 1) σ) fun x2 =>
      obind (zchk x2.1) fun z4 =>
      obind (ast x2.2 99 720 (((24 * v12) + ((σ) 94 1)) - 1) z4) fun m3 =>
      m_X12_publish_299 fuel (v12 + 1) m3

def m_X12_publish_196 (v1 v2 v3 v4 v5 v6 s1 : Int32) (σ : Mem) : Option (Int32 × Mem) :=
  obind (m_X12_goesWell s1 σ) fun x1 =>
  if x1.1 = 0 then
    some (0, x1.2)
  else
    obind (some (9 * (x1.2 94 1))) fun y2 =>
    obind (ast x1.2 95 216 y2 v1) fun m3 =>
    obind (ast m3 95 216 (y2 + 1) v2) fun m4 =>
    obind (ast m4 95 216 (y2 + 2) v3) fun m5 =>
    obind (ast m5 95 216 (y2 + 3) v4) fun m6 =>
    obind (ast m6 95 216 (y2 + 4) v5) fun m7 =>
    obind (ast m7 95 216 (y2 + 5) v6) fun m8 =>
    obind (ast m8 95 216 (y2 + 7) 7) fun m9 =>
    obind (some (up m9 94 1 ((m9 94 1) + 1))) fun m10 =>
    m_X12_publish_299 FU 0 m10

def m_X12_publish_153 (f82 : Int32 → Int32 → Int32 → Int32 → Int32 → Int32 → Int32 → Int32 → Int32 → Int32 → Int32 → Mem → Option (Int32 × Mem)) (v1 v2 v3 v4 v5 v6 v7 v8 v9 v11 s0 : Int32) (σ : Mem) : Option (Int32 × Mem) :=
  f82 v1 v2 v3 v4 v5 v6 v7 v8 v9 s0 (v11 + 1) (σ)

def m_X12_publish_152 (f82 : Int32 → Int32 → Int32 → Int32 → Int32 → Int32 → Int32 → Int32 → Int32 → Int32 → Int32 → Mem → Option (Int32 × Mem)) (v1 v2 v3 v4 v5 v6 v7 v8 v9 v11 : Int32) (σ : Mem) : Option (Int32 × Mem) :=
  m_X12_publish_153 f82 v1 v2 v3 v4 v5 v6 v7 v8 v9 v11 0 (σ)

def m_X12_publish_120 (f82 : Int32 → Int32 → Int32 → Int32 → Int32 → Int32 → Int32 → Int32 → Int32 → Int32 → Int32 → Mem → Option (Int32 × Mem)) (v1 v2 v3 v4 v5 v6 v7 v8 v10 v11 v12 s0 s1 : Int32) (σ : Mem) : Option (Int32 × Mem) :=
  obind (some (s0 + s1)) fun y1 =>
  if v10 = 0 then
    if v12 = 0 then
      m_X12_publish_152 f82 v1 v2 v3 v4 v5 v6 v7 v8 y1 v11 (σ)
    else
      obind (m_X12_compareTo v11 v2 v3 v4 v5 σ) fun x2 =>
      if x2.1 = 0 then
        m_X12_publish_153 f82 v1 v2 v3 v4 v5 v6 v7 v8 y1 v11 1 x2.2
      else
        m_X12_publish_152 f82 v1 v2 v3 v4 v5 v6 v7 v8 y1 v11 x2.2
  else
    m_X12_publish_153 f82 v1 v2 v3 v4 v5 v6 v7 v8 y1 v11 1 (σ)

def m_X12_publish_106 (f82 : Int32 → Int32 → Int32 → Int32 → Int32 → Int32 → Int32 → Int32 → Int32 → Int32 → Int32 → Mem → Option (Int32 × Mem)) (v1 v2 v3 v4 v5 v6 v7 v8 v9 v10 v11 s0 : Int32) (σ : Mem) : Option (Int32 × Mem) :=
  if s0 = 0 then
    m_X12_publish_120 f82 v1 v2 v3 v4 v5 v6 v7 v8 v10 v11 s0 v9 0 (σ)
  else
    m_X12_publish_120 f82 v1 v2 v3 v4 v5 v6 v7 v8 v10 v11 s0 v9 1 (σ)

def m_X12_publish_82 : Nat → Int32 → Int32 → Int32 → Int32 → Int32 → Int32 → Int32 → Int32 → Int32 → Int32 → Int32 → Mem → Option (Int32 × Mem)
  | 0, _, _, _, _, _, _, _, _, _, _, _, _ => none
  | fuel + 1, v1, v2, v3, v4, v5, v6, v7, v8, v9, v10, v11, σ =>
    if ((σ) 94 1) ≤ v11 then
      if v7 = 0 then
        m_X12_publish_196 v1 v2 v3 v4 v5 v6 1 (σ)
      else
        if v8 = 0 then
          m_X12_publish_196 v1 v2 v3 v4 v5 v6 2 (σ)
        else
          if v9 = 4 then
            m_X12_publish_196 v1 v2 v3 v4 v5 v6 3 (σ)
          else
            if v10 = 0 then
              m_X12_publish_196 v1 v2 v3 v4 v5 v6 0 (σ)
            else
              m_X12_publish_196 v1 v2 v3 v4 v5 v6 3 (σ)
    else
      obind (m_X12_packageOf v11 σ) fun x1 =>
      if x1.1 = v1 then
        m_X12_publish_106 (m_X12_publish_82 fuel) v1 v2 v3 v4 v5 v6 v7 v8 v9 v10 v11 1 x1.2
      else
        m_X12_publish_106 (m_X12_publish_82 fuel) v1 v2 v3 v4 v5 v6 v7 v8 v9 v10 v11 0 x1.2

def m_X12_publish_71 (v1 v2 v3 v4 v5 v6 v7 s0 : Int32) (σ : Mem) : Option (Int32 × Mem) :=
  m_X12_publish_82 FU v1 v2 v3 v4 v5 v6 v7 s0 0 0 0 (σ)

def m_X12_publish_70 (v1 v2 v3 v4 v5 v6 v7 : Int32) (σ : Mem) : Option (Int32 × Mem) :=
  m_X12_publish_71 v1 v2 v3 v4 v5 v6 v7 0 (σ)

def m_X12_publish_22 (v1 v2 v3 v4 v5 v6 s0 : Int32) (σ : Mem) : Option (Int32 × Mem) :=
  obind (m_X12_in v2 0 9 σ) fun x1 =>
  if x1.1 = 0 then
    m_X12_publish_70 v1 v2 v3 v4 v5 v6 s0 x1.2
  else
    obind (m_X12_in v3 0 9 x1.2) fun x2 =>
    if x2.1 = 0 then
      m_X12_publish_70 v1 v2 v3 v4 v5 v6 s0 x2.2
    else
      obind (m_X12_in v4 0 9 x2.2) fun x3 =>
      if x3.1 = 0 then
        m_X12_publish_70 v1 v2 v3 v4 v5 v6 s0 x3.2
      else
        obind (m_X12_in v5 0 9 x3.2) fun x4 =>
        if x4.1 = 0 then
          m_X12_publish_70 v1 v2 v3 v4 v5 v6 s0 x4.2
        else
          m_X12_publish_71 v1 v2 v3 v4 v5 v6 s0 1 x4.2

def m_X12_publish_21 (v1 v2 v3 v4 v5 v6 : Int32) (σ : Mem) : Option (Int32 × Mem) :=
  m_X12_publish_22 v1 v2 v3 v4 v5 v6 0 (σ)

def m_X12_publish (v1 v2 v3 v4 v5 v6 : Int32) (σ : Mem) : Option (Int32 × Mem) :=
  obind (m_X12_isPackage v1 σ) fun x1 =>
  if x1.1 = 0 then
    m_X12_publish_21 v1 v2 v3 v4 v5 v6 x1.2
  else
    obind (m_X12_in v6 0 1 x1.2) fun x2 =>
    if x2.1 = 0 then
      m_X12_publish_21 v1 v2 v3 v4 v5 v6 x2.2
    else
      m_X12_publish_22 v1 v2 v3 v4 v5 v6 1 x2.2

def m_X12_compare_49 (v1 v2 s1 : Int32) (σ : Mem) : Option (Int32 × Mem) :=
  obind (m_X12_goesWell s1 σ) fun x1 =>
  if x1.1 = 0 then
    some (0, x1.2)
  else
    obind (m_X12_compared v1 v2 x1.2) fun x2 =>
    if x2.1 ≤ 0 then
      if 0 ≤ x2.1 then
        some (0, x2.2)
      else
        some ((-1), x2.2)
    else
      some (1, x2.2)

def m_X12_compare_21 (v1 v2 s0 : Int32) (σ : Mem) : Option (Int32 × Mem) :=
  if s0 = 0 then
    m_X12_compare_49 v1 v2 1 (σ)
  else
    obind (m_X12_packageOf v1 σ) fun x1 =>
    obind (m_X12_packageOf v2 x1.2) fun x2 =>
    if x1.1 = x2.1 then
      m_X12_compare_49 v1 v2 0 x2.2
    else
      m_X12_compare_49 v1 v2 2 x2.2

def m_X12_compare_20 (v1 v2 : Int32) (σ : Mem) : Option (Int32 × Mem) :=
  m_X12_compare_21 v1 v2 0 (σ)

def m_X12_compare (v1 v2 : Int32) (σ : Mem) : Option (Int32 × Mem) :=
  obind (m_X12_isVersion v1 σ) fun x1 =>
  if x1.1 = 0 then
    m_X12_compare_20 v1 v2 x1.2
  else
    obind (m_X12_isVersion v2 x1.2) fun x2 =>
    if x2.1 = 0 then
      m_X12_compare_20 v1 v2 x2.2
    else
      m_X12_compare_21 v1 v2 1 x2.2

def m_X12_yank_14 (v1 s1 : Int32) (σ : Mem) : Option (Int32 × Mem) :=
  obind (m_X12_goesWell s1 σ) fun x1 =>
  if x1.1 = 0 then
    some (0, x1.2)
  else
    obind (ald x1.2 95 216 ((9 * v1) + 6)) fun x2 =>
    obind (ast x1.2 95 216 ((9 * v1) + 6) (1 - x2)) fun m3 =>
    obind (some (up m3 94 31 0)) fun m4 =>
    obind (ald m4 95 216 ((9 * v1) + 6)) fun x5 =>
    if x5 = 1 then
      some (1, m4)
    else
      some (0, m4)

def m_X12_yank (v1 : Int32) (σ : Mem) : Option (Int32 × Mem) :=
  obind (m_X12_isVersion v1 σ) fun x1 =>
  if x1.1 = 0 then
    m_X12_yank_14 v1 1 x1.2
  else
    m_X12_yank_14 v1 0 x1.2

def m_X12_setPlatforms_28 (v1 v2 s1 : Int32) (σ : Mem) : Option (Int32 × Mem) :=
  obind (m_X12_goesWell s1 σ) fun x1 =>
  if x1.1 = 0 then
    some (0, x1.2)
  else
    obind (ald x1.2 95 216 ((9 * v1) + 7)) fun x2 =>
    obind (ast x1.2 95 216 ((9 * v1) + 7) v2) fun m3 =>
    obind (some (up m3 94 31 0)) fun m4 =>
    some (x2, m4)

def m_X12_setPlatforms (v1 v2 : Int32) (σ : Mem) : Option (Int32 × Mem) :=
  obind (m_X12_isVersion v1 σ) fun x1 =>
  if x1.1 = 0 then
    m_X12_setPlatforms_28 v1 v2 1 x1.2
  else
    obind (m_X12_in v2 0 7 x1.2) fun x2 =>
    if x2.1 = 0 then
      m_X12_setPlatforms_28 v1 v2 2 x2.2
    else
      m_X12_setPlatforms_28 v1 v2 0 x2.2

def m_X12_bring_75 (v1 v2 v3 s0 : Int32) (σ : Mem) : Option (Int32 × Mem) :=
  obind (ald σ 96 72 ((3 * v1) + v2)) fun x1 =>
  obind (ast σ 96 72 ((3 * v1) + v2) (x1 ||| (1 <<< (v3 &&& 31)))) fun m2 =>
  obind (some (up m2 94 31 0)) fun m3 =>
  if s0 = 0 then
    some (1, m3)
  else
    some (0, m3)

def m_X12_bring_44 (v1 v2 v3 s1 : Int32) (σ : Mem) : Option (Int32 × Mem) :=
  obind (m_X12_goesWell s1 σ) fun x1 =>
  if x1.1 = 0 then
    some (0, x1.2)
  else
    obind (ald x1.2 96 72 ((3 * v1) + v2)) fun x2 =>
    if ((x2 >>> (v3 &&& 31)) &&& 1) = 1 then
      m_X12_bring_75 v1 v2 v3 1 x1.2
    else
      m_X12_bring_75 v1 v2 v3 0 x1.2

def m_X12_bring_31 (v1 v2 v3 s0 : Int32) (σ : Mem) : Option (Int32 × Mem) :=
  if s0 = 0 then
    m_X12_bring_44 v1 v2 v3 1 (σ)
  else
    m_X12_bring_44 v1 v2 v3 0 (σ)

def m_X12_bring_30 (v1 v2 v3 : Int32) (σ : Mem) : Option (Int32 × Mem) :=
  m_X12_bring_31 v1 v2 v3 0 (σ)

def m_X12_bring (v1 v2 v3 : Int32) (σ : Mem) : Option (Int32 × Mem) :=
  obind (m_X12_isVersion v1 σ) fun x1 =>
  if x1.1 = 0 then
    m_X12_bring_30 v1 v2 v3 x1.2
  else
    obind (m_X12_in v2 0 2 x1.2) fun x2 =>
    if x2.1 = 0 then
      m_X12_bring_30 v1 v2 v3 x2.2
    else
      obind (m_X12_in v3 0 2 x2.2) fun x3 =>
      if x3.1 = 0 then
        m_X12_bring_30 v1 v2 v3 x3.2
      else
        m_X12_bring_31 v1 v2 v3 1 x3.2

def m_X12_addRange (v1 v2 v3 v4 v5 : Int32) (σ : Mem) : Option (Int32 × Mem) :=
  obind (some (5 * ((σ) 94 2))) fun y1 =>
  obind (ast σ 98 150 y1 v1) fun m2 =>
  obind (ast m2 98 150 (y1 + 1) v2) fun m3 =>
  obind (ast m3 98 150 (y1 + 2) v3) fun m4 =>
  obind (ast m4 98 150 (y1 + 3) v4) fun m5 =>
  obind (ast m5 98 150 (y1 + 4) v5) fun m6 =>
  obind (some (up m6 94 2 ((m6 94 2) + 1))) fun m7 =>
  obind (m_X12_fill ((m7 94 2) - 1) m7) fun x8 =>
  some ((x8.2 94 2) - 1, x8.2)

def m_X12_range_171 (v1 v2 v3 v4 v5 s1 : Int32) (σ : Mem) : Option (Int32 × Mem) :=
  obind (m_X12_goesWell s1 σ) fun x1 =>
  if x1.1 = 0 then
    some (0, x1.2)
  else
    obind (m_X12_addRange v1 v2 v3 v4 v5 x1.2) fun x2 =>
    some (x2.1, x2.2)

def m_X12_range_131 (v1 v2 v3 v4 v5 s0 : Int32) (σ : Mem) : Option (Int32 × Mem) :=
  obind (m_X12_in v1 0 7 σ) fun x1 =>
  if x1.1 = 0 then
    m_X12_range_171 v1 v2 v3 v4 v5 1 x1.2
  else
    if s0 = 0 then
      m_X12_range_171 v1 v2 v3 v4 v5 2 x1.2
    else
      if (x1.2 94 2) = 30 then
        m_X12_range_171 v1 v2 v3 v4 v5 3 x1.2
      else
        m_X12_range_171 v1 v2 v3 v4 v5 0 x1.2

def m_X12_range_130 (v1 v2 v3 v4 v5 : Int32) (σ : Mem) : Option (Int32 × Mem) :=
  m_X12_range_131 v1 v2 v3 v4 v5 0 (σ)

def m_X12_range_120 (v1 v2 v3 v4 v5 s0 s1 s2 : Int32) (σ : Mem) : Option (Int32 × Mem) :=
  obind (m_X12_in s0 s1 s2 σ) fun x1 =>
  if x1.1 = 0 then
    m_X12_range_130 v1 v2 v3 v4 v5 x1.2
  else
    m_X12_range_131 v1 v2 v3 v4 v5 1 x1.2

def m_X12_range_100 (v1 v2 v3 v4 v5 v8 s0 s1 s2 : Int32) (σ : Mem) : Option (Int32 × Mem) :=
  obind (m_X12_in s0 s1 s2 σ) fun x1 =>
  if x1.1 = 0 then
    m_X12_range_130 v1 v2 v3 v4 v5 x1.2
  else
    if v8 = 0 then
      m_X12_range_120 v1 v2 v3 v4 v5 v5 0 0 x1.2
    else
      m_X12_range_120 v1 v2 v3 v4 v5 v5 0 9 x1.2

def m_X12_range_80 (v1 v2 v3 v4 v5 v8 s0 s1 s2 : Int32) (σ : Mem) : Option (Int32 × Mem) :=
  obind (m_X12_in s0 s1 s2 σ) fun x1 =>
  if x1.1 = 0 then
    m_X12_range_130 v1 v2 v3 v4 v5 x1.2
  else
    if v8 = 0 then
      m_X12_range_100 v1 v2 v3 v4 v5 v8 v4 0 0 x1.2
    else
      m_X12_range_100 v1 v2 v3 v4 v5 v8 v4 0 9 x1.2

def m_X12_range_61 (v1 v2 v3 v4 v5 v7 v8 s0 s1 s2 : Int32) (σ : Mem) : Option (Int32 × Mem) :=
  obind (m_X12_in s0 s1 s2 σ) fun x1 =>
  if x1.1 = 0 then
    m_X12_range_130 v1 v2 v3 v4 v5 x1.2
  else
    if v7 = 0 then
      m_X12_range_80 v1 v2 v3 v4 v5 v8 v3 0 0 x1.2
    else
      m_X12_range_80 v1 v2 v3 v4 v5 v8 v3 0 9 x1.2

def m_X12_range_46 (v1 v2 v3 v4 v5 v6 v7 s0 : Int32) (σ : Mem) : Option (Int32 × Mem) :=
  if v6 = 0 then
    m_X12_range_61 v1 v2 v3 v4 v5 v7 s0 v2 0 0 (σ)
  else
    m_X12_range_61 v1 v2 v3 v4 v5 v7 s0 v2 0 9 (σ)

def m_X12_range_45 (v1 v2 v3 v4 v5 v6 v7 : Int32) (σ : Mem) : Option (Int32 × Mem) :=
  m_X12_range_46 v1 v2 v3 v4 v5 v6 v7 0 (σ)

def m_X12_range_28 (v1 v2 v3 v4 v5 v6 s0 : Int32) (σ : Mem) : Option (Int32 × Mem) :=
  if s0 = 0 then
    m_X12_range_45 v1 v2 v3 v4 v5 v6 s0 (σ)
  else
    if v1 = 7 then
      m_X12_range_45 v1 v2 v3 v4 v5 v6 s0 (σ)
    else
      m_X12_range_46 v1 v2 v3 v4 v5 v6 s0 1 (σ)

def m_X12_range_27 (v1 v2 v3 v4 v5 v6 : Int32) (σ : Mem) : Option (Int32 × Mem) :=
  m_X12_range_28 v1 v2 v3 v4 v5 v6 0 (σ)

def m_X12_range_10 (v1 v2 v3 v4 v5 s0 : Int32) (σ : Mem) : Option (Int32 × Mem) :=
  if s0 = 0 then
    m_X12_range_27 v1 v2 v3 v4 v5 s0 (σ)
  else
    if v1 = 6 then
      m_X12_range_27 v1 v2 v3 v4 v5 s0 (σ)
    else
      m_X12_range_28 v1 v2 v3 v4 v5 s0 1 (σ)

def m_X12_range (v1 v2 v3 v4 v5 : Int32) (σ : Mem) : Option (Int32 × Mem) :=
  if v1 = 3 then
    m_X12_range_10 v1 v2 v3 v4 v5 0 (σ)
  else
    m_X12_range_10 v1 v2 v3 v4 v5 1 (σ)

def m_X12_join_58 (v1 v2 v3 s1 : Int32) (σ : Mem) : Option (Int32 × Mem) :=
  obind (m_X12_goesWell s1 σ) fun x1 =>
  if x1.1 = 0 then
    some (0, x1.2)
  else
    obind (m_X12_addRange v1 v2 v3 0 0 x1.2) fun x2 =>
    some (x2.1, x2.2)

def m_X12_join_32 (v1 v2 v3 s0 : Int32) (σ : Mem) : Option (Int32 × Mem) :=
  if s0 = 0 then
    m_X12_join_58 v1 v2 v3 1 (σ)
  else
    if ((σ) 94 2) = 30 then
      m_X12_join_58 v1 v2 v3 2 (σ)
    else
      m_X12_join_58 v1 v2 v3 0 (σ)

def m_X12_join_31 (v1 v2 v3 : Int32) (σ : Mem) : Option (Int32 × Mem) :=
  m_X12_join_32 v1 v2 v3 0 (σ)

def m_X12_join (v1 v2 v3 : Int32) (σ : Mem) : Option (Int32 × Mem) :=
  obind (m_X12_in v1 8 9 σ) fun x1 =>
  if x1.1 = 0 then
    m_X12_join_31 v1 v2 v3 x1.2
  else
    obind (m_X12_isRange v2 x1.2) fun x2 =>
    if x2.1 = 0 then
      m_X12_join_31 v1 v2 v3 x2.2
    else
      obind (m_X12_isRange v3 x2.2) fun x3 =>
      if x3.1 = 0 then
        m_X12_join_31 v1 v2 v3 x3.2
      else
        m_X12_join_32 v1 v2 v3 1 x3.2

def m_X12_has_22 (v1 v2 s1 : Int32) (σ : Mem) : Option (Int32 × Mem) :=
  obind (m_X12_goesWell s1 σ) fun x1 =>
  if x1.1 = 0 then
    some (0, x1.2)
  else
    obind (ald x1.2 99 720 ((24 * v1) + v2)) fun x2 =>
    if x2 = 0 then
      some (0, x1.2)
    else
      some (1, x1.2)

def m_X12_has_21 (v1 v2 : Int32) (σ : Mem) : Option (Int32 × Mem) :=
  m_X12_has_22 v1 v2 1 (σ)

def m_X12_has (v1 v2 : Int32) (σ : Mem) : Option (Int32 × Mem) :=
  obind (m_X12_isRange v1 σ) fun x1 =>
  if x1.1 = 0 then
    m_X12_has_21 v1 v2 x1.2
  else
    obind (m_X12_isVersion v2 x1.2) fun x2 =>
    if x2.1 = 0 then
      m_X12_has_21 v1 v2 x2.2
    else
      m_X12_has_22 v1 v2 0 x2.2

def m_X12_need_132 (v1 v2 v3 v4 v5 v6 v7 v10 s1 : Int32) (σ : Mem) : Option (Int32 × Mem) :=
  obind (m_X12_goesWell s1 σ) fun x1 =>
  if x1.1 = 0 then
    some (0, x1.2)
  else
    obind (some (6 * ((5 * v1) + v10))) fun y2 =>
    obind (ast x1.2 97 720 y2 v2) fun m3 =>
    obind (ast m3 97 720 (y2 + 1) v3) fun m4 =>
    obind (ast m4 97 720 (y2 + 2) v4) fun m5 =>
    obind (ast m5 97 720 (y2 + 3) v5) fun m6 =>
    obind (ast m6 97 720 (y2 + 4) v6) fun m7 =>
    obind (ast m7 97 720 (y2 + 5) v7) fun m8 =>
    obind (ald m8 95 216 ((9 * v1) + 8)) fun x9 =>
    obind (ast m8 95 216 ((9 * v1) + 8) (x9 + 1)) fun m10 =>
    obind (some (up m10 94 31 0)) fun m11 =>
    some (v10 + 1, m11)

def m_X12_need_100 (v1 v2 v3 v4 v5 v6 v7 v8 v9 s0 : Int32) (σ : Mem) : Option (Int32 × Mem) :=
  if v8 = 0 then
    m_X12_need_132 v1 v2 v3 v4 v5 v6 v7 s0 1 (σ)
  else
    if v9 = 0 then
      m_X12_need_132 v1 v2 v3 v4 v5 v6 v7 s0 2 (σ)
    else
      if s0 = 5 then
        m_X12_need_132 v1 v2 v3 v4 v5 v6 v7 s0 3 (σ)
      else
        m_X12_need_132 v1 v2 v3 v4 v5 v6 v7 s0 0 (σ)

def m_X12_need_77 (v1 v2 v3 v4 v5 v6 v7 v8 s0 : Int32) (σ : Mem) : Option (Int32 × Mem) :=
  if v8 = 0 then
    m_X12_need_100 v1 v2 v3 v4 v5 v6 v7 v8 s0 0 (σ)
  else
    obind (ald σ 95 216 ((9 * v1) + 8)) fun x1 =>
    m_X12_need_100 v1 v2 v3 v4 v5 v6 v7 v8 s0 x1 (σ)

def m_X12_need_76 (v1 v2 v3 v4 v5 v6 v7 v8 : Int32) (σ : Mem) : Option (Int32 × Mem) :=
  m_X12_need_77 v1 v2 v3 v4 v5 v6 v7 v8 0 (σ)

def m_X12_need_48 (v1 v2 v3 v4 v5 v6 v7 s0 : Int32) (σ : Mem) : Option (Int32 × Mem) :=
  obind (m_X12_in v6 0 7 σ) fun x1 =>
  if x1.1 = 0 then
    m_X12_need_76 v1 v2 v3 v4 v5 v6 v7 s0 x1.2
  else
    obind (m_X12_in v7 0 7 x1.2) fun x2 =>
    if x2.1 = 0 then
      m_X12_need_76 v1 v2 v3 v4 v5 v6 v7 s0 x2.2
    else
      m_X12_need_77 v1 v2 v3 v4 v5 v6 v7 s0 1 x2.2

def m_X12_need_47 (v1 v2 v3 v4 v5 v6 v7 : Int32) (σ : Mem) : Option (Int32 × Mem) :=
  m_X12_need_48 v1 v2 v3 v4 v5 v6 v7 0 (σ)

def m_X12_need (v1 v2 v3 v4 v5 v6 v7 : Int32) (σ : Mem) : Option (Int32 × Mem) :=
  obind (m_X12_isVersion v1 σ) fun x1 =>
  if x1.1 = 0 then
    m_X12_need_47 v1 v2 v3 v4 v5 v6 v7 x1.2
  else
    obind (m_X12_isPackage v2 x1.2) fun x2 =>
    if x2.1 = 0 then
      m_X12_need_47 v1 v2 v3 v4 v5 v6 v7 x2.2
    else
      obind (m_X12_isRange v3 x2.2) fun x3 =>
      if x3.1 = 0 then
        m_X12_need_47 v1 v2 v3 v4 v5 v6 v7 x3.2
      else
        obind (m_X12_in v4 0 2 x3.2) fun x4 =>
        if x4.1 = 0 then
          m_X12_need_47 v1 v2 v3 v4 v5 v6 v7 x4.2
        else
          obind (m_X12_in v5 (-1) 2 x4.2) fun x5 =>
          if x5.1 = 0 then
            m_X12_need_47 v1 v2 v3 v4 v5 v6 v7 x5.2
          else
            m_X12_need_48 v1 v2 v3 v4 v5 v6 v7 1 x5.2

def m_X12_demand_70 (v1 v2 v3 v4 s1 : Int32) (σ : Mem) : Option (Int32 × Mem) :=
  obind (m_X12_goesWell s1 σ) fun x1 =>
  if x1.1 = 0 then
    some (0, x1.2)
  else
    obind (some (4 * (x1.2 94 3))) fun y2 =>
    obind (ast x1.2 100 24 y2 v1) fun m3 =>
    obind (ast m3 100 24 (y2 + 1) v2) fun m4 =>
    obind (ast m4 100 24 (y2 + 2) v3) fun m5 =>
    obind (ast m5 100 24 (y2 + 3) v4) fun m6 =>
    obind (some (up m6 94 3 ((m6 94 3) + 1))) fun m7 =>
    obind (some (up m7 94 31 0)) fun m8 =>
    some ((m8 94 3) - 1, m8)

def m_X12_demand_29 (v1 v2 v3 v4 s0 : Int32) (σ : Mem) : Option (Int32 × Mem) :=
  if s0 = 0 then
    m_X12_demand_70 v1 v2 v3 v4 1 (σ)
  else
    obind (m_X12_in v4 0 7 σ) fun x1 =>
    if x1.1 = 0 then
      m_X12_demand_70 v1 v2 v3 v4 2 x1.2
    else
      if (x1.2 94 3) = 6 then
        m_X12_demand_70 v1 v2 v3 v4 3 x1.2
      else
        m_X12_demand_70 v1 v2 v3 v4 0 x1.2

def m_X12_demand_28 (v1 v2 v3 v4 : Int32) (σ : Mem) : Option (Int32 × Mem) :=
  m_X12_demand_29 v1 v2 v3 v4 0 (σ)

def m_X12_demand (v1 v2 v3 v4 : Int32) (σ : Mem) : Option (Int32 × Mem) :=
  obind (m_X12_in v1 0 2 σ) fun x1 =>
  if x1.1 = 0 then
    m_X12_demand_28 v1 v2 v3 v4 x1.2
  else
    obind (m_X12_isPackage v2 x1.2) fun x2 =>
    if x2.1 = 0 then
      m_X12_demand_28 v1 v2 v3 v4 x2.2
    else
      obind (m_X12_isRange v3 x2.2) fun x3 =>
      if x3.1 = 0 then
        m_X12_demand_28 v1 v2 v3 v4 x3.2
      else
        m_X12_demand_29 v1 v2 v3 v4 1 x3.2

def m_X12_advise_34 (v1 v2 s1 : Int32) (σ : Mem) : Option (Int32 × Mem) :=
  obind (m_X12_goesWell s1 σ) fun x1 =>
  if x1.1 = 0 then
    some (0, x1.2)
  else
    obind (ast x1.2 101 16 (2 * (x1.2 94 4)) v1) fun m2 =>
    obind (ast m2 101 16 ((2 * (m2 94 4)) + 1) v2) fun m3 =>
    obind (some (up m3 94 4 ((m3 94 4) + 1))) fun m4 =>
    obind (some (up m4 94 31 0)) fun m5 =>
    some (m5 94 4, m5)

def m_X12_advise (v1 v2 : Int32) (σ : Mem) : Option (Int32 × Mem) :=
  obind (m_X12_isPackage v1 σ) fun x1 =>
  if x1.1 = 0 then
    m_X12_advise_34 v1 v2 1 x1.2
  else
    obind (m_X12_isRange v2 x1.2) fun x2 =>
    if x2.1 = 0 then
      m_X12_advise_34 v1 v2 1 x2.2
    else
      if (x2.2 94 4) = 8 then
        m_X12_advise_34 v1 v2 2 x2.2
      else
        m_X12_advise_34 v1 v2 0 x2.2

def m_X12_hinders_211 (v3 v4 v5 s0 : Int32) (σ : Mem) : Option (Int32 × Mem) :=
  if v3 = 0 then
    if v5 = 0 then
      if s0 = 0 then
        if v4 = 0 then
          some (0, σ)
        else
          some (4, σ)
      else
        some (3, σ)
    else
      some (2, σ)
  else
    some (1, σ)

def m_X12_hinders_185 (v2 v3 v4 s0 : Int32) (σ : Mem) : Option (Int32 × Mem) :=
  obind (ald σ 95 216 (v2 + 7)) fun x1 =>
  if ((x1 >>> (((σ) 94 5) &&& 31)) &&& 1) = 0 then
    m_X12_hinders_211 v3 v4 s0 1 (σ)
  else
    m_X12_hinders_211 v3 v4 s0 0 (σ)

def m_X12_hinders_184 (v2 v3 v4 : Int32) (σ : Mem) : Option (Int32 × Mem) :=
  m_X12_hinders_185 v2 v3 v4 0 (σ)

def m_X12_hinders_144 (f83 : Int32 → Int32 → Int32 → Int32 → Int32 → Mem → Option (Int32 × Mem)) (v1 v2 v3 v5 s0 : Int32) (σ : Mem) : Option (Int32 × Mem) :=
  f83 v1 v2 v3 s0 (v5 + 1) (σ)

def m_X12_hinders_143 (f83 : Int32 → Int32 → Int32 → Int32 → Int32 → Mem → Option (Int32 × Mem)) (v1 v2 v3 v5 : Int32) (σ : Mem) : Option (Int32 × Mem) :=
  m_X12_hinders_144 f83 v1 v2 v3 v5 0 (σ)

def m_X12_hinders_83 : Nat → Int32 → Int32 → Int32 → Int32 → Int32 → Mem → Option (Int32 × Mem)
  | 0, _, _, _, _, _, _ => none
  | fuel + 1, v1, v2, v3, v4, v5, σ =>
    if ((σ) 94 4) ≤ v5 then
      obind (ald σ 95 216 (v2 + 6)) fun x1 =>
      if x1 = 1 then
        obind (ald σ 95 216 v2) fun x2 =>
        obind (ald σ 103 6 x2) fun x3 =>
        if x3 = v1 then
          m_X12_hinders_184 v2 v3 v4 (σ)
        else
          m_X12_hinders_185 v2 v3 v4 1 (σ)
      else
        m_X12_hinders_184 v2 v3 v4 (σ)
    else
      if v4 = 0 then
        obind (ald σ 101 16 (2 * v5)) fun x4 =>
        obind (ald σ 95 216 v2) fun x5 =>
        if x4 = x5 then
          obind (ald σ 101 16 ((2 * v5) + 1)) fun x6 =>
          obind (ald σ 99 720 ((24 * x6) + v1)) fun x7 =>
          if x7 = 0 then
            m_X12_hinders_143 (m_X12_hinders_83 fuel) v1 v2 v3 v5 (σ)
          else
            m_X12_hinders_144 (m_X12_hinders_83 fuel) v1 v2 v3 v5 1 (σ)
        else
          m_X12_hinders_143 (m_X12_hinders_83 fuel) v1 v2 v3 v5 (σ)
      else
        m_X12_hinders_144 (m_X12_hinders_83 fuel) v1 v2 v3 v5 1 (σ)

def m_X12_hinders_70 (f10 : Int32 → Int32 → Int32 → Int32 → Mem → Option (Int32 × Mem)) (v1 v2 v4 s0 : Int32) (σ : Mem) : Option (Int32 × Mem) :=
  f10 v1 v2 s0 (v4 + 1) (σ)

def m_X12_hinders_69 (f10 : Int32 → Int32 → Int32 → Int32 → Mem → Option (Int32 × Mem)) (v1 v2 v4 : Int32) (σ : Mem) : Option (Int32 × Mem) :=
  m_X12_hinders_70 f10 v1 v2 v4 0 (σ)

def m_X12_hinders_10 : Nat → Int32 → Int32 → Int32 → Int32 → Mem → Option (Int32 × Mem)
  | 0, _, _, _, _, _ => none
  | fuel + 1, v1, v2, v3, v4, σ =>
    if ((σ) 94 1) ≤ v4 then
      m_X12_hinders_83 FU v1 v2 v3 0 0 (σ)
    else
      if v3 = 0 then
        obind (ald σ 95 216 (v2 + 5)) fun x1 =>
        if x1 = 1 then
          obind (m_X12_packageOf v4 σ) fun x2 =>
          obind (ald x2.2 95 216 v2) fun x3 =>
          if x2.1 = x3 then
            obind (ald x2.2 95 216 ((9 * v4) + 5)) fun x4 =>
            if x4 = 0 then
              m_X12_hinders_70 (m_X12_hinders_10 fuel) v1 v2 v4 1 x2.2
            else
              m_X12_hinders_69 (m_X12_hinders_10 fuel) v1 v2 v4 x2.2
          else
            m_X12_hinders_69 (m_X12_hinders_10 fuel) v1 v2 v4 x2.2
        else
          m_X12_hinders_69 (m_X12_hinders_10 fuel) v1 v2 v4 (σ)
      else
        m_X12_hinders_70 (m_X12_hinders_10 fuel) v1 v2 v4 1 (σ)

def m_X12_hinders (v1 : Int32) (σ : Mem) : Option (Int32 × Mem) :=
  obind (some (9 * v1)) fun y1 =>
  m_X12_hinders_10 FU v1 y1 0 0 (σ)

def m_X12_mending_95 (f26 : Int32 → Int32 → Int32 → Mem → Option (Int32 × Mem)) (v1 v3 s0 : Int32) (σ : Mem) : Option (Int32 × Mem) :=
  f26 v1 s0 (v3 + 1) (σ)

def m_X12_mending_94 (f26 : Int32 → Int32 → Int32 → Mem → Option (Int32 × Mem)) (v1 v2 v3 : Int32) (σ : Mem) : Option (Int32 × Mem) :=
  m_X12_mending_95 f26 v1 v3 v2 (σ)

def m_X12_mending_69 (f26 : Int32 → Int32 → Int32 → Mem → Option (Int32 × Mem)) (v1 v2 v3 s0 : Int32) (σ : Mem) : Option (Int32 × Mem) :=
  if s0 = 0 then
    m_X12_mending_94 f26 v1 v2 v3 (σ)
  else
    if v2 = (-1) then
      m_X12_mending_95 f26 v1 v3 v3 (σ)
    else
      obind (m_X12_compared v3 v2 σ) fun x1 =>
      if 0 ≤ x1.1 then
        m_X12_mending_94 f26 v1 v2 v3 x1.2
      else
        m_X12_mending_95 f26 v1 v3 v3 x1.2

def m_X12_mending_68 (f26 : Int32 → Int32 → Int32 → Mem → Option (Int32 × Mem)) (v1 v2 v3 : Int32) (σ : Mem) : Option (Int32 × Mem) :=
  m_X12_mending_69 f26 v1 v2 v3 0 (σ)

def m_X12_mending_26 : Nat → Int32 → Int32 → Int32 → Mem → Option (Int32 × Mem)
  | 0, _, _, _, _ => none
  | fuel + 1, v1, v2, v3, σ =>
    if ((σ) 94 1) ≤ v3 then
      some (v2, σ)
    else
      obind (m_X12_packageOf v3 σ) fun x1 =>
      obind (m_X12_packageOf v1 x1.2) fun x2 =>
      if x1.1 = x2.1 then
        obind (m_X12_compared v3 v1 x2.2) fun x3 =>
        if x3.1 ≤ 0 then
          m_X12_mending_68 (m_X12_mending_26 fuel) v1 v2 v3 x3.2
        else
          obind (m_X12_hinders v3 x3.2) fun x4 =>
          if x4.1 = 0 then
            m_X12_mending_69 (m_X12_mending_26 fuel) v1 v2 v3 1 x4.2
          else
            m_X12_mending_68 (m_X12_mending_26 fuel) v1 v2 v3 x4.2
      else
        m_X12_mending_68 (m_X12_mending_26 fuel) v1 v2 v3 x2.2

def m_X12_mending_14 (v1 s1 : Int32) (σ : Mem) : Option (Int32 × Mem) :=
  obind (m_X12_goesWell s1 σ) fun x1 =>
  if x1.1 = 0 then
    some (0, x1.2)
  else
    m_X12_mending_26 FU v1 (-1) 0 x1.2

def m_X12_mending (v1 : Int32) (σ : Mem) : Option (Int32 × Mem) :=
  obind (m_X12_isVersion v1 σ) fun x1 =>
  if x1.1 = 0 then
    m_X12_mending_14 v1 1 x1.2
  else
    m_X12_mending_14 v1 0 x1.2

def m_X12_standsFor_2 : Nat → Int32 → Mem → Option (Int32 × Mem)
  | 0, _, _ => none
  | fuel + 1, v2, σ =>
    obind (ald σ 102 6 v2) fun x1 =>
    if x1 = (-1) then
      some (v2, σ)
    else
      obind (ald σ 102 6 v2) fun x2 =>
      m_X12_standsFor_2 fuel x2 (σ)

def m_X12_standsFor (v1 : Int32) (σ : Mem) : Option (Int32 × Mem) :=
  m_X12_standsFor_2 FU v1 (σ)

def m_X12_replace_104 (v1 v2 s1 : Int32) (σ : Mem) : Option (Int32 × Mem) :=
  obind (m_X12_goesWell s1 σ) fun x1 =>
  if x1.1 = 0 then
    some (0, x1.2)
  else
    obind (ald x1.2 102 6 v1) fun x2 =>
    obind (ast x1.2 102 6 v1 v2) fun m3 =>
    obind (some (up m3 94 31 0)) fun m4 =>
    some (x2, m4)

def m_X12_replace_85 (v1 v2 v3 v4 : Int32) (σ : Mem) : Option (Int32 × Mem) :=
  if v3 = 0 then
    m_X12_replace_104 v1 v2 1 (σ)
  else
    if v4 = 0 then
      m_X12_replace_104 v1 v2 0 (σ)
    else
      m_X12_replace_104 v1 v2 2 (σ)

def m_X12_replace_49 : Nat → Int32 → Int32 → Int32 → Int32 → Int32 → Mem → Option (Int32 × Mem)
  | 0, _, _, _, _, _, _ => none
  | fuel + 1, v1, v2, v3, v4, v5, σ =>
    if v5 = (-1) then
      m_X12_replace_85 v1 v2 v3 v4 (σ)
    else
      if v4 = 0 then
        obind (ald σ 102 6 v5) fun x1 =>
        if x1 = v1 then
          m_X12_replace_49 fuel v1 v2 v3 1 x1 (σ)
        else
          m_X12_replace_49 fuel v1 v2 v3 0 x1 (σ)
      else
        m_X12_replace_85 v1 v2 v3 v4 (σ)

def m_X12_replace_36 (v1 v2 v3 s0 : Int32) (σ : Mem) : Option (Int32 × Mem) :=
  if v3 = 0 then
    m_X12_replace_49 FU v1 v2 v3 s0 (-1) (σ)
  else
    m_X12_replace_49 FU v1 v2 v3 s0 v2 (σ)

def m_X12_replace_35 (v1 v2 v3 : Int32) (σ : Mem) : Option (Int32 × Mem) :=
  m_X12_replace_36 v1 v2 v3 0 (σ)

def m_X12_replace_21 (v1 v2 s0 : Int32) (σ : Mem) : Option (Int32 × Mem) :=
  if s0 = 0 then
    m_X12_replace_35 v1 v2 s0 (σ)
  else
    if v2 = v1 then
      m_X12_replace_36 v1 v2 s0 1 (σ)
    else
      m_X12_replace_35 v1 v2 s0 (σ)

def m_X12_replace_20 (v1 v2 : Int32) (σ : Mem) : Option (Int32 × Mem) :=
  m_X12_replace_21 v1 v2 0 (σ)

def m_X12_replace (v1 v2 : Int32) (σ : Mem) : Option (Int32 × Mem) :=
  obind (m_X12_isPackage v1 σ) fun x1 =>
  if x1.1 = 0 then
    m_X12_replace_20 v1 v2 x1.2
  else
    obind (m_X12_in v2 (-1) 5 x1.2) fun x2 =>
    if x2.1 = 0 then
      m_X12_replace_20 v1 v2 x2.2
    else
      m_X12_replace_21 v1 v2 1 x2.2

def m_X12_setPlatform_15 (v1 s1 : Int32) (σ : Mem) : Option (Int32 × Mem) :=
  obind (m_X12_goesWell s1 σ) fun x1 =>
  if x1.1 = 0 then
    some (0, x1.2)
  else
    obind (some (x1.2 94 5)) fun y2 =>
    obind (some (up x1.2 94 5 v1)) fun m3 =>
    obind (some (up m3 94 31 0)) fun m4 =>
    some (y2, m4)

def m_X12_setPlatform (v1 : Int32) (σ : Mem) : Option (Int32 × Mem) :=
  obind (m_X12_in v1 0 2 σ) fun x1 =>
  if x1.1 = 0 then
    m_X12_setPlatform_15 v1 1 x1.2
  else
    m_X12_setPlatform_15 v1 0 x1.2

def m_X12_demandsOf_36 (f4 : Int32 → Int32 → Int32 → Mem → Option (Int32 × Mem)) (v1 v3 s0 s1 : Int32) (σ : Mem) : Option (Int32 × Mem) :=
  obind (some (s0 ||| s1)) fun y1 =>
  f4 v1 y1 (v3 + 1) (σ)

def m_X12_demandsOf_4 : Nat → Int32 → Int32 → Int32 → Mem → Option (Int32 × Mem)
  | 0, _, _, _, _ => none
  | fuel + 1, v1, v2, v3, σ =>
    if ((σ) 94 3) ≤ v3 then
      some (v2, σ)
    else
      obind (ald σ 100 24 (4 * v3)) fun x1 =>
      if ((v1 >>> (x1 &&& 31)) &&& 1) = 1 then
        m_X12_demandsOf_36 (m_X12_demandsOf_4 fuel) v1 v3 v2 (1 <<< (v3 &&& 31)) (σ)
      else
        m_X12_demandsOf_36 (m_X12_demandsOf_4 fuel) v1 v3 v2 0 (σ)

def m_X12_demandsOf (v1 : Int32) (σ : Mem) : Option (Int32 × Mem) :=
  m_X12_demandsOf_4 FU v1 0 0 (σ)

def m_X12_isDemanded_96 (f5 : Int32 → Int32 → Int32 → Int32 → Mem → Option (Int32 × Mem)) (v1 v2 v4 s0 : Int32) (σ : Mem) : Option (Int32 × Mem) :=
  f5 v1 v2 s0 (v4 + 1) (σ)

def m_X12_isDemanded_95 (f5 : Int32 → Int32 → Int32 → Int32 → Mem → Option (Int32 × Mem)) (v1 v2 v4 : Int32) (σ : Mem) : Option (Int32 × Mem) :=
  m_X12_isDemanded_96 f5 v1 v2 v4 0 (σ)

def m_X12_isDemanded_51 (f5 : Int32 → Int32 → Int32 → Int32 → Mem → Option (Int32 × Mem)) (v1 v2 v3 v4 s0 : Int32) (σ : Mem) : Option (Int32 × Mem) :=
  if v3 = 0 then
    m_X12_isDemanded_95 f5 v1 v2 v4 (σ)
  else
    if s0 = 0 then
      m_X12_isDemanded_96 f5 v1 v2 v4 1 (σ)
    else
      if v2 = (-1) then
        m_X12_isDemanded_95 f5 v1 v2 v4 (σ)
      else
        obind (ald σ 100 24 ((4 * v4) + 2)) fun x1 =>
        obind (ald σ 99 720 ((24 * x1) + v2)) fun x2 =>
        if x2 = 0 then
          m_X12_isDemanded_95 f5 v1 v2 v4 (σ)
        else
          m_X12_isDemanded_96 f5 v1 v2 v4 1 (σ)

def m_X12_isDemanded_50 (f5 : Int32 → Int32 → Int32 → Int32 → Mem → Option (Int32 × Mem)) (v1 v2 v3 v4 : Int32) (σ : Mem) : Option (Int32 × Mem) :=
  m_X12_isDemanded_51 f5 v1 v2 v3 v4 0 (σ)

def m_X12_isDemanded_5 : Nat → Int32 → Int32 → Int32 → Int32 → Mem → Option (Int32 × Mem)
  | 0, _, _, _, _, _ => none
  | fuel + 1, v1, v2, v3, v4, σ =>
    if ((σ) 94 3) ≤ v4 then
      obind (zchk v3) fun z => some (z, σ)
    else
      if ((((σ) 94 25) >>> (v4 &&& 31)) &&& 1) = 1 then
        obind (ald σ 100 24 ((4 * v4) + 1)) fun x1 =>
        obind (m_X12_standsFor x1 σ) fun x2 =>
        if x2.1 = v1 then
          m_X12_isDemanded_51 (m_X12_isDemanded_5 fuel) v1 v2 v3 v4 1 x2.2
        else
          m_X12_isDemanded_50 (m_X12_isDemanded_5 fuel) v1 v2 v3 v4 x2.2
      else
        m_X12_isDemanded_50 (m_X12_isDemanded_5 fuel) v1 v2 v3 v4 (σ)

def m_X12_isDemanded (v1 v2 : Int32) (σ : Mem) : Option (Int32 × Mem) :=
  m_X12_isDemanded_5 FU v1 v2 1 0 (σ)

def m_X12_reached_75 (f55 : Int32 → Int32 → Mem → Option (Int32 × Mem)) (f64 : Int32 → Int32 → Int32 → Mem → Option (Int32 × Mem)) : Nat → Int32 → Int32 → Int32 → Int32 → Mem → Option (Int32 × Mem)
  | 0, _, _, _, _, _ => none
  | fuel + 1, v1, v2, v3, v4, σ =>
    obind (ald σ 95 216 ((9 * v3) + 8)) fun x1 =>
    if x1 ≤ v4 then
      f64 v1 v2 (v3 + 1) (σ)
    else
      obind (m_X12_packageOf v3 σ) fun x2 =>
      if ((v1 >>> (x2.1 &&& 31)) &&& 1) = 1 then
        obind (ald x2.2 97 720 (6 * ((5 * v3) + v4))) fun x3 =>
        obind (m_X12_standsFor x3 x2.2) fun x4 =>
        obind (some (v1 ||| (1 <<< (x4.1 &&& 31)))) fun y5 =>
        m_X12_reached_75 f55 f64 fuel y5 v2 v3 (v4 + 1) x4.2
      else
        f64 v1 v2 (v3 + 1) x2.2

def m_X12_reached_64 (f55 : Int32 → Int32 → Mem → Option (Int32 × Mem)) : Nat → Int32 → Int32 → Int32 → Mem → Option (Int32 × Mem)
  | 0, _, _, _, _ => none
  | fuel + 1, v1, v2, v3, σ =>
    if ((σ) 94 1) ≤ v3 then
      f55 v1 v2 (σ)
    else
      m_X12_reached_75 f55 (m_X12_reached_64 f55 fuel) FU v1 v2 v3 0 (σ)

def m_X12_reached_55 : Nat → Int32 → Int32 → Mem → Option (Int32 × Mem)
  | 0, _, _, _ => none
  | fuel + 1, v1, v2, σ =>
    if v2 = v1 then
      some (v1, σ)
    else
      m_X12_reached_64 (m_X12_reached_55 fuel) FU v1 v1 0 (σ)

def m_X12_reached_45 (f4 : Int32 → Int32 → Mem → Option (Int32 × Mem)) (v2 s0 s1 : Int32) (σ : Mem) : Option (Int32 × Mem) :=
  obind (some (s0 ||| s1)) fun y1 =>
  f4 y1 (v2 + 1) (σ)

def m_X12_reached_4 : Nat → Int32 → Int32 → Mem → Option (Int32 × Mem)
  | 0, _, _, _ => none
  | fuel + 1, v1, v2, σ =>
    if ((σ) 94 3) ≤ v2 then
      m_X12_reached_55 FU v1 (-1) (σ)
    else
      if ((((σ) 94 25) >>> (v2 &&& 31)) &&& 1) = 1 then
        obind (ald σ 100 24 ((4 * v2) + 1)) fun x1 =>
        obind (m_X12_standsFor x1 σ) fun x2 =>
        m_X12_reached_45 (m_X12_reached_4 fuel) v2 v1 (1 <<< (x2.1 &&& 31)) x2.2
      else
        m_X12_reached_45 (m_X12_reached_4 fuel) v2 v1 0 (σ)

def m_X12_reached (σ : Mem) : Option (Int32 × Mem) :=
  m_X12_reached_4 FU 0 0 (σ)

def m_X12_begin_216 (f7 : Int32 → Int32 → Mem → Option (Int32 × Mem)) (v1 v2 v3 : Int32) (σ : Mem) : Option (Int32 × Mem) :=
  obind (ast σ 110 6 v2 v3) fun m1 =>
  f7 v1 (v2 + 1) m1

def m_X12_begin_188 (f7 : Int32 → Int32 → Mem → Option (Int32 × Mem)) (v1 v2 v3 v4 : Int32) (σ : Mem) : Option (Int32 × Mem) :=
  if v4 = 0 then
    obind (m_X12_isDemanded v2 (-1) σ) fun x1 =>
    if x1.1 = 0 then
      m_X12_begin_216 f7 v1 v2 v3 x1.2
    else
      obind (ast x1.2 109 30 ((5 * v2) + v3) (-1)) fun m2 =>
      m_X12_begin_216 f7 v1 v2 (v3 + 1) m2
  else
    m_X12_begin_216 f7 v1 v2 v3 (σ)

def m_X12_begin_166 (f7 : Int32 → Int32 → Mem → Option (Int32 × Mem)) (f45 : Int32 → Int32 → Int32 → Int32 → Int32 → Mem → Option (Int32 × Mem)) (v1 v2 v3 v4 v5 v6 : Int32) (σ : Mem) : Option (Int32 × Mem) :=
  obind (ast σ 109 30 ((5 * v2) + v6) v5) fun m1 =>
  f45 v1 v2 (v3 + 1) v4 (v5 + 1) m1

def m_X12_begin_109 (f7 : Int32 → Int32 → Mem → Option (Int32 × Mem)) (f45 : Int32 → Int32 → Int32 → Int32 → Int32 → Mem → Option (Int32 × Mem)) : Nat → Int32 → Int32 → Int32 → Int32 → Int32 → Int32 → Mem → Option (Int32 × Mem)
  | 0, _, _, _, _, _, _, _ => none
  | fuel + 1, v1, v2, v3, v4, v5, v6, σ =>
    if v6 ≤ 0 then
      m_X12_begin_166 f7 f45 v1 v2 v3 v4 v5 v6 (σ)
    else
      obind (ald σ 109 30 (((5 * v2) + v6) - 1)) fun x1 =>
      obind (m_X12_compared x1 v5 σ) fun x2 =>
      if 0 ≤ x2.1 then
        m_X12_begin_166 f7 f45 v1 v2 v3 v4 v5 v6 x2.2
      else
        obind (ald x2.2 109 30 (((5 * v2) + v6) - 1)) fun x3 =>
        obind (ast x2.2 109 30 ((5 * v2) + v6) x3) fun m4 =>
        m_X12_begin_109 f7 f45 fuel v1 v2 v3 v4 v5 (v6 + (-1)) m4

def m_X12_begin_96 (f7 : Int32 → Int32 → Mem → Option (Int32 × Mem)) (f45 : Int32 → Int32 → Int32 → Int32 → Int32 → Mem → Option (Int32 × Mem)) (v1 v2 v3 v4 v5 : Int32) (σ : Mem) : Option (Int32 × Mem) :=
  obind (m_X12_isDemanded v2 v5 σ) fun x1 =>
  if x1.1 = 0 then
    f45 v1 v2 v3 v4 (v5 + 1) x1.2
  else
    m_X12_begin_109 f7 f45 FU v1 v2 v3 v4 v5 v3 x1.2

def m_X12_begin_45 (f7 : Int32 → Int32 → Mem → Option (Int32 × Mem)) : Nat → Int32 → Int32 → Int32 → Int32 → Int32 → Mem → Option (Int32 × Mem)
  | 0, _, _, _, _, _, _ => none
  | fuel + 1, v1, v2, v3, v4, v5, σ =>
    if ((σ) 94 1) ≤ v5 then
      m_X12_begin_188 f7 v1 v2 v3 v4 (σ)
    else
      if ((v1 >>> (v2 &&& 31)) &&& 1) = 1 then
        obind (m_X12_packageOf v5 σ) fun x1 =>
        if x1.1 = v2 then
          obind (m_X12_hinders v5 x1.2) fun x2 =>
          if x2.1 = 0 then
            if v4 = 0 then
              m_X12_begin_96 f7 (m_X12_begin_45 f7 fuel) v1 v2 v3 v4 v5 x2.2
            else
              if (x2.2 94 26) = v5 then
                m_X12_begin_96 f7 (m_X12_begin_45 f7 fuel) v1 v2 v3 v4 v5 x2.2
              else
                m_X12_begin_45 f7 fuel v1 v2 v3 v4 (v5 + 1) x2.2
          else
            m_X12_begin_45 f7 fuel v1 v2 v3 v4 (v5 + 1) x2.2
        else
          m_X12_begin_45 f7 fuel v1 v2 v3 v4 (v5 + 1) x1.2
      else
        m_X12_begin_188 f7 v1 v2 v3 v4 (σ)

def m_X12_begin_7 : Nat → Int32 → Int32 → Mem → Option (Int32 × Mem)
  | 0, _, _, _ => none
  | fuel + 1, v1, v2, σ =>
    if 6 ≤ v2 then
      some (0, σ)
    else
      if ((σ) 94 26) = (-1) then
        m_X12_begin_45 (m_X12_begin_7 fuel) FU v1 v2 0 0 0 (σ)
      else
        obind (m_X12_packageOf ((σ) 94 26) σ) fun x1 =>
        if x1.1 = v2 then
          m_X12_begin_45 (m_X12_begin_7 fuel) FU v1 v2 0 1 0 x1.2
        else
          m_X12_begin_45 (m_X12_begin_7 fuel) FU v1 v2 0 0 0 x1.2

def m_X12_begin (σ : Mem) : Option (Int32 × Mem) :=
  obind (m_X12_reached σ) fun x1 =>
  m_X12_begin_7 FU x1.1 0 x1.2

def m_X12_isBroken_11 : Nat → Int32 → Int32 → Int32 → Int32 → Mem → Option (Int32 × Mem)
  | 0, _, _, _, _, _ => none
  | fuel + 1, v2, v3, v4, v5, σ =>
    if v4 = (-1) then
      some (0, σ)
    else
      obind (ald σ 95 216 ((9 * v4) + 8)) fun x1 =>
      if x1 ≤ v5 then
        some (0, σ)
      else
        obind (some (6 * ((5 * v4) + v5))) fun y2 =>
        obind (ald σ 97 720 y2) fun x3 =>
        obind (m_X12_standsFor x3 σ) fun x4 =>
        obind (m_X12_in x4.1 v2 v3 x4.2) fun x5 =>
        if x5.1 = 0 then
          m_X12_isBroken_11 fuel v2 v3 v4 (v5 + 1) x5.2
        else
          obind (ald x5.2 97 720 (y2 + 3)) fun x6 =>
          if x6 = (-1) then
            obind (ald x5.2 97 720 (y2 + 4)) fun x7 =>
            if ((x7 >>> ((x5.2 94 5) &&& 31)) &&& 1) = 1 then
              obind (ald x5.2 106 6 x4.1) fun x8 =>
              if x8 = (-1) then
                obind (ald x5.2 97 720 (y2 + 2)) fun x11 =>
                if x11 = 1 then
                  m_X12_isBroken_11 fuel v2 v3 v4 (v5 + 1) x5.2
                else
                  some (1, x5.2)
              else
                obind (ald x5.2 97 720 (y2 + 1)) fun x9 =>
                obind (ald x5.2 99 720 ((24 * x9) + x8)) fun x10 =>
                if x10 = 0 then
                  some (1, x5.2)
                else
                  m_X12_isBroken_11 fuel v2 v3 v4 (v5 + 1) x5.2
            else
              m_X12_isBroken_11 fuel v2 v3 v4 (v5 + 1) x5.2
          else
            m_X12_isBroken_11 fuel v2 v3 v4 (v5 + 1) x5.2

def m_X12_isBroken (v1 v2 v3 : Int32) (σ : Mem) : Option (Int32 × Mem) :=
  obind (ald σ 106 6 v1) fun x1 =>
  m_X12_isBroken_11 FU v2 v3 x1 0 (σ)

def m_X12_fitsSoFar_42 (f18 : Int32 → Int32 → Int32 → Mem → Option (Int32 × Mem)) (v1 v3 s0 : Int32) (σ : Mem) : Option (Int32 × Mem) :=
  f18 v1 s0 (v3 + 1) (σ)

def m_X12_fitsSoFar_18 : Nat → Int32 → Int32 → Int32 → Mem → Option (Int32 × Mem)
  | 0, _, _, _, _ => none
  | fuel + 1, v1, v2, v3, σ =>
    if v1 ≤ v3 then
      obind (zchk v2) fun z => some (z, σ)
    else
      if v2 = 0 then
        obind (zchk v2) fun z => some (z, σ)
      else
        obind (m_X12_isBroken v3 v1 v1 σ) fun x1 =>
        if x1.1 = 0 then
          m_X12_fitsSoFar_42 (m_X12_fitsSoFar_18 fuel) v1 v3 1 x1.2
        else
          m_X12_fitsSoFar_42 (m_X12_fitsSoFar_18 fuel) v1 v3 0 x1.2

def m_X12_fitsSoFar (v1 : Int32) (σ : Mem) : Option (Int32 × Mem) :=
  obind (m_X12_isBroken v1 0 v1 σ) fun x1 =>
  if x1.1 = 0 then
    m_X12_fitsSoFar_18 FU v1 1 0 x1.2
  else
    m_X12_fitsSoFar_18 FU v1 0 0 x1.2

def m_X12_goOn_21 : Nat → Int32 → Mem → Option (Int32 × Mem)
  | 0, _, _ => none
  | fuel + 1, v2, σ =>
    if v2 < 0 then
      some (0, σ)
    else
      obind (ald σ 111 6 v2) fun x1 =>
      obind (ast σ 111 6 v2 (x1 + 1)) fun m2 =>
      obind (ald m2 111 6 v2) fun x3 =>
      obind (ald m2 110 6 v2) fun x4 =>
      if x3 < x4 then
        obind (ald m2 111 6 v2) fun x5 =>
        obind (ald m2 109 30 ((5 * v2) + x5)) fun x6 =>
        obind (ast m2 106 6 v2 x6) fun m7 =>
        obind (m_X12_fitsSoFar v2 m7) fun x8 =>
        if x8.1 = 0 then
          m_X12_goOn_21 fuel v2 x8.2
        else
          if v2 = 5 then
            some (1, x8.2)
          else
            obind (ast x8.2 111 6 (v2 + 1) (-1)) fun m9 =>
            m_X12_goOn_21 fuel (v2 + 1) m9
      else
        m_X12_goOn_21 fuel (v2 + (-1)) m2

def m_X12_goOn_9 (v1 s0 : Int32) (σ : Mem) : Option (Int32 × Mem) :=
  if v1 = 0 then
    m_X12_goOn_21 FU s0 (σ)
  else
    obind (ast σ 111 6 0 (-1)) fun m1 =>
    m_X12_goOn_21 FU s0 m1

def m_X12_goOn (v1 : Int32) (σ : Mem) : Option (Int32 × Mem) :=
  if v1 = 0 then
    m_X12_goOn_9 v1 5 (σ)
  else
    m_X12_goOn_9 v1 0 (σ)

def m_X12_areDemandsRight_30 : Nat → Int32 → Mem → Option (Int32 × Mem)
  | 0, _, _ => none
  | fuel + 1, v1, σ =>
    if ((σ) 94 3) ≤ v1 then
      some (1, σ)
    else
      if ((((σ) 94 25) >>> (v1 &&& 31)) &&& 1) = 1 then
        obind (ald σ 100 24 ((4 * v1) + 1)) fun x1 =>
        obind (m_X12_standsFor x1 σ) fun x2 =>
        obind (ald x2.2 106 6 x2.1) fun x3 =>
        if x3 = (-1) then
          some (0, x2.2)
        else
          obind (ald x2.2 100 24 ((4 * v1) + 2)) fun x4 =>
          obind (ald x2.2 106 6 x2.1) fun x5 =>
          obind (ald x2.2 99 720 ((24 * x4) + x5)) fun x6 =>
          if x6 = 0 then
            some (0, x2.2)
          else
            obind (ald x2.2 107 6 x2.1) fun x7 =>
            obind (ald x2.2 100 24 ((4 * v1) + 3)) fun x8 =>
            obind (ast x2.2 107 6 x2.1 (x7 ||| x8)) fun m9 =>
            obind (zchk 1) fun z11 =>
            obind (ast m9 108 6 x2.1 z11) fun m10 =>
            m_X12_areDemandsRight_30 fuel (v1 + 1) m10
      else
        m_X12_areDemandsRight_30 fuel (v1 + 1) (σ)

def m_X12_areDemandsRight_2 : Nat → Int32 → Mem → Option (Int32 × Mem)
  | 0, _, _ => none
  | fuel + 1, v1, σ =>
    if 6 ≤ v1 then
      m_X12_areDemandsRight_30 FU 0 (σ)
    else
      obind (ast σ 107 6 v1 0) fun m1 =>
      obind (zchk 0) fun z3 =>
      obind (ast m1 108 6 v1 z3) fun m2 =>
      m_X12_areDemandsRight_2 fuel (v1 + 1) m2

def m_X12_areDemandsRight (σ : Mem) : Option (Int32 × Mem) :=
  m_X12_areDemandsRight_2 FU 0 (σ)

def m_X12_counts (v1 v2 : Int32) (σ : Mem) : Option (Int32 × Mem) :=
  obind (ald σ 97 720 (v1 + 4)) fun x1 =>
  if ((x1 >>> (((σ) 94 5) &&& 31)) &&& 1) = 1 then
    obind (ald σ 97 720 (v1 + 3)) fun x2 =>
    if x2 = (-1) then
      some (1, σ)
    else
      obind (ald σ 107 6 v2) fun x3 =>
      obind (ald σ 97 720 (v1 + 3)) fun x4 =>
      if ((x3 >>> (x4 &&& 31)) &&& 1) = 1 then
        some (1, σ)
      else
        some (0, σ)
  else
    some (0, σ)

def m_X12_spread_196 (f98 : Int32 → Int32 → Int32 → Int32 → Mem → Option (Int32 × Mem)) (v1 v2 v4 v5 v6 s0 : Int32) (σ : Mem) : Option (Int32 × Mem) :=
  obind (ald σ 107 6 v6) fun x1 =>
  obind (ald σ 97 720 (v5 + 5)) fun x2 =>
  obind (ast σ 107 6 v6 (x1 ||| x2)) fun m3 =>
  f98 v1 v2 s0 (v4 + 1) m3

def m_X12_spread_98 : Nat → Int32 → Int32 → Int32 → Int32 → Mem → Option (Int32 × Mem)
  | 0, _, _, _, _, _ => none
  | fuel + 1, v1, v2, v3, v4, σ =>
    obind (ald σ 95 216 ((9 * v2) + 8)) fun x1 =>
    if x1 ≤ v4 then
      obind (zchk v3) fun z => some (z, σ)
    else
      obind (some (6 * ((5 * v2) + v4))) fun y2 =>
      obind (ald σ 97 720 y2) fun x3 =>
      obind (m_X12_standsFor x3 σ) fun x4 =>
      obind (m_X12_counts y2 v1 x4.2) fun x5 =>
      if x5.1 = 0 then
        m_X12_spread_98 fuel v1 v2 v3 (v4 + 1) x5.2
      else
        obind (ald x5.2 106 6 x4.1) fun x6 =>
        if x6 = (-1) then
          m_X12_spread_98 fuel v1 v2 v3 (v4 + 1) x5.2
        else
          if v3 = 0 then
            obind (ald x5.2 107 6 x4.1) fun x7 =>
            obind (ald x5.2 97 720 (y2 + 5)) fun x8 =>
            obind (ald x5.2 107 6 x4.1) fun x9 =>
            if (x7 ||| x8) = x9 then
              m_X12_spread_196 (m_X12_spread_98 fuel) v1 v2 v4 y2 x4.1 0 x5.2
            else
              m_X12_spread_196 (m_X12_spread_98 fuel) v1 v2 v4 y2 x4.1 1 x5.2
          else
            m_X12_spread_196 (m_X12_spread_98 fuel) v1 v2 v4 y2 x4.1 1 x5.2

def m_X12_spread_77 (f12 : Int32 → Int32 → Int32 → Int32 → Mem → Option (Int32 × Mem)) (v1 v2 v4 v5 s0 : Int32) (σ : Mem) : Option (Int32 × Mem) :=
  obind (ald σ 107 6 v1) fun x1 =>
  obind (ast σ 107 6 v1 (x1 ||| v5)) fun m2 =>
  f12 v1 v2 s0 (v4 + 1) m2

def m_X12_spread_48 (f12 : Int32 → Int32 → Int32 → Int32 → Mem → Option (Int32 × Mem)) (v1 v2 v3 v4 s0 : Int32) (σ : Mem) : Option (Int32 × Mem) :=
  if v3 = 0 then
    obind (ald σ 107 6 v1) fun x1 =>
    obind (ald σ 107 6 v1) fun x2 =>
    if (x1 ||| s0) = x2 then
      m_X12_spread_77 f12 v1 v2 v4 s0 0 (σ)
    else
      m_X12_spread_77 f12 v1 v2 v4 s0 1 (σ)
  else
    m_X12_spread_77 f12 v1 v2 v4 s0 1 (σ)

def m_X12_spread_12 : Nat → Int32 → Int32 → Int32 → Int32 → Mem → Option (Int32 × Mem)
  | 0, _, _, _, _, _ => none
  | fuel + 1, v1, v2, v3, v4, σ =>
    if 3 ≤ v4 then
      m_X12_spread_98 FU v1 v2 v3 0 (σ)
    else
      obind (ald σ 107 6 v1) fun x1 =>
      if ((x1 >>> (v4 &&& 31)) &&& 1) = 1 then
        obind (ald σ 96 72 ((3 * v2) + v4)) fun x2 =>
        m_X12_spread_48 (m_X12_spread_12 fuel) v1 v2 v3 v4 x2 (σ)
      else
        m_X12_spread_48 (m_X12_spread_12 fuel) v1 v2 v3 v4 0 (σ)

def m_X12_spread (v1 : Int32) (σ : Mem) : Option (Int32 × Mem) :=
  obind (ald σ 106 6 v1) fun x1 =>
  m_X12_spread_12 FU v1 x1 0 0 (σ)

def m_X12_areNeedsRight_9 : Nat → Int32 → Int32 → Int32 → Mem → Option (Int32 × Mem)
  | 0, _, _, _, _ => none
  | fuel + 1, v1, v2, v3, σ =>
    obind (ald σ 95 216 ((9 * v2) + 8)) fun x1 =>
    if x1 ≤ v3 then
      some (1, σ)
    else
      obind (some (6 * ((5 * v2) + v3))) fun y2 =>
      obind (ald σ 97 720 y2) fun x3 =>
      obind (m_X12_standsFor x3 σ) fun x4 =>
      obind (ald x4.2 106 6 x4.1) fun x5 =>
      obind (m_X12_counts y2 v1 x4.2) fun x6 =>
      if x6.1 = 0 then
        m_X12_areNeedsRight_9 fuel v1 v2 (v3 + 1) x6.2
      else
        if x5 = (-1) then
          obind (ald x6.2 97 720 (y2 + 2)) fun x9 =>
          if x9 = 1 then
            m_X12_areNeedsRight_9 fuel v1 v2 (v3 + 1) x6.2
          else
            some (0, x6.2)
        else
          obind (ald x6.2 97 720 (y2 + 1)) fun x7 =>
          obind (ald x6.2 99 720 ((24 * x7) + x5)) fun x8 =>
          if x8 = 0 then
            some (0, x6.2)
          else
            m_X12_areNeedsRight_9 fuel v1 v2 (v3 + 1) x6.2

def m_X12_areNeedsRight (v1 : Int32) (σ : Mem) : Option (Int32 × Mem) :=
  obind (ald σ 106 6 v1) fun x1 =>
  m_X12_areNeedsRight_9 FU v1 x1 0 (σ)

def m_X12_pull_12 : Nat → Int32 → Int32 → Int32 → Int32 → Mem → Option (Int32 × Mem)
  | 0, _, _, _, _, _ => none
  | fuel + 1, v1, v2, v3, v4, σ =>
    obind (ald σ 95 216 ((9 * v3) + 8)) fun x1 =>
    if x1 ≤ v4 then
      obind (zchk v2) fun z => some (z, σ)
    else
      obind (some (6 * ((5 * v3) + v4))) fun y2 =>
      obind (ald σ 97 720 y2) fun x3 =>
      obind (m_X12_standsFor x3 σ) fun x4 =>
      obind (m_X12_counts y2 v1 x4.2) fun x5 =>
      if x5.1 = 0 then
        m_X12_pull_12 fuel v1 v2 v3 (v4 + 1) x5.2
      else
        obind (ald x5.2 97 720 (y2 + 2)) fun x6 =>
        if x6 = 2 then
          m_X12_pull_12 fuel v1 v2 v3 (v4 + 1) x5.2
        else
          obind (ald x5.2 106 6 x4.1) fun x7 =>
          if x7 = (-1) then
            m_X12_pull_12 fuel v1 v2 v3 (v4 + 1) x5.2
          else
            obind (ald x5.2 108 6 x4.1) fun x8 =>
            if x8 = 0 then
              obind (zchk 1) fun z10 =>
              obind (ast x5.2 108 6 x4.1 z10) fun m9 =>
              m_X12_pull_12 fuel v1 1 v3 (v4 + 1) m9
            else
              m_X12_pull_12 fuel v1 v2 v3 (v4 + 1) x5.2

def m_X12_pull (v1 : Int32) (σ : Mem) : Option (Int32 × Mem) :=
  obind (ald σ 106 6 v1) fun x1 =>
  m_X12_pull_12 FU v1 0 x1 0 (σ)

def m_X12_isSolution_160 : Nat → Int32 → Mem → Option (Int32 × Mem)
  | 0, _, _ => none
  | fuel + 1, v2, σ =>
    if 6 ≤ v2 then
      some (1, σ)
    else
      obind (ald σ 106 6 v2) fun x1 =>
      if x1 = (-1) then
        m_X12_isSolution_160 fuel (v2 + 1) (σ)
      else
        obind (ald σ 108 6 v2) fun x2 =>
        if x2 = 0 then
          some (0, σ)
        else
          m_X12_isSolution_160 fuel (v2 + 1) (σ)

def m_X12_isSolution_148 (f98 : Int32 → Mem → Option (Int32 × Mem)) (f106 : Int32 → Int32 → Mem → Option (Int32 × Mem)) (v2 s0 : Int32) (σ : Mem) : Option (Int32 × Mem) :=
  f106 s0 (v2 + 1) (σ)

def m_X12_isSolution_139 (f98 : Int32 → Mem → Option (Int32 × Mem)) (f106 : Int32 → Int32 → Mem → Option (Int32 × Mem)) (v1 v2 : Int32) (σ : Mem) : Option (Int32 × Mem) :=
  if v1 = 0 then
    m_X12_isSolution_148 f98 f106 v2 0 (σ)
  else
    m_X12_isSolution_148 f98 f106 v2 1 (σ)

def m_X12_isSolution_106 (f98 : Int32 → Mem → Option (Int32 × Mem)) : Nat → Int32 → Int32 → Mem → Option (Int32 × Mem)
  | 0, _, _, _ => none
  | fuel + 1, v1, v2, σ =>
    if 6 ≤ v2 then
      f98 v1 (σ)
    else
      obind (ald σ 106 6 v2) fun x1 =>
      if x1 = (-1) then
        m_X12_isSolution_139 f98 (m_X12_isSolution_106 f98 fuel) v1 v2 (σ)
      else
        obind (ald σ 108 6 v2) fun x2 =>
        if x2 = 0 then
          m_X12_isSolution_139 f98 (m_X12_isSolution_106 f98 fuel) v1 v2 (σ)
        else
          obind (m_X12_pull v2 σ) fun x3 =>
          if x3.1 = 0 then
            m_X12_isSolution_139 f98 (m_X12_isSolution_106 f98 fuel) v1 v2 x3.2
          else
            m_X12_isSolution_148 f98 (m_X12_isSolution_106 f98 fuel) v2 1 x3.2

def m_X12_isSolution_98 : Nat → Int32 → Mem → Option (Int32 × Mem)
  | 0, _, _ => none
  | fuel + 1, v1, σ =>
    if v1 = 0 then
      m_X12_isSolution_160 FU 0 (σ)
    else
      m_X12_isSolution_106 (m_X12_isSolution_98 fuel) FU 0 0 (σ)

def m_X12_isSolution_64 : Nat → Int32 → Mem → Option (Int32 × Mem)
  | 0, _, _ => none
  | fuel + 1, v2, σ =>
    if 6 ≤ v2 then
      m_X12_isSolution_98 FU 1 (σ)
    else
      obind (ald σ 106 6 v2) fun x1 =>
      if x1 = (-1) then
        m_X12_isSolution_64 fuel (v2 + 1) (σ)
      else
        obind (m_X12_areNeedsRight v2 σ) fun x2 =>
        if x2.1 = 0 then
          some (0, x2.2)
        else
          m_X12_isSolution_64 fuel (v2 + 1) x2.2

def m_X12_isSolution_52 (f11 : Int32 → Mem → Option (Int32 × Mem)) (f19 : Int32 → Int32 → Mem → Option (Int32 × Mem)) (v2 s0 : Int32) (σ : Mem) : Option (Int32 × Mem) :=
  f19 s0 (v2 + 1) (σ)

def m_X12_isSolution_43 (f11 : Int32 → Mem → Option (Int32 × Mem)) (f19 : Int32 → Int32 → Mem → Option (Int32 × Mem)) (v1 v2 : Int32) (σ : Mem) : Option (Int32 × Mem) :=
  if v1 = 0 then
    m_X12_isSolution_52 f11 f19 v2 0 (σ)
  else
    m_X12_isSolution_52 f11 f19 v2 1 (σ)

def m_X12_isSolution_19 (f11 : Int32 → Mem → Option (Int32 × Mem)) : Nat → Int32 → Int32 → Mem → Option (Int32 × Mem)
  | 0, _, _, _ => none
  | fuel + 1, v1, v2, σ =>
    if 6 ≤ v2 then
      f11 v1 (σ)
    else
      obind (ald σ 106 6 v2) fun x1 =>
      if x1 = (-1) then
        m_X12_isSolution_43 f11 (m_X12_isSolution_19 f11 fuel) v1 v2 (σ)
      else
        obind (m_X12_spread v2 σ) fun x2 =>
        if x2.1 = 0 then
          m_X12_isSolution_43 f11 (m_X12_isSolution_19 f11 fuel) v1 v2 x2.2
        else
          m_X12_isSolution_52 f11 (m_X12_isSolution_19 f11 fuel) v2 1 x2.2

def m_X12_isSolution_11 : Nat → Int32 → Mem → Option (Int32 × Mem)
  | 0, _, _ => none
  | fuel + 1, v1, σ =>
    if v1 = 0 then
      m_X12_isSolution_64 FU 0 (σ)
    else
      m_X12_isSolution_19 (m_X12_isSolution_11 fuel) FU 0 0 (σ)

def m_X12_isSolution (σ : Mem) : Option (Int32 × Mem) :=
  obind (m_X12_areDemandsRight σ) fun x1 =>
  if x1.1 = 0 then
    some (0, x1.2)
  else
    m_X12_isSolution_11 FU 1 x1.2

def m_X12_isKept (v1 : Int32) (σ : Mem) : Option (Int32 × Mem) :=
  obind (ald σ 103 6 v1) fun x1 =>
  if x1 = (-1) then
    some (0, σ)
  else
    if ((((σ) 94 7) >>> (v1 &&& 31)) &&& 1) = 0 then
      some (1, σ)
    else
      some (0, σ)

def m_X12_changes_39 (f4 : Int32 → Int32 → Mem → Option (Int32 × Mem)) (v2 s0 s1 : Int32) (σ : Mem) : Option (Int32 × Mem) :=
  obind (some (s0 + s1)) fun y1 =>
  f4 y1 (v2 + 1) (σ)

def m_X12_changes_38 (f4 : Int32 → Int32 → Mem → Option (Int32 × Mem)) (v2 s0 : Int32) (σ : Mem) : Option (Int32 × Mem) :=
  m_X12_changes_39 f4 v2 s0 0 (σ)

def m_X12_changes_4 : Nat → Int32 → Int32 → Mem → Option (Int32 × Mem)
  | 0, _, _, _ => none
  | fuel + 1, v1, v2, σ =>
    if 6 ≤ v2 then
      some (v1, σ)
    else
      obind (m_X12_isKept v2 σ) fun x1 =>
      if x1.1 = 0 then
        m_X12_changes_38 (m_X12_changes_4 fuel) v2 v1 x1.2
      else
        obind (ald x1.2 106 6 v2) fun x2 =>
        obind (ald x1.2 103 6 v2) fun x3 =>
        if x2 = x3 then
          m_X12_changes_38 (m_X12_changes_4 fuel) v2 v1 x1.2
        else
          m_X12_changes_39 (m_X12_changes_4 fuel) v2 v1 1 x1.2

def m_X12_changes (σ : Mem) : Option (Int32 × Mem) :=
  m_X12_changes_4 FU 0 0 (σ)

def m_X12_isWished_57 (v2 v3 : Int32) (σ : Mem) : Option (Int32 × Mem) :=
  if v3 = (-1) then
    some (1, σ)
  else
    if v2 = (-1) then
      some (0, σ)
    else
      obind (m_X12_compared v2 v3 σ) fun x1 =>
      if x1.1 ≤ 0 then
        some (0, x1.2)
      else
        some (1, x1.2)

def m_X12_isWished_38 (v1 v2 v3 s0 s1 : Int32) (σ : Mem) : Option (Int32 × Mem) :=
  if s0 = s1 then
    m_X12_isWished_57 v2 v3 (σ)
  else
    obind (ald σ 103 6 v1) fun x1 =>
    if v2 = x1 then
      some (1, σ)
    else
      some (0, σ)

def m_X12_isWished_23 (v1 v2 v3 s0 : Int32) (σ : Mem) : Option (Int32 × Mem) :=
  obind (ald σ 103 6 v1) fun x1 =>
  if v3 = x1 then
    m_X12_isWished_38 v1 v2 v3 s0 1 (σ)
  else
    m_X12_isWished_38 v1 v2 v3 s0 0 (σ)

def m_X12_isWished (v1 v2 v3 : Int32) (σ : Mem) : Option (Int32 × Mem) :=
  obind (m_X12_isKept v1 σ) fun x1 =>
  if x1.1 = 0 then
    m_X12_isWished_57 v2 v3 x1.2
  else
    obind (ald x1.2 103 6 v1) fun x2 =>
    if v2 = x2 then
      m_X12_isWished_23 v1 v2 v3 1 x1.2
    else
      m_X12_isWished_23 v1 v2 v3 0 x1.2

def m_X12_goesAhead_43 : Nat → Int32 → Mem → Option (Int32 × Mem)
  | 0, _, _ => none
  | fuel + 1, v2, σ =>
    if 6 ≤ v2 then
      some (0, σ)
    else
      obind (ald σ 106 6 v2) fun x1 =>
      obind (ald σ 112 6 v2) fun x2 =>
      if x1 = x2 then
        m_X12_goesAhead_43 fuel (v2 + 1) (σ)
      else
        obind (ald σ 106 6 v2) fun x3 =>
        obind (ald σ 112 6 v2) fun x4 =>
        obind (m_X12_isWished v2 x3 x4 σ) fun x5 =>
        obind (zchk x5.1) fun z => some (z, x5.2)

def m_X12_goesAhead_20 (v1 : Int32) (σ : Mem) : Option (Int32 × Mem) :=
  if ((σ) 94 30) = 0 then
    some (1, σ)
  else
    if ((σ) 94 29) ≤ v1 then
      some (0, σ)
    else
      some (1, σ)

def m_X12_goesAhead (σ : Mem) : Option (Int32 × Mem) :=
  obind (m_X12_changes σ) fun x1 =>
  if (x1.2 94 30) = 0 then
    m_X12_goesAhead_20 x1.1 x1.2
  else
    if x1.1 = (x1.2 94 29) then
      m_X12_goesAhead_43 FU 0 x1.2
    else
      m_X12_goesAhead_20 x1.1 x1.2

def m_X12_find_128 (f40 : Int32 → Mem → Option (Int32 × Mem)) (σ : Mem) : Option (Int32 × Mem) :=
  obind (m_X12_goOn 0 σ) fun x1 =>
  f40 x1.1 x1.2

def m_X12_find_118 (f40 : Int32 → Mem → Option (Int32 × Mem)) (σ : Mem) : Option (Int32 × Mem) :=
  obind (some (up (σ) 94 30 (((σ) 94 30) + 1))) fun m1 =>
  m_X12_find_128 f40 m1

def m_X12_find_111 (f40 : Int32 → Mem → Option (Int32 × Mem)) (f68 : Int32 → Mem → Option (Int32 × Mem)) (v2 s1 s2 : Int32) (σ : Mem) : Option (Int32 × Mem) :=
  obind (ast σ 113 6 s1 s2) fun m1 =>
  f68 (v2 + 1) m1

def m_X12_find_68 (f40 : Int32 → Mem → Option (Int32 × Mem)) : Nat → Int32 → Mem → Option (Int32 × Mem)
  | 0, _, _ => none
  | fuel + 1, v2, σ =>
    if 6 ≤ v2 then
      m_X12_find_118 f40 (σ)
    else
      obind (ald σ 106 6 v2) fun x1 =>
      obind (ast σ 112 6 v2 x1) fun m2 =>
      obind (ald m2 106 6 v2) fun x3 =>
      if x3 = (-1) then
        m_X12_find_111 f40 (m_X12_find_68 f40 fuel) v2 v2 0 m2
      else
        obind (ald m2 107 6 v2) fun x4 =>
        m_X12_find_111 f40 (m_X12_find_68 f40 fuel) v2 v2 x4 m2

def m_X12_find_40 : Nat → Int32 → Mem → Option (Int32 × Mem)
  | 0, _, _ => none
  | fuel + 1, v1, σ =>
    if v1 = 0 then
      obind (some (up (σ) 94 31 1)) fun m1 =>
      some (0, m1)
    else
      obind (m_X12_isSolution σ) fun x2 =>
      if x2.1 = 0 then
        m_X12_find_128 (m_X12_find_40 fuel) x2.2
      else
        obind (m_X12_goesAhead x2.2) fun x3 =>
        if x3.1 = 0 then
          m_X12_find_118 (m_X12_find_40 fuel) x3.2
        else
          obind (m_X12_changes x3.2) fun x4 =>
          obind (some (up x4.2 94 29 x4.1)) fun m5 =>
          m_X12_find_68 (m_X12_find_40 fuel) FU 0 m5

def m_X12_find (σ : Mem) : Option (Int32 × Mem) :=
  if ((σ) 94 31) = 0 then
    obind (m_X12_demandsOf ((σ) 94 6) σ) fun x1 =>
    obind (some (up x1.2 94 25 x1.1)) fun m2 =>
    obind (some (up m2 94 26 (-1))) fun m3 =>
    obind (some (up m3 94 30 0)) fun m4 =>
    obind (m_X12_begin m4) fun x5 =>
    obind (m_X12_goOn 1 x5.2) fun x6 =>
    m_X12_find_40 FU x6.1 x6.2
  else
    some (0, σ)

def m_X12_isSolvable_20 : Nat → Int32 → Mem → Option (Int32 × Mem)
  | 0, _, _ => none
  | fuel + 1, v3, σ =>
    if v3 = 0 then
      some (0, σ)
    else
      obind (m_X12_isSolution σ) fun x1 =>
      if x1.1 = 0 then
        obind (m_X12_goOn 0 x1.2) fun x2 =>
        m_X12_isSolvable_20 fuel x2.1 x2.2
      else
        some (1, x1.2)

def m_X12_isSolvable (v1 v2 : Int32) (σ : Mem) : Option (Int32 × Mem) :=
  obind (some (up (σ) 94 25 v1)) fun m1 =>
  obind (some (up m1 94 26 v2)) fun m2 =>
  obind (m_X12_begin m2) fun x3 =>
  obind (m_X12_goOn 1 x3.2) fun x4 =>
  m_X12_isSolvable_20 FU x4.1 x4.2

def m_X12_solve_82 (f58 : Int32 → Int32 → Mem → Option (Int32 × Mem)) (v4 s0 s1 : Int32) (σ : Mem) : Option (Int32 × Mem) :=
  obind (some (s0 + s1)) fun y1 =>
  f58 y1 (v4 + 1) (σ)

def m_X12_solve_58 : Nat → Int32 → Int32 → Mem → Option (Int32 × Mem)
  | 0, _, _, _ => none
  | fuel + 1, v3, v4, σ =>
    if 6 ≤ v4 then
      if ((σ) 94 30) = 0 then
        some ((-1), σ)
      else
        some (v3, σ)
    else
      obind (ald σ 112 6 v4) fun x1 =>
      if x1 = (-1) then
        m_X12_solve_82 (m_X12_solve_58 fuel) v4 v3 0 (σ)
      else
        m_X12_solve_82 (m_X12_solve_58 fuel) v4 v3 1 (σ)

def m_X12_solve_26 (v1 v2 s1 : Int32) (σ : Mem) : Option (Int32 × Mem) :=
  obind (m_X12_goesWell s1 σ) fun x1 =>
  if x1.1 = 0 then
    some (0, x1.2)
  else
    obind (some (up x1.2 94 6 v1)) fun m2 =>
    obind (some (up m2 94 7 v2)) fun m3 =>
    obind (some (up m3 94 31 0)) fun m4 =>
    obind (m_X12_find m4) fun x5 =>
    m_X12_solve_58 FU 0 0 x5.2

def m_X12_solve_25 (v1 v2 : Int32) (σ : Mem) : Option (Int32 × Mem) :=
  m_X12_solve_26 v1 v2 1 (σ)

def m_X12_solve (v1 v2 : Int32) (σ : Mem) : Option (Int32 × Mem) :=
  obind (m_X12_in v1 0 7 σ) fun x1 =>
  if x1.1 = 0 then
    m_X12_solve_25 v1 v2 x1.2
  else
    obind (m_X12_in v2 0 63 x1.2) fun x2 =>
    if x2.1 = 0 then
      m_X12_solve_25 v1 v2 x2.2
    else
      m_X12_solve_26 v1 v2 0 x2.2

def m_X12_chosenOf (v1 : Int32) (σ : Mem) : Option (Int32 × Mem) :=
  obind (m_X12_find σ) fun x1 =>
  if (x1.2 94 30) = 0 then
    some ((-1), x1.2)
  else
    obind (ald x1.2 112 6 v1) fun x2 =>
    some (x2, x1.2)

def m_X12_chosen_13 (v1 s1 : Int32) (σ : Mem) : Option (Int32 × Mem) :=
  obind (m_X12_goesWell s1 σ) fun x1 =>
  if x1.1 = 0 then
    some (0, x1.2)
  else
    obind (m_X12_chosenOf v1 x1.2) fun x2 =>
    some (x2.1, x2.2)

def m_X12_chosen (v1 : Int32) (σ : Mem) : Option (Int32 × Mem) :=
  obind (m_X12_isPackage v1 σ) fun x1 =>
  if x1.1 = 0 then
    m_X12_chosen_13 v1 1 x1.2
  else
    m_X12_chosen_13 v1 0 x1.2

def m_X12_chosenAnew_13 (v1 s1 : Int32) (σ : Mem) : Option (Int32 × Mem) :=
  obind (m_X12_goesWell s1 σ) fun x1 =>
  if x1.1 = 0 then
    some (0, x1.2)
  else
    obind (some (up x1.2 94 31 0)) fun m2 =>
    obind (m_X12_chosenOf v1 m2) fun x3 =>
    some (x3.1, x3.2)

def m_X12_chosenAnew (v1 : Int32) (σ : Mem) : Option (Int32 × Mem) :=
  obind (m_X12_isPackage v1 σ) fun x1 =>
  if x1.1 = 0 then
    m_X12_chosenAnew_13 v1 1 x1.2
  else
    m_X12_chosenAnew_13 v1 0 x1.2

def m_X12_features_13 (v1 s1 : Int32) (σ : Mem) : Option (Int32 × Mem) :=
  obind (m_X12_goesWell s1 σ) fun x1 =>
  if x1.1 = 0 then
    some (0, x1.2)
  else
    obind (m_X12_chosenOf v1 x1.2) fun x2 =>
    if x2.1 = (-1) then
      some (0, x2.2)
    else
      obind (ald x2.2 113 6 v1) fun x3 =>
      some (x3, x2.2)

def m_X12_features (v1 : Int32) (σ : Mem) : Option (Int32 × Mem) :=
  obind (m_X12_isPackage v1 σ) fun x1 =>
  if x1.1 = 0 then
    m_X12_features_13 v1 1 x1.2
  else
    m_X12_features_13 v1 0 x1.2

def m_X12_solutions (σ : Mem) : Option (Int32 × Mem) :=
  obind (some (up (σ) 94 0 0)) fun m1 =>
  obind (m_X12_find m1) fun x2 =>
  if (x2.2 94 30) ≤ 1000 then
    some (x2.2 94 30, x2.2)
  else
    some (1000, x2.2)

def m_X12_bits_4 : Nat → Int32 → Int32 → Int32 → Mem → Option (Int32 × Mem)
  | 0, _, _, _, _ => none
  | fuel + 1, v0, v1, v2, σ =>
    if 6 ≤ v2 then
      some (v1, σ)
    else
      obind (some (v1 + ((v0 >>> (v2 &&& 31)) &&& 1))) fun y1 =>
      m_X12_bits_4 fuel v0 y1 (v2 + 1) (σ)

def m_X12_bits (v0 : Int32) (σ : Mem) : Option (Int32 × Mem) :=
  m_X12_bits_4 FU v0 0 0 (σ)

def m_X12_why_35 (f20 : Int32 → Int32 → Mem → Option (Int32 × Mem)) : Nat → Int32 → Int32 → Int32 → Mem → Option (Int32 × Mem)
  | 0, _, _, _, _ => none
  | fuel + 1, v1, v2, v3, σ =>
    if v1 < v3 then
      f20 v1 (v2 + 1) (σ)
    else
      if (v3 &&& (v1 ^^^ (-1))) = 0 then
        obind (m_X12_bits v3 σ) fun x1 =>
        if x1.1 = v2 then
          obind (m_X12_isSolvable v3 (-1) x1.2) fun x2 =>
          if x2.1 = 0 then
            some (v3, x2.2)
          else
            m_X12_why_35 f20 fuel v1 v2 (v3 + 1) x2.2
        else
          m_X12_why_35 f20 fuel v1 v2 (v3 + 1) x1.2
      else
        m_X12_why_35 f20 fuel v1 v2 (v3 + 1) (σ)

def m_X12_why_20 : Nat → Int32 → Int32 → Mem → Option (Int32 × Mem)
  | 0, _, _, _ => none
  | fuel + 1, v1, v2, σ =>
    if 6 < v2 then
      some (0, σ)
    else
      if ((σ) 94 30) = 0 then
        m_X12_why_35 (m_X12_why_20 fuel) FU v1 v2 1 (σ)
      else
        some (0, σ)

def m_X12_why (σ : Mem) : Option (Int32 × Mem) :=
  obind (some (up (σ) 94 0 0)) fun m1 =>
  obind (m_X12_find m1) fun x2 =>
  obind (m_X12_demandsOf (x2.2 94 6) x2.2) fun x3 =>
  m_X12_why_20 FU x3.1 1 x3.2

def m_X12_against_147 (v1 v3 : Int32) (σ : Mem) : Option (Int32 × Mem) :=
  obind (m_X12_isSolvable v3 v1 σ) fun x1 =>
  if x1.1 = 0 then
    some (6, x1.2)
  else
    some (7, x1.2)

def m_X12_against_46 : Nat → Int32 → Int32 → Int32 → Mem → Option (Int32 × Mem)
  | 0, _, _, _, _ => none
  | fuel + 1, v1, v3, v4, σ =>
    if ((σ) 94 3) ≤ v4 then
      obind (m_X12_find σ) fun x1 =>
      if (x1.2 94 30) ≤ 0 then
        m_X12_against_147 v1 v3 x1.2
      else
        obind (m_X12_packageOf v1 x1.2) fun x2 =>
        obind (ald x2.2 112 6 x2.1) fun x3 =>
        if x3 = v1 then
          some (0, x2.2)
        else
          m_X12_against_147 v1 v3 x2.2
    else
      if ((v3 >>> (v4 &&& 31)) &&& 1) = 1 then
        obind (ald σ 100 24 ((4 * v4) + 1)) fun x4 =>
        obind (m_X12_standsFor x4 σ) fun x5 =>
        obind (m_X12_packageOf v1 x5.2) fun x6 =>
        if x5.1 = x6.1 then
          obind (ald x6.2 100 24 ((4 * v4) + 2)) fun x7 =>
          obind (ald x6.2 99 720 ((24 * x7) + v1)) fun x8 =>
          if x8 = 0 then
            some (5, x6.2)
          else
            m_X12_against_46 fuel v1 v3 (v4 + 1) x6.2
        else
          m_X12_against_46 fuel v1 v3 (v4 + 1) x6.2
      else
        m_X12_against_46 fuel v1 v3 (v4 + 1) (σ)

def m_X12_against_14 (v1 s1 : Int32) (σ : Mem) : Option (Int32 × Mem) :=
  obind (m_X12_goesWell s1 σ) fun x1 =>
  if x1.1 = 0 then
    some (0, x1.2)
  else
    obind (m_X12_hinders v1 x1.2) fun x2 =>
    if x2.1 = 0 then
      obind (m_X12_demandsOf (x2.2 94 6) x2.2) fun x3 =>
      m_X12_against_46 FU v1 x3.1 0 x3.2
    else
      some (x2.1, x2.2)

def m_X12_against (v1 : Int32) (σ : Mem) : Option (Int32 × Mem) :=
  obind (m_X12_isVersion v1 σ) fun x1 =>
  if x1.1 = 0 then
    m_X12_against_14 v1 1 x1.2
  else
    m_X12_against_14 v1 0 x1.2

def m_X12_lock_56 (f29 : Int32 → Int32 → Mem → Option (Int32 × Mem)) (v2 s0 s1 : Int32) (σ : Mem) : Option (Int32 × Mem) :=
  obind (some (s0 + s1)) fun y1 =>
  obind (ald σ 112 6 v2) fun x2 =>
  obind (ast σ 103 6 v2 x2) fun m3 =>
  f29 y1 (v2 + 1) m3

def m_X12_lock_29 : Nat → Int32 → Int32 → Mem → Option (Int32 × Mem)
  | 0, _, _, _ => none
  | fuel + 1, v1, v2, σ =>
    if 6 ≤ v2 then
      obind (some (up (σ) 94 31 0)) fun m1 =>
      some (v1, m1)
    else
      obind (ald σ 103 6 v2) fun x2 =>
      obind (ald σ 112 6 v2) fun x3 =>
      if x2 = x3 then
        m_X12_lock_56 (m_X12_lock_29 fuel) v2 v1 0 (σ)
      else
        m_X12_lock_56 (m_X12_lock_29 fuel) v2 v1 1 (σ)

def m_X12_lock_17 (s1 : Int32) (σ : Mem) : Option (Int32 × Mem) :=
  obind (m_X12_goesWell s1 σ) fun x1 =>
  if x1.1 = 0 then
    some (0, x1.2)
  else
    m_X12_lock_29 FU 0 0 x1.2

def m_X12_lock (σ : Mem) : Option (Int32 × Mem) :=
  obind (m_X12_find σ) fun x1 =>
  if (x1.2 94 30) = 0 then
    m_X12_lock_17 1 x1.2
  else
    m_X12_lock_17 0 x1.2

def m_X12_unlock_13 (v1 s1 : Int32) (σ : Mem) : Option (Int32 × Mem) :=
  obind (m_X12_goesWell s1 σ) fun x1 =>
  if x1.1 = 0 then
    some (0, x1.2)
  else
    obind (ald x1.2 103 6 v1) fun x2 =>
    obind (ast x1.2 103 6 v1 (-1)) fun m3 =>
    obind (some (up m3 94 31 0)) fun m4 =>
    some (x2, m4)

def m_X12_unlock (v1 : Int32) (σ : Mem) : Option (Int32 × Mem) :=
  obind (m_X12_isPackage v1 σ) fun x1 =>
  if x1.1 = 0 then
    m_X12_unlock_13 v1 1 x1.2
  else
    m_X12_unlock_13 v1 0 x1.2

def m_X12_sumOf (v1 : Int32) (σ : Mem) : Option (Int32 × Mem) :=
  obind (some (9 * v1)) fun y1 =>
  obind (ald σ 95 216 (y1 + 1)) fun x2 =>
  obind (ald σ 95 216 (y1 + 2)) fun x3 =>
  obind (ald σ 95 216 (y1 + 3)) fun x4 =>
  obind (ald σ 95 216 (y1 + 4)) fun x5 =>
  some (((((((31 * v1) + (7 * x2)) + (5 * x3)) + (3 * x4)) + x5) + 1) - ((((((31 * v1) + (7 * x2)) + (5 * x3)) + (3 * x4)) + x5) + 1) / 9973 * 9973, σ)

def m_X12_isRightOnDisk (v1 : Int32) (σ : Mem) : Option (Int32 × Mem) :=
  obind (ald σ 104 6 v1) fun x1 =>
  obind (ald σ 112 6 v1) fun x2 =>
  if x1 = x2 then
    obind (ald σ 112 6 v1) fun x3 =>
    if x3 = (-1) then
      some (1, σ)
    else
      obind (ald σ 105 6 v1) fun x4 =>
      obind (ald σ 112 6 v1) fun x5 =>
      obind (m_X12_sumOf x5 σ) fun x6 =>
      if x4 = x6.1 then
        some (1, x6.2)
      else
        some (0, x6.2)
  else
    some (0, σ)

def m_X12_install_103 (f43 : Int32 → Int32 → Int32 → Mem → Option (Int32 × Mem)) (v1 v2 v3 s1 s2 : Int32) (σ : Mem) : Option (Int32 × Mem) :=
  obind (ast σ 105 6 s1 s2) fun m1 =>
  f43 v1 (v2 + 1) (v3 + 1) m1

def m_X12_install_43 : Nat → Int32 → Int32 → Int32 → Mem → Option (Int32 × Mem)
  | 0, _, _, _, _ => none
  | fuel + 1, v1, v2, v3, σ =>
    if 6 ≤ v3 then
      some (v2, σ)
    else
      if v1 ≤ v2 then
        some (v2, σ)
      else
        obind (m_X12_isRightOnDisk v3 σ) fun x1 =>
        if x1.1 = 0 then
          obind (ald x1.2 112 6 v3) fun x2 =>
          obind (ast x1.2 104 6 v3 x2) fun m3 =>
          obind (ald m3 112 6 v3) fun x4 =>
          if x4 = (-1) then
            m_X12_install_103 (m_X12_install_43 fuel) v1 v2 v3 v3 0 m3
          else
            obind (ald m3 112 6 v3) fun x5 =>
            obind (m_X12_sumOf x5 m3) fun x6 =>
            m_X12_install_103 (m_X12_install_43 fuel) v1 v2 v3 v3 x6.1 x6.2
        else
          m_X12_install_43 fuel v1 v2 (v3 + 1) x1.2

def m_X12_install_31 (v1 s1 : Int32) (σ : Mem) : Option (Int32 × Mem) :=
  obind (m_X12_goesWell s1 σ) fun x1 =>
  if x1.1 = 0 then
    some (0, x1.2)
  else
    m_X12_install_43 FU v1 0 0 x1.2

def m_X12_install (v1 : Int32) (σ : Mem) : Option (Int32 × Mem) :=
  obind (m_X12_find σ) fun x1 =>
  obind (m_X12_in v1 1 10 x1.2) fun x2 =>
  if x2.1 = 0 then
    m_X12_install_31 v1 1 x2.2
  else
    if (x2.2 94 30) = 0 then
      m_X12_install_31 v1 2 x2.2
    else
      m_X12_install_31 v1 0 x2.2

def m_X12_spoil_27 (v1 s1 : Int32) (σ : Mem) : Option (Int32 × Mem) :=
  obind (m_X12_goesWell s1 σ) fun x1 =>
  if x1.1 = 0 then
    some (0, x1.2)
  else
    obind (ald x1.2 105 6 v1) fun x2 =>
    obind (ast x1.2 105 6 v1 (x2 + 1)) fun m3 =>
    obind (ald m3 105 6 v1) fun x4 =>
    some (x4, m3)

def m_X12_spoil (v1 : Int32) (σ : Mem) : Option (Int32 × Mem) :=
  obind (m_X12_isPackage v1 σ) fun x1 =>
  if x1.1 = 0 then
    m_X12_spoil_27 v1 1 x1.2
  else
    obind (ald x1.2 104 6 v1) fun x2 =>
    if x2 = (-1) then
      m_X12_spoil_27 v1 2 x1.2
    else
      m_X12_spoil_27 v1 0 x1.2

def m_X12_onDisk_49 (σ : Mem) : Option (Int32 × Mem) :=
  if ((σ) 94 0) = 0 then
    some ((-1), σ)
  else
    some (0, σ)

def m_X12_onDisk_13 (v1 s1 : Int32) (σ : Mem) : Option (Int32 × Mem) :=
  obind (m_X12_goesWell s1 σ) fun x1 =>
  if x1.1 = 0 then
    m_X12_onDisk_49 x1.2
  else
    obind (ald x1.2 104 6 v1) fun x2 =>
    if x2 = (-1) then
      m_X12_onDisk_49 x1.2
    else
      obind (ald x1.2 104 6 v1) fun x3 =>
      obind (ald x1.2 105 6 v1) fun x4 =>
      some ((10000 * x3) + x4, x1.2)

def m_X12_onDisk (v1 : Int32) (σ : Mem) : Option (Int32 × Mem) :=
  obind (m_X12_isPackage v1 σ) fun x1 =>
  if x1.1 = 0 then
    m_X12_onDisk_13 v1 1 x1.2
  else
    m_X12_onDisk_13 v1 0 x1.2

def m_X12_pending_33 (f13 : Int32 → Int32 → Mem → Option (Int32 × Mem)) (v2 s0 s1 : Int32) (σ : Mem) : Option (Int32 × Mem) :=
  obind (some (s0 + s1)) fun y1 =>
  f13 y1 (v2 + 1) (σ)

def m_X12_pending_13 : Nat → Int32 → Int32 → Mem → Option (Int32 × Mem)
  | 0, _, _, _ => none
  | fuel + 1, v1, v2, σ =>
    if 6 ≤ v2 then
      if ((σ) 94 30) = 0 then
        some ((-1), σ)
      else
        some (v1, σ)
    else
      obind (m_X12_isRightOnDisk v2 σ) fun x1 =>
      if x1.1 = 0 then
        m_X12_pending_33 (m_X12_pending_13 fuel) v2 v1 1 x1.2
      else
        m_X12_pending_33 (m_X12_pending_13 fuel) v2 v1 0 x1.2

def m_X12_pending (σ : Mem) : Option (Int32 × Mem) :=
  obind (some (up (σ) 94 0 0)) fun m1 =>
  obind (m_X12_find m1) fun x2 =>
  m_X12_pending_13 FU 0 0 x2.2

