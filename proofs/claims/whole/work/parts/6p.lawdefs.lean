/-! the law, out of its decoded code, by wip/gen.py -/
def f_L_law_B752 (E : PE) (xs : Nat → Int32) (L : Nat) (k23 : Option Nat → Option Nat → Option Nat → Int32 → PS → Option (Int32 × PS)) (v1 : Option Nat) (v2 : Option Nat) (v3 : Option Nat) (v4 : Int32) (σ : PS) : Option (Int32 × PS) :=
  k23 v1 v2 v3 (v4 + 5) σ
def f_L_law_B414 (E : PE) (xs : Nat → Int32) (L : Nat) (k23 : Option Nat → Option Nat → Option Nat → Int32 → PS → Option (Int32 × PS)) (v1 : Option Nat) (v2 : Option Nat) (v3 : Option Nat) (v4 : Int32) (σ : PS) : Option (Int32 × PS) :=
  f_L_law_B752 E xs L k23 v1 v2 v3 v4 σ
def f_L_law_L23 (E : PE) (xs : Nat → Int32) (L : Nat) : Nat → Option Nat → Option Nat → Option Nat → Int32 → PS → Option (Int32 × PS)
  | 0, _, _, _, _, _ => none
  | n + 1, v1, v2, v3, v4, σ =>
    if (nI L) - (5 : Int32) < v4 then
      some ((1 : Int32), σ)
    else
      (oSl L xs v4).bind fun x13 =>
      if (x13 &&& (31 : Int32)) = (0 : Int32) then
        (oSl L xs (v4 + (1 : Int32))).bind fun x14 =>
        (oK 6 v1 σ).bind fun b17 =>
        bd (f_X5_entry E v1 x14 σ) fun r15 s16 =>
        (oSl L xs (v4 + (1 : Int32))).bind fun x18 =>
        (oK 7 v2 s16).bind fun b21 =>
        bd (f_X6_entry E v2 x18 s16) fun r19 s20 =>
        if r15 = r19 then
          f_L_law_B752 E xs L (f_L_law_L23 E xs L n) v1 v2 v3 v4 s20
        else
          some ((0 : Int32), s20)
      else
      if (x13 &&& (31 : Int32)) = (1 : Int32) then
        (oSl L xs (v4 + (1 : Int32))).bind fun x22 =>
        (oSl L xs (v4 + (2 : Int32))).bind fun x23 =>
        (oSl L xs (v4 + (3 : Int32))).bind fun x24 =>
        (oSl L xs (v4 + (4 : Int32))).bind fun x25 =>
        (oK 6 v1 σ).bind fun b28 =>
        bd (f_X5_octets E v1 x22 x23 ((x24.toInt64 <<< ((32 : Int32).toInt64 &&& 63)) ||| (x25.toInt64 &&& (4294967295 : Int64))) σ) fun r26 s27 =>
        (oSl L xs (v4 + (1 : Int32))).bind fun x29 =>
        (oSl L xs (v4 + (2 : Int32))).bind fun x30 =>
        (oSl L xs (v4 + (3 : Int32))).bind fun x31 =>
        (oSl L xs (v4 + (4 : Int32))).bind fun x32 =>
        (oK 7 v2 s27).bind fun b35 =>
        bd (f_X6_octets E v2 x29 x30 ((x31.toInt64 <<< ((32 : Int32).toInt64 &&& 63)) ||| (x32.toInt64 &&& (4294967295 : Int64))) s27) fun r33 s34 =>
        if r26 = r33 then
          f_L_law_B752 E xs L (f_L_law_L23 E xs L n) v1 v2 v3 v4 s34
        else
          some ((0 : Int32), s34)
      else
      if (x13 &&& (31 : Int32)) = (2 : Int32) then
        (oSl L xs (v4 + (1 : Int32))).bind fun x36 =>
        (oSl L xs (v4 + (2 : Int32))).bind fun x37 =>
        (oSl L xs (v4 + (3 : Int32))).bind fun x38 =>
        (oK 6 v1 σ).bind fun b41 =>
        bd (f_X5_change E v1 x36 x37 x38 σ) fun r39 s40 =>
        (oSl L xs (v4 + (1 : Int32))).bind fun x42 =>
        (oSl L xs (v4 + (2 : Int32))).bind fun x43 =>
        (oSl L xs (v4 + (3 : Int32))).bind fun x44 =>
        (oK 7 v2 s40).bind fun b47 =>
        bd (f_X6_change E v2 x42 x43 x44 s40) fun r45 s46 =>
        if r39 = r45 then
          f_L_law_B752 E xs L (f_L_law_L23 E xs L n) v1 v2 v3 v4 s46
        else
          some ((0 : Int32), s46)
      else
      if (x13 &&& (31 : Int32)) = (3 : Int32) then
        (oSl L xs (v4 + (1 : Int32))).bind fun x48 =>
        (oSl L xs (v4 + (2 : Int32))).bind fun x49 =>
        (oK 6 v1 σ).bind fun b52 =>
        bd (f_X5_pack E v1 x48 x49 σ) fun r50 s51 =>
        (oSl L xs (v4 + (1 : Int32))).bind fun x53 =>
        (oSl L xs (v4 + (2 : Int32))).bind fun x54 =>
        (oK 7 v2 s51).bind fun b57 =>
        bd (f_X6_pack E v2 x53 x54 s51) fun r55 s56 =>
        if r50 = r55 then
          f_L_law_B752 E xs L (f_L_law_L23 E xs L n) v1 v2 v3 v4 s56
        else
          some ((0 : Int32), s56)
      else
      if (x13 &&& (31 : Int32)) = (4 : Int32) then
        (oSl L xs (v4 + (1 : Int32))).bind fun x58 =>
        (oSl L xs (v4 + (2 : Int32))).bind fun x59 =>
        (oK 6 v1 σ).bind fun b62 =>
        bd (f_X5_common E v1 x58 x59 σ) fun r60 s61 =>
        (oSl L xs (v4 + (1 : Int32))).bind fun x63 =>
        (oSl L xs (v4 + (2 : Int32))).bind fun x64 =>
        (oK 7 v2 s61).bind fun b67 =>
        bd (f_X6_common E v2 x63 x64 s61) fun r65 s66 =>
        if r60 = r65 then
          f_L_law_B752 E xs L (f_L_law_L23 E xs L n) v1 v2 v3 v4 s66
        else
          some ((0 : Int32), s66)
      else
      if (x13 &&& (31 : Int32)) = (5 : Int32) then
        (oSl L xs (v4 + (1 : Int32))).bind fun x68 =>
        (oSl L xs (v4 + (2 : Int32))).bind fun x69 =>
        bd (f_L_share E v1 x68 x69 v3 σ) fun r70 s71 =>
        (oSl L xs (v4 + (1 : Int32))).bind fun x72 =>
        (oSl L xs (v4 + (2 : Int32))).bind fun x73 =>
        (oK 7 v2 s71).bind fun b76 =>
        bd (f_X6_share E v2 x72 x73 s71) fun r74 s75 =>
        (oK 7 v2 s75).bind fun b79 =>
        bd (f_X6_thrown E v2 s75) fun r77 s78 =>
        if r77 = r70 then
          if r70 = 0 then
            (oJl v3 (0 : Int32) s78).bind fun x80 =>
            if lg_cmp x80 r74.toInt64 = 0 then
              f_L_law_B414 E xs L (f_L_law_L23 E xs L n) v1 v2 v3 v4 s78
            else
              some ((0 : Int32), s78)
          else
            f_L_law_B414 E xs L (f_L_law_L23 E xs L n) v1 v2 v3 v4 s78
        else
          some ((0 : Int32), s78)
      else
      if (x13 &&& (31 : Int32)) = (6 : Int32) then
        (oSl L xs (v4 + (1 : Int32))).bind fun x81 =>
        (oSl L xs (v4 + (2 : Int32))).bind fun x82 =>
        (oK 6 v1 σ).bind fun b85 =>
        bd (f_X5_distance E v1 x81 x82 σ) fun r83 s84 =>
        (oSl L xs (v4 + (1 : Int32))).bind fun x86 =>
        (oSl L xs (v4 + (2 : Int32))).bind fun x87 =>
        (oK 7 v2 s84).bind fun b90 =>
        bd (f_X6_distance E v2 x86 x87 s84) fun r88 s89 =>
        if r83 = r88 then
          f_L_law_B752 E xs L (f_L_law_L23 E xs L n) v1 v2 v3 v4 s89
        else
          some ((0 : Int32), s89)
      else
      if (x13 &&& (31 : Int32)) = (7 : Int32) then
        (oSl L xs (v4 + (1 : Int32))).bind fun x91 =>
        (oK 6 v1 σ).bind fun b94 =>
        bd (f_X5_order E v1 x91 σ) fun r92 s93 =>
        (oSl L xs (v4 + (1 : Int32))).bind fun x95 =>
        (oK 7 v2 s93).bind fun b98 =>
        bd (f_X6_order E v2 x95 s93) fun r96 s97 =>
        if r92 = r96 then
          f_L_law_B752 E xs L (f_L_law_L23 E xs L n) v1 v2 v3 v4 s97
        else
          some ((0 : Int32), s97)
      else
      if (x13 &&& (31 : Int32)) = (8 : Int32) then
        (oSl L xs (v4 + (1 : Int32))).bind fun x99 =>
        (oK 6 v1 σ).bind fun b102 =>
        bd (f_X5_twin E v1 x99 σ) fun r100 s101 =>
        (oSl L xs (v4 + (1 : Int32))).bind fun x103 =>
        (oK 7 v2 s101).bind fun b106 =>
        bd (f_X6_twin E v2 x103 s101) fun r104 s105 =>
        if r100 = r104 then
          f_L_law_B752 E xs L (f_L_law_L23 E xs L n) v1 v2 v3 v4 s105
        else
          some ((0 : Int32), s105)
      else
      if (x13 &&& (31 : Int32)) = (9 : Int32) then
        (oSl L xs (v4 + (1 : Int32))).bind fun x107 =>
        (oK 6 v1 σ).bind fun b110 =>
        bd (f_X5_group E v1 x107 σ) fun r108 s109 =>
        (oSl L xs (v4 + (1 : Int32))).bind fun x111 =>
        (oK 7 v2 s109).bind fun b114 =>
        bd (f_X6_group E v2 x111 s109) fun r112 s113 =>
        if r108 = r112 then
          f_L_law_B752 E xs L (f_L_law_L23 E xs L n) v1 v2 v3 v4 s113
        else
          some ((0 : Int32), s113)
      else
      if (x13 &&& (31 : Int32)) = (10 : Int32) then
        (oSl L xs (v4 + (1 : Int32))).bind fun x115 =>
        (oK 6 v1 σ).bind fun b118 =>
        bd (f_X5_place E v1 x115 σ) fun r116 s117 =>
        (oSl L xs (v4 + (1 : Int32))).bind fun x119 =>
        (oK 7 v2 s117).bind fun b122 =>
        bd (f_X6_place E v2 x119 s117) fun r120 s121 =>
        if r116 = r120 then
          f_L_law_B752 E xs L (f_L_law_L23 E xs L n) v1 v2 v3 v4 s121
        else
          some ((0 : Int32), s121)
      else
      if (x13 &&& (31 : Int32)) = (11 : Int32) then
        (oSl L xs (v4 + (1 : Int32))).bind fun x123 =>
        (oK 6 v1 σ).bind fun b126 =>
        bd (f_X5_access E v1 x123 σ) fun r124 s125 =>
        (oSl L xs (v4 + (1 : Int32))).bind fun x127 =>
        (oK 7 v2 s125).bind fun b130 =>
        bd (f_X6_access E v2 x127 s125) fun r128 s129 =>
        if r124 = r128 then
          f_L_law_B752 E xs L (f_L_law_L23 E xs L n) v1 v2 v3 v4 s129
        else
          some ((0 : Int32), s129)
      else
      if (x13 &&& (31 : Int32)) = (12 : Int32) then
        (oSl L xs (v4 + (1 : Int32))).bind fun x131 =>
        (oSl L xs (v4 + (2 : Int32))).bind fun x132 =>
        (oK 6 v1 σ).bind fun b135 =>
        bd (f_X5_open E v1 x131 x132 σ) fun r133 s134 =>
        (oSl L xs (v4 + (1 : Int32))).bind fun x136 =>
        (oSl L xs (v4 + (2 : Int32))).bind fun x137 =>
        (oK 7 v2 s134).bind fun b140 =>
        bd (f_X6_open E v2 x136 x137 s134) fun r138 s139 =>
        if r133 = r138 then
          f_L_law_B752 E xs L (f_L_law_L23 E xs L n) v1 v2 v3 v4 s139
        else
          some ((0 : Int32), s139)
      else
      if (x13 &&& (31 : Int32)) = (13 : Int32) then
        (oSl L xs (v4 + (1 : Int32))).bind fun x141 =>
        (oSl L xs (v4 + (2 : Int32))).bind fun x142 =>
        (oK 6 v1 σ).bind fun b145 =>
        bd (f_X5_of E v1 x141 x142 σ) fun r143 s144 =>
        (oSl L xs (v4 + (1 : Int32))).bind fun x146 =>
        (oSl L xs (v4 + (2 : Int32))).bind fun x147 =>
        (oK 7 v2 s144).bind fun b150 =>
        bd (f_X6_of E v2 x146 x147 s144) fun r148 s149 =>
        if r143 = r148 then
          f_L_law_B752 E xs L (f_L_law_L23 E xs L n) v1 v2 v3 v4 s149
        else
          some ((0 : Int32), s149)
      else
      if (x13 &&& (31 : Int32)) = (14 : Int32) then
        (oSl L xs (v4 + (1 : Int32))).bind fun x151 =>
        (oSl L xs (v4 + (2 : Int32))).bind fun x152 =>
        (oSl L xs (v4 + (3 : Int32))).bind fun x153 =>
        (oK 6 v1 σ).bind fun b156 =>
        bd (f_X5_token E v1 x151 x152 x153 σ) fun r154 s155 =>
        (oSl L xs (v4 + (1 : Int32))).bind fun x157 =>
        (oSl L xs (v4 + (2 : Int32))).bind fun x158 =>
        (oSl L xs (v4 + (3 : Int32))).bind fun x159 =>
        (oK 7 v2 s155).bind fun b162 =>
        bd (f_X6_token E v2 x157 x158 x159 s155) fun r160 s161 =>
        if r154 = r160 then
          f_L_law_B752 E xs L (f_L_law_L23 E xs L n) v1 v2 v3 v4 s161
        else
          some ((0 : Int32), s161)
      else
      if (x13 &&& (31 : Int32)) = (15 : Int32) then
        (oSl L xs (v4 + (1 : Int32))).bind fun x163 =>
        (oK 6 v1 σ).bind fun b166 =>
        bd (f_X5_sum E v1 x163 σ) fun r164 s165 =>
        (oSl L xs (v4 + (1 : Int32))).bind fun x167 =>
        (oK 7 v2 s165).bind fun b170 =>
        bd (f_X6_sum E v2 x167 s165) fun r168 s169 =>
        if r164 = r168 then
          f_L_law_B752 E xs L (f_L_law_L23 E xs L n) v1 v2 v3 v4 s169
        else
          some ((0 : Int32), s169)
      else
      if (x13 &&& (31 : Int32)) = (16 : Int32) then
        (oSl L xs (v4 + (1 : Int32))).bind fun x171 =>
        (oK 6 v1 σ).bind fun b174 =>
        bd (f_X5_count E v1 x171 σ) fun r172 s173 =>
        (oSl L xs (v4 + (1 : Int32))).bind fun x175 =>
        (oK 7 v2 s173).bind fun b178 =>
        bd (f_X6_count E v2 x175 s173) fun r176 s177 =>
        if r172 = r176 then
          f_L_law_B752 E xs L (f_L_law_L23 E xs L n) v1 v2 v3 v4 s177
        else
          some ((0 : Int32), s177)
      else
      f_L_law_B752 E xs L (f_L_law_L23 E xs L n) v1 v2 v3 v4 σ
def g_L_law (E : PE) (xs : Nat → Int32) (L : Nat) (σ : PS) : Option (Int32 × PS) :=
  bd (oNw E 6 8 σ) fun x1 s2 =>
  (oK 6 x1 s2).bind fun b5 =>
  bd (f_X5_init E x1 s2) fun _ s4 =>
  bd (oNw E 7 23 s4) fun x6 s7 =>
  (oK 7 x6 s7).bind fun b10 =>
  bd (f_X6_init E x6 s7) fun _ s9 =>
  bd (oNa E 101 (1 : Int32) s9) fun x11 s12 =>
  f_L_law_L23 E xs L E.1 x1 x6 x11 (0 : Int32) s12
