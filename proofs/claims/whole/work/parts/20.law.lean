def f_law_L_1 (xs : Nat → Int32) (L : Nat)   (k : Int32 → Hp → Option (Int32 × Hp)) : Nat → Int32 → Hp → Option (Int32 × Hp)
  | 0, _, _ => none
  | n + 1, l3, h =>
    if ((Int32.ofNat L) - (4 : Int32)) < l3 then
      k l3 h
    else
      xgd (xin l3 L) <|
      if ((xs l3.toNatClampNeg) &&& (31 : Int32)) = (0 : Int32) then
        xgd (xin (l3 + (1 : Int32)) L) <|
        xgd (xin (l3 + (2 : Int32)) L) <|
        xgd (xin (l3 + (3 : Int32)) L) <|
        xbd2 (f_x_type ((jshlL (xs (l3 + (1 : Int32)).toNatClampNeg).toInt64 (32 : Int32)) ||| ((xs (l3 + (2 : Int32)).toNatClampNeg).toInt64 &&& (4294967295 : Int64))) (xs (l3 + (3 : Int32)).toNatClampNeg) h) fun v_10 h_9 =>
        xbd2 (f_m_type ((jshlL (xs (l3 + (1 : Int32)).toNatClampNeg).toInt64 (32 : Int32)) ||| ((xs (l3 + (2 : Int32)).toNatClampNeg).toInt64 &&& (4294967295 : Int64))) (xs (l3 + (3 : Int32)).toNatClampNeg) h_9) fun v_13 h_12 =>
        if v_10 = v_13 then
          (f_law_L_1 xs L k n) (l3 + (4 : Int32)) h_12
        else
          some ((0 : Int32), h_12)
      else
        if ((xs l3.toNatClampNeg) &&& (31 : Int32)) = (1 : Int32) then
          if (f_x_clear h).1 = (f_m_clear (f_x_clear h).2).1 then
            (f_law_L_1 xs L k n) (l3 + (4 : Int32)) (f_m_clear (f_x_clear h).2).2
          else
            some ((0 : Int32), (f_m_clear (f_x_clear h).2).2)
        else
          if ((xs l3.toNatClampNeg) &&& (31 : Int32)) = (2 : Int32) then
            xbd2 (f_x_hall h) fun v_20 h_19 =>
            xbd2 (f_m_hall h_19) fun v_23 h_22 =>
            if v_20 = v_23 then
              (f_law_L_1 xs L k n) (l3 + (4 : Int32)) h_22
            else
              some ((0 : Int32), h_22)
          else
            if ((xs l3.toNatClampNeg) &&& (31 : Int32)) = (3 : Int32) then
              xgd (xin (l3 + (1 : Int32)) L) <|
              xbd1 (f_x_sign (xs (l3 + (1 : Int32)).toNatClampNeg) h) fun v_28 =>
              xbd1 (f_m_sign (xs (l3 + (1 : Int32)).toNatClampNeg) h) fun v_30 =>
              if v_28 = v_30 then
                (f_law_L_1 xs L k n) (l3 + (4 : Int32)) h
              else
                some ((0 : Int32), h)
            else
              if ((xs l3.toNatClampNeg) &&& (31 : Int32)) = (4 : Int32) then
                xgd (xin (l3 + (1 : Int32)) L) <|
                xgd (xin (l3 + (2 : Int32)) L) <|
                xbd2 (f_x_door (xs (l3 + (1 : Int32)).toNatClampNeg) (xs (l3 + (2 : Int32)).toNatClampNeg) h) fun v_37 h_36 =>
                xbd2 (f_m_door (xs (l3 + (1 : Int32)).toNatClampNeg) (xs (l3 + (2 : Int32)).toNatClampNeg) h_36) fun v_40 h_39 =>
                if v_37 = v_40 then
                  (f_law_L_1 xs L k n) (l3 + (4 : Int32)) h_39
                else
                  some ((0 : Int32), h_39)
              else
                if ((xs l3.toNatClampNeg) &&& (31 : Int32)) = (5 : Int32) then
                  xgd (xin (l3 + (1 : Int32)) L) <|
                  xbd1 (f_x_sees (xs (l3 + (1 : Int32)).toNatClampNeg) h) fun v_45 =>
                  xbd1 (f_m_sees (xs (l3 + (1 : Int32)).toNatClampNeg) h) fun v_47 =>
                  if (lg_cmp v_45 v_47) = (0 : Int32) then
                    (f_law_L_1 xs L k n) (l3 + (4 : Int32)) h
                  else
                    some ((0 : Int32), h)
                else
                  if ((xs l3.toNatClampNeg) &&& (31 : Int32)) = (6 : Int32) then
                    xgd (xin (l3 + (1 : Int32)) L) <|
                    xgd (xin (l3 + (2 : Int32)) L) <|
                    xbd2 (f_x_person (xs (l3 + (1 : Int32)).toNatClampNeg) (xs (l3 + (2 : Int32)).toNatClampNeg) h) fun v_54 h_53 =>
                    xbd2 (f_m_person (xs (l3 + (1 : Int32)).toNatClampNeg) (xs (l3 + (2 : Int32)).toNatClampNeg) h_53) fun v_57 h_56 =>
                    if v_54 = v_57 then
                      (f_law_L_1 xs L k n) (l3 + (4 : Int32)) h_56
                    else
                      some ((0 : Int32), h_56)
                  else
                    if ((xs l3.toNatClampNeg) &&& (31 : Int32)) = (7 : Int32) then
                      xgd (xin (l3 + (1 : Int32)) L) <|
                      xgd (xin (l3 + (2 : Int32)) L) <|
                      xbd2 (f_x_carrier (xs (l3 + (1 : Int32)).toNatClampNeg) (xs (l3 + (2 : Int32)).toNatClampNeg) h) fun v_64 h_63 =>
                      xbd2 (f_m_carrier (xs (l3 + (1 : Int32)).toNatClampNeg) (xs (l3 + (2 : Int32)).toNatClampNeg) h_63) fun v_67 h_66 =>
                      if v_64 = v_67 then
                        (f_law_L_1 xs L k n) (l3 + (4 : Int32)) h_66
                      else
                        some ((0 : Int32), h_66)
                    else
                      if ((xs l3.toNatClampNeg) &&& (31 : Int32)) = (8 : Int32) then
                        xgd (xin (l3 + (1 : Int32)) L) <|
                        xgd (xin (l3 + (2 : Int32)) L) <|
                        xbd1 (f_x_at (xs (l3 + (1 : Int32)).toNatClampNeg) (xs (l3 + (2 : Int32)).toNatClampNeg) h) fun v_73 =>
                        xbd1 (f_m_at (xs (l3 + (1 : Int32)).toNatClampNeg) (xs (l3 + (2 : Int32)).toNatClampNeg) h) fun v_75 =>
                        if v_73 = v_75 then
                          (f_law_L_1 xs L k n) (l3 + (4 : Int32)) h
                        else
                          some ((0 : Int32), h)
                      else
                        if ((xs l3.toNatClampNeg) &&& (31 : Int32)) = (9 : Int32) then
                          xgd (xin (l3 + (1 : Int32)) L) <|
                          xgd (xin (l3 + (2 : Int32)) L) <|
                          xbd2 (f_x_could (xs (l3 + (1 : Int32)).toNatClampNeg) (xs (l3 + (2 : Int32)).toNatClampNeg) h) fun v_82 h_81 =>
                          xbd1 (f_m_could (xs (l3 + (1 : Int32)).toNatClampNeg) (xs (l3 + (2 : Int32)).toNatClampNeg) h_81) fun v_84 =>
                          if (lg_cmp v_82 v_84) = (0 : Int32) then
                            (f_law_L_1 xs L k n) (l3 + (4 : Int32)) h_81
                          else
                            some ((0 : Int32), h_81)
                        else
                          if ((xs l3.toNatClampNeg) &&& (31 : Int32)) = (10 : Int32) then
                            xgd (xin (l3 + (1 : Int32)) L) <|
                            xgd (xin (l3 + (2 : Int32)) L) <|
                            xbd2 (f_x_anybody (xs (l3 + (1 : Int32)).toNatClampNeg) (xs (l3 + (2 : Int32)).toNatClampNeg) h) fun v_91 h_90 =>
                            xbd1 (f_m_anybody (xs (l3 + (1 : Int32)).toNatClampNeg) (xs (l3 + (2 : Int32)).toNatClampNeg) h_90) fun v_93 =>
                            if (lg_cmp v_91 v_93) = (0 : Int32) then
                              (f_law_L_1 xs L k n) (l3 + (4 : Int32)) h_90
                            else
                              some ((0 : Int32), h_90)
                          else
                            if ((xs l3.toNatClampNeg) &&& (31 : Int32)) = (11 : Int32) then
                              xgd (xin (l3 + (1 : Int32)) L) <|
                              xbd2 (f_x_let (xs (l3 + (1 : Int32)).toNatClampNeg) h) fun v_99 h_98 =>
                              xbd1 (f_m_let (xs (l3 + (1 : Int32)).toNatClampNeg) h_98) fun v_101 =>
                              if v_99 = v_101 then
                                (f_law_L_1 xs L k n) (l3 + (4 : Int32)) h_98
                              else
                                some ((0 : Int32), h_98)
                            else
                              if ((xs l3.toNatClampNeg) &&& (31 : Int32)) = (12 : Int32) then
                                xgd (xin (l3 + (1 : Int32)) L) <|
                                xgd (xin (l3 + (2 : Int32)) L) <|
                                xgd (xin (l3 + (3 : Int32)) L) <|
                                xbd2 (f_x_soonest (xs (l3 + (1 : Int32)).toNatClampNeg) (xs (l3 + (2 : Int32)).toNatClampNeg) (xs (l3 + (3 : Int32)).toNatClampNeg) h) fun v_109 h_108 =>
                                xbd2 (f_m_soonest (xs (l3 + (1 : Int32)).toNatClampNeg) (xs (l3 + (2 : Int32)).toNatClampNeg) (xs (l3 + (3 : Int32)).toNatClampNeg) h_108) fun v_112 h_111 =>
                                if v_109 = v_112 then
                                  (f_law_L_1 xs L k n) (l3 + (4 : Int32)) h_111
                                else
                                  some ((0 : Int32), h_111)
                              else
                                if ((xs l3.toNatClampNeg) &&& (31 : Int32)) = (13 : Int32) then
                                  xgd (xin (l3 + (1 : Int32)) L) <|
                                  xgd (xin (l3 + (2 : Int32)) L) <|
                                  xbd2 (f_x_act (xs (l3 + (1 : Int32)).toNatClampNeg) (xs (l3 + (2 : Int32)).toNatClampNeg) h) fun v_119 h_118 =>
                                  xbd2 (f_m_act (xs (l3 + (1 : Int32)).toNatClampNeg) (xs (l3 + (2 : Int32)).toNatClampNeg) h_118) fun v_122 h_121 =>
                                  if v_119 = v_122 then
                                    (f_law_L_1 xs L k n) (l3 + (4 : Int32)) h_121
                                  else
                                    some ((0 : Int32), h_121)
                                else
                                  if ((xs l3.toNatClampNeg) &&& (31 : Int32)) = (14 : Int32) then
                                    xgd (xin (l3 + (1 : Int32)) L) <|
                                    xgd (xin (l3 + (2 : Int32)) L) <|
                                    xbd2 (f_x_walk (xs (l3 + (1 : Int32)).toNatClampNeg) (xs (l3 + (2 : Int32)).toNatClampNeg) h) fun v_129 h_128 =>
                                    xbd2 (f_m_walk (xs (l3 + (1 : Int32)).toNatClampNeg) (xs (l3 + (2 : Int32)).toNatClampNeg) h_128) fun v_132 h_131 =>
                                    if v_129 = v_132 then
                                      (f_law_L_1 xs L k n) (l3 + (4 : Int32)) h_131
                                    else
                                      some ((0 : Int32), h_131)
                                  else
                                    if ((xs l3.toNatClampNeg) &&& (31 : Int32)) = (15 : Int32) then
                                      xgd (xin (l3 + (1 : Int32)) L) <|
                                      xbd2 (f_x_tick (xs (l3 + (1 : Int32)).toNatClampNeg) h) fun v_138 h_137 =>
                                      xbd2 (f_m_tick (xs (l3 + (1 : Int32)).toNatClampNeg) h_137) fun v_141 h_140 =>
                                      if v_138 = v_141 then
                                        (f_law_L_1 xs L k n) (l3 + (4 : Int32)) h_140
                                      else
                                        some ((0 : Int32), h_140)
                                    else
                                      if ((xs l3.toNatClampNeg) &&& (31 : Int32)) = (16 : Int32) then
                                        xgd (xin (l3 + (1 : Int32)) L) <|
                                        xgd (xin (l3 + (2 : Int32)) L) <|
                                        xbd1 (f_x_line (xs (l3 + (1 : Int32)).toNatClampNeg) (xs (l3 + (2 : Int32)).toNatClampNeg) h) fun v_147 =>
                                        xbd1 (f_m_line (xs (l3 + (1 : Int32)).toNatClampNeg) (xs (l3 + (2 : Int32)).toNatClampNeg) h) fun v_149 =>
                                        if v_147 = v_149 then
                                          (f_law_L_1 xs L k n) (l3 + (4 : Int32)) h
                                        else
                                          some ((0 : Int32), h)
                                      else
                                        if ((xs l3.toNatClampNeg) &&& (31 : Int32)) = (17 : Int32) then
                                          xgd (xin (l3 + (1 : Int32)) L) <|
                                          xgd (xin (l3 + (2 : Int32)) L) <|
                                          xbd1 (f_x_age (xs (l3 + (1 : Int32)).toNatClampNeg) (xs (l3 + (2 : Int32)).toNatClampNeg) h) fun v_155 =>
                                          xbd1 (f_m_age (xs (l3 + (1 : Int32)).toNatClampNeg) (xs (l3 + (2 : Int32)).toNatClampNeg) h) fun v_157 =>
                                          if v_155 = v_157 then
                                            (f_law_L_1 xs L k n) (l3 + (4 : Int32)) h
                                          else
                                            some ((0 : Int32), h)
                                        else
                                          if ((xs l3.toNatClampNeg) &&& (31 : Int32)) = (18 : Int32) then
                                            xgd (xin (l3 + (1 : Int32)) L) <|
                                            xgd (xin (l3 + (2 : Int32)) L) <|
                                            xbd2 (f_x_charge (xs (l3 + (1 : Int32)).toNatClampNeg) (xs (l3 + (2 : Int32)).toNatClampNeg) h) fun v_164 h_163 =>
                                            xbd2 (f_m_charge (xs (l3 + (1 : Int32)).toNatClampNeg) (xs (l3 + (2 : Int32)).toNatClampNeg) h_163) fun v_167 h_166 =>
                                            if v_164 = v_167 then
                                              (f_law_L_1 xs L k n) (l3 + (4 : Int32)) h_166
                                            else
                                              some ((0 : Int32), h_166)
                                          else
                                            if ((xs l3.toNatClampNeg) &&& (31 : Int32)) = (19 : Int32) then
                                              xbd2 (f_m_lost (f_x_lost h).2) fun v_172 h_171 =>
                                              if (f_x_lost h).1 = v_172 then
                                                (f_law_L_1 xs L k n) (l3 + (4 : Int32)) h_171
                                              else
                                                some ((0 : Int32), h_171)
                                            else
                                              if ((xs l3.toNatClampNeg) &&& (31 : Int32)) = (20 : Int32) then
                                                xgd (xin (l3 + (1 : Int32)) L) <|
                                                xgd (xin (l3 + (2 : Int32)) L) <|
                                                xbd2 (f_x_look (xs (l3 + (1 : Int32)).toNatClampNeg) (xs (l3 + (2 : Int32)).toNatClampNeg) h) fun v_179 h_178 =>
                                                xbd2 (f_m_look (xs (l3 + (1 : Int32)).toNatClampNeg) (xs (l3 + (2 : Int32)).toNatClampNeg) h_178) fun v_182 h_181 =>
                                                if v_179 = v_182 then
                                                  (f_law_L_1 xs L k n) (l3 + (4 : Int32)) h_181
                                                else
                                                  some ((0 : Int32), h_181)
                                              else
                                                if ((xs l3.toNatClampNeg) &&& (31 : Int32)) = (21 : Int32) then
                                                  xgd (xin (l3 + (1 : Int32)) L) <|
                                                  xbd2 (f_m_step (xs (l3 + (1 : Int32)).toNatClampNeg) (f_x_step (xs (l3 + (1 : Int32)).toNatClampNeg) h).2) fun v_188 h_187 =>
                                                  if (f_x_step (xs (l3 + (1 : Int32)).toNatClampNeg) h).1 = v_188 then
                                                    (f_law_L_1 xs L k n) (l3 + (4 : Int32)) h_187
                                                  else
                                                    some ((0 : Int32), h_187)
                                                else
                                                  if ((xs l3.toNatClampNeg) &&& (31 : Int32)) = (22 : Int32) then
                                                    if (lg_cmp (f_x_where h) (f_m_where h)) = (0 : Int32) then
                                                      (f_law_L_1 xs L k n) (l3 + (4 : Int32)) h
                                                    else
                                                      some ((0 : Int32), h)
                                                  else
                                                    if ((xs l3.toNatClampNeg) &&& (31 : Int32)) = (23 : Int32) then
                                                      xgd (xin (l3 + (1 : Int32)) L) <|
                                                      xbd1 (f_x_tells (xs (l3 + (1 : Int32)).toNatClampNeg) h) fun v_195 =>
                                                      xbd2 (f_m_tells (xs (l3 + (1 : Int32)).toNatClampNeg) h) fun v_198 h_197 =>
                                                      if v_195 = v_198 then
                                                        (f_law_L_1 xs L k n) (l3 + (4 : Int32)) h_197
                                                      else
                                                        some ((0 : Int32), h_197)
                                                    else
                                                      if ((xs l3.toNatClampNeg) &&& (31 : Int32)) = (24 : Int32) then
                                                        xgd (xin (l3 + (1 : Int32)) L) <|
                                                        xgd (xin (l3 + (2 : Int32)) L) <|
                                                        xgd (xin (l3 + (3 : Int32)) L) <|
                                                        xbd2 (f_x_order (xs (l3 + (1 : Int32)).toNatClampNeg) (xs (l3 + (2 : Int32)).toNatClampNeg) (xs (l3 + (3 : Int32)).toNatClampNeg) h) fun v_206 h_205 =>
                                                        xbd2 (f_m_order (xs (l3 + (1 : Int32)).toNatClampNeg) (xs (l3 + (2 : Int32)).toNatClampNeg) (xs (l3 + (3 : Int32)).toNatClampNeg) h_205) fun v_209 h_208 =>
                                                        if v_206 = v_209 then
                                                          (f_law_L_1 xs L k n) (l3 + (4 : Int32)) h_208
                                                        else
                                                          some ((0 : Int32), h_208)
                                                      else
                                                        if ((xs l3.toNatClampNeg) &&& (31 : Int32)) = (25 : Int32) then
                                                          xbd2 (f_x_late h) fun v_214 h_213 =>
                                                          xbd2 (f_m_late h_213) fun v_217 h_216 =>
                                                          if v_214 = v_217 then
                                                            (f_law_L_1 xs L k n) (l3 + (4 : Int32)) h_216
                                                          else
                                                            some ((0 : Int32), h_216)
                                                        else
                                                          if ((xs l3.toNatClampNeg) &&& (31 : Int32)) = (26 : Int32) then
                                                            xgd (xin (l3 + (1 : Int32)) L) <|
                                                            xgd (xin (l3 + (2 : Int32)) L) <|
                                                            xbd2 (f_x_served (xs (l3 + (1 : Int32)).toNatClampNeg) (xs (l3 + (2 : Int32)).toNatClampNeg) h) fun v_224 h_223 =>
                                                            xbd2 (f_m_served (xs (l3 + (1 : Int32)).toNatClampNeg) (xs (l3 + (2 : Int32)).toNatClampNeg) h_223) fun v_227 h_226 =>
                                                            if v_224 = v_227 then
                                                              (f_law_L_1 xs L k n) (l3 + (4 : Int32)) h_226
                                                            else
                                                              some ((0 : Int32), h_226)
                                                          else
                                                            if ((xs l3.toNatClampNeg) &&& (31 : Int32)) = (27 : Int32) then
                                                              xgd (xin (l3 + (1 : Int32)) L) <|
                                                              xbd2 (f_x_keep (xs (l3 + (1 : Int32)).toNatClampNeg) h) fun v_233 h_232 =>
                                                              xbd2 (f_m_keep (xs (l3 + (1 : Int32)).toNatClampNeg) h_232) fun v_236 h_235 =>
                                                              if v_233 = v_236 then
                                                                (f_law_L_1 xs L k n) (l3 + (4 : Int32)) h_235
                                                              else
                                                                some ((0 : Int32), h_235)
                                                            else
                                                              if ((xs l3.toNatClampNeg) &&& (31 : Int32)) = (28 : Int32) then
                                                                xgd (xin (l3 + (1 : Int32)) L) <|
                                                                xbd2 (f_x_back (xs (l3 + (1 : Int32)).toNatClampNeg) h) fun v_242 h_241 =>
                                                                xbd2 (f_m_back (xs (l3 + (1 : Int32)).toNatClampNeg) h_241) fun v_245 h_244 =>
                                                                if v_242 = v_245 then
                                                                  (f_law_L_1 xs L k n) (l3 + (4 : Int32)) h_244
                                                                else
                                                                  some ((0 : Int32), h_244)
                                                              else
                                                                if ((xs l3.toNatClampNeg) &&& (31 : Int32)) = (29 : Int32) then
                                                                  xgd (xin (l3 + (1 : Int32)) L) <|
                                                                  xbd1 (f_m_count (xs (l3 + (1 : Int32)).toNatClampNeg) h) fun v_250 =>
                                                                  if (f_x_count (xs (l3 + (1 : Int32)).toNatClampNeg) h) = v_250 then
                                                                    (f_law_L_1 xs L k n) (l3 + (4 : Int32)) h
                                                                  else
                                                                    some ((0 : Int32), h)
                                                                else
                                                                  if ((xs l3.toNatClampNeg) &&& (31 : Int32)) = (30 : Int32) then
                                                                    if (lg_cmp (f_x_trace h) (f_m_trace h)) = (0 : Int32) then
                                                                      (f_law_L_1 xs L k n) (l3 + (4 : Int32)) h
                                                                    else
                                                                      some ((0 : Int32), h)
                                                                  else
                                                                    (f_law_L_1 xs L k n) (l3 + (4 : Int32)) h
set_option maxRecDepth 100000 in
set_option maxHeartbeats 4000000 in
theorem f_law_L_1_ok {X : XCtx} (hX : XOk X RL code 4 20 66) {bb : Nat} {h' : Hp} (hR : XRL X bb) (xs : Nat → Int32) (L : Nat)   (k : Int32 → Hp → Option (Int32 × Hp)) (hS : XScr X L xs) (hZ : XZ X) (hk : ∀ (l3 : Int32) (h : Hp), k l3 h = some ((1 : Int32), h') → XW X 1046 [] [] h) : ∀ (n : Nat) (l3 : Int32) (h : Hp), f_law_L_1 xs L k n l3 h = some ((1 : Int32), h') → XW X 18 [(0, .ref 67), (1, .ref 0), (2, .ref 39), (3, .int l3)] [] h := by
  intro n
  induction n with
  | zero => intro l3 h hf; cases hf
  | succ n ih =>
    intro l3 h hf
    rw [f_law_L_1] at hf
    refine Xblk hX pkL_ok [.iload_n 3, .aload_n 0] (pc' := 20) (ls' := [(0, .ref 67), (1, .ref 0), (2, .ref 39), (3, .int l3)]) (st' := [.ref 67, .int l3]) (h' := h) (g := true) (by decide +kernel) rfl rfl rfl ?_
    refine Xslen hX hS (by decide +kernel) ?_
    refine Xblk hX pkL_ok [.iconst 4, .isub] (pc' := 23) (ls' := [(0, .ref 67), (1, .ref 0), (2, .ref 39), (3, .int l3)]) (st' := [.int ((Int32.ofNat L) - (4 : Int32)), .int l3]) (h' := h) (g := true) (by decide +kernel) rfl rfl rfl ?_
    refine Xbr hX (.if_icmp .gt (1023)) (tgt := 1046) (P := ((Int32.ofNat L) - (4 : Int32)) < l3) (r := []) (by decide +kernel) rfl (by decide) (fun hc_2 => ?_) (fun hc_2 => ?_)
    · replace hf := xif_t hc_2 hf
      refine XW.pick [] (ls' := []) rfl ?_
      exact hk l3 h hf
    · replace hf := xif_f hc_2 hf
      refine Xblk hX pkL_ok [.aload_n 0, .iload_n 3] (pc' := 28) (ls' := [(0, .ref 67), (1, .ref 0), (2, .ref 39), (3, .int l3)]) (st' := [.int l3, .ref 67]) (h' := h) (g := true) (by decide +kernel) rfl rfl rfl ?_
      obtain ⟨hg_3, hf⟩ := xgd_inv hf
      refine Xsld hX hS (by decide +kernel) hg_3 ?_
      refine Xblk hX pkL_ok [.bipush 31, .iand] (pc' := 32) (ls' := [(0, .ref 67), (1, .ref 0), (2, .ref 39), (3, .int l3)]) (st' := [.int ((xs l3.toNatClampNeg) &&& (31 : Int32))]) (h' := h) (g := true) (by decide +kernel) rfl rfl rfl ?_
      by_cases hc_4 : ((xs l3.toNatClampNeg) &&& (31 : Int32)) = (0 : Int32)
      · replace hf := xif_t hc_4 hf
        refine XswAt hX 172 hc_4 (show decode _ _ = .ok (.tableswitch (1008) (0) (30) #[140, 203, 216, 229, 252, 285, 309, 342, 375, 408, 442, 476, 499, 542, 575, 608, 631, 664, 697, 730, 743, 776, 799, 813, 836, 879, 892, 925, 948, 971, 994], 140) by decide +kernel) (by decide) (by decide) (o := 140) (by decide) (by decide) ?_
        refine Xblk hX pkL_ok [.aload_n 1, .aload_n 0, .iload_n 3, .iconst 1, .iadd] (pc' := 177) (ls' := [(0, .ref 67), (1, .ref 0), (2, .ref 39), (3, .int l3)]) (st' := [.int (l3 + (1 : Int32)), .ref 67, .ref 0]) (h' := h) (g := true) (by decide +kernel) rfl rfl rfl ?_
        obtain ⟨hg_5, hf⟩ := xgd_inv hf
        refine Xsld hX hS (by decide +kernel) hg_5 ?_
        refine Xblk hX pkL_ok [.i2l, .bipush 32, .lshl, .aload_n 0, .iload_n 3, .iconst 2, .iadd] (pc' := 186) (ls' := [(0, .ref 67), (1, .ref 0), (2, .ref 39), (3, .int l3)]) (st' := [.int (l3 + (2 : Int32)), .ref 67, .long (jshlL (xs (l3 + (1 : Int32)).toNatClampNeg).toInt64 (32 : Int32)), .ref 0]) (h' := h) (g := true) (by decide +kernel) rfl rfl rfl ?_
        obtain ⟨hg_6, hf⟩ := xgd_inv hf
        refine Xsld hX hS (by decide +kernel) hg_6 ?_
        refine Xblk hX pkL_ok [.i2l, .ldc2_w 13, .land, .lor, .aload_n 0, .iload_n 3, .iconst 3, .iadd] (pc' := 197) (ls' := [(0, .ref 67), (1, .ref 0), (2, .ref 39), (3, .int l3)]) (st' := [.int (l3 + (3 : Int32)), .ref 67, .long ((jshlL (xs (l3 + (1 : Int32)).toNatClampNeg).toInt64 (32 : Int32)) ||| ((xs (l3 + (2 : Int32)).toNatClampNeg).toInt64 &&& (4294967295 : Int64))), .ref 0]) (h' := h) (g := true) (by decide +kernel) rfl rfl rfl ?_
        obtain ⟨hg_7, hf⟩ := xgd_inv hf
        refine Xsld hX hS (by decide +kernel) hg_7 ?_
        obtain ⟨v_10, h_9, hc_8, hf⟩ := xbd2_inv hf
        refine XcallV hX (mt_x_type ((jshlL (xs (l3 + (1 : Int32)).toNatClampNeg).toInt64 (32 : Int32)) ||| ((xs (l3 + (2 : Int32)).toNatClampNeg).toInt64 &&& (4294967295 : Int64))) (xs (l3 + (3 : Int32)).toNatClampNeg) h hc_8) (rest := []) (by decide) (by decide) xm_X4_type xi_X4_type xs_X4_type xl_RL_15 (by decide) (xsh_0) rfl rfl rfl (Nat.le_of_ble_eq_true rfl) (by decide +kernel) ?_
        show XW X 201 [(0, .ref 67), (1, .ref 0), (2, .ref 39), (3, .int l3)] [.int v_10] h_9
        refine Xblk hX pkL_ok [.aload_n 2, .aload_n 0, .iload_n 3, .iconst 1, .iadd] (pc' := 206) (ls' := [(0, .ref 67), (1, .ref 0), (2, .ref 39), (3, .int l3)]) (st' := [.int (l3 + (1 : Int32)), .ref 67, .ref 39, .int v_10]) (h' := h_9) (g := true) (by decide +kernel) rfl rfl rfl ?_
        refine Xsld hX hS (by decide +kernel) hg_5 ?_
        refine Xblk hX pkL_ok [.i2l, .bipush 32, .lshl, .aload_n 0, .iload_n 3, .iconst 2, .iadd] (pc' := 215) (ls' := [(0, .ref 67), (1, .ref 0), (2, .ref 39), (3, .int l3)]) (st' := [.int (l3 + (2 : Int32)), .ref 67, .long (jshlL (xs (l3 + (1 : Int32)).toNatClampNeg).toInt64 (32 : Int32)), .ref 39, .int v_10]) (h' := h_9) (g := true) (by decide +kernel) rfl rfl rfl ?_
        refine Xsld hX hS (by decide +kernel) hg_6 ?_
        refine Xblk hX pkL_ok [.i2l, .ldc2_w 13, .land, .lor, .aload_n 0, .iload_n 3, .iconst 3, .iadd] (pc' := 226) (ls' := [(0, .ref 67), (1, .ref 0), (2, .ref 39), (3, .int l3)]) (st' := [.int (l3 + (3 : Int32)), .ref 67, .long ((jshlL (xs (l3 + (1 : Int32)).toNatClampNeg).toInt64 (32 : Int32)) ||| ((xs (l3 + (2 : Int32)).toNatClampNeg).toInt64 &&& (4294967295 : Int64))), .ref 39, .int v_10]) (h' := h_9) (g := true) (by decide +kernel) rfl rfl rfl ?_
        refine Xsld hX hS (by decide +kernel) hg_7 ?_
        obtain ⟨v_13, h_12, hc_11, hf⟩ := xbd2_inv hf
        refine XcallV hX (mt_m_type ((jshlL (xs (l3 + (1 : Int32)).toNatClampNeg).toInt64 (32 : Int32)) ||| ((xs (l3 + (2 : Int32)).toNatClampNeg).toInt64 &&& (4294967295 : Int64))) (xs (l3 + (3 : Int32)).toNatClampNeg) h_9 hc_11) (rest := [.int v_10]) (by decide) (by decide) xm_X5_type xi_X5_type xs_X5_type xl_RL_19 (by decide) (xsh_39) rfl rfl rfl (Nat.le_of_ble_eq_true rfl) (by decide +kernel) ?_
        show XW X 230 [(0, .ref 67), (1, .ref 0), (2, .ref 39), (3, .int l3)] [.int v_13, .int v_10] h_12
        refine Xbr hX (.if_icmp .eq (810)) (tgt := 1040) (P := v_10 = v_13) (r := []) (by decide +kernel) rfl (by decide) (fun hc_14 => ?_) (fun hc_14 => ?_)
        · replace hf := xif_t hc_14 hf
          refine Xblk hX pkL_ok [.iinc 3 4] (pc' := 1043) (ls' := [(3, .int (l3 + (4 : Int32))), (0, .ref 67), (1, .ref 0), (2, .ref 39)]) (st' := []) (h' := h_12) (g := true) (by decide +kernel) rfl rfl rfl ?_
          refine Xgoto hX (-1025) 18 (by decide +kernel) (by decide) ?_
          refine XW.pick [1, 2, 3, 0] (ls' := [(0, .ref 67), (1, .ref 0), (2, .ref 39), (3, .int (l3 + (4 : Int32)))]) rfl ?_
          exact ih (l3 + (4 : Int32)) h_12 hf
        · replace hf := xif_f hc_14 hf
          refine Xblk hX pkL_ok [.iconst 0] (pc' := 234) (ls' := [(0, .ref 67), (1, .ref 0), (2, .ref 39), (3, .int l3)]) (st' := [.int (0 : Int32)]) (h' := h_12) (g := true) (by decide +kernel) rfl rfl rfl ?_
          exact XrLaw hX hR hf (by decide +kernel)
      · replace hf := xif_f hc_4 hf
        by_cases hc_15 : ((xs l3.toNatClampNeg) &&& (31 : Int32)) = (1 : Int32)
        · replace hf := xif_t hc_15 hf
          refine XswAt hX 235 hc_15 (show decode _ _ = .ok (.tableswitch (1008) (0) (30) #[140, 203, 216, 229, 252, 285, 309, 342, 375, 408, 442, 476, 499, 542, 575, 608, 631, 664, 697, 730, 743, 776, 799, 813, 836, 879, 892, 925, 948, 971, 994], 140) by decide +kernel) (by decide) (by decide) (o := 203) (by decide) (by decide) ?_
          refine Xblk hX pkL_ok [.aload_n 1] (pc' := 236) (ls' := [(0, .ref 67), (1, .ref 0), (2, .ref 39), (3, .int l3)]) (st' := [.ref 0]) (h' := h) (g := true) (by decide +kernel) rfl rfl rfl ?_
          refine XcallV hX (mt_x_clear  h) (rest := []) (by decide) (by decide) xm_X4_clear xi_X4_clear xs_X4_clear xl_RL_20 (by decide) (xsh_0) rfl rfl rfl (Nat.le_of_ble_eq_true rfl) (by decide +kernel) ?_
          show XW X 239 [(0, .ref 67), (1, .ref 0), (2, .ref 39), (3, .int l3)] [.int (f_x_clear h).1] (f_x_clear h).2
          refine Xblk hX pkL_ok [.aload_n 2] (pc' := 240) (ls' := [(0, .ref 67), (1, .ref 0), (2, .ref 39), (3, .int l3)]) (st' := [.ref 39, .int (f_x_clear h).1]) (h' := (f_x_clear h).2) (g := true) (by decide +kernel) rfl rfl rfl ?_
          refine XcallV hX (mt_m_clear  (f_x_clear h).2) (rest := [.int (f_x_clear h).1]) (by decide) (by decide) xm_X5_clear xi_X5_clear xs_X5_clear xl_RL_24 (by decide) (xsh_39) rfl rfl rfl (Nat.le_of_ble_eq_true rfl) (by decide +kernel) ?_
          show XW X 243 [(0, .ref 67), (1, .ref 0), (2, .ref 39), (3, .int l3)] [.int (f_m_clear (f_x_clear h).2).1, .int (f_x_clear h).1] (f_m_clear (f_x_clear h).2).2
          refine Xbr hX (.if_icmp .eq (797)) (tgt := 1040) (P := (f_x_clear h).1 = (f_m_clear (f_x_clear h).2).1) (r := []) (by decide +kernel) rfl (by decide) (fun hc_16 => ?_) (fun hc_16 => ?_)
          · replace hf := xif_t hc_16 hf
            refine Xblk hX pkL_ok [.iinc 3 4] (pc' := 1043) (ls' := [(3, .int (l3 + (4 : Int32))), (0, .ref 67), (1, .ref 0), (2, .ref 39)]) (st' := []) (h' := (f_m_clear (f_x_clear h).2).2) (g := true) (by decide +kernel) rfl rfl rfl ?_
            refine Xgoto hX (-1025) 18 (by decide +kernel) (by decide) ?_
            refine XW.pick [1, 2, 3, 0] (ls' := [(0, .ref 67), (1, .ref 0), (2, .ref 39), (3, .int (l3 + (4 : Int32)))]) rfl ?_
            exact ih (l3 + (4 : Int32)) (f_m_clear (f_x_clear h).2).2 hf
          · replace hf := xif_f hc_16 hf
            refine Xblk hX pkL_ok [.iconst 0] (pc' := 247) (ls' := [(0, .ref 67), (1, .ref 0), (2, .ref 39), (3, .int l3)]) (st' := [.int (0 : Int32)]) (h' := (f_m_clear (f_x_clear h).2).2) (g := true) (by decide +kernel) rfl rfl rfl ?_
            exact XrLaw hX hR hf (by decide +kernel)
        · replace hf := xif_f hc_15 hf
          by_cases hc_17 : ((xs l3.toNatClampNeg) &&& (31 : Int32)) = (2 : Int32)
          · replace hf := xif_t hc_17 hf
            refine XswAt hX 248 hc_17 (show decode _ _ = .ok (.tableswitch (1008) (0) (30) #[140, 203, 216, 229, 252, 285, 309, 342, 375, 408, 442, 476, 499, 542, 575, 608, 631, 664, 697, 730, 743, 776, 799, 813, 836, 879, 892, 925, 948, 971, 994], 140) by decide +kernel) (by decide) (by decide) (o := 216) (by decide) (by decide) ?_
            refine Xblk hX pkL_ok [.aload_n 1] (pc' := 249) (ls' := [(0, .ref 67), (1, .ref 0), (2, .ref 39), (3, .int l3)]) (st' := [.ref 0]) (h' := h) (g := true) (by decide +kernel) rfl rfl rfl ?_
            obtain ⟨v_20, h_19, hc_18, hf⟩ := xbd2_inv hf
            refine XcallV hX (mt_x_hall  h hc_18) (rest := []) (by decide) (by decide) xm_X4_hall xi_X4_hall xs_X4_hall xl_RL_25 (by decide) (xsh_0) rfl rfl rfl (Nat.le_of_ble_eq_true rfl) (by decide +kernel) ?_
            show XW X 252 [(0, .ref 67), (1, .ref 0), (2, .ref 39), (3, .int l3)] [.int v_20] h_19
            refine Xblk hX pkL_ok [.aload_n 2] (pc' := 253) (ls' := [(0, .ref 67), (1, .ref 0), (2, .ref 39), (3, .int l3)]) (st' := [.ref 39, .int v_20]) (h' := h_19) (g := true) (by decide +kernel) rfl rfl rfl ?_
            obtain ⟨v_23, h_22, hc_21, hf⟩ := xbd2_inv hf
            refine XcallV hX (mt_m_hall  h_19 hc_21) (rest := [.int v_20]) (by decide) (by decide) xm_X5_hall xi_X5_hall xs_X5_hall xl_RL_28 (by decide) (xsh_39) rfl rfl rfl (Nat.le_of_ble_eq_true rfl) (by decide +kernel) ?_
            show XW X 256 [(0, .ref 67), (1, .ref 0), (2, .ref 39), (3, .int l3)] [.int v_23, .int v_20] h_22
            refine Xbr hX (.if_icmp .eq (784)) (tgt := 1040) (P := v_20 = v_23) (r := []) (by decide +kernel) rfl (by decide) (fun hc_24 => ?_) (fun hc_24 => ?_)
            · replace hf := xif_t hc_24 hf
              refine Xblk hX pkL_ok [.iinc 3 4] (pc' := 1043) (ls' := [(3, .int (l3 + (4 : Int32))), (0, .ref 67), (1, .ref 0), (2, .ref 39)]) (st' := []) (h' := h_22) (g := true) (by decide +kernel) rfl rfl rfl ?_
              refine Xgoto hX (-1025) 18 (by decide +kernel) (by decide) ?_
              refine XW.pick [1, 2, 3, 0] (ls' := [(0, .ref 67), (1, .ref 0), (2, .ref 39), (3, .int (l3 + (4 : Int32)))]) rfl ?_
              exact ih (l3 + (4 : Int32)) h_22 hf
            · replace hf := xif_f hc_24 hf
              refine Xblk hX pkL_ok [.iconst 0] (pc' := 260) (ls' := [(0, .ref 67), (1, .ref 0), (2, .ref 39), (3, .int l3)]) (st' := [.int (0 : Int32)]) (h' := h_22) (g := true) (by decide +kernel) rfl rfl rfl ?_
              exact XrLaw hX hR hf (by decide +kernel)
          · replace hf := xif_f hc_17 hf
            by_cases hc_25 : ((xs l3.toNatClampNeg) &&& (31 : Int32)) = (3 : Int32)
            · replace hf := xif_t hc_25 hf
              refine XswAt hX 261 hc_25 (show decode _ _ = .ok (.tableswitch (1008) (0) (30) #[140, 203, 216, 229, 252, 285, 309, 342, 375, 408, 442, 476, 499, 542, 575, 608, 631, 664, 697, 730, 743, 776, 799, 813, 836, 879, 892, 925, 948, 971, 994], 140) by decide +kernel) (by decide) (by decide) (o := 229) (by decide) (by decide) ?_
              refine Xblk hX pkL_ok [.aload_n 1, .aload_n 0, .iload_n 3, .iconst 1, .iadd] (pc' := 266) (ls' := [(0, .ref 67), (1, .ref 0), (2, .ref 39), (3, .int l3)]) (st' := [.int (l3 + (1 : Int32)), .ref 67, .ref 0]) (h' := h) (g := true) (by decide +kernel) rfl rfl rfl ?_
              obtain ⟨hg_26, hf⟩ := xgd_inv hf
              refine Xsld hX hS (by decide +kernel) hg_26 ?_
              obtain ⟨v_28, hc_27, hf⟩ := xbd1_inv hf
              refine XcallV hX (mt_x_sign (xs (l3 + (1 : Int32)).toNatClampNeg) h hc_27) (rest := []) (by decide) (by decide) xm_X4_sign xi_X4_sign xs_X4_sign xl_RL_29 (by decide) (xsh_0) rfl rfl rfl (Nat.le_of_ble_eq_true rfl) (by decide +kernel) ?_
              show XW X 270 [(0, .ref 67), (1, .ref 0), (2, .ref 39), (3, .int l3)] [.int v_28] h
              refine Xblk hX pkL_ok [.aload_n 2, .aload_n 0, .iload_n 3, .iconst 1, .iadd] (pc' := 275) (ls' := [(0, .ref 67), (1, .ref 0), (2, .ref 39), (3, .int l3)]) (st' := [.int (l3 + (1 : Int32)), .ref 67, .ref 39, .int v_28]) (h' := h) (g := true) (by decide +kernel) rfl rfl rfl ?_
              refine Xsld hX hS (by decide +kernel) hg_26 ?_
              obtain ⟨v_30, hc_29, hf⟩ := xbd1_inv hf
              refine XcallV hX (mt_m_sign (xs (l3 + (1 : Int32)).toNatClampNeg) h hc_29) (rest := [.int v_28]) (by decide) (by decide) xm_X5_sign xi_X5_sign xs_X5_sign xl_RL_33 (by decide) (xsh_39) rfl rfl rfl (Nat.le_of_ble_eq_true rfl) (by decide +kernel) ?_
              show XW X 279 [(0, .ref 67), (1, .ref 0), (2, .ref 39), (3, .int l3)] [.int v_30, .int v_28] h
              refine Xbr hX (.if_icmp .eq (761)) (tgt := 1040) (P := v_28 = v_30) (r := []) (by decide +kernel) rfl (by decide) (fun hc_31 => ?_) (fun hc_31 => ?_)
              · replace hf := xif_t hc_31 hf
                refine Xblk hX pkL_ok [.iinc 3 4] (pc' := 1043) (ls' := [(3, .int (l3 + (4 : Int32))), (0, .ref 67), (1, .ref 0), (2, .ref 39)]) (st' := []) (h' := h) (g := true) (by decide +kernel) rfl rfl rfl ?_
                refine Xgoto hX (-1025) 18 (by decide +kernel) (by decide) ?_
                refine XW.pick [1, 2, 3, 0] (ls' := [(0, .ref 67), (1, .ref 0), (2, .ref 39), (3, .int (l3 + (4 : Int32)))]) rfl ?_
                exact ih (l3 + (4 : Int32)) h hf
              · replace hf := xif_f hc_31 hf
                refine Xblk hX pkL_ok [.iconst 0] (pc' := 283) (ls' := [(0, .ref 67), (1, .ref 0), (2, .ref 39), (3, .int l3)]) (st' := [.int (0 : Int32)]) (h' := h) (g := true) (by decide +kernel) rfl rfl rfl ?_
                exact XrLaw hX hR hf (by decide +kernel)
            · replace hf := xif_f hc_25 hf
              by_cases hc_32 : ((xs l3.toNatClampNeg) &&& (31 : Int32)) = (4 : Int32)
              · replace hf := xif_t hc_32 hf
                refine XswAt hX 284 hc_32 (show decode _ _ = .ok (.tableswitch (1008) (0) (30) #[140, 203, 216, 229, 252, 285, 309, 342, 375, 408, 442, 476, 499, 542, 575, 608, 631, 664, 697, 730, 743, 776, 799, 813, 836, 879, 892, 925, 948, 971, 994], 140) by decide +kernel) (by decide) (by decide) (o := 252) (by decide) (by decide) ?_
                refine Xblk hX pkL_ok [.aload_n 1, .aload_n 0, .iload_n 3, .iconst 1, .iadd] (pc' := 289) (ls' := [(0, .ref 67), (1, .ref 0), (2, .ref 39), (3, .int l3)]) (st' := [.int (l3 + (1 : Int32)), .ref 67, .ref 0]) (h' := h) (g := true) (by decide +kernel) rfl rfl rfl ?_
                obtain ⟨hg_33, hf⟩ := xgd_inv hf
                refine Xsld hX hS (by decide +kernel) hg_33 ?_
                refine Xblk hX pkL_ok [.aload_n 0, .iload_n 3, .iconst 2, .iadd] (pc' := 294) (ls' := [(0, .ref 67), (1, .ref 0), (2, .ref 39), (3, .int l3)]) (st' := [.int (l3 + (2 : Int32)), .ref 67, .int (xs (l3 + (1 : Int32)).toNatClampNeg), .ref 0]) (h' := h) (g := true) (by decide +kernel) rfl rfl rfl ?_
                obtain ⟨hg_34, hf⟩ := xgd_inv hf
                refine Xsld hX hS (by decide +kernel) hg_34 ?_
                obtain ⟨v_37, h_36, hc_35, hf⟩ := xbd2_inv hf
                refine XcallV hX (mt_x_door (xs (l3 + (1 : Int32)).toNatClampNeg) (xs (l3 + (2 : Int32)).toNatClampNeg) h hc_35) (rest := []) (by decide) (by decide) xm_X4_door xi_X4_door xs_X4_door xl_RL_34 (by decide) (xsh_0) rfl rfl rfl (Nat.le_of_ble_eq_true rfl) (by decide +kernel) ?_
                show XW X 298 [(0, .ref 67), (1, .ref 0), (2, .ref 39), (3, .int l3)] [.int v_37] h_36
                refine Xblk hX pkL_ok [.aload_n 2, .aload_n 0, .iload_n 3, .iconst 1, .iadd] (pc' := 303) (ls' := [(0, .ref 67), (1, .ref 0), (2, .ref 39), (3, .int l3)]) (st' := [.int (l3 + (1 : Int32)), .ref 67, .ref 39, .int v_37]) (h' := h_36) (g := true) (by decide +kernel) rfl rfl rfl ?_
                refine Xsld hX hS (by decide +kernel) hg_33 ?_
                refine Xblk hX pkL_ok [.aload_n 0, .iload_n 3, .iconst 2, .iadd] (pc' := 308) (ls' := [(0, .ref 67), (1, .ref 0), (2, .ref 39), (3, .int l3)]) (st' := [.int (l3 + (2 : Int32)), .ref 67, .int (xs (l3 + (1 : Int32)).toNatClampNeg), .ref 39, .int v_37]) (h' := h_36) (g := true) (by decide +kernel) rfl rfl rfl ?_
                refine Xsld hX hS (by decide +kernel) hg_34 ?_
                obtain ⟨v_40, h_39, hc_38, hf⟩ := xbd2_inv hf
                refine XcallV hX (mt_m_door (xs (l3 + (1 : Int32)).toNatClampNeg) (xs (l3 + (2 : Int32)).toNatClampNeg) h_36 hc_38) (rest := [.int v_37]) (by decide) (by decide) xm_X5_door xi_X5_door xs_X5_door xl_RL_38 (by decide) (xsh_39) rfl rfl rfl (Nat.le_of_ble_eq_true rfl) (by decide +kernel) ?_
                show XW X 312 [(0, .ref 67), (1, .ref 0), (2, .ref 39), (3, .int l3)] [.int v_40, .int v_37] h_39
                refine Xbr hX (.if_icmp .eq (728)) (tgt := 1040) (P := v_37 = v_40) (r := []) (by decide +kernel) rfl (by decide) (fun hc_41 => ?_) (fun hc_41 => ?_)
                · replace hf := xif_t hc_41 hf
                  refine Xblk hX pkL_ok [.iinc 3 4] (pc' := 1043) (ls' := [(3, .int (l3 + (4 : Int32))), (0, .ref 67), (1, .ref 0), (2, .ref 39)]) (st' := []) (h' := h_39) (g := true) (by decide +kernel) rfl rfl rfl ?_
                  refine Xgoto hX (-1025) 18 (by decide +kernel) (by decide) ?_
                  refine XW.pick [1, 2, 3, 0] (ls' := [(0, .ref 67), (1, .ref 0), (2, .ref 39), (3, .int (l3 + (4 : Int32)))]) rfl ?_
                  exact ih (l3 + (4 : Int32)) h_39 hf
                · replace hf := xif_f hc_41 hf
                  refine Xblk hX pkL_ok [.iconst 0] (pc' := 316) (ls' := [(0, .ref 67), (1, .ref 0), (2, .ref 39), (3, .int l3)]) (st' := [.int (0 : Int32)]) (h' := h_39) (g := true) (by decide +kernel) rfl rfl rfl ?_
                  exact XrLaw hX hR hf (by decide +kernel)
              · replace hf := xif_f hc_32 hf
                by_cases hc_42 : ((xs l3.toNatClampNeg) &&& (31 : Int32)) = (5 : Int32)
                · replace hf := xif_t hc_42 hf
                  refine XswAt hX 317 hc_42 (show decode _ _ = .ok (.tableswitch (1008) (0) (30) #[140, 203, 216, 229, 252, 285, 309, 342, 375, 408, 442, 476, 499, 542, 575, 608, 631, 664, 697, 730, 743, 776, 799, 813, 836, 879, 892, 925, 948, 971, 994], 140) by decide +kernel) (by decide) (by decide) (o := 285) (by decide) (by decide) ?_
                  refine Xblk hX pkL_ok [.aload_n 1, .aload_n 0, .iload_n 3, .iconst 1, .iadd] (pc' := 322) (ls' := [(0, .ref 67), (1, .ref 0), (2, .ref 39), (3, .int l3)]) (st' := [.int (l3 + (1 : Int32)), .ref 67, .ref 0]) (h' := h) (g := true) (by decide +kernel) rfl rfl rfl ?_
                  obtain ⟨hg_43, hf⟩ := xgd_inv hf
                  refine Xsld hX hS (by decide +kernel) hg_43 ?_
                  obtain ⟨v_45, hc_44, hf⟩ := xbd1_inv hf
                  refine XcallV hX (mt_x_sees (xs (l3 + (1 : Int32)).toNatClampNeg) h hc_44) (rest := []) (by decide) (by decide) xm_X4_sees xi_X4_sees xs_X4_sees xl_RL_39 (by decide) (xsh_0) rfl rfl rfl (Nat.le_of_ble_eq_true rfl) (by decide +kernel) ?_
                  show XW X 326 [(0, .ref 67), (1, .ref 0), (2, .ref 39), (3, .int l3)] [.long v_45] h
                  refine Xblk hX pkL_ok [.aload_n 2, .aload_n 0, .iload_n 3, .iconst 1, .iadd] (pc' := 331) (ls' := [(0, .ref 67), (1, .ref 0), (2, .ref 39), (3, .int l3)]) (st' := [.int (l3 + (1 : Int32)), .ref 67, .ref 39, .long v_45]) (h' := h) (g := true) (by decide +kernel) rfl rfl rfl ?_
                  refine Xsld hX hS (by decide +kernel) hg_43 ?_
                  obtain ⟨v_47, hc_46, hf⟩ := xbd1_inv hf
                  refine XcallV hX (mt_m_sees (xs (l3 + (1 : Int32)).toNatClampNeg) h hc_46) (rest := [.long v_45]) (by decide) (by decide) xm_X5_sees xi_X5_sees xs_X5_sees xl_RL_43 (by decide) (xsh_39) rfl rfl rfl (Nat.le_of_ble_eq_true rfl) (by decide +kernel) ?_
                  show XW X 335 [(0, .ref 67), (1, .ref 0), (2, .ref 39), (3, .int l3)] [.long v_47, .long v_45] h
                  refine Xblk hX pkL_ok [.lcmp] (pc' := 336) (ls' := [(0, .ref 67), (1, .ref 0), (2, .ref 39), (3, .int l3)]) (st' := [.int (lg_cmp v_45 v_47)]) (h' := h) (g := true) (by decide +kernel) rfl rfl rfl ?_
                  refine Xbr hX (.ifCond .eq (704)) (tgt := 1040) (P := (lg_cmp v_45 v_47) = (0 : Int32)) (r := []) (by decide +kernel) rfl (by decide) (fun hc_48 => ?_) (fun hc_48 => ?_)
                  · replace hf := xif_t hc_48 hf
                    refine Xblk hX pkL_ok [.iinc 3 4] (pc' := 1043) (ls' := [(3, .int (l3 + (4 : Int32))), (0, .ref 67), (1, .ref 0), (2, .ref 39)]) (st' := []) (h' := h) (g := true) (by decide +kernel) rfl rfl rfl ?_
                    refine Xgoto hX (-1025) 18 (by decide +kernel) (by decide) ?_
                    refine XW.pick [1, 2, 3, 0] (ls' := [(0, .ref 67), (1, .ref 0), (2, .ref 39), (3, .int (l3 + (4 : Int32)))]) rfl ?_
                    exact ih (l3 + (4 : Int32)) h hf
                  · replace hf := xif_f hc_48 hf
                    refine Xblk hX pkL_ok [.iconst 0] (pc' := 340) (ls' := [(0, .ref 67), (1, .ref 0), (2, .ref 39), (3, .int l3)]) (st' := [.int (0 : Int32)]) (h' := h) (g := true) (by decide +kernel) rfl rfl rfl ?_
                    exact XrLaw hX hR hf (by decide +kernel)
                · replace hf := xif_f hc_42 hf
                  by_cases hc_49 : ((xs l3.toNatClampNeg) &&& (31 : Int32)) = (6 : Int32)
                  · replace hf := xif_t hc_49 hf
                    refine XswAt hX 341 hc_49 (show decode _ _ = .ok (.tableswitch (1008) (0) (30) #[140, 203, 216, 229, 252, 285, 309, 342, 375, 408, 442, 476, 499, 542, 575, 608, 631, 664, 697, 730, 743, 776, 799, 813, 836, 879, 892, 925, 948, 971, 994], 140) by decide +kernel) (by decide) (by decide) (o := 309) (by decide) (by decide) ?_
                    refine Xblk hX pkL_ok [.aload_n 1, .aload_n 0, .iload_n 3, .iconst 1, .iadd] (pc' := 346) (ls' := [(0, .ref 67), (1, .ref 0), (2, .ref 39), (3, .int l3)]) (st' := [.int (l3 + (1 : Int32)), .ref 67, .ref 0]) (h' := h) (g := true) (by decide +kernel) rfl rfl rfl ?_
                    obtain ⟨hg_50, hf⟩ := xgd_inv hf
                    refine Xsld hX hS (by decide +kernel) hg_50 ?_
                    refine Xblk hX pkL_ok [.aload_n 0, .iload_n 3, .iconst 2, .iadd] (pc' := 351) (ls' := [(0, .ref 67), (1, .ref 0), (2, .ref 39), (3, .int l3)]) (st' := [.int (l3 + (2 : Int32)), .ref 67, .int (xs (l3 + (1 : Int32)).toNatClampNeg), .ref 0]) (h' := h) (g := true) (by decide +kernel) rfl rfl rfl ?_
                    obtain ⟨hg_51, hf⟩ := xgd_inv hf
                    refine Xsld hX hS (by decide +kernel) hg_51 ?_
                    obtain ⟨v_54, h_53, hc_52, hf⟩ := xbd2_inv hf
                    refine XcallV hX (mt_x_person (xs (l3 + (1 : Int32)).toNatClampNeg) (xs (l3 + (2 : Int32)).toNatClampNeg) h hc_52) (rest := []) (by decide) (by decide) xm_X4_person xi_X4_person xs_X4_person xl_RL_44 (by decide) (xsh_0) rfl rfl rfl (Nat.le_of_ble_eq_true rfl) (by decide +kernel) ?_
                    show XW X 355 [(0, .ref 67), (1, .ref 0), (2, .ref 39), (3, .int l3)] [.int v_54] h_53
                    refine Xblk hX pkL_ok [.aload_n 2, .aload_n 0, .iload_n 3, .iconst 1, .iadd] (pc' := 360) (ls' := [(0, .ref 67), (1, .ref 0), (2, .ref 39), (3, .int l3)]) (st' := [.int (l3 + (1 : Int32)), .ref 67, .ref 39, .int v_54]) (h' := h_53) (g := true) (by decide +kernel) rfl rfl rfl ?_
                    refine Xsld hX hS (by decide +kernel) hg_50 ?_
                    refine Xblk hX pkL_ok [.aload_n 0, .iload_n 3, .iconst 2, .iadd] (pc' := 365) (ls' := [(0, .ref 67), (1, .ref 0), (2, .ref 39), (3, .int l3)]) (st' := [.int (l3 + (2 : Int32)), .ref 67, .int (xs (l3 + (1 : Int32)).toNatClampNeg), .ref 39, .int v_54]) (h' := h_53) (g := true) (by decide +kernel) rfl rfl rfl ?_
                    refine Xsld hX hS (by decide +kernel) hg_51 ?_
                    obtain ⟨v_57, h_56, hc_55, hf⟩ := xbd2_inv hf
                    refine XcallV hX (mt_m_person (xs (l3 + (1 : Int32)).toNatClampNeg) (xs (l3 + (2 : Int32)).toNatClampNeg) h_53 hc_55) (rest := [.int v_54]) (by decide) (by decide) xm_X5_person xi_X5_person xs_X5_person xl_RL_47 (by decide) (xsh_39) rfl rfl rfl (Nat.le_of_ble_eq_true rfl) (by decide +kernel) ?_
                    show XW X 369 [(0, .ref 67), (1, .ref 0), (2, .ref 39), (3, .int l3)] [.int v_57, .int v_54] h_56
                    refine Xbr hX (.if_icmp .eq (671)) (tgt := 1040) (P := v_54 = v_57) (r := []) (by decide +kernel) rfl (by decide) (fun hc_58 => ?_) (fun hc_58 => ?_)
                    · replace hf := xif_t hc_58 hf
                      refine Xblk hX pkL_ok [.iinc 3 4] (pc' := 1043) (ls' := [(3, .int (l3 + (4 : Int32))), (0, .ref 67), (1, .ref 0), (2, .ref 39)]) (st' := []) (h' := h_56) (g := true) (by decide +kernel) rfl rfl rfl ?_
                      refine Xgoto hX (-1025) 18 (by decide +kernel) (by decide) ?_
                      refine XW.pick [1, 2, 3, 0] (ls' := [(0, .ref 67), (1, .ref 0), (2, .ref 39), (3, .int (l3 + (4 : Int32)))]) rfl ?_
                      exact ih (l3 + (4 : Int32)) h_56 hf
                    · replace hf := xif_f hc_58 hf
                      refine Xblk hX pkL_ok [.iconst 0] (pc' := 373) (ls' := [(0, .ref 67), (1, .ref 0), (2, .ref 39), (3, .int l3)]) (st' := [.int (0 : Int32)]) (h' := h_56) (g := true) (by decide +kernel) rfl rfl rfl ?_
                      exact XrLaw hX hR hf (by decide +kernel)
                  · replace hf := xif_f hc_49 hf
                    by_cases hc_59 : ((xs l3.toNatClampNeg) &&& (31 : Int32)) = (7 : Int32)
                    · replace hf := xif_t hc_59 hf
                      refine XswAt hX 374 hc_59 (show decode _ _ = .ok (.tableswitch (1008) (0) (30) #[140, 203, 216, 229, 252, 285, 309, 342, 375, 408, 442, 476, 499, 542, 575, 608, 631, 664, 697, 730, 743, 776, 799, 813, 836, 879, 892, 925, 948, 971, 994], 140) by decide +kernel) (by decide) (by decide) (o := 342) (by decide) (by decide) ?_
                      refine Xblk hX pkL_ok [.aload_n 1, .aload_n 0, .iload_n 3, .iconst 1, .iadd] (pc' := 379) (ls' := [(0, .ref 67), (1, .ref 0), (2, .ref 39), (3, .int l3)]) (st' := [.int (l3 + (1 : Int32)), .ref 67, .ref 0]) (h' := h) (g := true) (by decide +kernel) rfl rfl rfl ?_
                      obtain ⟨hg_60, hf⟩ := xgd_inv hf
                      refine Xsld hX hS (by decide +kernel) hg_60 ?_
                      refine Xblk hX pkL_ok [.aload_n 0, .iload_n 3, .iconst 2, .iadd] (pc' := 384) (ls' := [(0, .ref 67), (1, .ref 0), (2, .ref 39), (3, .int l3)]) (st' := [.int (l3 + (2 : Int32)), .ref 67, .int (xs (l3 + (1 : Int32)).toNatClampNeg), .ref 0]) (h' := h) (g := true) (by decide +kernel) rfl rfl rfl ?_
                      obtain ⟨hg_61, hf⟩ := xgd_inv hf
                      refine Xsld hX hS (by decide +kernel) hg_61 ?_
                      obtain ⟨v_64, h_63, hc_62, hf⟩ := xbd2_inv hf
                      refine XcallV hX (mt_x_carrier (xs (l3 + (1 : Int32)).toNatClampNeg) (xs (l3 + (2 : Int32)).toNatClampNeg) h hc_62) (rest := []) (by decide) (by decide) xm_X4_carrier xi_X4_carrier xs_X4_carrier xl_RL_48 (by decide) (xsh_0) rfl rfl rfl (Nat.le_of_ble_eq_true rfl) (by decide +kernel) ?_
                      show XW X 388 [(0, .ref 67), (1, .ref 0), (2, .ref 39), (3, .int l3)] [.int v_64] h_63
                      refine Xblk hX pkL_ok [.aload_n 2, .aload_n 0, .iload_n 3, .iconst 1, .iadd] (pc' := 393) (ls' := [(0, .ref 67), (1, .ref 0), (2, .ref 39), (3, .int l3)]) (st' := [.int (l3 + (1 : Int32)), .ref 67, .ref 39, .int v_64]) (h' := h_63) (g := true) (by decide +kernel) rfl rfl rfl ?_
                      refine Xsld hX hS (by decide +kernel) hg_60 ?_
                      refine Xblk hX pkL_ok [.aload_n 0, .iload_n 3, .iconst 2, .iadd] (pc' := 398) (ls' := [(0, .ref 67), (1, .ref 0), (2, .ref 39), (3, .int l3)]) (st' := [.int (l3 + (2 : Int32)), .ref 67, .int (xs (l3 + (1 : Int32)).toNatClampNeg), .ref 39, .int v_64]) (h' := h_63) (g := true) (by decide +kernel) rfl rfl rfl ?_
                      refine Xsld hX hS (by decide +kernel) hg_61 ?_
                      obtain ⟨v_67, h_66, hc_65, hf⟩ := xbd2_inv hf
                      refine XcallV hX (mt_m_carrier (xs (l3 + (1 : Int32)).toNatClampNeg) (xs (l3 + (2 : Int32)).toNatClampNeg) h_63 hc_65) (rest := [.int v_64]) (by decide) (by decide) xm_X5_carrier xi_X5_carrier xs_X5_carrier xl_RL_51 (by decide) (xsh_39) rfl rfl rfl (Nat.le_of_ble_eq_true rfl) (by decide +kernel) ?_
                      show XW X 402 [(0, .ref 67), (1, .ref 0), (2, .ref 39), (3, .int l3)] [.int v_67, .int v_64] h_66
                      refine Xbr hX (.if_icmp .eq (638)) (tgt := 1040) (P := v_64 = v_67) (r := []) (by decide +kernel) rfl (by decide) (fun hc_68 => ?_) (fun hc_68 => ?_)
                      · replace hf := xif_t hc_68 hf
                        refine Xblk hX pkL_ok [.iinc 3 4] (pc' := 1043) (ls' := [(3, .int (l3 + (4 : Int32))), (0, .ref 67), (1, .ref 0), (2, .ref 39)]) (st' := []) (h' := h_66) (g := true) (by decide +kernel) rfl rfl rfl ?_
                        refine Xgoto hX (-1025) 18 (by decide +kernel) (by decide) ?_
                        refine XW.pick [1, 2, 3, 0] (ls' := [(0, .ref 67), (1, .ref 0), (2, .ref 39), (3, .int (l3 + (4 : Int32)))]) rfl ?_
                        exact ih (l3 + (4 : Int32)) h_66 hf
                      · replace hf := xif_f hc_68 hf
                        refine Xblk hX pkL_ok [.iconst 0] (pc' := 406) (ls' := [(0, .ref 67), (1, .ref 0), (2, .ref 39), (3, .int l3)]) (st' := [.int (0 : Int32)]) (h' := h_66) (g := true) (by decide +kernel) rfl rfl rfl ?_
                        exact XrLaw hX hR hf (by decide +kernel)
                    · replace hf := xif_f hc_59 hf
                      by_cases hc_69 : ((xs l3.toNatClampNeg) &&& (31 : Int32)) = (8 : Int32)
                      · replace hf := xif_t hc_69 hf
                        refine XswAt hX 407 hc_69 (show decode _ _ = .ok (.tableswitch (1008) (0) (30) #[140, 203, 216, 229, 252, 285, 309, 342, 375, 408, 442, 476, 499, 542, 575, 608, 631, 664, 697, 730, 743, 776, 799, 813, 836, 879, 892, 925, 948, 971, 994], 140) by decide +kernel) (by decide) (by decide) (o := 375) (by decide) (by decide) ?_
                        refine Xblk hX pkL_ok [.aload_n 1, .aload_n 0, .iload_n 3, .iconst 1, .iadd] (pc' := 412) (ls' := [(0, .ref 67), (1, .ref 0), (2, .ref 39), (3, .int l3)]) (st' := [.int (l3 + (1 : Int32)), .ref 67, .ref 0]) (h' := h) (g := true) (by decide +kernel) rfl rfl rfl ?_
                        obtain ⟨hg_70, hf⟩ := xgd_inv hf
                        refine Xsld hX hS (by decide +kernel) hg_70 ?_
                        refine Xblk hX pkL_ok [.aload_n 0, .iload_n 3, .iconst 2, .iadd] (pc' := 417) (ls' := [(0, .ref 67), (1, .ref 0), (2, .ref 39), (3, .int l3)]) (st' := [.int (l3 + (2 : Int32)), .ref 67, .int (xs (l3 + (1 : Int32)).toNatClampNeg), .ref 0]) (h' := h) (g := true) (by decide +kernel) rfl rfl rfl ?_
                        obtain ⟨hg_71, hf⟩ := xgd_inv hf
                        refine Xsld hX hS (by decide +kernel) hg_71 ?_
                        obtain ⟨v_73, hc_72, hf⟩ := xbd1_inv hf
                        refine XcallV hX (mt_x_at (xs (l3 + (1 : Int32)).toNatClampNeg) (xs (l3 + (2 : Int32)).toNatClampNeg) h hc_72) (rest := []) (by decide) (by decide) xm_X4_at xi_X4_at xs_X4_at xl_RL_52 (by decide) (xsh_0) rfl rfl rfl (Nat.le_of_ble_eq_true rfl) (by decide +kernel) ?_
                        show XW X 421 [(0, .ref 67), (1, .ref 0), (2, .ref 39), (3, .int l3)] [.int v_73] h
                        refine Xblk hX pkL_ok [.aload_n 2, .aload_n 0, .iload_n 3, .iconst 1, .iadd] (pc' := 426) (ls' := [(0, .ref 67), (1, .ref 0), (2, .ref 39), (3, .int l3)]) (st' := [.int (l3 + (1 : Int32)), .ref 67, .ref 39, .int v_73]) (h' := h) (g := true) (by decide +kernel) rfl rfl rfl ?_
                        refine Xsld hX hS (by decide +kernel) hg_70 ?_
                        refine Xblk hX pkL_ok [.aload_n 0, .iload_n 3, .iconst 2, .iadd] (pc' := 431) (ls' := [(0, .ref 67), (1, .ref 0), (2, .ref 39), (3, .int l3)]) (st' := [.int (l3 + (2 : Int32)), .ref 67, .int (xs (l3 + (1 : Int32)).toNatClampNeg), .ref 39, .int v_73]) (h' := h) (g := true) (by decide +kernel) rfl rfl rfl ?_
                        refine Xsld hX hS (by decide +kernel) hg_71 ?_
                        obtain ⟨v_75, hc_74, hf⟩ := xbd1_inv hf
                        refine XcallV hX (mt_m_at (xs (l3 + (1 : Int32)).toNatClampNeg) (xs (l3 + (2 : Int32)).toNatClampNeg) h hc_74) (rest := [.int v_73]) (by decide) (by decide) xm_X5_at xi_X5_at xs_X5_at xl_RL_55 (by decide) (xsh_39) rfl rfl rfl (Nat.le_of_ble_eq_true rfl) (by decide +kernel) ?_
                        show XW X 435 [(0, .ref 67), (1, .ref 0), (2, .ref 39), (3, .int l3)] [.int v_75, .int v_73] h
                        refine Xbr hX (.if_icmp .eq (605)) (tgt := 1040) (P := v_73 = v_75) (r := []) (by decide +kernel) rfl (by decide) (fun hc_76 => ?_) (fun hc_76 => ?_)
                        · replace hf := xif_t hc_76 hf
                          refine Xblk hX pkL_ok [.iinc 3 4] (pc' := 1043) (ls' := [(3, .int (l3 + (4 : Int32))), (0, .ref 67), (1, .ref 0), (2, .ref 39)]) (st' := []) (h' := h) (g := true) (by decide +kernel) rfl rfl rfl ?_
                          refine Xgoto hX (-1025) 18 (by decide +kernel) (by decide) ?_
                          refine XW.pick [1, 2, 3, 0] (ls' := [(0, .ref 67), (1, .ref 0), (2, .ref 39), (3, .int (l3 + (4 : Int32)))]) rfl ?_
                          exact ih (l3 + (4 : Int32)) h hf
                        · replace hf := xif_f hc_76 hf
                          refine Xblk hX pkL_ok [.iconst 0] (pc' := 439) (ls' := [(0, .ref 67), (1, .ref 0), (2, .ref 39), (3, .int l3)]) (st' := [.int (0 : Int32)]) (h' := h) (g := true) (by decide +kernel) rfl rfl rfl ?_
                          exact XrLaw hX hR hf (by decide +kernel)
                      · replace hf := xif_f hc_69 hf
                        by_cases hc_77 : ((xs l3.toNatClampNeg) &&& (31 : Int32)) = (9 : Int32)
                        · replace hf := xif_t hc_77 hf
                          refine XswAt hX 440 hc_77 (show decode _ _ = .ok (.tableswitch (1008) (0) (30) #[140, 203, 216, 229, 252, 285, 309, 342, 375, 408, 442, 476, 499, 542, 575, 608, 631, 664, 697, 730, 743, 776, 799, 813, 836, 879, 892, 925, 948, 971, 994], 140) by decide +kernel) (by decide) (by decide) (o := 408) (by decide) (by decide) ?_
                          refine Xblk hX pkL_ok [.aload_n 1, .aload_n 0, .iload_n 3, .iconst 1, .iadd] (pc' := 445) (ls' := [(0, .ref 67), (1, .ref 0), (2, .ref 39), (3, .int l3)]) (st' := [.int (l3 + (1 : Int32)), .ref 67, .ref 0]) (h' := h) (g := true) (by decide +kernel) rfl rfl rfl ?_
                          obtain ⟨hg_78, hf⟩ := xgd_inv hf
                          refine Xsld hX hS (by decide +kernel) hg_78 ?_
                          refine Xblk hX pkL_ok [.aload_n 0, .iload_n 3, .iconst 2, .iadd] (pc' := 450) (ls' := [(0, .ref 67), (1, .ref 0), (2, .ref 39), (3, .int l3)]) (st' := [.int (l3 + (2 : Int32)), .ref 67, .int (xs (l3 + (1 : Int32)).toNatClampNeg), .ref 0]) (h' := h) (g := true) (by decide +kernel) rfl rfl rfl ?_
                          obtain ⟨hg_79, hf⟩ := xgd_inv hf
                          refine Xsld hX hS (by decide +kernel) hg_79 ?_
                          obtain ⟨v_82, h_81, hc_80, hf⟩ := xbd2_inv hf
                          refine XcallV hX (mt_x_could (xs (l3 + (1 : Int32)).toNatClampNeg) (xs (l3 + (2 : Int32)).toNatClampNeg) h hc_80) (rest := []) (by decide) (by decide) xm_X4_could xi_X4_could xs_X4_could xl_RL_56 (by decide) (xsh_0) rfl rfl rfl (Nat.le_of_ble_eq_true rfl) (by decide +kernel) ?_
                          show XW X 454 [(0, .ref 67), (1, .ref 0), (2, .ref 39), (3, .int l3)] [.long v_82] h_81
                          refine Xblk hX pkL_ok [.aload_n 2, .aload_n 0, .iload_n 3, .iconst 1, .iadd] (pc' := 459) (ls' := [(0, .ref 67), (1, .ref 0), (2, .ref 39), (3, .int l3)]) (st' := [.int (l3 + (1 : Int32)), .ref 67, .ref 39, .long v_82]) (h' := h_81) (g := true) (by decide +kernel) rfl rfl rfl ?_
                          refine Xsld hX hS (by decide +kernel) hg_78 ?_
                          refine Xblk hX pkL_ok [.aload_n 0, .iload_n 3, .iconst 2, .iadd] (pc' := 464) (ls' := [(0, .ref 67), (1, .ref 0), (2, .ref 39), (3, .int l3)]) (st' := [.int (l3 + (2 : Int32)), .ref 67, .int (xs (l3 + (1 : Int32)).toNatClampNeg), .ref 39, .long v_82]) (h' := h_81) (g := true) (by decide +kernel) rfl rfl rfl ?_
                          refine Xsld hX hS (by decide +kernel) hg_79 ?_
                          obtain ⟨v_84, hc_83, hf⟩ := xbd1_inv hf
                          refine XcallV hX (mt_m_could (xs (l3 + (1 : Int32)).toNatClampNeg) (xs (l3 + (2 : Int32)).toNatClampNeg) h_81 hc_83) (rest := [.long v_82]) (by decide) (by decide) xm_X5_could xi_X5_could xs_X5_could xl_RL_60 (by decide) (xsh_39) rfl rfl rfl (Nat.le_of_ble_eq_true rfl) (by decide +kernel) ?_
                          show XW X 468 [(0, .ref 67), (1, .ref 0), (2, .ref 39), (3, .int l3)] [.long v_84, .long v_82] h_81
                          refine Xblk hX pkL_ok [.lcmp] (pc' := 469) (ls' := [(0, .ref 67), (1, .ref 0), (2, .ref 39), (3, .int l3)]) (st' := [.int (lg_cmp v_82 v_84)]) (h' := h_81) (g := true) (by decide +kernel) rfl rfl rfl ?_
                          refine Xbr hX (.ifCond .eq (571)) (tgt := 1040) (P := (lg_cmp v_82 v_84) = (0 : Int32)) (r := []) (by decide +kernel) rfl (by decide) (fun hc_85 => ?_) (fun hc_85 => ?_)
                          · replace hf := xif_t hc_85 hf
                            refine Xblk hX pkL_ok [.iinc 3 4] (pc' := 1043) (ls' := [(3, .int (l3 + (4 : Int32))), (0, .ref 67), (1, .ref 0), (2, .ref 39)]) (st' := []) (h' := h_81) (g := true) (by decide +kernel) rfl rfl rfl ?_
                            refine Xgoto hX (-1025) 18 (by decide +kernel) (by decide) ?_
                            refine XW.pick [1, 2, 3, 0] (ls' := [(0, .ref 67), (1, .ref 0), (2, .ref 39), (3, .int (l3 + (4 : Int32)))]) rfl ?_
                            exact ih (l3 + (4 : Int32)) h_81 hf
                          · replace hf := xif_f hc_85 hf
                            refine Xblk hX pkL_ok [.iconst 0] (pc' := 473) (ls' := [(0, .ref 67), (1, .ref 0), (2, .ref 39), (3, .int l3)]) (st' := [.int (0 : Int32)]) (h' := h_81) (g := true) (by decide +kernel) rfl rfl rfl ?_
                            exact XrLaw hX hR hf (by decide +kernel)
                        · replace hf := xif_f hc_77 hf
                          by_cases hc_86 : ((xs l3.toNatClampNeg) &&& (31 : Int32)) = (10 : Int32)
                          · replace hf := xif_t hc_86 hf
                            refine XswAt hX 474 hc_86 (show decode _ _ = .ok (.tableswitch (1008) (0) (30) #[140, 203, 216, 229, 252, 285, 309, 342, 375, 408, 442, 476, 499, 542, 575, 608, 631, 664, 697, 730, 743, 776, 799, 813, 836, 879, 892, 925, 948, 971, 994], 140) by decide +kernel) (by decide) (by decide) (o := 442) (by decide) (by decide) ?_
                            refine Xblk hX pkL_ok [.aload_n 1, .aload_n 0, .iload_n 3, .iconst 1, .iadd] (pc' := 479) (ls' := [(0, .ref 67), (1, .ref 0), (2, .ref 39), (3, .int l3)]) (st' := [.int (l3 + (1 : Int32)), .ref 67, .ref 0]) (h' := h) (g := true) (by decide +kernel) rfl rfl rfl ?_
                            obtain ⟨hg_87, hf⟩ := xgd_inv hf
                            refine Xsld hX hS (by decide +kernel) hg_87 ?_
                            refine Xblk hX pkL_ok [.aload_n 0, .iload_n 3, .iconst 2, .iadd] (pc' := 484) (ls' := [(0, .ref 67), (1, .ref 0), (2, .ref 39), (3, .int l3)]) (st' := [.int (l3 + (2 : Int32)), .ref 67, .int (xs (l3 + (1 : Int32)).toNatClampNeg), .ref 0]) (h' := h) (g := true) (by decide +kernel) rfl rfl rfl ?_
                            obtain ⟨hg_88, hf⟩ := xgd_inv hf
                            refine Xsld hX hS (by decide +kernel) hg_88 ?_
                            obtain ⟨v_91, h_90, hc_89, hf⟩ := xbd2_inv hf
                            refine XcallV hX (mt_x_anybody (xs (l3 + (1 : Int32)).toNatClampNeg) (xs (l3 + (2 : Int32)).toNatClampNeg) h hc_89) (rest := []) (by decide) (by decide) xm_X4_anybody xi_X4_anybody xs_X4_anybody xl_RL_61 (by decide) (xsh_0) rfl rfl rfl (Nat.le_of_ble_eq_true rfl) (by decide +kernel) ?_
                            show XW X 488 [(0, .ref 67), (1, .ref 0), (2, .ref 39), (3, .int l3)] [.long v_91] h_90
                            refine Xblk hX pkL_ok [.aload_n 2, .aload_n 0, .iload_n 3, .iconst 1, .iadd] (pc' := 493) (ls' := [(0, .ref 67), (1, .ref 0), (2, .ref 39), (3, .int l3)]) (st' := [.int (l3 + (1 : Int32)), .ref 67, .ref 39, .long v_91]) (h' := h_90) (g := true) (by decide +kernel) rfl rfl rfl ?_
                            refine Xsld hX hS (by decide +kernel) hg_87 ?_
                            refine Xblk hX pkL_ok [.aload_n 0, .iload_n 3, .iconst 2, .iadd] (pc' := 498) (ls' := [(0, .ref 67), (1, .ref 0), (2, .ref 39), (3, .int l3)]) (st' := [.int (l3 + (2 : Int32)), .ref 67, .int (xs (l3 + (1 : Int32)).toNatClampNeg), .ref 39, .long v_91]) (h' := h_90) (g := true) (by decide +kernel) rfl rfl rfl ?_
                            refine Xsld hX hS (by decide +kernel) hg_88 ?_
                            obtain ⟨v_93, hc_92, hf⟩ := xbd1_inv hf
                            refine XcallV hX (mt_m_anybody (xs (l3 + (1 : Int32)).toNatClampNeg) (xs (l3 + (2 : Int32)).toNatClampNeg) h_90 hc_92) (rest := [.long v_91]) (by decide) (by decide) xm_X5_anybody xi_X5_anybody xs_X5_anybody xl_RL_64 (by decide) (xsh_39) rfl rfl rfl (Nat.le_of_ble_eq_true rfl) (by decide +kernel) ?_
                            show XW X 502 [(0, .ref 67), (1, .ref 0), (2, .ref 39), (3, .int l3)] [.long v_93, .long v_91] h_90
                            refine Xblk hX pkL_ok [.lcmp] (pc' := 503) (ls' := [(0, .ref 67), (1, .ref 0), (2, .ref 39), (3, .int l3)]) (st' := [.int (lg_cmp v_91 v_93)]) (h' := h_90) (g := true) (by decide +kernel) rfl rfl rfl ?_
                            refine Xbr hX (.ifCond .eq (537)) (tgt := 1040) (P := (lg_cmp v_91 v_93) = (0 : Int32)) (r := []) (by decide +kernel) rfl (by decide) (fun hc_94 => ?_) (fun hc_94 => ?_)
                            · replace hf := xif_t hc_94 hf
                              refine Xblk hX pkL_ok [.iinc 3 4] (pc' := 1043) (ls' := [(3, .int (l3 + (4 : Int32))), (0, .ref 67), (1, .ref 0), (2, .ref 39)]) (st' := []) (h' := h_90) (g := true) (by decide +kernel) rfl rfl rfl ?_
                              refine Xgoto hX (-1025) 18 (by decide +kernel) (by decide) ?_
                              refine XW.pick [1, 2, 3, 0] (ls' := [(0, .ref 67), (1, .ref 0), (2, .ref 39), (3, .int (l3 + (4 : Int32)))]) rfl ?_
                              exact ih (l3 + (4 : Int32)) h_90 hf
                            · replace hf := xif_f hc_94 hf
                              refine Xblk hX pkL_ok [.iconst 0] (pc' := 507) (ls' := [(0, .ref 67), (1, .ref 0), (2, .ref 39), (3, .int l3)]) (st' := [.int (0 : Int32)]) (h' := h_90) (g := true) (by decide +kernel) rfl rfl rfl ?_
                              exact XrLaw hX hR hf (by decide +kernel)
                          · replace hf := xif_f hc_86 hf
                            by_cases hc_95 : ((xs l3.toNatClampNeg) &&& (31 : Int32)) = (11 : Int32)
                            · replace hf := xif_t hc_95 hf
                              refine XswAt hX 508 hc_95 (show decode _ _ = .ok (.tableswitch (1008) (0) (30) #[140, 203, 216, 229, 252, 285, 309, 342, 375, 408, 442, 476, 499, 542, 575, 608, 631, 664, 697, 730, 743, 776, 799, 813, 836, 879, 892, 925, 948, 971, 994], 140) by decide +kernel) (by decide) (by decide) (o := 476) (by decide) (by decide) ?_
                              refine Xblk hX pkL_ok [.aload_n 1, .aload_n 0, .iload_n 3, .iconst 1, .iadd] (pc' := 513) (ls' := [(0, .ref 67), (1, .ref 0), (2, .ref 39), (3, .int l3)]) (st' := [.int (l3 + (1 : Int32)), .ref 67, .ref 0]) (h' := h) (g := true) (by decide +kernel) rfl rfl rfl ?_
                              obtain ⟨hg_96, hf⟩ := xgd_inv hf
                              refine Xsld hX hS (by decide +kernel) hg_96 ?_
                              obtain ⟨v_99, h_98, hc_97, hf⟩ := xbd2_inv hf
                              refine XcallV hX (mt_x_let (xs (l3 + (1 : Int32)).toNatClampNeg) h hc_97) (rest := []) (by decide) (by decide) xm_X4_let xi_X4_let xs_X4_let xl_RL_65 (by decide) (xsh_0) rfl rfl rfl (Nat.le_of_ble_eq_true rfl) (by decide +kernel) ?_
                              show XW X 517 [(0, .ref 67), (1, .ref 0), (2, .ref 39), (3, .int l3)] [.int v_99] h_98
                              refine Xblk hX pkL_ok [.aload_n 2, .aload_n 0, .iload_n 3, .iconst 1, .iadd] (pc' := 522) (ls' := [(0, .ref 67), (1, .ref 0), (2, .ref 39), (3, .int l3)]) (st' := [.int (l3 + (1 : Int32)), .ref 67, .ref 39, .int v_99]) (h' := h_98) (g := true) (by decide +kernel) rfl rfl rfl ?_
                              refine Xsld hX hS (by decide +kernel) hg_96 ?_
                              obtain ⟨v_101, hc_100, hf⟩ := xbd1_inv hf
                              refine XcallV hX (mt_m_let (xs (l3 + (1 : Int32)).toNatClampNeg) h_98 hc_100) (rest := [.int v_99]) (by decide) (by decide) xm_X5_let xi_X5_let xs_X5_let xl_RL_68 (by decide) (xsh_39) rfl rfl rfl (Nat.le_of_ble_eq_true rfl) (by decide +kernel) ?_
                              show XW X 526 [(0, .ref 67), (1, .ref 0), (2, .ref 39), (3, .int l3)] [.int v_101, .int v_99] h_98
                              refine Xbr hX (.if_icmp .eq (514)) (tgt := 1040) (P := v_99 = v_101) (r := []) (by decide +kernel) rfl (by decide) (fun hc_102 => ?_) (fun hc_102 => ?_)
                              · replace hf := xif_t hc_102 hf
                                refine Xblk hX pkL_ok [.iinc 3 4] (pc' := 1043) (ls' := [(3, .int (l3 + (4 : Int32))), (0, .ref 67), (1, .ref 0), (2, .ref 39)]) (st' := []) (h' := h_98) (g := true) (by decide +kernel) rfl rfl rfl ?_
                                refine Xgoto hX (-1025) 18 (by decide +kernel) (by decide) ?_
                                refine XW.pick [1, 2, 3, 0] (ls' := [(0, .ref 67), (1, .ref 0), (2, .ref 39), (3, .int (l3 + (4 : Int32)))]) rfl ?_
                                exact ih (l3 + (4 : Int32)) h_98 hf
                              · replace hf := xif_f hc_102 hf
                                refine Xblk hX pkL_ok [.iconst 0] (pc' := 530) (ls' := [(0, .ref 67), (1, .ref 0), (2, .ref 39), (3, .int l3)]) (st' := [.int (0 : Int32)]) (h' := h_98) (g := true) (by decide +kernel) rfl rfl rfl ?_
                                exact XrLaw hX hR hf (by decide +kernel)
                            · replace hf := xif_f hc_95 hf
                              by_cases hc_103 : ((xs l3.toNatClampNeg) &&& (31 : Int32)) = (12 : Int32)
                              · replace hf := xif_t hc_103 hf
                                refine XswAt hX 531 hc_103 (show decode _ _ = .ok (.tableswitch (1008) (0) (30) #[140, 203, 216, 229, 252, 285, 309, 342, 375, 408, 442, 476, 499, 542, 575, 608, 631, 664, 697, 730, 743, 776, 799, 813, 836, 879, 892, 925, 948, 971, 994], 140) by decide +kernel) (by decide) (by decide) (o := 499) (by decide) (by decide) ?_
                                refine Xblk hX pkL_ok [.aload_n 1, .aload_n 0, .iload_n 3, .iconst 1, .iadd] (pc' := 536) (ls' := [(0, .ref 67), (1, .ref 0), (2, .ref 39), (3, .int l3)]) (st' := [.int (l3 + (1 : Int32)), .ref 67, .ref 0]) (h' := h) (g := true) (by decide +kernel) rfl rfl rfl ?_
                                obtain ⟨hg_104, hf⟩ := xgd_inv hf
                                refine Xsld hX hS (by decide +kernel) hg_104 ?_
                                refine Xblk hX pkL_ok [.aload_n 0, .iload_n 3, .iconst 2, .iadd] (pc' := 541) (ls' := [(0, .ref 67), (1, .ref 0), (2, .ref 39), (3, .int l3)]) (st' := [.int (l3 + (2 : Int32)), .ref 67, .int (xs (l3 + (1 : Int32)).toNatClampNeg), .ref 0]) (h' := h) (g := true) (by decide +kernel) rfl rfl rfl ?_
                                obtain ⟨hg_105, hf⟩ := xgd_inv hf
                                refine Xsld hX hS (by decide +kernel) hg_105 ?_
                                refine Xblk hX pkL_ok [.aload_n 0, .iload_n 3, .iconst 3, .iadd] (pc' := 546) (ls' := [(0, .ref 67), (1, .ref 0), (2, .ref 39), (3, .int l3)]) (st' := [.int (l3 + (3 : Int32)), .ref 67, .int (xs (l3 + (2 : Int32)).toNatClampNeg), .int (xs (l3 + (1 : Int32)).toNatClampNeg), .ref 0]) (h' := h) (g := true) (by decide +kernel) rfl rfl rfl ?_
                                obtain ⟨hg_106, hf⟩ := xgd_inv hf
                                refine Xsld hX hS (by decide +kernel) hg_106 ?_
                                obtain ⟨v_109, h_108, hc_107, hf⟩ := xbd2_inv hf
                                refine XcallV hX (mt_x_soonest (xs (l3 + (1 : Int32)).toNatClampNeg) (xs (l3 + (2 : Int32)).toNatClampNeg) (xs (l3 + (3 : Int32)).toNatClampNeg) h hc_107) (rest := []) (by decide) (by decide) xm_X4_soonest xi_X4_soonest xs_X4_soonest xl_RL_69 (by decide) (xsh_0) rfl rfl rfl (Nat.le_of_ble_eq_true rfl) (by decide +kernel) ?_
                                show XW X 550 [(0, .ref 67), (1, .ref 0), (2, .ref 39), (3, .int l3)] [.int v_109] h_108
                                refine Xblk hX pkL_ok [.aload_n 2, .aload_n 0, .iload_n 3, .iconst 1, .iadd] (pc' := 555) (ls' := [(0, .ref 67), (1, .ref 0), (2, .ref 39), (3, .int l3)]) (st' := [.int (l3 + (1 : Int32)), .ref 67, .ref 39, .int v_109]) (h' := h_108) (g := true) (by decide +kernel) rfl rfl rfl ?_
                                refine Xsld hX hS (by decide +kernel) hg_104 ?_
                                refine Xblk hX pkL_ok [.aload_n 0, .iload_n 3, .iconst 2, .iadd] (pc' := 560) (ls' := [(0, .ref 67), (1, .ref 0), (2, .ref 39), (3, .int l3)]) (st' := [.int (l3 + (2 : Int32)), .ref 67, .int (xs (l3 + (1 : Int32)).toNatClampNeg), .ref 39, .int v_109]) (h' := h_108) (g := true) (by decide +kernel) rfl rfl rfl ?_
                                refine Xsld hX hS (by decide +kernel) hg_105 ?_
                                refine Xblk hX pkL_ok [.aload_n 0, .iload_n 3, .iconst 3, .iadd] (pc' := 565) (ls' := [(0, .ref 67), (1, .ref 0), (2, .ref 39), (3, .int l3)]) (st' := [.int (l3 + (3 : Int32)), .ref 67, .int (xs (l3 + (2 : Int32)).toNatClampNeg), .int (xs (l3 + (1 : Int32)).toNatClampNeg), .ref 39, .int v_109]) (h' := h_108) (g := true) (by decide +kernel) rfl rfl rfl ?_
                                refine Xsld hX hS (by decide +kernel) hg_106 ?_
                                obtain ⟨v_112, h_111, hc_110, hf⟩ := xbd2_inv hf
                                refine XcallV hX (mt_m_soonest (xs (l3 + (1 : Int32)).toNatClampNeg) (xs (l3 + (2 : Int32)).toNatClampNeg) (xs (l3 + (3 : Int32)).toNatClampNeg) h_108 hc_110) (rest := [.int v_109]) (by decide) (by decide) xm_X5_soonest xi_X5_soonest xs_X5_soonest xl_RL_73 (by decide) (xsh_39) rfl rfl rfl (Nat.le_of_ble_eq_true rfl) (by decide +kernel) ?_
                                show XW X 569 [(0, .ref 67), (1, .ref 0), (2, .ref 39), (3, .int l3)] [.int v_112, .int v_109] h_111
                                refine Xbr hX (.if_icmp .eq (471)) (tgt := 1040) (P := v_109 = v_112) (r := []) (by decide +kernel) rfl (by decide) (fun hc_113 => ?_) (fun hc_113 => ?_)
                                · replace hf := xif_t hc_113 hf
                                  refine Xblk hX pkL_ok [.iinc 3 4] (pc' := 1043) (ls' := [(3, .int (l3 + (4 : Int32))), (0, .ref 67), (1, .ref 0), (2, .ref 39)]) (st' := []) (h' := h_111) (g := true) (by decide +kernel) rfl rfl rfl ?_
                                  refine Xgoto hX (-1025) 18 (by decide +kernel) (by decide) ?_
                                  refine XW.pick [1, 2, 3, 0] (ls' := [(0, .ref 67), (1, .ref 0), (2, .ref 39), (3, .int (l3 + (4 : Int32)))]) rfl ?_
                                  exact ih (l3 + (4 : Int32)) h_111 hf
                                · replace hf := xif_f hc_113 hf
                                  refine Xblk hX pkL_ok [.iconst 0] (pc' := 573) (ls' := [(0, .ref 67), (1, .ref 0), (2, .ref 39), (3, .int l3)]) (st' := [.int (0 : Int32)]) (h' := h_111) (g := true) (by decide +kernel) rfl rfl rfl ?_
                                  exact XrLaw hX hR hf (by decide +kernel)
                              · replace hf := xif_f hc_103 hf
                                by_cases hc_114 : ((xs l3.toNatClampNeg) &&& (31 : Int32)) = (13 : Int32)
                                · replace hf := xif_t hc_114 hf
                                  refine XswAt hX 574 hc_114 (show decode _ _ = .ok (.tableswitch (1008) (0) (30) #[140, 203, 216, 229, 252, 285, 309, 342, 375, 408, 442, 476, 499, 542, 575, 608, 631, 664, 697, 730, 743, 776, 799, 813, 836, 879, 892, 925, 948, 971, 994], 140) by decide +kernel) (by decide) (by decide) (o := 542) (by decide) (by decide) ?_
                                  refine Xblk hX pkL_ok [.aload_n 1, .aload_n 0, .iload_n 3, .iconst 1, .iadd] (pc' := 579) (ls' := [(0, .ref 67), (1, .ref 0), (2, .ref 39), (3, .int l3)]) (st' := [.int (l3 + (1 : Int32)), .ref 67, .ref 0]) (h' := h) (g := true) (by decide +kernel) rfl rfl rfl ?_
                                  obtain ⟨hg_115, hf⟩ := xgd_inv hf
                                  refine Xsld hX hS (by decide +kernel) hg_115 ?_
                                  refine Xblk hX pkL_ok [.aload_n 0, .iload_n 3, .iconst 2, .iadd] (pc' := 584) (ls' := [(0, .ref 67), (1, .ref 0), (2, .ref 39), (3, .int l3)]) (st' := [.int (l3 + (2 : Int32)), .ref 67, .int (xs (l3 + (1 : Int32)).toNatClampNeg), .ref 0]) (h' := h) (g := true) (by decide +kernel) rfl rfl rfl ?_
                                  obtain ⟨hg_116, hf⟩ := xgd_inv hf
                                  refine Xsld hX hS (by decide +kernel) hg_116 ?_
                                  obtain ⟨v_119, h_118, hc_117, hf⟩ := xbd2_inv hf
                                  refine XcallVS hX hZ (mt_x_act (xs (l3 + (1 : Int32)).toNatClampNeg) (xs (l3 + (2 : Int32)).toNatClampNeg) h hc_117) (rest := []) (by decide) (by decide) xm_X4_act xi_X4_act xs_X4_act xl_RL_74 (by decide) (xsh_0) rfl rfl rfl (Nat.le_of_ble_eq_true rfl) (by decide +kernel) ?_
                                  show XW X 588 [(0, .ref 67), (1, .ref 0), (2, .ref 39), (3, .int l3)] [.int v_119] h_118
                                  refine Xblk hX pkL_ok [.aload_n 2, .aload_n 0, .iload_n 3, .iconst 1, .iadd] (pc' := 593) (ls' := [(0, .ref 67), (1, .ref 0), (2, .ref 39), (3, .int l3)]) (st' := [.int (l3 + (1 : Int32)), .ref 67, .ref 39, .int v_119]) (h' := h_118) (g := true) (by decide +kernel) rfl rfl rfl ?_
                                  refine Xsld hX hS (by decide +kernel) hg_115 ?_
                                  refine Xblk hX pkL_ok [.aload_n 0, .iload_n 3, .iconst 2, .iadd] (pc' := 598) (ls' := [(0, .ref 67), (1, .ref 0), (2, .ref 39), (3, .int l3)]) (st' := [.int (l3 + (2 : Int32)), .ref 67, .int (xs (l3 + (1 : Int32)).toNatClampNeg), .ref 39, .int v_119]) (h' := h_118) (g := true) (by decide +kernel) rfl rfl rfl ?_
                                  refine Xsld hX hS (by decide +kernel) hg_116 ?_
                                  obtain ⟨v_122, h_121, hc_120, hf⟩ := xbd2_inv hf
                                  refine XcallV hX (mt_m_act (xs (l3 + (1 : Int32)).toNatClampNeg) (xs (l3 + (2 : Int32)).toNatClampNeg) h_118 hc_120) (rest := [.int v_119]) (by decide) (by decide) xm_X5_act xi_X5_act xs_X5_act xl_RL_77 (by decide) (xsh_39) rfl rfl rfl (Nat.le_of_ble_eq_true rfl) (by decide +kernel) ?_
                                  show XW X 602 [(0, .ref 67), (1, .ref 0), (2, .ref 39), (3, .int l3)] [.int v_122, .int v_119] h_121
                                  refine Xbr hX (.if_icmp .eq (438)) (tgt := 1040) (P := v_119 = v_122) (r := []) (by decide +kernel) rfl (by decide) (fun hc_123 => ?_) (fun hc_123 => ?_)
                                  · replace hf := xif_t hc_123 hf
                                    refine Xblk hX pkL_ok [.iinc 3 4] (pc' := 1043) (ls' := [(3, .int (l3 + (4 : Int32))), (0, .ref 67), (1, .ref 0), (2, .ref 39)]) (st' := []) (h' := h_121) (g := true) (by decide +kernel) rfl rfl rfl ?_
                                    refine Xgoto hX (-1025) 18 (by decide +kernel) (by decide) ?_
                                    refine XW.pick [1, 2, 3, 0] (ls' := [(0, .ref 67), (1, .ref 0), (2, .ref 39), (3, .int (l3 + (4 : Int32)))]) rfl ?_
                                    exact ih (l3 + (4 : Int32)) h_121 hf
                                  · replace hf := xif_f hc_123 hf
                                    refine Xblk hX pkL_ok [.iconst 0] (pc' := 606) (ls' := [(0, .ref 67), (1, .ref 0), (2, .ref 39), (3, .int l3)]) (st' := [.int (0 : Int32)]) (h' := h_121) (g := true) (by decide +kernel) rfl rfl rfl ?_
                                    exact XrLaw hX hR hf (by decide +kernel)
                                · replace hf := xif_f hc_114 hf
                                  by_cases hc_124 : ((xs l3.toNatClampNeg) &&& (31 : Int32)) = (14 : Int32)
                                  · replace hf := xif_t hc_124 hf
                                    refine XswAt hX 607 hc_124 (show decode _ _ = .ok (.tableswitch (1008) (0) (30) #[140, 203, 216, 229, 252, 285, 309, 342, 375, 408, 442, 476, 499, 542, 575, 608, 631, 664, 697, 730, 743, 776, 799, 813, 836, 879, 892, 925, 948, 971, 994], 140) by decide +kernel) (by decide) (by decide) (o := 575) (by decide) (by decide) ?_
                                    refine Xblk hX pkL_ok [.aload_n 1, .aload_n 0, .iload_n 3, .iconst 1, .iadd] (pc' := 612) (ls' := [(0, .ref 67), (1, .ref 0), (2, .ref 39), (3, .int l3)]) (st' := [.int (l3 + (1 : Int32)), .ref 67, .ref 0]) (h' := h) (g := true) (by decide +kernel) rfl rfl rfl ?_
                                    obtain ⟨hg_125, hf⟩ := xgd_inv hf
                                    refine Xsld hX hS (by decide +kernel) hg_125 ?_
                                    refine Xblk hX pkL_ok [.aload_n 0, .iload_n 3, .iconst 2, .iadd] (pc' := 617) (ls' := [(0, .ref 67), (1, .ref 0), (2, .ref 39), (3, .int l3)]) (st' := [.int (l3 + (2 : Int32)), .ref 67, .int (xs (l3 + (1 : Int32)).toNatClampNeg), .ref 0]) (h' := h) (g := true) (by decide +kernel) rfl rfl rfl ?_
                                    obtain ⟨hg_126, hf⟩ := xgd_inv hf
                                    refine Xsld hX hS (by decide +kernel) hg_126 ?_
                                    obtain ⟨v_129, h_128, hc_127, hf⟩ := xbd2_inv hf
                                    refine XcallV hX (mt_x_walk (xs (l3 + (1 : Int32)).toNatClampNeg) (xs (l3 + (2 : Int32)).toNatClampNeg) h hc_127) (rest := []) (by decide) (by decide) xm_X4_walk xi_X4_walk xs_X4_walk xl_RL_78 (by decide) (xsh_0) rfl rfl rfl (Nat.le_of_ble_eq_true rfl) (by decide +kernel) ?_
                                    show XW X 621 [(0, .ref 67), (1, .ref 0), (2, .ref 39), (3, .int l3)] [.int v_129] h_128
                                    refine Xblk hX pkL_ok [.aload_n 2, .aload_n 0, .iload_n 3, .iconst 1, .iadd] (pc' := 626) (ls' := [(0, .ref 67), (1, .ref 0), (2, .ref 39), (3, .int l3)]) (st' := [.int (l3 + (1 : Int32)), .ref 67, .ref 39, .int v_129]) (h' := h_128) (g := true) (by decide +kernel) rfl rfl rfl ?_
                                    refine Xsld hX hS (by decide +kernel) hg_125 ?_
                                    refine Xblk hX pkL_ok [.aload_n 0, .iload_n 3, .iconst 2, .iadd] (pc' := 631) (ls' := [(0, .ref 67), (1, .ref 0), (2, .ref 39), (3, .int l3)]) (st' := [.int (l3 + (2 : Int32)), .ref 67, .int (xs (l3 + (1 : Int32)).toNatClampNeg), .ref 39, .int v_129]) (h' := h_128) (g := true) (by decide +kernel) rfl rfl rfl ?_
                                    refine Xsld hX hS (by decide +kernel) hg_126 ?_
                                    obtain ⟨v_132, h_131, hc_130, hf⟩ := xbd2_inv hf
                                    refine XcallV hX (mt_m_walk (xs (l3 + (1 : Int32)).toNatClampNeg) (xs (l3 + (2 : Int32)).toNatClampNeg) h_128 hc_130) (rest := [.int v_129]) (by decide) (by decide) xm_X5_walk xi_X5_walk xs_X5_walk xl_RL_81 (by decide) (xsh_39) rfl rfl rfl (Nat.le_of_ble_eq_true rfl) (by decide +kernel) ?_
                                    show XW X 635 [(0, .ref 67), (1, .ref 0), (2, .ref 39), (3, .int l3)] [.int v_132, .int v_129] h_131
                                    refine Xbr hX (.if_icmp .eq (405)) (tgt := 1040) (P := v_129 = v_132) (r := []) (by decide +kernel) rfl (by decide) (fun hc_133 => ?_) (fun hc_133 => ?_)
                                    · replace hf := xif_t hc_133 hf
                                      refine Xblk hX pkL_ok [.iinc 3 4] (pc' := 1043) (ls' := [(3, .int (l3 + (4 : Int32))), (0, .ref 67), (1, .ref 0), (2, .ref 39)]) (st' := []) (h' := h_131) (g := true) (by decide +kernel) rfl rfl rfl ?_
                                      refine Xgoto hX (-1025) 18 (by decide +kernel) (by decide) ?_
                                      refine XW.pick [1, 2, 3, 0] (ls' := [(0, .ref 67), (1, .ref 0), (2, .ref 39), (3, .int (l3 + (4 : Int32)))]) rfl ?_
                                      exact ih (l3 + (4 : Int32)) h_131 hf
                                    · replace hf := xif_f hc_133 hf
                                      refine Xblk hX pkL_ok [.iconst 0] (pc' := 639) (ls' := [(0, .ref 67), (1, .ref 0), (2, .ref 39), (3, .int l3)]) (st' := [.int (0 : Int32)]) (h' := h_131) (g := true) (by decide +kernel) rfl rfl rfl ?_
                                      exact XrLaw hX hR hf (by decide +kernel)
                                  · replace hf := xif_f hc_124 hf
                                    by_cases hc_134 : ((xs l3.toNatClampNeg) &&& (31 : Int32)) = (15 : Int32)
                                    · replace hf := xif_t hc_134 hf
                                      refine XswAt hX 640 hc_134 (show decode _ _ = .ok (.tableswitch (1008) (0) (30) #[140, 203, 216, 229, 252, 285, 309, 342, 375, 408, 442, 476, 499, 542, 575, 608, 631, 664, 697, 730, 743, 776, 799, 813, 836, 879, 892, 925, 948, 971, 994], 140) by decide +kernel) (by decide) (by decide) (o := 608) (by decide) (by decide) ?_
                                      refine Xblk hX pkL_ok [.aload_n 1, .aload_n 0, .iload_n 3, .iconst 1, .iadd] (pc' := 645) (ls' := [(0, .ref 67), (1, .ref 0), (2, .ref 39), (3, .int l3)]) (st' := [.int (l3 + (1 : Int32)), .ref 67, .ref 0]) (h' := h) (g := true) (by decide +kernel) rfl rfl rfl ?_
                                      obtain ⟨hg_135, hf⟩ := xgd_inv hf
                                      refine Xsld hX hS (by decide +kernel) hg_135 ?_
                                      obtain ⟨v_138, h_137, hc_136, hf⟩ := xbd2_inv hf
                                      refine XcallV hX (mt_x_tick (xs (l3 + (1 : Int32)).toNatClampNeg) h hc_136) (rest := []) (by decide) (by decide) xm_X4_tick xi_X4_tick xs_X4_tick xl_RL_82 (by decide) (xsh_0) rfl rfl rfl (Nat.le_of_ble_eq_true rfl) (by decide +kernel) ?_
                                      show XW X 649 [(0, .ref 67), (1, .ref 0), (2, .ref 39), (3, .int l3)] [.int v_138] h_137
                                      refine Xblk hX pkL_ok [.aload_n 2, .aload_n 0, .iload_n 3, .iconst 1, .iadd] (pc' := 654) (ls' := [(0, .ref 67), (1, .ref 0), (2, .ref 39), (3, .int l3)]) (st' := [.int (l3 + (1 : Int32)), .ref 67, .ref 39, .int v_138]) (h' := h_137) (g := true) (by decide +kernel) rfl rfl rfl ?_
                                      refine Xsld hX hS (by decide +kernel) hg_135 ?_
                                      obtain ⟨v_141, h_140, hc_139, hf⟩ := xbd2_inv hf
                                      refine XcallV hX (mt_m_tick (xs (l3 + (1 : Int32)).toNatClampNeg) h_137 hc_139) (rest := [.int v_138]) (by decide) (by decide) xm_X5_tick xi_X5_tick xs_X5_tick xl_RL_85 (by decide) (xsh_39) rfl rfl rfl (Nat.le_of_ble_eq_true rfl) (by decide +kernel) ?_
                                      show XW X 658 [(0, .ref 67), (1, .ref 0), (2, .ref 39), (3, .int l3)] [.int v_141, .int v_138] h_140
                                      refine Xbr hX (.if_icmp .eq (382)) (tgt := 1040) (P := v_138 = v_141) (r := []) (by decide +kernel) rfl (by decide) (fun hc_142 => ?_) (fun hc_142 => ?_)
                                      · replace hf := xif_t hc_142 hf
                                        refine Xblk hX pkL_ok [.iinc 3 4] (pc' := 1043) (ls' := [(3, .int (l3 + (4 : Int32))), (0, .ref 67), (1, .ref 0), (2, .ref 39)]) (st' := []) (h' := h_140) (g := true) (by decide +kernel) rfl rfl rfl ?_
                                        refine Xgoto hX (-1025) 18 (by decide +kernel) (by decide) ?_
                                        refine XW.pick [1, 2, 3, 0] (ls' := [(0, .ref 67), (1, .ref 0), (2, .ref 39), (3, .int (l3 + (4 : Int32)))]) rfl ?_
                                        exact ih (l3 + (4 : Int32)) h_140 hf
                                      · replace hf := xif_f hc_142 hf
                                        refine Xblk hX pkL_ok [.iconst 0] (pc' := 662) (ls' := [(0, .ref 67), (1, .ref 0), (2, .ref 39), (3, .int l3)]) (st' := [.int (0 : Int32)]) (h' := h_140) (g := true) (by decide +kernel) rfl rfl rfl ?_
                                        exact XrLaw hX hR hf (by decide +kernel)
                                    · replace hf := xif_f hc_134 hf
                                      by_cases hc_143 : ((xs l3.toNatClampNeg) &&& (31 : Int32)) = (16 : Int32)
                                      · replace hf := xif_t hc_143 hf
                                        refine XswAt hX 663 hc_143 (show decode _ _ = .ok (.tableswitch (1008) (0) (30) #[140, 203, 216, 229, 252, 285, 309, 342, 375, 408, 442, 476, 499, 542, 575, 608, 631, 664, 697, 730, 743, 776, 799, 813, 836, 879, 892, 925, 948, 971, 994], 140) by decide +kernel) (by decide) (by decide) (o := 631) (by decide) (by decide) ?_
                                        refine Xblk hX pkL_ok [.aload_n 1, .aload_n 0, .iload_n 3, .iconst 1, .iadd] (pc' := 668) (ls' := [(0, .ref 67), (1, .ref 0), (2, .ref 39), (3, .int l3)]) (st' := [.int (l3 + (1 : Int32)), .ref 67, .ref 0]) (h' := h) (g := true) (by decide +kernel) rfl rfl rfl ?_
                                        obtain ⟨hg_144, hf⟩ := xgd_inv hf
                                        refine Xsld hX hS (by decide +kernel) hg_144 ?_
                                        refine Xblk hX pkL_ok [.aload_n 0, .iload_n 3, .iconst 2, .iadd] (pc' := 673) (ls' := [(0, .ref 67), (1, .ref 0), (2, .ref 39), (3, .int l3)]) (st' := [.int (l3 + (2 : Int32)), .ref 67, .int (xs (l3 + (1 : Int32)).toNatClampNeg), .ref 0]) (h' := h) (g := true) (by decide +kernel) rfl rfl rfl ?_
                                        obtain ⟨hg_145, hf⟩ := xgd_inv hf
                                        refine Xsld hX hS (by decide +kernel) hg_145 ?_
                                        obtain ⟨v_147, hc_146, hf⟩ := xbd1_inv hf
                                        refine XcallV hX (mt_x_line (xs (l3 + (1 : Int32)).toNatClampNeg) (xs (l3 + (2 : Int32)).toNatClampNeg) h hc_146) (rest := []) (by decide) (by decide) xm_X4_line xi_X4_line xs_X4_line xl_RL_86 (by decide) (xsh_0) rfl rfl rfl (Nat.le_of_ble_eq_true rfl) (by decide +kernel) ?_
                                        show XW X 677 [(0, .ref 67), (1, .ref 0), (2, .ref 39), (3, .int l3)] [.int v_147] h
                                        refine Xblk hX pkL_ok [.aload_n 2, .aload_n 0, .iload_n 3, .iconst 1, .iadd] (pc' := 682) (ls' := [(0, .ref 67), (1, .ref 0), (2, .ref 39), (3, .int l3)]) (st' := [.int (l3 + (1 : Int32)), .ref 67, .ref 39, .int v_147]) (h' := h) (g := true) (by decide +kernel) rfl rfl rfl ?_
                                        refine Xsld hX hS (by decide +kernel) hg_144 ?_
                                        refine Xblk hX pkL_ok [.aload_n 0, .iload_n 3, .iconst 2, .iadd] (pc' := 687) (ls' := [(0, .ref 67), (1, .ref 0), (2, .ref 39), (3, .int l3)]) (st' := [.int (l3 + (2 : Int32)), .ref 67, .int (xs (l3 + (1 : Int32)).toNatClampNeg), .ref 39, .int v_147]) (h' := h) (g := true) (by decide +kernel) rfl rfl rfl ?_
                                        refine Xsld hX hS (by decide +kernel) hg_145 ?_
                                        obtain ⟨v_149, hc_148, hf⟩ := xbd1_inv hf
                                        refine XcallV hX (mt_m_line (xs (l3 + (1 : Int32)).toNatClampNeg) (xs (l3 + (2 : Int32)).toNatClampNeg) h hc_148) (rest := [.int v_147]) (by decide) (by decide) xm_X5_line xi_X5_line xs_X5_line xl_RL_89 (by decide) (xsh_39) rfl rfl rfl (Nat.le_of_ble_eq_true rfl) (by decide +kernel) ?_
                                        show XW X 691 [(0, .ref 67), (1, .ref 0), (2, .ref 39), (3, .int l3)] [.int v_149, .int v_147] h
                                        refine Xbr hX (.if_icmp .eq (349)) (tgt := 1040) (P := v_147 = v_149) (r := []) (by decide +kernel) rfl (by decide) (fun hc_150 => ?_) (fun hc_150 => ?_)
                                        · replace hf := xif_t hc_150 hf
                                          refine Xblk hX pkL_ok [.iinc 3 4] (pc' := 1043) (ls' := [(3, .int (l3 + (4 : Int32))), (0, .ref 67), (1, .ref 0), (2, .ref 39)]) (st' := []) (h' := h) (g := true) (by decide +kernel) rfl rfl rfl ?_
                                          refine Xgoto hX (-1025) 18 (by decide +kernel) (by decide) ?_
                                          refine XW.pick [1, 2, 3, 0] (ls' := [(0, .ref 67), (1, .ref 0), (2, .ref 39), (3, .int (l3 + (4 : Int32)))]) rfl ?_
                                          exact ih (l3 + (4 : Int32)) h hf
                                        · replace hf := xif_f hc_150 hf
                                          refine Xblk hX pkL_ok [.iconst 0] (pc' := 695) (ls' := [(0, .ref 67), (1, .ref 0), (2, .ref 39), (3, .int l3)]) (st' := [.int (0 : Int32)]) (h' := h) (g := true) (by decide +kernel) rfl rfl rfl ?_
                                          exact XrLaw hX hR hf (by decide +kernel)
                                      · replace hf := xif_f hc_143 hf
                                        by_cases hc_151 : ((xs l3.toNatClampNeg) &&& (31 : Int32)) = (17 : Int32)
                                        · replace hf := xif_t hc_151 hf
                                          refine XswAt hX 696 hc_151 (show decode _ _ = .ok (.tableswitch (1008) (0) (30) #[140, 203, 216, 229, 252, 285, 309, 342, 375, 408, 442, 476, 499, 542, 575, 608, 631, 664, 697, 730, 743, 776, 799, 813, 836, 879, 892, 925, 948, 971, 994], 140) by decide +kernel) (by decide) (by decide) (o := 664) (by decide) (by decide) ?_
                                          refine Xblk hX pkL_ok [.aload_n 1, .aload_n 0, .iload_n 3, .iconst 1, .iadd] (pc' := 701) (ls' := [(0, .ref 67), (1, .ref 0), (2, .ref 39), (3, .int l3)]) (st' := [.int (l3 + (1 : Int32)), .ref 67, .ref 0]) (h' := h) (g := true) (by decide +kernel) rfl rfl rfl ?_
                                          obtain ⟨hg_152, hf⟩ := xgd_inv hf
                                          refine Xsld hX hS (by decide +kernel) hg_152 ?_
                                          refine Xblk hX pkL_ok [.aload_n 0, .iload_n 3, .iconst 2, .iadd] (pc' := 706) (ls' := [(0, .ref 67), (1, .ref 0), (2, .ref 39), (3, .int l3)]) (st' := [.int (l3 + (2 : Int32)), .ref 67, .int (xs (l3 + (1 : Int32)).toNatClampNeg), .ref 0]) (h' := h) (g := true) (by decide +kernel) rfl rfl rfl ?_
                                          obtain ⟨hg_153, hf⟩ := xgd_inv hf
                                          refine Xsld hX hS (by decide +kernel) hg_153 ?_
                                          obtain ⟨v_155, hc_154, hf⟩ := xbd1_inv hf
                                          refine XcallV hX (mt_x_age (xs (l3 + (1 : Int32)).toNatClampNeg) (xs (l3 + (2 : Int32)).toNatClampNeg) h hc_154) (rest := []) (by decide) (by decide) xm_X4_age xi_X4_age xs_X4_age xl_RL_90 (by decide) (xsh_0) rfl rfl rfl (Nat.le_of_ble_eq_true rfl) (by decide +kernel) ?_
                                          show XW X 710 [(0, .ref 67), (1, .ref 0), (2, .ref 39), (3, .int l3)] [.int v_155] h
                                          refine Xblk hX pkL_ok [.aload_n 2, .aload_n 0, .iload_n 3, .iconst 1, .iadd] (pc' := 715) (ls' := [(0, .ref 67), (1, .ref 0), (2, .ref 39), (3, .int l3)]) (st' := [.int (l3 + (1 : Int32)), .ref 67, .ref 39, .int v_155]) (h' := h) (g := true) (by decide +kernel) rfl rfl rfl ?_
                                          refine Xsld hX hS (by decide +kernel) hg_152 ?_
                                          refine Xblk hX pkL_ok [.aload_n 0, .iload_n 3, .iconst 2, .iadd] (pc' := 720) (ls' := [(0, .ref 67), (1, .ref 0), (2, .ref 39), (3, .int l3)]) (st' := [.int (l3 + (2 : Int32)), .ref 67, .int (xs (l3 + (1 : Int32)).toNatClampNeg), .ref 39, .int v_155]) (h' := h) (g := true) (by decide +kernel) rfl rfl rfl ?_
                                          refine Xsld hX hS (by decide +kernel) hg_153 ?_
                                          obtain ⟨v_157, hc_156, hf⟩ := xbd1_inv hf
                                          refine XcallV hX (mt_m_age (xs (l3 + (1 : Int32)).toNatClampNeg) (xs (l3 + (2 : Int32)).toNatClampNeg) h hc_156) (rest := [.int v_155]) (by decide) (by decide) xm_X5_age xi_X5_age xs_X5_age xl_RL_93 (by decide) (xsh_39) rfl rfl rfl (Nat.le_of_ble_eq_true rfl) (by decide +kernel) ?_
                                          show XW X 724 [(0, .ref 67), (1, .ref 0), (2, .ref 39), (3, .int l3)] [.int v_157, .int v_155] h
                                          refine Xbr hX (.if_icmp .eq (316)) (tgt := 1040) (P := v_155 = v_157) (r := []) (by decide +kernel) rfl (by decide) (fun hc_158 => ?_) (fun hc_158 => ?_)
                                          · replace hf := xif_t hc_158 hf
                                            refine Xblk hX pkL_ok [.iinc 3 4] (pc' := 1043) (ls' := [(3, .int (l3 + (4 : Int32))), (0, .ref 67), (1, .ref 0), (2, .ref 39)]) (st' := []) (h' := h) (g := true) (by decide +kernel) rfl rfl rfl ?_
                                            refine Xgoto hX (-1025) 18 (by decide +kernel) (by decide) ?_
                                            refine XW.pick [1, 2, 3, 0] (ls' := [(0, .ref 67), (1, .ref 0), (2, .ref 39), (3, .int (l3 + (4 : Int32)))]) rfl ?_
                                            exact ih (l3 + (4 : Int32)) h hf
                                          · replace hf := xif_f hc_158 hf
                                            refine Xblk hX pkL_ok [.iconst 0] (pc' := 728) (ls' := [(0, .ref 67), (1, .ref 0), (2, .ref 39), (3, .int l3)]) (st' := [.int (0 : Int32)]) (h' := h) (g := true) (by decide +kernel) rfl rfl rfl ?_
                                            exact XrLaw hX hR hf (by decide +kernel)
                                        · replace hf := xif_f hc_151 hf
                                          by_cases hc_159 : ((xs l3.toNatClampNeg) &&& (31 : Int32)) = (18 : Int32)
                                          · replace hf := xif_t hc_159 hf
                                            refine XswAt hX 729 hc_159 (show decode _ _ = .ok (.tableswitch (1008) (0) (30) #[140, 203, 216, 229, 252, 285, 309, 342, 375, 408, 442, 476, 499, 542, 575, 608, 631, 664, 697, 730, 743, 776, 799, 813, 836, 879, 892, 925, 948, 971, 994], 140) by decide +kernel) (by decide) (by decide) (o := 697) (by decide) (by decide) ?_
                                            refine Xblk hX pkL_ok [.aload_n 1, .aload_n 0, .iload_n 3, .iconst 1, .iadd] (pc' := 734) (ls' := [(0, .ref 67), (1, .ref 0), (2, .ref 39), (3, .int l3)]) (st' := [.int (l3 + (1 : Int32)), .ref 67, .ref 0]) (h' := h) (g := true) (by decide +kernel) rfl rfl rfl ?_
                                            obtain ⟨hg_160, hf⟩ := xgd_inv hf
                                            refine Xsld hX hS (by decide +kernel) hg_160 ?_
                                            refine Xblk hX pkL_ok [.aload_n 0, .iload_n 3, .iconst 2, .iadd] (pc' := 739) (ls' := [(0, .ref 67), (1, .ref 0), (2, .ref 39), (3, .int l3)]) (st' := [.int (l3 + (2 : Int32)), .ref 67, .int (xs (l3 + (1 : Int32)).toNatClampNeg), .ref 0]) (h' := h) (g := true) (by decide +kernel) rfl rfl rfl ?_
                                            obtain ⟨hg_161, hf⟩ := xgd_inv hf
                                            refine Xsld hX hS (by decide +kernel) hg_161 ?_
                                            obtain ⟨v_164, h_163, hc_162, hf⟩ := xbd2_inv hf
                                            refine XcallV hX (mt_x_charge (xs (l3 + (1 : Int32)).toNatClampNeg) (xs (l3 + (2 : Int32)).toNatClampNeg) h hc_162) (rest := []) (by decide) (by decide) xm_X4_charge xi_X4_charge xs_X4_charge xl_RL_94 (by decide) (xsh_0) rfl rfl rfl (Nat.le_of_ble_eq_true rfl) (by decide +kernel) ?_
                                            show XW X 743 [(0, .ref 67), (1, .ref 0), (2, .ref 39), (3, .int l3)] [.int v_164] h_163
                                            refine Xblk hX pkL_ok [.aload_n 2, .aload_n 0, .iload_n 3, .iconst 1, .iadd] (pc' := 748) (ls' := [(0, .ref 67), (1, .ref 0), (2, .ref 39), (3, .int l3)]) (st' := [.int (l3 + (1 : Int32)), .ref 67, .ref 39, .int v_164]) (h' := h_163) (g := true) (by decide +kernel) rfl rfl rfl ?_
                                            refine Xsld hX hS (by decide +kernel) hg_160 ?_
                                            refine Xblk hX pkL_ok [.aload_n 0, .iload_n 3, .iconst 2, .iadd] (pc' := 753) (ls' := [(0, .ref 67), (1, .ref 0), (2, .ref 39), (3, .int l3)]) (st' := [.int (l3 + (2 : Int32)), .ref 67, .int (xs (l3 + (1 : Int32)).toNatClampNeg), .ref 39, .int v_164]) (h' := h_163) (g := true) (by decide +kernel) rfl rfl rfl ?_
                                            refine Xsld hX hS (by decide +kernel) hg_161 ?_
                                            obtain ⟨v_167, h_166, hc_165, hf⟩ := xbd2_inv hf
                                            refine XcallV hX (mt_m_charge (xs (l3 + (1 : Int32)).toNatClampNeg) (xs (l3 + (2 : Int32)).toNatClampNeg) h_163 hc_165) (rest := [.int v_164]) (by decide) (by decide) xm_X5_charge xi_X5_charge xs_X5_charge xl_RL_97 (by decide) (xsh_39) rfl rfl rfl (Nat.le_of_ble_eq_true rfl) (by decide +kernel) ?_
                                            show XW X 757 [(0, .ref 67), (1, .ref 0), (2, .ref 39), (3, .int l3)] [.int v_167, .int v_164] h_166
                                            refine Xbr hX (.if_icmp .eq (283)) (tgt := 1040) (P := v_164 = v_167) (r := []) (by decide +kernel) rfl (by decide) (fun hc_168 => ?_) (fun hc_168 => ?_)
                                            · replace hf := xif_t hc_168 hf
                                              refine Xblk hX pkL_ok [.iinc 3 4] (pc' := 1043) (ls' := [(3, .int (l3 + (4 : Int32))), (0, .ref 67), (1, .ref 0), (2, .ref 39)]) (st' := []) (h' := h_166) (g := true) (by decide +kernel) rfl rfl rfl ?_
                                              refine Xgoto hX (-1025) 18 (by decide +kernel) (by decide) ?_
                                              refine XW.pick [1, 2, 3, 0] (ls' := [(0, .ref 67), (1, .ref 0), (2, .ref 39), (3, .int (l3 + (4 : Int32)))]) rfl ?_
                                              exact ih (l3 + (4 : Int32)) h_166 hf
                                            · replace hf := xif_f hc_168 hf
                                              refine Xblk hX pkL_ok [.iconst 0] (pc' := 761) (ls' := [(0, .ref 67), (1, .ref 0), (2, .ref 39), (3, .int l3)]) (st' := [.int (0 : Int32)]) (h' := h_166) (g := true) (by decide +kernel) rfl rfl rfl ?_
                                              exact XrLaw hX hR hf (by decide +kernel)
                                          · replace hf := xif_f hc_159 hf
                                            by_cases hc_169 : ((xs l3.toNatClampNeg) &&& (31 : Int32)) = (19 : Int32)
                                            · replace hf := xif_t hc_169 hf
                                              refine XswAt hX 762 hc_169 (show decode _ _ = .ok (.tableswitch (1008) (0) (30) #[140, 203, 216, 229, 252, 285, 309, 342, 375, 408, 442, 476, 499, 542, 575, 608, 631, 664, 697, 730, 743, 776, 799, 813, 836, 879, 892, 925, 948, 971, 994], 140) by decide +kernel) (by decide) (by decide) (o := 730) (by decide) (by decide) ?_
                                              refine Xblk hX pkL_ok [.aload_n 1] (pc' := 763) (ls' := [(0, .ref 67), (1, .ref 0), (2, .ref 39), (3, .int l3)]) (st' := [.ref 0]) (h' := h) (g := true) (by decide +kernel) rfl rfl rfl ?_
                                              refine XcallV hX (mt_x_lost  h) (rest := []) (by decide) (by decide) xm_X4_lost xi_X4_lost xs_X4_lost xl_RL_98 (by decide) (xsh_0) rfl rfl rfl (Nat.le_of_ble_eq_true rfl) (by decide +kernel) ?_
                                              show XW X 766 [(0, .ref 67), (1, .ref 0), (2, .ref 39), (3, .int l3)] [.int (f_x_lost h).1] (f_x_lost h).2
                                              refine Xblk hX pkL_ok [.aload_n 2] (pc' := 767) (ls' := [(0, .ref 67), (1, .ref 0), (2, .ref 39), (3, .int l3)]) (st' := [.ref 39, .int (f_x_lost h).1]) (h' := (f_x_lost h).2) (g := true) (by decide +kernel) rfl rfl rfl ?_
                                              obtain ⟨v_172, h_171, hc_170, hf⟩ := xbd2_inv hf
                                              refine XcallV hX (mt_m_lost  (f_x_lost h).2 hc_170) (rest := [.int (f_x_lost h).1]) (by decide) (by decide) xm_X5_lost xi_X5_lost xs_X5_lost xl_RL_101 (by decide) (xsh_39) rfl rfl rfl (Nat.le_of_ble_eq_true rfl) (by decide +kernel) ?_
                                              show XW X 770 [(0, .ref 67), (1, .ref 0), (2, .ref 39), (3, .int l3)] [.int v_172, .int (f_x_lost h).1] h_171
                                              refine Xbr hX (.if_icmp .eq (270)) (tgt := 1040) (P := (f_x_lost h).1 = v_172) (r := []) (by decide +kernel) rfl (by decide) (fun hc_173 => ?_) (fun hc_173 => ?_)
                                              · replace hf := xif_t hc_173 hf
                                                refine Xblk hX pkL_ok [.iinc 3 4] (pc' := 1043) (ls' := [(3, .int (l3 + (4 : Int32))), (0, .ref 67), (1, .ref 0), (2, .ref 39)]) (st' := []) (h' := h_171) (g := true) (by decide +kernel) rfl rfl rfl ?_
                                                refine Xgoto hX (-1025) 18 (by decide +kernel) (by decide) ?_
                                                refine XW.pick [1, 2, 3, 0] (ls' := [(0, .ref 67), (1, .ref 0), (2, .ref 39), (3, .int (l3 + (4 : Int32)))]) rfl ?_
                                                exact ih (l3 + (4 : Int32)) h_171 hf
                                              · replace hf := xif_f hc_173 hf
                                                refine Xblk hX pkL_ok [.iconst 0] (pc' := 774) (ls' := [(0, .ref 67), (1, .ref 0), (2, .ref 39), (3, .int l3)]) (st' := [.int (0 : Int32)]) (h' := h_171) (g := true) (by decide +kernel) rfl rfl rfl ?_
                                                exact XrLaw hX hR hf (by decide +kernel)
                                            · replace hf := xif_f hc_169 hf
                                              by_cases hc_174 : ((xs l3.toNatClampNeg) &&& (31 : Int32)) = (20 : Int32)
                                              · replace hf := xif_t hc_174 hf
                                                refine XswAt hX 775 hc_174 (show decode _ _ = .ok (.tableswitch (1008) (0) (30) #[140, 203, 216, 229, 252, 285, 309, 342, 375, 408, 442, 476, 499, 542, 575, 608, 631, 664, 697, 730, 743, 776, 799, 813, 836, 879, 892, 925, 948, 971, 994], 140) by decide +kernel) (by decide) (by decide) (o := 743) (by decide) (by decide) ?_
                                                refine Xblk hX pkL_ok [.aload_n 1, .aload_n 0, .iload_n 3, .iconst 1, .iadd] (pc' := 780) (ls' := [(0, .ref 67), (1, .ref 0), (2, .ref 39), (3, .int l3)]) (st' := [.int (l3 + (1 : Int32)), .ref 67, .ref 0]) (h' := h) (g := true) (by decide +kernel) rfl rfl rfl ?_
                                                obtain ⟨hg_175, hf⟩ := xgd_inv hf
                                                refine Xsld hX hS (by decide +kernel) hg_175 ?_
                                                refine Xblk hX pkL_ok [.aload_n 0, .iload_n 3, .iconst 2, .iadd] (pc' := 785) (ls' := [(0, .ref 67), (1, .ref 0), (2, .ref 39), (3, .int l3)]) (st' := [.int (l3 + (2 : Int32)), .ref 67, .int (xs (l3 + (1 : Int32)).toNatClampNeg), .ref 0]) (h' := h) (g := true) (by decide +kernel) rfl rfl rfl ?_
                                                obtain ⟨hg_176, hf⟩ := xgd_inv hf
                                                refine Xsld hX hS (by decide +kernel) hg_176 ?_
                                                obtain ⟨v_179, h_178, hc_177, hf⟩ := xbd2_inv hf
                                                refine XcallV hX (mt_x_look (xs (l3 + (1 : Int32)).toNatClampNeg) (xs (l3 + (2 : Int32)).toNatClampNeg) h hc_177) (rest := []) (by decide) (by decide) xm_X4_look xi_X4_look xs_X4_look xl_RL_102 (by decide) (xsh_0) rfl rfl rfl (Nat.le_of_ble_eq_true rfl) (by decide +kernel) ?_
                                                show XW X 789 [(0, .ref 67), (1, .ref 0), (2, .ref 39), (3, .int l3)] [.int v_179] h_178
                                                refine Xblk hX pkL_ok [.aload_n 2, .aload_n 0, .iload_n 3, .iconst 1, .iadd] (pc' := 794) (ls' := [(0, .ref 67), (1, .ref 0), (2, .ref 39), (3, .int l3)]) (st' := [.int (l3 + (1 : Int32)), .ref 67, .ref 39, .int v_179]) (h' := h_178) (g := true) (by decide +kernel) rfl rfl rfl ?_
                                                refine Xsld hX hS (by decide +kernel) hg_175 ?_
                                                refine Xblk hX pkL_ok [.aload_n 0, .iload_n 3, .iconst 2, .iadd] (pc' := 799) (ls' := [(0, .ref 67), (1, .ref 0), (2, .ref 39), (3, .int l3)]) (st' := [.int (l3 + (2 : Int32)), .ref 67, .int (xs (l3 + (1 : Int32)).toNatClampNeg), .ref 39, .int v_179]) (h' := h_178) (g := true) (by decide +kernel) rfl rfl rfl ?_
                                                refine Xsld hX hS (by decide +kernel) hg_176 ?_
                                                obtain ⟨v_182, h_181, hc_180, hf⟩ := xbd2_inv hf
                                                refine XcallV hX (mt_m_look (xs (l3 + (1 : Int32)).toNatClampNeg) (xs (l3 + (2 : Int32)).toNatClampNeg) h_178 hc_180) (rest := [.int v_179]) (by decide) (by decide) xm_X5_look xi_X5_look xs_X5_look xl_RL_105 (by decide) (xsh_39) rfl rfl rfl (Nat.le_of_ble_eq_true rfl) (by decide +kernel) ?_
                                                show XW X 803 [(0, .ref 67), (1, .ref 0), (2, .ref 39), (3, .int l3)] [.int v_182, .int v_179] h_181
                                                refine Xbr hX (.if_icmp .eq (237)) (tgt := 1040) (P := v_179 = v_182) (r := []) (by decide +kernel) rfl (by decide) (fun hc_183 => ?_) (fun hc_183 => ?_)
                                                · replace hf := xif_t hc_183 hf
                                                  refine Xblk hX pkL_ok [.iinc 3 4] (pc' := 1043) (ls' := [(3, .int (l3 + (4 : Int32))), (0, .ref 67), (1, .ref 0), (2, .ref 39)]) (st' := []) (h' := h_181) (g := true) (by decide +kernel) rfl rfl rfl ?_
                                                  refine Xgoto hX (-1025) 18 (by decide +kernel) (by decide) ?_
                                                  refine XW.pick [1, 2, 3, 0] (ls' := [(0, .ref 67), (1, .ref 0), (2, .ref 39), (3, .int (l3 + (4 : Int32)))]) rfl ?_
                                                  exact ih (l3 + (4 : Int32)) h_181 hf
                                                · replace hf := xif_f hc_183 hf
                                                  refine Xblk hX pkL_ok [.iconst 0] (pc' := 807) (ls' := [(0, .ref 67), (1, .ref 0), (2, .ref 39), (3, .int l3)]) (st' := [.int (0 : Int32)]) (h' := h_181) (g := true) (by decide +kernel) rfl rfl rfl ?_
                                                  exact XrLaw hX hR hf (by decide +kernel)
                                              · replace hf := xif_f hc_174 hf
                                                by_cases hc_184 : ((xs l3.toNatClampNeg) &&& (31 : Int32)) = (21 : Int32)
                                                · replace hf := xif_t hc_184 hf
                                                  refine XswAt hX 808 hc_184 (show decode _ _ = .ok (.tableswitch (1008) (0) (30) #[140, 203, 216, 229, 252, 285, 309, 342, 375, 408, 442, 476, 499, 542, 575, 608, 631, 664, 697, 730, 743, 776, 799, 813, 836, 879, 892, 925, 948, 971, 994], 140) by decide +kernel) (by decide) (by decide) (o := 776) (by decide) (by decide) ?_
                                                  refine Xblk hX pkL_ok [.aload_n 1, .aload_n 0, .iload_n 3, .iconst 1, .iadd] (pc' := 813) (ls' := [(0, .ref 67), (1, .ref 0), (2, .ref 39), (3, .int l3)]) (st' := [.int (l3 + (1 : Int32)), .ref 67, .ref 0]) (h' := h) (g := true) (by decide +kernel) rfl rfl rfl ?_
                                                  obtain ⟨hg_185, hf⟩ := xgd_inv hf
                                                  refine Xsld hX hS (by decide +kernel) hg_185 ?_
                                                  refine XcallV hX (mt_x_step (xs (l3 + (1 : Int32)).toNatClampNeg) h) (rest := []) (by decide) (by decide) xm_X4_step xi_X4_step xs_X4_step xl_RL_106 (by decide) (xsh_0) rfl rfl rfl (Nat.le_of_ble_eq_true rfl) (by decide +kernel) ?_
                                                  show XW X 817 [(0, .ref 67), (1, .ref 0), (2, .ref 39), (3, .int l3)] [.int (f_x_step (xs (l3 + (1 : Int32)).toNatClampNeg) h).1] (f_x_step (xs (l3 + (1 : Int32)).toNatClampNeg) h).2
                                                  refine Xblk hX pkL_ok [.aload_n 2, .aload_n 0, .iload_n 3, .iconst 1, .iadd] (pc' := 822) (ls' := [(0, .ref 67), (1, .ref 0), (2, .ref 39), (3, .int l3)]) (st' := [.int (l3 + (1 : Int32)), .ref 67, .ref 39, .int (f_x_step (xs (l3 + (1 : Int32)).toNatClampNeg) h).1]) (h' := (f_x_step (xs (l3 + (1 : Int32)).toNatClampNeg) h).2) (g := true) (by decide +kernel) rfl rfl rfl ?_
                                                  refine Xsld hX hS (by decide +kernel) hg_185 ?_
                                                  obtain ⟨v_188, h_187, hc_186, hf⟩ := xbd2_inv hf
                                                  refine XcallV hX (mt_m_step (xs (l3 + (1 : Int32)).toNatClampNeg) (f_x_step (xs (l3 + (1 : Int32)).toNatClampNeg) h).2 hc_186) (rest := [.int (f_x_step (xs (l3 + (1 : Int32)).toNatClampNeg) h).1]) (by decide) (by decide) xm_X5_step xi_X5_step xs_X5_step xl_RL_109 (by decide) (xsh_39) rfl rfl rfl (Nat.le_of_ble_eq_true rfl) (by decide +kernel) ?_
                                                  show XW X 826 [(0, .ref 67), (1, .ref 0), (2, .ref 39), (3, .int l3)] [.int v_188, .int (f_x_step (xs (l3 + (1 : Int32)).toNatClampNeg) h).1] h_187
                                                  refine Xbr hX (.if_icmp .eq (214)) (tgt := 1040) (P := (f_x_step (xs (l3 + (1 : Int32)).toNatClampNeg) h).1 = v_188) (r := []) (by decide +kernel) rfl (by decide) (fun hc_189 => ?_) (fun hc_189 => ?_)
                                                  · replace hf := xif_t hc_189 hf
                                                    refine Xblk hX pkL_ok [.iinc 3 4] (pc' := 1043) (ls' := [(3, .int (l3 + (4 : Int32))), (0, .ref 67), (1, .ref 0), (2, .ref 39)]) (st' := []) (h' := h_187) (g := true) (by decide +kernel) rfl rfl rfl ?_
                                                    refine Xgoto hX (-1025) 18 (by decide +kernel) (by decide) ?_
                                                    refine XW.pick [1, 2, 3, 0] (ls' := [(0, .ref 67), (1, .ref 0), (2, .ref 39), (3, .int (l3 + (4 : Int32)))]) rfl ?_
                                                    exact ih (l3 + (4 : Int32)) h_187 hf
                                                  · replace hf := xif_f hc_189 hf
                                                    refine Xblk hX pkL_ok [.iconst 0] (pc' := 830) (ls' := [(0, .ref 67), (1, .ref 0), (2, .ref 39), (3, .int l3)]) (st' := [.int (0 : Int32)]) (h' := h_187) (g := true) (by decide +kernel) rfl rfl rfl ?_
                                                    exact XrLaw hX hR hf (by decide +kernel)
                                                · replace hf := xif_f hc_184 hf
                                                  by_cases hc_190 : ((xs l3.toNatClampNeg) &&& (31 : Int32)) = (22 : Int32)
                                                  · replace hf := xif_t hc_190 hf
                                                    refine XswAt hX 831 hc_190 (show decode _ _ = .ok (.tableswitch (1008) (0) (30) #[140, 203, 216, 229, 252, 285, 309, 342, 375, 408, 442, 476, 499, 542, 575, 608, 631, 664, 697, 730, 743, 776, 799, 813, 836, 879, 892, 925, 948, 971, 994], 140) by decide +kernel) (by decide) (by decide) (o := 799) (by decide) (by decide) ?_
                                                    refine Xblk hX pkL_ok [.aload_n 1] (pc' := 832) (ls' := [(0, .ref 67), (1, .ref 0), (2, .ref 39), (3, .int l3)]) (st' := [.ref 0]) (h' := h) (g := true) (by decide +kernel) rfl rfl rfl ?_
                                                    refine XcallV hX (mt_x_where  h) (rest := []) (by decide) (by decide) xm_X4_where xi_X4_where xs_X4_where xl_RL_110 (by decide) (xsh_0) rfl rfl rfl (Nat.le_of_ble_eq_true rfl) (by decide +kernel) ?_
                                                    show XW X 835 [(0, .ref 67), (1, .ref 0), (2, .ref 39), (3, .int l3)] [.long (f_x_where h)] h
                                                    refine Xblk hX pkL_ok [.aload_n 2] (pc' := 836) (ls' := [(0, .ref 67), (1, .ref 0), (2, .ref 39), (3, .int l3)]) (st' := [.ref 39, .long (f_x_where h)]) (h' := h) (g := true) (by decide +kernel) rfl rfl rfl ?_
                                                    refine XcallV hX (mt_m_where  h) (rest := [.long (f_x_where h)]) (by decide) (by decide) xm_X5_where xi_X5_where xs_X5_where xl_RL_114 (by decide) (xsh_39) rfl rfl rfl (Nat.le_of_ble_eq_true rfl) (by decide +kernel) ?_
                                                    show XW X 839 [(0, .ref 67), (1, .ref 0), (2, .ref 39), (3, .int l3)] [.long (f_m_where h), .long (f_x_where h)] h
                                                    refine Xblk hX pkL_ok [.lcmp] (pc' := 840) (ls' := [(0, .ref 67), (1, .ref 0), (2, .ref 39), (3, .int l3)]) (st' := [.int (lg_cmp (f_x_where h) (f_m_where h))]) (h' := h) (g := true) (by decide +kernel) rfl rfl rfl ?_
                                                    refine Xbr hX (.ifCond .eq (200)) (tgt := 1040) (P := (lg_cmp (f_x_where h) (f_m_where h)) = (0 : Int32)) (r := []) (by decide +kernel) rfl (by decide) (fun hc_191 => ?_) (fun hc_191 => ?_)
                                                    · replace hf := xif_t hc_191 hf
                                                      refine Xblk hX pkL_ok [.iinc 3 4] (pc' := 1043) (ls' := [(3, .int (l3 + (4 : Int32))), (0, .ref 67), (1, .ref 0), (2, .ref 39)]) (st' := []) (h' := h) (g := true) (by decide +kernel) rfl rfl rfl ?_
                                                      refine Xgoto hX (-1025) 18 (by decide +kernel) (by decide) ?_
                                                      refine XW.pick [1, 2, 3, 0] (ls' := [(0, .ref 67), (1, .ref 0), (2, .ref 39), (3, .int (l3 + (4 : Int32)))]) rfl ?_
                                                      exact ih (l3 + (4 : Int32)) h hf
                                                    · replace hf := xif_f hc_191 hf
                                                      refine Xblk hX pkL_ok [.iconst 0] (pc' := 844) (ls' := [(0, .ref 67), (1, .ref 0), (2, .ref 39), (3, .int l3)]) (st' := [.int (0 : Int32)]) (h' := h) (g := true) (by decide +kernel) rfl rfl rfl ?_
                                                      exact XrLaw hX hR hf (by decide +kernel)
                                                  · replace hf := xif_f hc_190 hf
                                                    by_cases hc_192 : ((xs l3.toNatClampNeg) &&& (31 : Int32)) = (23 : Int32)
                                                    · replace hf := xif_t hc_192 hf
                                                      refine XswAt hX 845 hc_192 (show decode _ _ = .ok (.tableswitch (1008) (0) (30) #[140, 203, 216, 229, 252, 285, 309, 342, 375, 408, 442, 476, 499, 542, 575, 608, 631, 664, 697, 730, 743, 776, 799, 813, 836, 879, 892, 925, 948, 971, 994], 140) by decide +kernel) (by decide) (by decide) (o := 813) (by decide) (by decide) ?_
                                                      refine Xblk hX pkL_ok [.aload_n 1, .aload_n 0, .iload_n 3, .iconst 1, .iadd] (pc' := 850) (ls' := [(0, .ref 67), (1, .ref 0), (2, .ref 39), (3, .int l3)]) (st' := [.int (l3 + (1 : Int32)), .ref 67, .ref 0]) (h' := h) (g := true) (by decide +kernel) rfl rfl rfl ?_
                                                      obtain ⟨hg_193, hf⟩ := xgd_inv hf
                                                      refine Xsld hX hS (by decide +kernel) hg_193 ?_
                                                      obtain ⟨v_195, hc_194, hf⟩ := xbd1_inv hf
                                                      refine XcallV hX (mt_x_tells (xs (l3 + (1 : Int32)).toNatClampNeg) h hc_194) (rest := []) (by decide) (by decide) xm_X4_tells xi_X4_tells xs_X4_tells xl_RL_115 (by decide) (xsh_0) rfl rfl rfl (Nat.le_of_ble_eq_true rfl) (by decide +kernel) ?_
                                                      show XW X 854 [(0, .ref 67), (1, .ref 0), (2, .ref 39), (3, .int l3)] [.int v_195] h
                                                      refine Xblk hX pkL_ok [.aload_n 2, .aload_n 0, .iload_n 3, .iconst 1, .iadd] (pc' := 859) (ls' := [(0, .ref 67), (1, .ref 0), (2, .ref 39), (3, .int l3)]) (st' := [.int (l3 + (1 : Int32)), .ref 67, .ref 39, .int v_195]) (h' := h) (g := true) (by decide +kernel) rfl rfl rfl ?_
                                                      refine Xsld hX hS (by decide +kernel) hg_193 ?_
                                                      obtain ⟨v_198, h_197, hc_196, hf⟩ := xbd2_inv hf
                                                      refine XcallV hX (mt_m_tells (xs (l3 + (1 : Int32)).toNatClampNeg) h hc_196) (rest := [.int v_195]) (by decide) (by decide) xm_X5_tells xi_X5_tells xs_X5_tells xl_RL_118 (by decide) (xsh_39) rfl rfl rfl (Nat.le_of_ble_eq_true rfl) (by decide +kernel) ?_
                                                      show XW X 863 [(0, .ref 67), (1, .ref 0), (2, .ref 39), (3, .int l3)] [.int v_198, .int v_195] h_197
                                                      refine Xbr hX (.if_icmp .eq (177)) (tgt := 1040) (P := v_195 = v_198) (r := []) (by decide +kernel) rfl (by decide) (fun hc_199 => ?_) (fun hc_199 => ?_)
                                                      · replace hf := xif_t hc_199 hf
                                                        refine Xblk hX pkL_ok [.iinc 3 4] (pc' := 1043) (ls' := [(3, .int (l3 + (4 : Int32))), (0, .ref 67), (1, .ref 0), (2, .ref 39)]) (st' := []) (h' := h_197) (g := true) (by decide +kernel) rfl rfl rfl ?_
                                                        refine Xgoto hX (-1025) 18 (by decide +kernel) (by decide) ?_
                                                        refine XW.pick [1, 2, 3, 0] (ls' := [(0, .ref 67), (1, .ref 0), (2, .ref 39), (3, .int (l3 + (4 : Int32)))]) rfl ?_
                                                        exact ih (l3 + (4 : Int32)) h_197 hf
                                                      · replace hf := xif_f hc_199 hf
                                                        refine Xblk hX pkL_ok [.iconst 0] (pc' := 867) (ls' := [(0, .ref 67), (1, .ref 0), (2, .ref 39), (3, .int l3)]) (st' := [.int (0 : Int32)]) (h' := h_197) (g := true) (by decide +kernel) rfl rfl rfl ?_
                                                        exact XrLaw hX hR hf (by decide +kernel)
                                                    · replace hf := xif_f hc_192 hf
                                                      by_cases hc_200 : ((xs l3.toNatClampNeg) &&& (31 : Int32)) = (24 : Int32)
                                                      · replace hf := xif_t hc_200 hf
                                                        refine XswAt hX 868 hc_200 (show decode _ _ = .ok (.tableswitch (1008) (0) (30) #[140, 203, 216, 229, 252, 285, 309, 342, 375, 408, 442, 476, 499, 542, 575, 608, 631, 664, 697, 730, 743, 776, 799, 813, 836, 879, 892, 925, 948, 971, 994], 140) by decide +kernel) (by decide) (by decide) (o := 836) (by decide) (by decide) ?_
                                                        refine Xblk hX pkL_ok [.aload_n 1, .aload_n 0, .iload_n 3, .iconst 1, .iadd] (pc' := 873) (ls' := [(0, .ref 67), (1, .ref 0), (2, .ref 39), (3, .int l3)]) (st' := [.int (l3 + (1 : Int32)), .ref 67, .ref 0]) (h' := h) (g := true) (by decide +kernel) rfl rfl rfl ?_
                                                        obtain ⟨hg_201, hf⟩ := xgd_inv hf
                                                        refine Xsld hX hS (by decide +kernel) hg_201 ?_
                                                        refine Xblk hX pkL_ok [.aload_n 0, .iload_n 3, .iconst 2, .iadd] (pc' := 878) (ls' := [(0, .ref 67), (1, .ref 0), (2, .ref 39), (3, .int l3)]) (st' := [.int (l3 + (2 : Int32)), .ref 67, .int (xs (l3 + (1 : Int32)).toNatClampNeg), .ref 0]) (h' := h) (g := true) (by decide +kernel) rfl rfl rfl ?_
                                                        obtain ⟨hg_202, hf⟩ := xgd_inv hf
                                                        refine Xsld hX hS (by decide +kernel) hg_202 ?_
                                                        refine Xblk hX pkL_ok [.aload_n 0, .iload_n 3, .iconst 3, .iadd] (pc' := 883) (ls' := [(0, .ref 67), (1, .ref 0), (2, .ref 39), (3, .int l3)]) (st' := [.int (l3 + (3 : Int32)), .ref 67, .int (xs (l3 + (2 : Int32)).toNatClampNeg), .int (xs (l3 + (1 : Int32)).toNatClampNeg), .ref 0]) (h' := h) (g := true) (by decide +kernel) rfl rfl rfl ?_
                                                        obtain ⟨hg_203, hf⟩ := xgd_inv hf
                                                        refine Xsld hX hS (by decide +kernel) hg_203 ?_
                                                        obtain ⟨v_206, h_205, hc_204, hf⟩ := xbd2_inv hf
                                                        refine XcallV hX (mt_x_order (xs (l3 + (1 : Int32)).toNatClampNeg) (xs (l3 + (2 : Int32)).toNatClampNeg) (xs (l3 + (3 : Int32)).toNatClampNeg) h hc_204) (rest := []) (by decide) (by decide) xm_X4_order xi_X4_order xs_X4_order xl_RL_119 (by decide) (xsh_0) rfl rfl rfl (Nat.le_of_ble_eq_true rfl) (by decide +kernel) ?_
                                                        show XW X 887 [(0, .ref 67), (1, .ref 0), (2, .ref 39), (3, .int l3)] [.int v_206] h_205
                                                        refine Xblk hX pkL_ok [.aload_n 2, .aload_n 0, .iload_n 3, .iconst 1, .iadd] (pc' := 892) (ls' := [(0, .ref 67), (1, .ref 0), (2, .ref 39), (3, .int l3)]) (st' := [.int (l3 + (1 : Int32)), .ref 67, .ref 39, .int v_206]) (h' := h_205) (g := true) (by decide +kernel) rfl rfl rfl ?_
                                                        refine Xsld hX hS (by decide +kernel) hg_201 ?_
                                                        refine Xblk hX pkL_ok [.aload_n 0, .iload_n 3, .iconst 2, .iadd] (pc' := 897) (ls' := [(0, .ref 67), (1, .ref 0), (2, .ref 39), (3, .int l3)]) (st' := [.int (l3 + (2 : Int32)), .ref 67, .int (xs (l3 + (1 : Int32)).toNatClampNeg), .ref 39, .int v_206]) (h' := h_205) (g := true) (by decide +kernel) rfl rfl rfl ?_
                                                        refine Xsld hX hS (by decide +kernel) hg_202 ?_
                                                        refine Xblk hX pkL_ok [.aload_n 0, .iload_n 3, .iconst 3, .iadd] (pc' := 902) (ls' := [(0, .ref 67), (1, .ref 0), (2, .ref 39), (3, .int l3)]) (st' := [.int (l3 + (3 : Int32)), .ref 67, .int (xs (l3 + (2 : Int32)).toNatClampNeg), .int (xs (l3 + (1 : Int32)).toNatClampNeg), .ref 39, .int v_206]) (h' := h_205) (g := true) (by decide +kernel) rfl rfl rfl ?_
                                                        refine Xsld hX hS (by decide +kernel) hg_203 ?_
                                                        obtain ⟨v_209, h_208, hc_207, hf⟩ := xbd2_inv hf
                                                        refine XcallV hX (mt_m_order (xs (l3 + (1 : Int32)).toNatClampNeg) (xs (l3 + (2 : Int32)).toNatClampNeg) (xs (l3 + (3 : Int32)).toNatClampNeg) h_205 hc_207) (rest := [.int v_206]) (by decide) (by decide) xm_X5_order xi_X5_order xs_X5_order xl_RL_122 (by decide) (xsh_39) rfl rfl rfl (Nat.le_of_ble_eq_true rfl) (by decide +kernel) ?_
                                                        show XW X 906 [(0, .ref 67), (1, .ref 0), (2, .ref 39), (3, .int l3)] [.int v_209, .int v_206] h_208
                                                        refine Xbr hX (.if_icmp .eq (134)) (tgt := 1040) (P := v_206 = v_209) (r := []) (by decide +kernel) rfl (by decide) (fun hc_210 => ?_) (fun hc_210 => ?_)
                                                        · replace hf := xif_t hc_210 hf
                                                          refine Xblk hX pkL_ok [.iinc 3 4] (pc' := 1043) (ls' := [(3, .int (l3 + (4 : Int32))), (0, .ref 67), (1, .ref 0), (2, .ref 39)]) (st' := []) (h' := h_208) (g := true) (by decide +kernel) rfl rfl rfl ?_
                                                          refine Xgoto hX (-1025) 18 (by decide +kernel) (by decide) ?_
                                                          refine XW.pick [1, 2, 3, 0] (ls' := [(0, .ref 67), (1, .ref 0), (2, .ref 39), (3, .int (l3 + (4 : Int32)))]) rfl ?_
                                                          exact ih (l3 + (4 : Int32)) h_208 hf
                                                        · replace hf := xif_f hc_210 hf
                                                          refine Xblk hX pkL_ok [.iconst 0] (pc' := 910) (ls' := [(0, .ref 67), (1, .ref 0), (2, .ref 39), (3, .int l3)]) (st' := [.int (0 : Int32)]) (h' := h_208) (g := true) (by decide +kernel) rfl rfl rfl ?_
                                                          exact XrLaw hX hR hf (by decide +kernel)
                                                      · replace hf := xif_f hc_200 hf
                                                        by_cases hc_211 : ((xs l3.toNatClampNeg) &&& (31 : Int32)) = (25 : Int32)
                                                        · replace hf := xif_t hc_211 hf
                                                          refine XswAt hX 911 hc_211 (show decode _ _ = .ok (.tableswitch (1008) (0) (30) #[140, 203, 216, 229, 252, 285, 309, 342, 375, 408, 442, 476, 499, 542, 575, 608, 631, 664, 697, 730, 743, 776, 799, 813, 836, 879, 892, 925, 948, 971, 994], 140) by decide +kernel) (by decide) (by decide) (o := 879) (by decide) (by decide) ?_
                                                          refine Xblk hX pkL_ok [.aload_n 1] (pc' := 912) (ls' := [(0, .ref 67), (1, .ref 0), (2, .ref 39), (3, .int l3)]) (st' := [.ref 0]) (h' := h) (g := true) (by decide +kernel) rfl rfl rfl ?_
                                                          obtain ⟨v_214, h_213, hc_212, hf⟩ := xbd2_inv hf
                                                          refine XcallV hX (mt_x_late  h hc_212) (rest := []) (by decide) (by decide) xm_X4_late xi_X4_late xs_X4_late xl_RL_123 (by decide) (xsh_0) rfl rfl rfl (Nat.le_of_ble_eq_true rfl) (by decide +kernel) ?_
                                                          show XW X 915 [(0, .ref 67), (1, .ref 0), (2, .ref 39), (3, .int l3)] [.int v_214] h_213
                                                          refine Xblk hX pkL_ok [.aload_n 2] (pc' := 916) (ls' := [(0, .ref 67), (1, .ref 0), (2, .ref 39), (3, .int l3)]) (st' := [.ref 39, .int v_214]) (h' := h_213) (g := true) (by decide +kernel) rfl rfl rfl ?_
                                                          obtain ⟨v_217, h_216, hc_215, hf⟩ := xbd2_inv hf
                                                          refine XcallV hX (mt_m_late  h_213 hc_215) (rest := [.int v_214]) (by decide) (by decide) xm_X5_late xi_X5_late xs_X5_late xl_RL_126 (by decide) (xsh_39) rfl rfl rfl (Nat.le_of_ble_eq_true rfl) (by decide +kernel) ?_
                                                          show XW X 919 [(0, .ref 67), (1, .ref 0), (2, .ref 39), (3, .int l3)] [.int v_217, .int v_214] h_216
                                                          refine Xbr hX (.if_icmp .eq (121)) (tgt := 1040) (P := v_214 = v_217) (r := []) (by decide +kernel) rfl (by decide) (fun hc_218 => ?_) (fun hc_218 => ?_)
                                                          · replace hf := xif_t hc_218 hf
                                                            refine Xblk hX pkL_ok [.iinc 3 4] (pc' := 1043) (ls' := [(3, .int (l3 + (4 : Int32))), (0, .ref 67), (1, .ref 0), (2, .ref 39)]) (st' := []) (h' := h_216) (g := true) (by decide +kernel) rfl rfl rfl ?_
                                                            refine Xgoto hX (-1025) 18 (by decide +kernel) (by decide) ?_
                                                            refine XW.pick [1, 2, 3, 0] (ls' := [(0, .ref 67), (1, .ref 0), (2, .ref 39), (3, .int (l3 + (4 : Int32)))]) rfl ?_
                                                            exact ih (l3 + (4 : Int32)) h_216 hf
                                                          · replace hf := xif_f hc_218 hf
                                                            refine Xblk hX pkL_ok [.iconst 0] (pc' := 923) (ls' := [(0, .ref 67), (1, .ref 0), (2, .ref 39), (3, .int l3)]) (st' := [.int (0 : Int32)]) (h' := h_216) (g := true) (by decide +kernel) rfl rfl rfl ?_
                                                            exact XrLaw hX hR hf (by decide +kernel)
                                                        · replace hf := xif_f hc_211 hf
                                                          by_cases hc_219 : ((xs l3.toNatClampNeg) &&& (31 : Int32)) = (26 : Int32)
                                                          · replace hf := xif_t hc_219 hf
                                                            refine XswAt hX 924 hc_219 (show decode _ _ = .ok (.tableswitch (1008) (0) (30) #[140, 203, 216, 229, 252, 285, 309, 342, 375, 408, 442, 476, 499, 542, 575, 608, 631, 664, 697, 730, 743, 776, 799, 813, 836, 879, 892, 925, 948, 971, 994], 140) by decide +kernel) (by decide) (by decide) (o := 892) (by decide) (by decide) ?_
                                                            refine Xblk hX pkL_ok [.aload_n 1, .aload_n 0, .iload_n 3, .iconst 1, .iadd] (pc' := 929) (ls' := [(0, .ref 67), (1, .ref 0), (2, .ref 39), (3, .int l3)]) (st' := [.int (l3 + (1 : Int32)), .ref 67, .ref 0]) (h' := h) (g := true) (by decide +kernel) rfl rfl rfl ?_
                                                            obtain ⟨hg_220, hf⟩ := xgd_inv hf
                                                            refine Xsld hX hS (by decide +kernel) hg_220 ?_
                                                            refine Xblk hX pkL_ok [.aload_n 0, .iload_n 3, .iconst 2, .iadd] (pc' := 934) (ls' := [(0, .ref 67), (1, .ref 0), (2, .ref 39), (3, .int l3)]) (st' := [.int (l3 + (2 : Int32)), .ref 67, .int (xs (l3 + (1 : Int32)).toNatClampNeg), .ref 0]) (h' := h) (g := true) (by decide +kernel) rfl rfl rfl ?_
                                                            obtain ⟨hg_221, hf⟩ := xgd_inv hf
                                                            refine Xsld hX hS (by decide +kernel) hg_221 ?_
                                                            obtain ⟨v_224, h_223, hc_222, hf⟩ := xbd2_inv hf
                                                            refine XcallV hX (mt_x_served (xs (l3 + (1 : Int32)).toNatClampNeg) (xs (l3 + (2 : Int32)).toNatClampNeg) h hc_222) (rest := []) (by decide) (by decide) xm_X4_served xi_X4_served xs_X4_served xl_RL_127 (by decide) (xsh_0) rfl rfl rfl (Nat.le_of_ble_eq_true rfl) (by decide +kernel) ?_
                                                            show XW X 938 [(0, .ref 67), (1, .ref 0), (2, .ref 39), (3, .int l3)] [.int v_224] h_223
                                                            refine Xblk hX pkL_ok [.aload_n 2, .aload_n 0, .iload_n 3, .iconst 1, .iadd] (pc' := 943) (ls' := [(0, .ref 67), (1, .ref 0), (2, .ref 39), (3, .int l3)]) (st' := [.int (l3 + (1 : Int32)), .ref 67, .ref 39, .int v_224]) (h' := h_223) (g := true) (by decide +kernel) rfl rfl rfl ?_
                                                            refine Xsld hX hS (by decide +kernel) hg_220 ?_
                                                            refine Xblk hX pkL_ok [.aload_n 0, .iload_n 3, .iconst 2, .iadd] (pc' := 948) (ls' := [(0, .ref 67), (1, .ref 0), (2, .ref 39), (3, .int l3)]) (st' := [.int (l3 + (2 : Int32)), .ref 67, .int (xs (l3 + (1 : Int32)).toNatClampNeg), .ref 39, .int v_224]) (h' := h_223) (g := true) (by decide +kernel) rfl rfl rfl ?_
                                                            refine Xsld hX hS (by decide +kernel) hg_221 ?_
                                                            obtain ⟨v_227, h_226, hc_225, hf⟩ := xbd2_inv hf
                                                            refine XcallV hX (mt_m_served (xs (l3 + (1 : Int32)).toNatClampNeg) (xs (l3 + (2 : Int32)).toNatClampNeg) h_223 hc_225) (rest := [.int v_224]) (by decide) (by decide) xm_X5_served xi_X5_served xs_X5_served xl_RL_130 (by decide) (xsh_39) rfl rfl rfl (Nat.le_of_ble_eq_true rfl) (by decide +kernel) ?_
                                                            show XW X 952 [(0, .ref 67), (1, .ref 0), (2, .ref 39), (3, .int l3)] [.int v_227, .int v_224] h_226
                                                            refine Xbr hX (.if_icmp .eq (88)) (tgt := 1040) (P := v_224 = v_227) (r := []) (by decide +kernel) rfl (by decide) (fun hc_228 => ?_) (fun hc_228 => ?_)
                                                            · replace hf := xif_t hc_228 hf
                                                              refine Xblk hX pkL_ok [.iinc 3 4] (pc' := 1043) (ls' := [(3, .int (l3 + (4 : Int32))), (0, .ref 67), (1, .ref 0), (2, .ref 39)]) (st' := []) (h' := h_226) (g := true) (by decide +kernel) rfl rfl rfl ?_
                                                              refine Xgoto hX (-1025) 18 (by decide +kernel) (by decide) ?_
                                                              refine XW.pick [1, 2, 3, 0] (ls' := [(0, .ref 67), (1, .ref 0), (2, .ref 39), (3, .int (l3 + (4 : Int32)))]) rfl ?_
                                                              exact ih (l3 + (4 : Int32)) h_226 hf
                                                            · replace hf := xif_f hc_228 hf
                                                              refine Xblk hX pkL_ok [.iconst 0] (pc' := 956) (ls' := [(0, .ref 67), (1, .ref 0), (2, .ref 39), (3, .int l3)]) (st' := [.int (0 : Int32)]) (h' := h_226) (g := true) (by decide +kernel) rfl rfl rfl ?_
                                                              exact XrLaw hX hR hf (by decide +kernel)
                                                          · replace hf := xif_f hc_219 hf
                                                            by_cases hc_229 : ((xs l3.toNatClampNeg) &&& (31 : Int32)) = (27 : Int32)
                                                            · replace hf := xif_t hc_229 hf
                                                              refine XswAt hX 957 hc_229 (show decode _ _ = .ok (.tableswitch (1008) (0) (30) #[140, 203, 216, 229, 252, 285, 309, 342, 375, 408, 442, 476, 499, 542, 575, 608, 631, 664, 697, 730, 743, 776, 799, 813, 836, 879, 892, 925, 948, 971, 994], 140) by decide +kernel) (by decide) (by decide) (o := 925) (by decide) (by decide) ?_
                                                              refine Xblk hX pkL_ok [.aload_n 1, .aload_n 0, .iload_n 3, .iconst 1, .iadd] (pc' := 962) (ls' := [(0, .ref 67), (1, .ref 0), (2, .ref 39), (3, .int l3)]) (st' := [.int (l3 + (1 : Int32)), .ref 67, .ref 0]) (h' := h) (g := true) (by decide +kernel) rfl rfl rfl ?_
                                                              obtain ⟨hg_230, hf⟩ := xgd_inv hf
                                                              refine Xsld hX hS (by decide +kernel) hg_230 ?_
                                                              obtain ⟨v_233, h_232, hc_231, hf⟩ := xbd2_inv hf
                                                              refine XcallV hX (mt_x_keep (xs (l3 + (1 : Int32)).toNatClampNeg) h hc_231) (rest := []) (by decide) (by decide) xm_X4_keep xi_X4_keep xs_X4_keep xl_RL_131 (by decide) (xsh_0) rfl rfl rfl (Nat.le_of_ble_eq_true rfl) (by decide +kernel) ?_
                                                              show XW X 966 [(0, .ref 67), (1, .ref 0), (2, .ref 39), (3, .int l3)] [.int v_233] h_232
                                                              refine Xblk hX pkL_ok [.aload_n 2, .aload_n 0, .iload_n 3, .iconst 1, .iadd] (pc' := 971) (ls' := [(0, .ref 67), (1, .ref 0), (2, .ref 39), (3, .int l3)]) (st' := [.int (l3 + (1 : Int32)), .ref 67, .ref 39, .int v_233]) (h' := h_232) (g := true) (by decide +kernel) rfl rfl rfl ?_
                                                              refine Xsld hX hS (by decide +kernel) hg_230 ?_
                                                              obtain ⟨v_236, h_235, hc_234, hf⟩ := xbd2_inv hf
                                                              refine XcallV hX (mt_m_keep (xs (l3 + (1 : Int32)).toNatClampNeg) h_232 hc_234) (rest := [.int v_233]) (by decide) (by decide) xm_X5_keep xi_X5_keep xs_X5_keep xl_RL_134 (by decide) (xsh_39) rfl rfl rfl (Nat.le_of_ble_eq_true rfl) (by decide +kernel) ?_
                                                              show XW X 975 [(0, .ref 67), (1, .ref 0), (2, .ref 39), (3, .int l3)] [.int v_236, .int v_233] h_235
                                                              refine Xbr hX (.if_icmp .eq (65)) (tgt := 1040) (P := v_233 = v_236) (r := []) (by decide +kernel) rfl (by decide) (fun hc_237 => ?_) (fun hc_237 => ?_)
                                                              · replace hf := xif_t hc_237 hf
                                                                refine Xblk hX pkL_ok [.iinc 3 4] (pc' := 1043) (ls' := [(3, .int (l3 + (4 : Int32))), (0, .ref 67), (1, .ref 0), (2, .ref 39)]) (st' := []) (h' := h_235) (g := true) (by decide +kernel) rfl rfl rfl ?_
                                                                refine Xgoto hX (-1025) 18 (by decide +kernel) (by decide) ?_
                                                                refine XW.pick [1, 2, 3, 0] (ls' := [(0, .ref 67), (1, .ref 0), (2, .ref 39), (3, .int (l3 + (4 : Int32)))]) rfl ?_
                                                                exact ih (l3 + (4 : Int32)) h_235 hf
                                                              · replace hf := xif_f hc_237 hf
                                                                refine Xblk hX pkL_ok [.iconst 0] (pc' := 979) (ls' := [(0, .ref 67), (1, .ref 0), (2, .ref 39), (3, .int l3)]) (st' := [.int (0 : Int32)]) (h' := h_235) (g := true) (by decide +kernel) rfl rfl rfl ?_
                                                                exact XrLaw hX hR hf (by decide +kernel)
                                                            · replace hf := xif_f hc_229 hf
                                                              by_cases hc_238 : ((xs l3.toNatClampNeg) &&& (31 : Int32)) = (28 : Int32)
                                                              · replace hf := xif_t hc_238 hf
                                                                refine XswAt hX 980 hc_238 (show decode _ _ = .ok (.tableswitch (1008) (0) (30) #[140, 203, 216, 229, 252, 285, 309, 342, 375, 408, 442, 476, 499, 542, 575, 608, 631, 664, 697, 730, 743, 776, 799, 813, 836, 879, 892, 925, 948, 971, 994], 140) by decide +kernel) (by decide) (by decide) (o := 948) (by decide) (by decide) ?_
                                                                refine Xblk hX pkL_ok [.aload_n 1, .aload_n 0, .iload_n 3, .iconst 1, .iadd] (pc' := 985) (ls' := [(0, .ref 67), (1, .ref 0), (2, .ref 39), (3, .int l3)]) (st' := [.int (l3 + (1 : Int32)), .ref 67, .ref 0]) (h' := h) (g := true) (by decide +kernel) rfl rfl rfl ?_
                                                                obtain ⟨hg_239, hf⟩ := xgd_inv hf
                                                                refine Xsld hX hS (by decide +kernel) hg_239 ?_
                                                                obtain ⟨v_242, h_241, hc_240, hf⟩ := xbd2_inv hf
                                                                refine XcallV hX (mt_x_back (xs (l3 + (1 : Int32)).toNatClampNeg) h hc_240) (rest := []) (by decide) (by decide) xm_X4_back xi_X4_back xs_X4_back xl_RL_135 (by decide) (xsh_0) rfl rfl rfl (Nat.le_of_ble_eq_true rfl) (by decide +kernel) ?_
                                                                show XW X 989 [(0, .ref 67), (1, .ref 0), (2, .ref 39), (3, .int l3)] [.int v_242] h_241
                                                                refine Xblk hX pkL_ok [.aload_n 2, .aload_n 0, .iload_n 3, .iconst 1, .iadd] (pc' := 994) (ls' := [(0, .ref 67), (1, .ref 0), (2, .ref 39), (3, .int l3)]) (st' := [.int (l3 + (1 : Int32)), .ref 67, .ref 39, .int v_242]) (h' := h_241) (g := true) (by decide +kernel) rfl rfl rfl ?_
                                                                refine Xsld hX hS (by decide +kernel) hg_239 ?_
                                                                obtain ⟨v_245, h_244, hc_243, hf⟩ := xbd2_inv hf
                                                                refine XcallV hX (mt_m_back (xs (l3 + (1 : Int32)).toNatClampNeg) h_241 hc_243) (rest := [.int v_242]) (by decide) (by decide) xm_X5_back xi_X5_back xs_X5_back xl_RL_138 (by decide) (xsh_39) rfl rfl rfl (Nat.le_of_ble_eq_true rfl) (by decide +kernel) ?_
                                                                show XW X 998 [(0, .ref 67), (1, .ref 0), (2, .ref 39), (3, .int l3)] [.int v_245, .int v_242] h_244
                                                                refine Xbr hX (.if_icmp .eq (42)) (tgt := 1040) (P := v_242 = v_245) (r := []) (by decide +kernel) rfl (by decide) (fun hc_246 => ?_) (fun hc_246 => ?_)
                                                                · replace hf := xif_t hc_246 hf
                                                                  refine Xblk hX pkL_ok [.iinc 3 4] (pc' := 1043) (ls' := [(3, .int (l3 + (4 : Int32))), (0, .ref 67), (1, .ref 0), (2, .ref 39)]) (st' := []) (h' := h_244) (g := true) (by decide +kernel) rfl rfl rfl ?_
                                                                  refine Xgoto hX (-1025) 18 (by decide +kernel) (by decide) ?_
                                                                  refine XW.pick [1, 2, 3, 0] (ls' := [(0, .ref 67), (1, .ref 0), (2, .ref 39), (3, .int (l3 + (4 : Int32)))]) rfl ?_
                                                                  exact ih (l3 + (4 : Int32)) h_244 hf
                                                                · replace hf := xif_f hc_246 hf
                                                                  refine Xblk hX pkL_ok [.iconst 0] (pc' := 1002) (ls' := [(0, .ref 67), (1, .ref 0), (2, .ref 39), (3, .int l3)]) (st' := [.int (0 : Int32)]) (h' := h_244) (g := true) (by decide +kernel) rfl rfl rfl ?_
                                                                  exact XrLaw hX hR hf (by decide +kernel)
                                                              · replace hf := xif_f hc_238 hf
                                                                by_cases hc_247 : ((xs l3.toNatClampNeg) &&& (31 : Int32)) = (29 : Int32)
                                                                · replace hf := xif_t hc_247 hf
                                                                  refine XswAt hX 1003 hc_247 (show decode _ _ = .ok (.tableswitch (1008) (0) (30) #[140, 203, 216, 229, 252, 285, 309, 342, 375, 408, 442, 476, 499, 542, 575, 608, 631, 664, 697, 730, 743, 776, 799, 813, 836, 879, 892, 925, 948, 971, 994], 140) by decide +kernel) (by decide) (by decide) (o := 971) (by decide) (by decide) ?_
                                                                  refine Xblk hX pkL_ok [.aload_n 1, .aload_n 0, .iload_n 3, .iconst 1, .iadd] (pc' := 1008) (ls' := [(0, .ref 67), (1, .ref 0), (2, .ref 39), (3, .int l3)]) (st' := [.int (l3 + (1 : Int32)), .ref 67, .ref 0]) (h' := h) (g := true) (by decide +kernel) rfl rfl rfl ?_
                                                                  obtain ⟨hg_248, hf⟩ := xgd_inv hf
                                                                  refine Xsld hX hS (by decide +kernel) hg_248 ?_
                                                                  refine XcallV hX (mt_x_count (xs (l3 + (1 : Int32)).toNatClampNeg) h) (rest := []) (by decide) (by decide) xm_X4_count xi_X4_count xs_X4_count xl_RL_139 (by decide) (xsh_0) rfl rfl rfl (Nat.le_of_ble_eq_true rfl) (by decide +kernel) ?_
                                                                  show XW X 1012 [(0, .ref 67), (1, .ref 0), (2, .ref 39), (3, .int l3)] [.int (f_x_count (xs (l3 + (1 : Int32)).toNatClampNeg) h)] h
                                                                  refine Xblk hX pkL_ok [.aload_n 2, .aload_n 0, .iload_n 3, .iconst 1, .iadd] (pc' := 1017) (ls' := [(0, .ref 67), (1, .ref 0), (2, .ref 39), (3, .int l3)]) (st' := [.int (l3 + (1 : Int32)), .ref 67, .ref 39, .int (f_x_count (xs (l3 + (1 : Int32)).toNatClampNeg) h)]) (h' := h) (g := true) (by decide +kernel) rfl rfl rfl ?_
                                                                  refine Xsld hX hS (by decide +kernel) hg_248 ?_
                                                                  obtain ⟨v_250, hc_249, hf⟩ := xbd1_inv hf
                                                                  refine XcallV hX (mt_m_count (xs (l3 + (1 : Int32)).toNatClampNeg) h hc_249) (rest := [.int (f_x_count (xs (l3 + (1 : Int32)).toNatClampNeg) h)]) (by decide) (by decide) xm_X5_count xi_X5_count xs_X5_count xl_RL_142 (by decide) (xsh_39) rfl rfl rfl (Nat.le_of_ble_eq_true rfl) (by decide +kernel) ?_
                                                                  show XW X 1021 [(0, .ref 67), (1, .ref 0), (2, .ref 39), (3, .int l3)] [.int v_250, .int (f_x_count (xs (l3 + (1 : Int32)).toNatClampNeg) h)] h
                                                                  refine Xbr hX (.if_icmp .eq (19)) (tgt := 1040) (P := (f_x_count (xs (l3 + (1 : Int32)).toNatClampNeg) h) = v_250) (r := []) (by decide +kernel) rfl (by decide) (fun hc_251 => ?_) (fun hc_251 => ?_)
                                                                  · replace hf := xif_t hc_251 hf
                                                                    refine Xblk hX pkL_ok [.iinc 3 4] (pc' := 1043) (ls' := [(3, .int (l3 + (4 : Int32))), (0, .ref 67), (1, .ref 0), (2, .ref 39)]) (st' := []) (h' := h) (g := true) (by decide +kernel) rfl rfl rfl ?_
                                                                    refine Xgoto hX (-1025) 18 (by decide +kernel) (by decide) ?_
                                                                    refine XW.pick [1, 2, 3, 0] (ls' := [(0, .ref 67), (1, .ref 0), (2, .ref 39), (3, .int (l3 + (4 : Int32)))]) rfl ?_
                                                                    exact ih (l3 + (4 : Int32)) h hf
                                                                  · replace hf := xif_f hc_251 hf
                                                                    refine Xblk hX pkL_ok [.iconst 0] (pc' := 1025) (ls' := [(0, .ref 67), (1, .ref 0), (2, .ref 39), (3, .int l3)]) (st' := [.int (0 : Int32)]) (h' := h) (g := true) (by decide +kernel) rfl rfl rfl ?_
                                                                    exact XrLaw hX hR hf (by decide +kernel)
                                                                · replace hf := xif_f hc_247 hf
                                                                  by_cases hc_252 : ((xs l3.toNatClampNeg) &&& (31 : Int32)) = (30 : Int32)
                                                                  · replace hf := xif_t hc_252 hf
                                                                    refine XswAt hX 1026 hc_252 (show decode _ _ = .ok (.tableswitch (1008) (0) (30) #[140, 203, 216, 229, 252, 285, 309, 342, 375, 408, 442, 476, 499, 542, 575, 608, 631, 664, 697, 730, 743, 776, 799, 813, 836, 879, 892, 925, 948, 971, 994], 140) by decide +kernel) (by decide) (by decide) (o := 994) (by decide) (by decide) ?_
                                                                    refine Xblk hX pkL_ok [.aload_n 1] (pc' := 1027) (ls' := [(0, .ref 67), (1, .ref 0), (2, .ref 39), (3, .int l3)]) (st' := [.ref 0]) (h' := h) (g := true) (by decide +kernel) rfl rfl rfl ?_
                                                                    refine XcallV hX (mt_x_trace  h) (rest := []) (by decide) (by decide) xm_X4_trace xi_X4_trace xs_X4_trace xl_RL_143 (by decide) (xsh_0) rfl rfl rfl (Nat.le_of_ble_eq_true rfl) (by decide +kernel) ?_
                                                                    show XW X 1030 [(0, .ref 67), (1, .ref 0), (2, .ref 39), (3, .int l3)] [.long (f_x_trace h)] h
                                                                    refine Xblk hX pkL_ok [.aload_n 2] (pc' := 1031) (ls' := [(0, .ref 67), (1, .ref 0), (2, .ref 39), (3, .int l3)]) (st' := [.ref 39, .long (f_x_trace h)]) (h' := h) (g := true) (by decide +kernel) rfl rfl rfl ?_
                                                                    refine XcallV hX (mt_m_trace  h) (rest := [.long (f_x_trace h)]) (by decide) (by decide) xm_X5_trace xi_X5_trace xs_X5_trace xl_RL_146 (by decide) (xsh_39) rfl rfl rfl (Nat.le_of_ble_eq_true rfl) (by decide +kernel) ?_
                                                                    show XW X 1034 [(0, .ref 67), (1, .ref 0), (2, .ref 39), (3, .int l3)] [.long (f_m_trace h), .long (f_x_trace h)] h
                                                                    refine Xblk hX pkL_ok [.lcmp] (pc' := 1035) (ls' := [(0, .ref 67), (1, .ref 0), (2, .ref 39), (3, .int l3)]) (st' := [.int (lg_cmp (f_x_trace h) (f_m_trace h))]) (h' := h) (g := true) (by decide +kernel) rfl rfl rfl ?_
                                                                    refine Xbr hX (.ifCond .eq (5)) (tgt := 1040) (P := (lg_cmp (f_x_trace h) (f_m_trace h)) = (0 : Int32)) (r := []) (by decide +kernel) rfl (by decide) (fun hc_253 => ?_) (fun hc_253 => ?_)
                                                                    · replace hf := xif_t hc_253 hf
                                                                      refine Xblk hX pkL_ok [.iinc 3 4] (pc' := 1043) (ls' := [(3, .int (l3 + (4 : Int32))), (0, .ref 67), (1, .ref 0), (2, .ref 39)]) (st' := []) (h' := h) (g := true) (by decide +kernel) rfl rfl rfl ?_
                                                                      refine Xgoto hX (-1025) 18 (by decide +kernel) (by decide) ?_
                                                                      refine XW.pick [1, 2, 3, 0] (ls' := [(0, .ref 67), (1, .ref 0), (2, .ref 39), (3, .int (l3 + (4 : Int32)))]) rfl ?_
                                                                      exact ih (l3 + (4 : Int32)) h hf
                                                                    · replace hf := xif_f hc_253 hf
                                                                      refine Xblk hX pkL_ok [.iconst 0] (pc' := 1039) (ls' := [(0, .ref 67), (1, .ref 0), (2, .ref 39), (3, .int l3)]) (st' := [.int (0 : Int32)]) (h' := h) (g := true) (by decide +kernel) rfl rfl rfl ?_
                                                                      exact XrLaw hX hR hf (by decide +kernel)
                                                                  · replace hf := xif_f hc_252 hf
                                                                    refine XswOut hX 1040 (show decode _ _ = .ok (.tableswitch (1008) (0) (30) #[140, 203, 216, 229, 252, 285, 309, 342, 375, 408, 442, 476, 499, 542, 575, 608, 631, 664, 697, 730, 743, 776, 799, 813, 836, 879, 892, 925, 948, 971, 994], 140) by decide +kernel) (by have a0 := lv_neT (a := 0) hc_4 (by decide); have a1 := lv_neT (a := 1) hc_15 (by decide); have a2 := lv_neT (a := 2) hc_17 (by decide); have a3 := lv_neT (a := 3) hc_25 (by decide); have a4 := lv_neT (a := 4) hc_32 (by decide); have a5 := lv_neT (a := 5) hc_42 (by decide); have a6 := lv_neT (a := 6) hc_49 (by decide); have a7 := lv_neT (a := 7) hc_59 (by decide); have a8 := lv_neT (a := 8) hc_69 (by decide); have a9 := lv_neT (a := 9) hc_77 (by decide); have a10 := lv_neT (a := 10) hc_86 (by decide); have a11 := lv_neT (a := 11) hc_95 (by decide); have a12 := lv_neT (a := 12) hc_103 (by decide); have a13 := lv_neT (a := 13) hc_114 (by decide); have a14 := lv_neT (a := 14) hc_124 (by decide); have a15 := lv_neT (a := 15) hc_134 (by decide); have a16 := lv_neT (a := 16) hc_143 (by decide); have a17 := lv_neT (a := 17) hc_151 (by decide); have a18 := lv_neT (a := 18) hc_159 (by decide); have a19 := lv_neT (a := 19) hc_169 (by decide); have a20 := lv_neT (a := 20) hc_174 (by decide); have a21 := lv_neT (a := 21) hc_184 (by decide); have a22 := lv_neT (a := 22) hc_190 (by decide); have a23 := lv_neT (a := 23) hc_192 (by decide); have a24 := lv_neT (a := 24) hc_200 (by decide); have a25 := lv_neT (a := 25) hc_211 (by decide); have a26 := lv_neT (a := 26) hc_219 (by decide); have a27 := lv_neT (a := 27) hc_229 (by decide); have a28 := lv_neT (a := 28) hc_238 (by decide); have a29 := lv_neT (a := 29) hc_247 (by decide); have a30 := lv_neT (a := 30) hc_252 (by decide); omega) (by decide) ?_
                                                                    refine Xblk hX pkL_ok [.iinc 3 4] (pc' := 1043) (ls' := [(3, .int (l3 + (4 : Int32))), (0, .ref 67), (1, .ref 0), (2, .ref 39)]) (st' := []) (h' := h) (g := true) (by decide +kernel) rfl rfl rfl ?_
                                                                    refine Xgoto hX (-1025) 18 (by decide +kernel) (by decide) ?_
                                                                    refine XW.pick [1, 2, 3, 0] (ls' := [(0, .ref 67), (1, .ref 0), (2, .ref 39), (3, .int (l3 + (4 : Int32)))]) rfl ?_
                                                                    exact ih (l3 + (4 : Int32)) h hf
