def w_L_law_18 (X : mX) (h : mH) (h4 : mH) : (Int32 × mH) → Option ((Int32 × mH) ⊕ ((mH) ⊕ (Int32 × mH))) := fun s_9 =>
  if ((Int32.ofNat (m_tN X 4)) - 6) < s_9.1 then
    some (.inr (.inl s_9.2))
  else
    (m_ti X 4 s_9.1).bind fun x11 =>
    (some (x11 &&& 31)).bind fun k13 =>
    if k13 = 0 then
      (m_ti X 4 (s_9.1 + 1)).bind fun x16 =>
      (m_ti X 4 (s_9.1 + 2)).bind fun x18 =>
      (m_ti X 4 (s_9.1 + 3)).bind fun x20 =>
      if m_ob s_9.2 h.1 8 = true then
        (f_X9_make s_9.2 h.1 x16 x18 x20).bind fun p23 =>
        (m_ti X 4 (s_9.1 + 1)).bind fun x24 =>
        (m_ti X 4 (s_9.1 + 2)).bind fun x26 =>
        (m_ti X 4 (s_9.1 + 3)).bind fun x28 =>
        if m_ob p23.2 h4.1 9 = true then
          (f_X10_make p23.2 h4.1 x24 x26 x28).bind fun p31 =>
          if p23.1 = p31.1 then
            some (.inl (s_9.1 + 6, p31.2))
          else
            some (.inr (.inr ((0, p31.2))))
        else none
      else none
    else
      if k13 = 1 then
        (m_ti X 4 (s_9.1 + 1)).bind fun x36 =>
        (m_ti X 4 (s_9.1 + 2)).bind fun x38 =>
        if m_ob s_9.2 h.1 8 = true then
          (f_X9_caseOf s_9.2 h.1 x36 x38).bind fun p41 =>
          (m_ti X 4 (s_9.1 + 1)).bind fun x42 =>
          (m_ti X 4 (s_9.1 + 2)).bind fun x44 =>
          if m_ob p41.2 h4.1 9 = true then
            (f_X10_caseOf p41.2 h4.1 x42 x44).bind fun p47 =>
            if p41.1 = p47.1 then
              some (.inl (s_9.1 + 6, p47.2))
            else
              some (.inr (.inr ((0, p47.2))))
          else none
        else none
      else
        if k13 = 2 then
          (m_ti X 4 (s_9.1 + 1)).bind fun x52 =>
          (m_ti X 4 (s_9.1 + 2)).bind fun x54 =>
          (m_ti X 4 (s_9.1 + 3)).bind fun x56 =>
          if m_ob s_9.2 h.1 8 = true then
            (f_X9_putIn s_9.2 h.1 x52 x54 x56).bind fun p59 =>
            (m_ti X 4 (s_9.1 + 1)).bind fun x60 =>
            (m_ti X 4 (s_9.1 + 2)).bind fun x62 =>
            (m_ti X 4 (s_9.1 + 3)).bind fun x64 =>
            if m_ob p59.2 h4.1 9 = true then
              (f_X10_putIn p59.2 h4.1 x60 x62 x64).bind fun p67 =>
              if p59.1 = p67.1 then
                some (.inl (s_9.1 + 6, p67.2))
              else
                some (.inr (.inr ((0, p67.2))))
            else none
          else none
        else
          if k13 = 3 then
            (m_ti X 4 (s_9.1 + 1)).bind fun x72 =>
            (m_ti X 4 (s_9.1 + 2)).bind fun x74 =>
            if m_ob s_9.2 h.1 8 = true then
              (f_X9_takeOut s_9.2 h.1 x72 x74).bind fun p77 =>
              (m_ti X 4 (s_9.1 + 1)).bind fun x78 =>
              (m_ti X 4 (s_9.1 + 2)).bind fun x80 =>
              if m_ob p77.2 h4.1 9 = true then
                (f_X10_takeOut p77.2 h4.1 x78 x80).bind fun p83 =>
                if p77.1 = p83.1 then
                  some (.inl (s_9.1 + 6, p83.2))
                else
                  some (.inr (.inr ((0, p83.2))))
              else none
            else none
          else
            if k13 = 4 then
              (m_ti X 4 (s_9.1 + 1)).bind fun x88 =>
              (m_ti X 4 (s_9.1 + 2)).bind fun x90 =>
              if m_ob s_9.2 h.1 8 = true then
                (f_X9_placed s_9.2 h.1 x88 x90).bind fun r93 =>
                (m_ti X 4 (s_9.1 + 1)).bind fun x94 =>
                (m_ti X 4 (s_9.1 + 2)).bind fun x96 =>
                if m_ob s_9.2 h4.1 9 = true then
                  (f_X10_placed s_9.2 h4.1 x94 x96).bind fun r99 =>
                  if r93 = r99 then
                    some (.inl (s_9.1 + 6, s_9.2))
                  else
                    some (.inr (.inr ((0, s_9.2))))
                else none
              else none
            else
              if k13 = 5 then
                (m_ti X 4 (s_9.1 + 1)).bind fun x104 =>
                (m_ti X 4 (s_9.1 + 2)).bind fun x106 =>
                if m_ob s_9.2 h.1 8 = true then
                  (f_X9_told s_9.2 h.1 x104 x106).bind fun r109 =>
                  (m_ti X 4 (s_9.1 + 1)).bind fun x110 =>
                  (m_ti X 4 (s_9.1 + 2)).bind fun x112 =>
                  if m_ob s_9.2 h4.1 9 = true then
                    (f_X10_told s_9.2 h4.1 x110 x112).bind fun r115 =>
                    if r109 = r115 then
                      some (.inl (s_9.1 + 6, s_9.2))
                    else
                      some (.inr (.inr ((0, s_9.2))))
                  else none
                else none
              else
                if k13 = 6 then
                  (m_ti X 4 (s_9.1 + 1)).bind fun x120 =>
                  (m_ti X 4 (s_9.1 + 2)).bind fun x122 =>
                  if m_ob s_9.2 h.1 8 = true then
                    (f_X9_below h.1 x120 x122).bind fun r125 =>
                    (m_ti X 4 (s_9.1 + 1)).bind fun x126 =>
                    (m_ti X 4 (s_9.1 + 2)).bind fun x128 =>
                    if m_ob s_9.2 h4.1 9 = true then
                      (f_X10_below s_9.2 h4.1 x126 x128).bind fun r131 =>
                      if r125 = r131 then
                        some (.inl (s_9.1 + 6, s_9.2))
                      else
                        some (.inr (.inr ((0, s_9.2))))
                    else none
                  else none
                else
                  if k13 = 7 then
                    (m_ti X 4 (s_9.1 + 1)).bind fun x136 =>
                    (m_ti X 4 (s_9.1 + 2)).bind fun x138 =>
                    if m_ob s_9.2 h.1 8 = true then
                      (f_X9_steps h.1 x136 x138).bind fun r141 =>
                      (m_ti X 4 (s_9.1 + 1)).bind fun x142 =>
                      (m_ti X 4 (s_9.1 + 2)).bind fun x144 =>
                      if m_ob s_9.2 h4.1 9 = true then
                        (f_X10_steps s_9.2 h4.1 x142 x144).bind fun r147 =>
                        if r141 = r147 then
                          some (.inl (s_9.1 + 6, s_9.2))
                        else
                          some (.inr (.inr ((0, s_9.2))))
                      else none
                    else none
                  else
                    if k13 = 8 then
                      (m_ti X 4 (s_9.1 + 1)).bind fun x152 =>
                      (m_ti X 4 (s_9.1 + 2)).bind fun x154 =>
                      if m_ob s_9.2 h.1 8 = true then
                        (f_X9_common h.1 x152 x154).bind fun r157 =>
                        (m_ti X 4 (s_9.1 + 1)).bind fun x158 =>
                        (m_ti X 4 (s_9.1 + 2)).bind fun x160 =>
                        if m_ob s_9.2 h4.1 9 = true then
                          (f_X10_common s_9.2 h4.1 x158 x160).bind fun r163 =>
                          if r157 = r163 then
                            some (.inl (s_9.1 + 6, s_9.2))
                          else
                            some (.inr (.inr ((0, s_9.2))))
                        else none
                      else none
                    else
                      if k13 = 9 then
                        (m_ti X 4 (s_9.1 + 1)).bind fun x168 =>
                        (m_ti X 4 (s_9.1 + 2)).bind fun x170 =>
                        (m_ti X 4 (s_9.1 + 3)).bind fun x172 =>
                        if m_ob s_9.2 h.1 8 = true then
                          (f_X9_commonTrait h.1 x168 x170 x172).bind fun r175 =>
                          (m_ti X 4 (s_9.1 + 1)).bind fun x176 =>
                          (m_ti X 4 (s_9.1 + 2)).bind fun x178 =>
                          (m_ti X 4 (s_9.1 + 3)).bind fun x180 =>
                          if m_ob s_9.2 h4.1 9 = true then
                            (f_X10_commonTrait s_9.2 h4.1 x176 x178 x180).bind fun r183 =>
                            if r175 = r183 then
                              some (.inl (s_9.1 + 6, s_9.2))
                            else
                              some (.inr (.inr ((0, s_9.2))))
                          else none
                        else none
                      else
                        if k13 = 10 then
                          (m_ti X 4 (s_9.1 + 1)).bind fun x188 =>
                          (m_ti X 4 (s_9.1 + 2)).bind fun x190 =>
                          (m_ti X 4 (s_9.1 + 3)).bind fun x192 =>
                          if m_ob s_9.2 h.1 8 = true then
                            (f_X9_rule s_9.2 h.1 x188 x190 x192).bind fun p195 =>
                            (m_ti X 4 (s_9.1 + 1)).bind fun x196 =>
                            (m_ti X 4 (s_9.1 + 2)).bind fun x198 =>
                            (m_ti X 4 (s_9.1 + 3)).bind fun x200 =>
                            if m_ob p195.2 h4.1 9 = true then
                              (f_X10_rule p195.2 h4.1 x196 x198 x200).bind fun p203 =>
                              if p195.1 = p203.1 then
                                some (.inl (s_9.1 + 6, p203.2))
                              else
                                some (.inr (.inr ((0, p203.2))))
                            else none
                          else none
                        else
                          if k13 = 11 then
                            (m_ti X 4 (s_9.1 + 1)).bind fun x208 =>
                            (m_ti X 4 (s_9.1 + 2)).bind fun x210 =>
                            if m_ob s_9.2 h.1 8 = true then
                              (f_X9_unrule s_9.2 h.1 x208 x210).bind fun p213 =>
                              (m_ti X 4 (s_9.1 + 1)).bind fun x214 =>
                              (m_ti X 4 (s_9.1 + 2)).bind fun x216 =>
                              if m_ob p213.2 h4.1 9 = true then
                                (f_X10_unrule p213.2 h4.1 x214 x216).bind fun p219 =>
                                if p213.1 = p219.1 then
                                  some (.inl (s_9.1 + 6, p219.2))
                                else
                                  some (.inr (.inr ((0, p219.2))))
                              else none
                            else none
                          else
                            if k13 = 12 then
                              (m_ti X 4 (s_9.1 + 1)).bind fun x224 =>
                              (m_ti X 4 (s_9.1 + 2)).bind fun x226 =>
                              if m_ob s_9.2 h.1 8 = true then
                                (f_X9_asks s_9.2 h.1 x224 x226).bind fun r229 =>
                                (m_ti X 4 (s_9.1 + 1)).bind fun x230 =>
                                (m_ti X 4 (s_9.1 + 2)).bind fun x232 =>
                                if m_ob s_9.2 h4.1 9 = true then
                                  (f_X10_asks s_9.2 h4.1 x230 x232).bind fun r235 =>
                                  if r229 = r235 then
                                    some (.inl (s_9.1 + 6, s_9.2))
                                  else
                                    some (.inr (.inr ((0, s_9.2))))
                                else none
                              else none
                            else
                              if k13 = 13 then
                                (m_ti X 4 (s_9.1 + 1)).bind fun x240 =>
                                (m_ti X 4 (s_9.1 + 2)).bind fun x242 =>
                                (m_ti X 4 (s_9.1 + 3)).bind fun x244 =>
                                if m_ob s_9.2 h.1 8 = true then
                                  (f_X9_nearest s_9.2 h.1 x240 x242 x244).bind fun r247 =>
                                  (m_ti X 4 (s_9.1 + 1)).bind fun x248 =>
                                  (m_ti X 4 (s_9.1 + 2)).bind fun x250 =>
                                  (m_ti X 4 (s_9.1 + 3)).bind fun x252 =>
                                  if m_ob s_9.2 h4.1 9 = true then
                                    (f_X10_nearest s_9.2 h4.1 x248 x250 x252).bind fun r255 =>
                                    if r247 = r255 then
                                      some (.inl (s_9.1 + 6, s_9.2))
                                    else
                                      some (.inr (.inr ((0, s_9.2))))
                                  else none
                                else none
                              else
                                if k13 = 14 then
                                  (m_ti X 4 (s_9.1 + 1)).bind fun x260 =>
                                  (m_ti X 4 (s_9.1 + 2)).bind fun x262 =>
                                  (m_ti X 4 (s_9.1 + 3)).bind fun x264 =>
                                  if m_ob s_9.2 h.1 8 = true then
                                    (f_X9_lend s_9.2 h.1 x260 x262 x264).bind fun p267 =>
                                    (m_ti X 4 (s_9.1 + 1)).bind fun x268 =>
                                    (m_ti X 4 (s_9.1 + 2)).bind fun x270 =>
                                    (m_ti X 4 (s_9.1 + 3)).bind fun x272 =>
                                    if m_ob p267.2 h4.1 9 = true then
                                      (f_X10_lend p267.2 h4.1 x268 x270 x272).bind fun p275 =>
                                      if p267.1 = p275.1 then
                                        some (.inl (s_9.1 + 6, p275.2))
                                      else
                                        some (.inr (.inr ((0, p275.2))))
                                    else none
                                  else none
                                else
                                  if k13 = 15 then
                                    (m_ti X 4 (s_9.1 + 1)).bind fun x280 =>
                                    (m_ti X 4 (s_9.1 + 2)).bind fun x282 =>
                                    if m_ob s_9.2 h.1 8 = true then
                                      (f_X9_giveBack s_9.2 h.1 x280 x282).bind fun p285 =>
                                      (m_ti X 4 (s_9.1 + 1)).bind fun x286 =>
                                      (m_ti X 4 (s_9.1 + 2)).bind fun x288 =>
                                      if m_ob p285.2 h4.1 9 = true then
                                        (f_X10_giveBack p285.2 h4.1 x286 x288).bind fun p291 =>
                                        if p285.1 = p291.1 then
                                          some (.inl (s_9.1 + 6, p291.2))
                                        else
                                          some (.inr (.inr ((0, p291.2))))
                                      else none
                                    else none
                                  else
                                    if k13 = 16 then
                                      (m_ti X 4 (s_9.1 + 1)).bind fun x296 =>
                                      if m_ob s_9.2 h.1 8 = true then
                                        (f_X9_overdue s_9.2 h.1 x296).bind fun r299 =>
                                        (m_ti X 4 (s_9.1 + 1)).bind fun x300 =>
                                        if m_ob s_9.2 h4.1 9 = true then
                                          (f_X10_overdue s_9.2 h4.1 x300).bind fun r303 =>
                                          if r299 = r303 then
                                            some (.inl (s_9.1 + 6, s_9.2))
                                          else
                                            some (.inr (.inr ((0, s_9.2))))
                                        else none
                                      else none
                                    else
                                      if k13 = 17 then
                                        (m_ti X 4 (s_9.1 + 1)).bind fun x308 =>
                                        (m_ti X 4 (s_9.1 + 2)).bind fun x310 =>
                                        if m_ob s_9.2 h.1 8 = true then
                                          (f_X9_lateOne s_9.2 h.1 x308 x310).bind fun r313 =>
                                          (m_ti X 4 (s_9.1 + 1)).bind fun x314 =>
                                          (m_ti X 4 (s_9.1 + 2)).bind fun x316 =>
                                          if m_ob s_9.2 h4.1 9 = true then
                                            (f_X10_lateOne s_9.2 h4.1 x314 x316).bind fun r319 =>
                                            if r313 = r319 then
                                              some (.inl (s_9.1 + 6, s_9.2))
                                            else
                                              some (.inr (.inr ((0, s_9.2))))
                                          else none
                                        else none
                                      else
                                        if k13 = 18 then
                                          (m_ti X 4 (s_9.1 + 1)).bind fun x324 =>
                                          (m_ti X 4 (s_9.1 + 2)).bind fun x326 =>
                                          if m_ob s_9.2 h.1 8 = true then
                                            (f_X9_fees s_9.2 h.1 x324 x326).bind fun r329 =>
                                            (m_ti X 4 (s_9.1 + 1)).bind fun x330 =>
                                            (m_ti X 4 (s_9.1 + 2)).bind fun x332 =>
                                            if m_ob s_9.2 h4.1 9 = true then
                                              (f_X10_fees s_9.2 h4.1 x330 x332).bind fun r335 =>
                                              if r329 = r335 then
                                                some (.inl (s_9.1 + 6, s_9.2))
                                              else
                                                some (.inr (.inr ((0, s_9.2))))
                                            else none
                                          else none
                                        else
                                          if k13 = 19 then
                                            (m_ti X 4 (s_9.1 + 1)).bind fun x340 =>
                                            (m_ti X 4 (s_9.1 + 2)).bind fun x342 =>
                                            (m_ti X 4 (s_9.1 + 3)).bind fun x344 =>
                                            (m_ti X 4 (s_9.1 + 4)).bind fun x346 =>
                                            (m_ti X 4 (s_9.1 + 5)).bind fun x348 =>
                                            if m_ob s_9.2 h.1 8 = true then
                                              (f_X9_question s_9.2 h.1 x340 x342 x344 x346 x348).bind fun p351 =>
                                              (m_ti X 4 (s_9.1 + 1)).bind fun x352 =>
                                              (m_ti X 4 (s_9.1 + 2)).bind fun x354 =>
                                              (m_ti X 4 (s_9.1 + 3)).bind fun x356 =>
                                              (m_ti X 4 (s_9.1 + 4)).bind fun x358 =>
                                              (m_ti X 4 (s_9.1 + 5)).bind fun x360 =>
                                              if m_ob p351.2 h4.1 9 = true then
                                                (f_X10_question p351.2 h4.1 x352 x354 x356 x358 x360).bind fun p363 =>
                                                if p351.1 = p363.1 then
                                                  some (.inl (s_9.1 + 6, p363.2))
                                                else
                                                  some (.inr (.inr ((0, p363.2))))
                                              else none
                                            else none
                                          else
                                            if k13 = 20 then
                                              (m_ti X 4 (s_9.1 + 1)).bind fun x368 =>
                                              (m_ti X 4 (s_9.1 + 2)).bind fun x370 =>
                                              if m_ob s_9.2 h.1 8 = true then
                                                (f_X9_name s_9.2 h.1 x368 x370).bind fun p373 =>
                                                (m_ti X 4 (s_9.1 + 1)).bind fun x374 =>
                                                (m_ti X 4 (s_9.1 + 2)).bind fun x376 =>
                                                if m_ob p373.2 h4.1 9 = true then
                                                  (f_X10_name p373.2 h4.1 x374 x376).bind fun p379 =>
                                                  if p373.1 = p379.1 then
                                                    some (.inl (s_9.1 + 6, p379.2))
                                                  else
                                                    some (.inr (.inr ((0, p379.2))))
                                                else none
                                              else none
                                            else
                                              if k13 = 21 then
                                                if m_ob s_9.2 h.1 8 = true then
                                                  (f_X9_asked s_9.2 h.1).bind fun r385 =>
                                                  if m_ob s_9.2 h4.1 9 = true then
                                                    (f_X10_asked s_9.2 h4.1).bind fun r387 =>
                                                    if r385 = r387 then
                                                      some (.inl (s_9.1 + 6, s_9.2))
                                                    else
                                                      some (.inr (.inr ((0, s_9.2))))
                                                  else none
                                                else none
                                              else
                                                if k13 = 22 then
                                                  (m_ti X 4 (s_9.1 + 1)).bind fun x392 =>
                                                  (m_ti X 4 (s_9.1 + 2)).bind fun x394 =>
                                                  if m_ob s_9.2 h.1 8 = true then
                                                    (f_X9_convert s_9.2 h.1 x392 x394).bind fun p397 =>
                                                    (m_ti X 4 (s_9.1 + 1)).bind fun x398 =>
                                                    (m_ti X 4 (s_9.1 + 2)).bind fun x400 =>
                                                    if m_ob p397.2 h4.1 9 = true then
                                                      (f_X10_convert p397.2 h4.1 x398 x400).bind fun p403 =>
                                                      if p397.1 = p403.1 then
                                                        some (.inl (s_9.1 + 6, p403.2))
                                                      else
                                                        some (.inr (.inr ((0, p403.2))))
                                                    else none
                                                  else none
                                                else
                                                  if k13 = 23 then
                                                    (m_ti X 4 (s_9.1 + 1)).bind fun x408 =>
                                                    (m_ti X 4 (s_9.1 + 2)).bind fun x410 =>
                                                    (m_ti X 4 (s_9.1 + 3)).bind fun x412 =>
                                                    if m_ob s_9.2 h.1 8 = true then
                                                      (f_X9_find s_9.2 h.1 x408 x410 x412).bind fun r415 =>
                                                      (m_ti X 4 (s_9.1 + 1)).bind fun x416 =>
                                                      (m_ti X 4 (s_9.1 + 2)).bind fun x418 =>
                                                      (m_ti X 4 (s_9.1 + 3)).bind fun x420 =>
                                                      if m_ob s_9.2 h4.1 9 = true then
                                                        (f_X10_find s_9.2 h4.1 x416 x418 x420).bind fun r423 =>
                                                        if r415 = r423 then
                                                          some (.inl (s_9.1 + 6, s_9.2))
                                                        else
                                                          some (.inr (.inr ((0, s_9.2))))
                                                      else none
                                                    else none
                                                  else
                                                    if k13 = 24 then
                                                      (m_ti X 4 (s_9.1 + 1)).bind fun x428 =>
                                                      (m_ti X 4 (s_9.1 + 2)).bind fun x430 =>
                                                      if m_ob s_9.2 h.1 8 = true then
                                                        (f_X9_nth s_9.2 h.1 x428 x430).bind fun r433 =>
                                                        (m_ti X 4 (s_9.1 + 1)).bind fun x434 =>
                                                        (m_ti X 4 (s_9.1 + 2)).bind fun x436 =>
                                                        if m_ob s_9.2 h4.1 9 = true then
                                                          (f_X10_nth s_9.2 h4.1 x434 x436).bind fun r439 =>
                                                          if r433 = r439 then
                                                            some (.inl (s_9.1 + 6, s_9.2))
                                                          else
                                                            some (.inr (.inr ((0, s_9.2))))
                                                        else none
                                                      else none
                                                    else
                                                      if k13 = 25 then
                                                        (m_ti X 4 (s_9.1 + 1)).bind fun x444 =>
                                                        (m_ti X 4 (s_9.1 + 2)).bind fun x446 =>
                                                        (m_ti X 4 (s_9.1 + 3)).bind fun x448 =>
                                                        if m_ob s_9.2 h.1 8 = true then
                                                          (f_X9_shelf s_9.2 h.1 x444 x446 x448).bind fun p451 =>
                                                          (m_ti X 4 (s_9.1 + 1)).bind fun x452 =>
                                                          (m_ti X 4 (s_9.1 + 2)).bind fun x454 =>
                                                          (m_ti X 4 (s_9.1 + 3)).bind fun x456 =>
                                                          if m_ob p451.2 h4.1 9 = true then
                                                            (f_X10_shelf p451.2 h4.1 x452 x454 x456).bind fun p459 =>
                                                            if p451.1 = p459.1 then
                                                              some (.inl (s_9.1 + 6, p459.2))
                                                            else
                                                              some (.inr (.inr ((0, p459.2))))
                                                          else none
                                                        else none
                                                      else
                                                        if k13 = 26 then
                                                          (m_ti X 4 (s_9.1 + 1)).bind fun x464 =>
                                                          (m_ti X 4 (s_9.1 + 2)).bind fun x466 =>
                                                          if m_ob s_9.2 h.1 8 = true then
                                                            (f_X9_move s_9.2 h.1 x464 x466).bind fun p469 =>
                                                            (m_ti X 4 (s_9.1 + 1)).bind fun x470 =>
                                                            (m_ti X 4 (s_9.1 + 2)).bind fun x472 =>
                                                            if m_ob p469.2 h4.1 9 = true then
                                                              (f_X10_move p469.2 h4.1 x470 x472).bind fun p475 =>
                                                              if p469.1 = p475.1 then
                                                                some (.inl (s_9.1 + 6, p475.2))
                                                              else
                                                                some (.inr (.inr ((0, p475.2))))
                                                            else none
                                                          else none
                                                        else
                                                          if k13 = 27 then
                                                            (m_ti X 4 (s_9.1 + 1)).bind fun x480 =>
                                                            if m_ob s_9.2 h.1 8 = true then
                                                              (f_X9_count s_9.2 h.1 x480).bind fun r483 =>
                                                              (m_ti X 4 (s_9.1 + 1)).bind fun x484 =>
                                                              if m_ob s_9.2 h4.1 9 = true then
                                                                (f_X10_count s_9.2 h4.1 x484).bind fun r487 =>
                                                                if r483 = r487 then
                                                                  some (.inl (s_9.1 + 6, s_9.2))
                                                                else
                                                                  some (.inr (.inr ((0, s_9.2))))
                                                              else none
                                                            else none
                                                          else
                                                            some (.inl (s_9.1 + 6, s_9.2))
def f_L_law (X : mX) (h : mH) : Option (Int32 × mH) :=
  (m_newO h 8 [.null, .null, .null, .null, .null, .null, .int 0, .int 0]).bind fun h1 =>
  (f_X9_init h1 h.1).bind fun h4 =>
  (m_newO h4 9 [.null, .null, .null, .null, .null, .null, .int 0, .null, .null, .null, .null, .null, .null, .null, .null, .null, .null, .int 0, .null, .null, .null, .null, .null, .int 0, .null, .null, .null, .null, .null, .int 0]).bind fun h5 =>
  (f_X10_init h5 h4.1).bind fun h8 =>
  (m_loop (w_L_law_18 X h h4) 5000 ((0, h8))).bind fun e491 => match e491 with
  | .inl x492 =>
    some ((1, x492))
  | .inr v494 => some v494
def Y_L_law : mY := (yL_law, cL_law, 4, some (FieldType.boolean), .ireturn)
set_option maxHeartbeats 4000000 in
set_option maxRecDepth 20000 in
theorem j_L_law {d : Nat} {X : mX} {h : mH} {rv : Int32} {h' : mH} (hd : 8 ≤ d) (hr : f_L_law X h = some (rv, h')) : m_J X Y_L_law d 0 [some (.float (UInt32.ofNat 4)), none, none, none] [] h (some (.int rv), h') := by
  obtain ⟨d, rfl⟩ : ∃ k, d = k + 1 := ⟨d - 1, by omega⟩
  unfold f_L_law at hr
  replace hr := m_bind hr; obtain ⟨h1, g2, hr⟩ := hr
  refine j_newO (C := RX9) (T := TX9) (ty := tyX9) (N := 8) (ci := 8) rfl inX9 tyX9_ok tw_1_14 tw_1_15 tw_1_1 (fun j hj => by rcases (show j = 0 ∨ j = 1 ∨ j = 2 ∨ j = 3 ∨ j = 4 ∨ j = 5 ∨ j = 6 ∨ j = 7 by omega) with rfl | rfl | rfl | rfl | rfl | rfl | rfl | rfl <;> rfl) rfl (fun E => rfl) dL_law_0 g2 ?_
  refine j_dup rfl dL_law_3 ?_
  replace hr := m_bind hr; obtain ⟨h4, g3, hr⟩ := hr
  refine j_callI (Y' := Y_X9_init) (a := h.1) (as := []) ok_X9_init rfl rfl [some (.ref h.1), none] rfl rfl tw_1_16 tw_1_17 nn_X9_init (Nat.le_of_ble_eq_true rfl) dL_law_4 (j_X9_init (by omega) g3) ?_
  refine j_astore_n (i := 1) (L' := [some (.float (UInt32.ofNat 4)), some (.ref h.1), none, none]) rfl (Nat.le_of_ble_eq_true rfl) rfl rfl dL_law_7 ?_
  replace hr := m_bind hr; obtain ⟨h5, g6, hr⟩ := hr
  refine j_newO (C := RX10) (T := TX10) (ty := tyX10) (N := 30) (ci := 9) rfl inX10 tyX10_ok tw_3_187 tw_3_188 tw_1_7 (fun j hj => by rcases (show j = 0 ∨ j = 1 ∨ j = 2 ∨ j = 3 ∨ j = 4 ∨ j = 5 ∨ j = 6 ∨ j = 7 ∨ j = 8 ∨ j = 9 ∨ j = 10 ∨ j = 11 ∨ j = 12 ∨ j = 13 ∨ j = 14 ∨ j = 15 ∨ j = 16 ∨ j = 17 ∨ j = 18 ∨ j = 19 ∨ j = 20 ∨ j = 21 ∨ j = 22 ∨ j = 23 ∨ j = 24 ∨ j = 25 ∨ j = 26 ∨ j = 27 ∨ j = 28 ∨ j = 29 by omega) with rfl | rfl | rfl | rfl | rfl | rfl | rfl | rfl | rfl | rfl | rfl | rfl | rfl | rfl | rfl | rfl | rfl | rfl | rfl | rfl | rfl | rfl | rfl | rfl | rfl | rfl | rfl | rfl | rfl | rfl <;> rfl) rfl (fun E => rfl) dL_law_8 g6 ?_
  refine j_dup rfl dL_law_11 ?_
  replace hr := m_bind hr; obtain ⟨h8, g7, hr⟩ := hr
  refine j_callI (Y' := Y_X10_init) (a := h4.1) (as := []) ok_X10_init rfl rfl [some (.ref h4.1), none] rfl rfl tw_3_189 tw_3_190 nn_X10_init (Nat.le_of_ble_eq_true rfl) dL_law_12 (j_X10_init (by omega) g7) ?_
  refine j_astore_n (i := 2) (L' := [some (.float (UInt32.ofNat 4)), some (.ref h.1), some (.ref h4.1), none]) rfl (Nat.le_of_ble_eq_true rfl) rfl rfl dL_law_15 ?_
  refine j_iconst (v := 0) rfl dL_law_16 ?_
  refine j_istore_n (i := 3) (L' := [some (.float (UInt32.ofNat 4)), some (.ref h.1), some (.ref h4.1), some (.int 0)]) rfl (Nat.le_of_ble_eq_true rfl) rfl rfl dL_law_17 ?_
  replace hr := m_bind hr; obtain ⟨e491, q495, hr⟩ := hr
  refine j_weak (L' := [some (.float (UInt32.ofNat 4)), some (.ref h.1), some (.ref h4.1), some (.int 0)]) (And.intro rfl (And.intro rfl (And.intro rfl (And.intro rfl trivial)))) ?_
  refine m_loop_sound (step := w_L_law_18 X h h4) (P := fun s_9 => m_J X Y_L_law (d + 1) 18 [some (.float (UInt32.ofNat 4)), some (.ref h.1), some (.ref h4.1), some (.int s_9.1)] [] s_9.2 (some (.int rv), h')) (Qe := fun e491 => match e491 with | .inl x492 => m_J X Y_L_law (d + 1) 1160 [none, none, none, none] [] x492 (some (.int rv), h') | .inr v494 => ((some (.int rv), h') : mR) = (some (.int v494.1), v494.2)) ?_ _ _ _ q495 ?_
  · intro s_9 o hr hk
    unfold w_L_law_18 at hr
    refine j_iload_n (i := 3) rfl rfl dL_law_18 ?_
    refine j_tload_n (i := 0) rfl rfl dL_law_19 ?_
    refine j_tlen 4 (by decide) dL_law_20 ?_
    refine j_bipush (v := 6) rfl dL_law_21 ?_
    refine j_isub dL_law_23 ?_
    refine j_ic_gt (tgt := 1160) dL_law_24 rfl (fun c10 => ?_) (fun c10 => ?_)
    · rw [if_pos c10] at hr
      cases hr
      exact j_weak (L' := [none, none, none, none]) trivial hk
    · rw [if_neg c10] at hr
      refine j_tload_n (i := 0) rfl rfl dL_law_27 ?_
      refine j_iload_n (i := 3) rfl rfl dL_law_28 ?_
      replace hr := m_bind hr; obtain ⟨x11, g12, hr⟩ := hr
      refine j_tial 4 (by decide) rfl dL_law_29 g12 ?_
      refine j_bipush (v := 31) rfl dL_law_30 ?_
      refine j_iand dL_law_32 ?_
      replace hr := m_bind hr; obtain ⟨k13, g14, hr⟩ := hr
      rw [show x11 &&& 31 = k13 from Option.some.inj g14]
      by_cases c15 : k13 = 0
      · rw [if_pos c15] at hr
        refine j_tswIn (off := 127) (tgt := 160) dL_law_33 (by rw [c15]; decide) (by rw [c15]; decide) (by rw [c15]; rfl) rfl ?_
        refine j_aload_n (i := 1) rfl rfl dL_law_160 ?_
        refine j_tload_n (i := 0) rfl rfl dL_law_161 ?_
        refine j_iload_n (i := 3) rfl rfl dL_law_162 ?_
        refine j_iconst (v := 1) rfl dL_law_163 ?_
        refine j_iadd dL_law_164 ?_
        replace hr := m_bind hr; obtain ⟨x16, g17, hr⟩ := hr
        refine j_tial 4 (by decide) rfl dL_law_165 g17 ?_
        refine j_tload_n (i := 0) rfl rfl dL_law_166 ?_
        refine j_iload_n (i := 3) rfl rfl dL_law_167 ?_
        refine j_iconst (v := 2) rfl dL_law_168 ?_
        refine j_iadd dL_law_169 ?_
        replace hr := m_bind hr; obtain ⟨x18, g19, hr⟩ := hr
        refine j_tial 4 (by decide) rfl dL_law_170 g19 ?_
        refine j_tload_n (i := 0) rfl rfl dL_law_171 ?_
        refine j_iload_n (i := 3) rfl rfl dL_law_172 ?_
        refine j_iconst (v := 3) rfl dL_law_173 ?_
        refine j_iadd dL_law_174 ?_
        replace hr := m_bind hr; obtain ⟨x20, g21, hr⟩ := hr
        refine j_tial 4 (by decide) rfl dL_law_175 g21 ?_
        by_cases o34 : m_ob s_9.2 h.1 8 = true
        · rw [if_pos o34] at hr
          replace hr := m_bind hr; obtain ⟨p23, g22, hr⟩ := hr
          refine j_callV (Y' := Y_X9_make) (a := h.1) (as := [.int x16, .int x18, .int x20]) (ci := 8) (T := TX9) (N := 8) ok_X9_make [some (.ref h.1), some (.int x16), some (.int x18), some (.int x20)] rfl rfl rfl tw_1_155 tw_1_156 tw_1_157 nn_X9_make (Nat.le_of_ble_eq_true rfl) dL_law_176 o34 (j_X9_make (by omega) g22) ?_
          refine j_aload_n (i := 2) rfl rfl dL_law_179 ?_
          refine j_tload_n (i := 0) rfl rfl dL_law_180 ?_
          refine j_iload_n (i := 3) rfl rfl dL_law_181 ?_
          refine j_iconst (v := 1) rfl dL_law_182 ?_
          refine j_iadd dL_law_183 ?_
          replace hr := m_bind hr; obtain ⟨x24, g25, hr⟩ := hr
          refine j_tial 4 (by decide) rfl dL_law_184 g25 ?_
          refine j_tload_n (i := 0) rfl rfl dL_law_185 ?_
          refine j_iload_n (i := 3) rfl rfl dL_law_186 ?_
          refine j_iconst (v := 2) rfl dL_law_187 ?_
          refine j_iadd dL_law_188 ?_
          replace hr := m_bind hr; obtain ⟨x26, g27, hr⟩ := hr
          refine j_tial 4 (by decide) rfl dL_law_189 g27 ?_
          refine j_tload_n (i := 0) rfl rfl dL_law_190 ?_
          refine j_iload_n (i := 3) rfl rfl dL_law_191 ?_
          refine j_iconst (v := 3) rfl dL_law_192 ?_
          refine j_iadd dL_law_193 ?_
          replace hr := m_bind hr; obtain ⟨x28, g29, hr⟩ := hr
          refine j_tial 4 (by decide) rfl dL_law_194 g29 ?_
          by_cases o33 : m_ob p23.2 h4.1 9 = true
          · rw [if_pos o33] at hr
            replace hr := m_bind hr; obtain ⟨p31, g30, hr⟩ := hr
            refine j_callV (Y' := Y_X10_make) (a := h4.1) (as := [.int x24, .int x26, .int x28]) (ci := 9) (T := TX10) (N := 30) ok_X10_make [some (.ref h4.1), some (.int x24), some (.int x26), some (.int x28), none] rfl rfl rfl tw_4_88 tw_4_89 tw_4_90 nn_X10_make (Nat.le_of_ble_eq_true rfl) dL_law_195 o33 (j_X10_make (by omega) g30) ?_
            refine j_ic_eq (tgt := 1154) dL_law_198 rfl (fun c32 => ?_) (fun c32 => ?_)
            · rw [if_pos c32] at hr
              refine j_iinc (i := 3) (v := s_9.1 + 6) (L' := [some (.float (UInt32.ofNat 4)), some (.ref h.1), some (.ref h4.1), some (.int (s_9.1 + 6))]) rfl (m_o6 _) (Nat.le_of_ble_eq_true rfl) rfl rfl dL_law_1154 ?_
              refine j_goto (tgt := 18) dL_law_1157 rfl ?_
              cases hr
              exact j_weak (L' := [some (.float (UInt32.ofNat 4)), some (.ref h.1), some (.ref h4.1), some (.int (s_9.1 + 6))]) (And.intro rfl (And.intro rfl (And.intro rfl (And.intro rfl trivial)))) hk
            · rw [if_neg c32] at hr
              refine j_iconst (v := 0) rfl dL_law_201 ?_
              cases hr
              rw [show _ = _ from hk]
              exact j_ret dL_law_202 m_rk_z0
          · rw [if_neg o33] at hr
            cases hr
        · rw [if_neg o34] at hr
          cases hr
      · rw [if_neg c15] at hr
        by_cases c35 : k13 = 1
        · rw [if_pos c35] at hr
          refine j_tswIn (off := 170) (tgt := 203) dL_law_33 (by rw [c35]; decide) (by rw [c35]; decide) (by rw [c35]; rfl) rfl ?_
          refine j_aload_n (i := 1) rfl rfl dL_law_203 ?_
          refine j_tload_n (i := 0) rfl rfl dL_law_204 ?_
          refine j_iload_n (i := 3) rfl rfl dL_law_205 ?_
          refine j_iconst (v := 1) rfl dL_law_206 ?_
          refine j_iadd dL_law_207 ?_
          replace hr := m_bind hr; obtain ⟨x36, g37, hr⟩ := hr
          refine j_tial 4 (by decide) rfl dL_law_208 g37 ?_
          refine j_tload_n (i := 0) rfl rfl dL_law_209 ?_
          refine j_iload_n (i := 3) rfl rfl dL_law_210 ?_
          refine j_iconst (v := 2) rfl dL_law_211 ?_
          refine j_iadd dL_law_212 ?_
          replace hr := m_bind hr; obtain ⟨x38, g39, hr⟩ := hr
          refine j_tial 4 (by decide) rfl dL_law_213 g39 ?_
          by_cases o50 : m_ob s_9.2 h.1 8 = true
          · rw [if_pos o50] at hr
            replace hr := m_bind hr; obtain ⟨p41, g40, hr⟩ := hr
            refine j_callV (Y' := Y_X9_caseOf) (a := h.1) (as := [.int x36, .int x38]) (ci := 8) (T := TX9) (N := 8) ok_X9_caseOf [some (.ref h.1), some (.int x36), some (.int x38)] rfl rfl rfl tw_2_0 tw_2_1 tw_2_2 nn_X9_caseOf (Nat.le_of_ble_eq_true rfl) dL_law_214 o50 (j_X9_caseOf (by omega) g40) ?_
            refine j_aload_n (i := 2) rfl rfl dL_law_217 ?_
            refine j_tload_n (i := 0) rfl rfl dL_law_218 ?_
            refine j_iload_n (i := 3) rfl rfl dL_law_219 ?_
            refine j_iconst (v := 1) rfl dL_law_220 ?_
            refine j_iadd dL_law_221 ?_
            replace hr := m_bind hr; obtain ⟨x42, g43, hr⟩ := hr
            refine j_tial 4 (by decide) rfl dL_law_222 g43 ?_
            refine j_tload_n (i := 0) rfl rfl dL_law_223 ?_
            refine j_iload_n (i := 3) rfl rfl dL_law_224 ?_
            refine j_iconst (v := 2) rfl dL_law_225 ?_
            refine j_iadd dL_law_226 ?_
            replace hr := m_bind hr; obtain ⟨x44, g45, hr⟩ := hr
            refine j_tial 4 (by decide) rfl dL_law_227 g45 ?_
            by_cases o49 : m_ob p41.2 h4.1 9 = true
            · rw [if_pos o49] at hr
              replace hr := m_bind hr; obtain ⟨p47, g46, hr⟩ := hr
              refine j_callV (Y' := Y_X10_caseOf) (a := h4.1) (as := [.int x42, .int x44]) (ci := 9) (T := TX10) (N := 30) ok_X10_caseOf [some (.ref h4.1), some (.int x42), some (.int x44)] rfl rfl rfl tw_4_97 tw_4_98 tw_4_99 nn_X10_caseOf (Nat.le_of_ble_eq_true rfl) dL_law_228 o49 (j_X10_caseOf (by omega) g46) ?_
              refine j_ic_eq (tgt := 1154) dL_law_231 rfl (fun c48 => ?_) (fun c48 => ?_)
              · rw [if_pos c48] at hr
                refine j_iinc (i := 3) (v := s_9.1 + 6) (L' := [some (.float (UInt32.ofNat 4)), some (.ref h.1), some (.ref h4.1), some (.int (s_9.1 + 6))]) rfl (m_o6 _) (Nat.le_of_ble_eq_true rfl) rfl rfl dL_law_1154 ?_
                refine j_goto (tgt := 18) dL_law_1157 rfl ?_
                cases hr
                exact j_weak (L' := [some (.float (UInt32.ofNat 4)), some (.ref h.1), some (.ref h4.1), some (.int (s_9.1 + 6))]) (And.intro rfl (And.intro rfl (And.intro rfl (And.intro rfl trivial)))) hk
              · rw [if_neg c48] at hr
                refine j_iconst (v := 0) rfl dL_law_234 ?_
                cases hr
                rw [show _ = _ from hk]
                exact j_ret dL_law_235 m_rk_z0
            · rw [if_neg o49] at hr
              cases hr
          · rw [if_neg o50] at hr
            cases hr
        · rw [if_neg c35] at hr
          by_cases c51 : k13 = 2
          · rw [if_pos c51] at hr
            refine j_tswIn (off := 203) (tgt := 236) dL_law_33 (by rw [c51]; decide) (by rw [c51]; decide) (by rw [c51]; rfl) rfl ?_
            refine j_aload_n (i := 1) rfl rfl dL_law_236 ?_
            refine j_tload_n (i := 0) rfl rfl dL_law_237 ?_
            refine j_iload_n (i := 3) rfl rfl dL_law_238 ?_
            refine j_iconst (v := 1) rfl dL_law_239 ?_
            refine j_iadd dL_law_240 ?_
            replace hr := m_bind hr; obtain ⟨x52, g53, hr⟩ := hr
            refine j_tial 4 (by decide) rfl dL_law_241 g53 ?_
            refine j_tload_n (i := 0) rfl rfl dL_law_242 ?_
            refine j_iload_n (i := 3) rfl rfl dL_law_243 ?_
            refine j_iconst (v := 2) rfl dL_law_244 ?_
            refine j_iadd dL_law_245 ?_
            replace hr := m_bind hr; obtain ⟨x54, g55, hr⟩ := hr
            refine j_tial 4 (by decide) rfl dL_law_246 g55 ?_
            refine j_tload_n (i := 0) rfl rfl dL_law_247 ?_
            refine j_iload_n (i := 3) rfl rfl dL_law_248 ?_
            refine j_iconst (v := 3) rfl dL_law_249 ?_
            refine j_iadd dL_law_250 ?_
            replace hr := m_bind hr; obtain ⟨x56, g57, hr⟩ := hr
            refine j_tial 4 (by decide) rfl dL_law_251 g57 ?_
            by_cases o70 : m_ob s_9.2 h.1 8 = true
            · rw [if_pos o70] at hr
              replace hr := m_bind hr; obtain ⟨p59, g58, hr⟩ := hr
              refine j_callV (Y' := Y_X9_putIn) (a := h.1) (as := [.int x52, .int x54, .int x56]) (ci := 8) (T := TX9) (N := 8) ok_X9_putIn [some (.ref h.1), some (.int x52), some (.int x54), some (.int x56), none, none] rfl rfl rfl tw_2_27 tw_2_28 tw_2_29 nn_X9_putIn (Nat.le_of_ble_eq_true rfl) dL_law_252 o70 (j_X9_putIn (by omega) g58) ?_
              refine j_aload_n (i := 2) rfl rfl dL_law_255 ?_
              refine j_tload_n (i := 0) rfl rfl dL_law_256 ?_
              refine j_iload_n (i := 3) rfl rfl dL_law_257 ?_
              refine j_iconst (v := 1) rfl dL_law_258 ?_
              refine j_iadd dL_law_259 ?_
              replace hr := m_bind hr; obtain ⟨x60, g61, hr⟩ := hr
              refine j_tial 4 (by decide) rfl dL_law_260 g61 ?_
              refine j_tload_n (i := 0) rfl rfl dL_law_261 ?_
              refine j_iload_n (i := 3) rfl rfl dL_law_262 ?_
              refine j_iconst (v := 2) rfl dL_law_263 ?_
              refine j_iadd dL_law_264 ?_
              replace hr := m_bind hr; obtain ⟨x62, g63, hr⟩ := hr
              refine j_tial 4 (by decide) rfl dL_law_265 g63 ?_
              refine j_tload_n (i := 0) rfl rfl dL_law_266 ?_
              refine j_iload_n (i := 3) rfl rfl dL_law_267 ?_
              refine j_iconst (v := 3) rfl dL_law_268 ?_
              refine j_iadd dL_law_269 ?_
              replace hr := m_bind hr; obtain ⟨x64, g65, hr⟩ := hr
              refine j_tial 4 (by decide) rfl dL_law_270 g65 ?_
              by_cases o69 : m_ob p59.2 h4.1 9 = true
              · rw [if_pos o69] at hr
                replace hr := m_bind hr; obtain ⟨p67, g66, hr⟩ := hr
                refine j_callV (Y' := Y_X10_putIn) (a := h4.1) (as := [.int x60, .int x62, .int x64]) (ci := 9) (T := TX10) (N := 30) ok_X10_putIn [some (.ref h4.1), some (.int x60), some (.int x62), some (.int x64)] rfl rfl rfl tw_4_109 tw_4_110 tw_4_111 nn_X10_putIn (Nat.le_of_ble_eq_true rfl) dL_law_271 o69 (j_X10_putIn (by omega) g66) ?_
                refine j_ic_eq (tgt := 1154) dL_law_274 rfl (fun c68 => ?_) (fun c68 => ?_)
                · rw [if_pos c68] at hr
                  refine j_iinc (i := 3) (v := s_9.1 + 6) (L' := [some (.float (UInt32.ofNat 4)), some (.ref h.1), some (.ref h4.1), some (.int (s_9.1 + 6))]) rfl (m_o6 _) (Nat.le_of_ble_eq_true rfl) rfl rfl dL_law_1154 ?_
                  refine j_goto (tgt := 18) dL_law_1157 rfl ?_
                  cases hr
                  exact j_weak (L' := [some (.float (UInt32.ofNat 4)), some (.ref h.1), some (.ref h4.1), some (.int (s_9.1 + 6))]) (And.intro rfl (And.intro rfl (And.intro rfl (And.intro rfl trivial)))) hk
                · rw [if_neg c68] at hr
                  refine j_iconst (v := 0) rfl dL_law_277 ?_
                  cases hr
                  rw [show _ = _ from hk]
                  exact j_ret dL_law_278 m_rk_z0
              · rw [if_neg o69] at hr
                cases hr
            · rw [if_neg o70] at hr
              cases hr
          · rw [if_neg c51] at hr
            by_cases c71 : k13 = 3
            · rw [if_pos c71] at hr
              refine j_tswIn (off := 246) (tgt := 279) dL_law_33 (by rw [c71]; decide) (by rw [c71]; decide) (by rw [c71]; rfl) rfl ?_
              refine j_aload_n (i := 1) rfl rfl dL_law_279 ?_
              refine j_tload_n (i := 0) rfl rfl dL_law_280 ?_
              refine j_iload_n (i := 3) rfl rfl dL_law_281 ?_
              refine j_iconst (v := 1) rfl dL_law_282 ?_
              refine j_iadd dL_law_283 ?_
              replace hr := m_bind hr; obtain ⟨x72, g73, hr⟩ := hr
              refine j_tial 4 (by decide) rfl dL_law_284 g73 ?_
              refine j_tload_n (i := 0) rfl rfl dL_law_285 ?_
              refine j_iload_n (i := 3) rfl rfl dL_law_286 ?_
              refine j_iconst (v := 2) rfl dL_law_287 ?_
              refine j_iadd dL_law_288 ?_
              replace hr := m_bind hr; obtain ⟨x74, g75, hr⟩ := hr
              refine j_tial 4 (by decide) rfl dL_law_289 g75 ?_
              by_cases o86 : m_ob s_9.2 h.1 8 = true
              · rw [if_pos o86] at hr
                replace hr := m_bind hr; obtain ⟨p77, g76, hr⟩ := hr
                refine j_callV (Y' := Y_X9_takeOut) (a := h.1) (as := [.int x72, .int x74]) (ci := 8) (T := TX9) (N := 8) ok_X9_takeOut [some (.ref h.1), some (.int x72), some (.int x74), none] rfl rfl rfl tw_2_76 tw_2_77 tw_2_78 nn_X9_takeOut (Nat.le_of_ble_eq_true rfl) dL_law_290 o86 (j_X9_takeOut (by omega) g76) ?_
                refine j_aload_n (i := 2) rfl rfl dL_law_293 ?_
                refine j_tload_n (i := 0) rfl rfl dL_law_294 ?_
                refine j_iload_n (i := 3) rfl rfl dL_law_295 ?_
                refine j_iconst (v := 1) rfl dL_law_296 ?_
                refine j_iadd dL_law_297 ?_
                replace hr := m_bind hr; obtain ⟨x78, g79, hr⟩ := hr
                refine j_tial 4 (by decide) rfl dL_law_298 g79 ?_
                refine j_tload_n (i := 0) rfl rfl dL_law_299 ?_
                refine j_iload_n (i := 3) rfl rfl dL_law_300 ?_
                refine j_iconst (v := 2) rfl dL_law_301 ?_
                refine j_iadd dL_law_302 ?_
                replace hr := m_bind hr; obtain ⟨x80, g81, hr⟩ := hr
                refine j_tial 4 (by decide) rfl dL_law_303 g81 ?_
                by_cases o85 : m_ob p77.2 h4.1 9 = true
                · rw [if_pos o85] at hr
                  replace hr := m_bind hr; obtain ⟨p83, g82, hr⟩ := hr
                  refine j_callV (Y' := Y_X10_takeOut) (a := h4.1) (as := [.int x78, .int x80]) (ci := 9) (T := TX10) (N := 30) ok_X10_takeOut [some (.ref h4.1), some (.int x78), some (.int x80), none] rfl rfl rfl tw_4_118 tw_4_119 tw_4_120 nn_X10_takeOut (Nat.le_of_ble_eq_true rfl) dL_law_304 o85 (j_X10_takeOut (by omega) g82) ?_
                  refine j_ic_eq (tgt := 1154) dL_law_307 rfl (fun c84 => ?_) (fun c84 => ?_)
                  · rw [if_pos c84] at hr
                    refine j_iinc (i := 3) (v := s_9.1 + 6) (L' := [some (.float (UInt32.ofNat 4)), some (.ref h.1), some (.ref h4.1), some (.int (s_9.1 + 6))]) rfl (m_o6 _) (Nat.le_of_ble_eq_true rfl) rfl rfl dL_law_1154 ?_
                    refine j_goto (tgt := 18) dL_law_1157 rfl ?_
                    cases hr
                    exact j_weak (L' := [some (.float (UInt32.ofNat 4)), some (.ref h.1), some (.ref h4.1), some (.int (s_9.1 + 6))]) (And.intro rfl (And.intro rfl (And.intro rfl (And.intro rfl trivial)))) hk
                  · rw [if_neg c84] at hr
                    refine j_iconst (v := 0) rfl dL_law_310 ?_
                    cases hr
                    rw [show _ = _ from hk]
                    exact j_ret dL_law_311 m_rk_z0
                · rw [if_neg o85] at hr
                  cases hr
              · rw [if_neg o86] at hr
                cases hr
            · rw [if_neg c71] at hr
              by_cases c87 : k13 = 4
              · rw [if_pos c87] at hr
                refine j_tswIn (off := 279) (tgt := 312) dL_law_33 (by rw [c87]; decide) (by rw [c87]; decide) (by rw [c87]; rfl) rfl ?_
                refine j_aload_n (i := 1) rfl rfl dL_law_312 ?_
                refine j_tload_n (i := 0) rfl rfl dL_law_313 ?_
                refine j_iload_n (i := 3) rfl rfl dL_law_314 ?_
                refine j_iconst (v := 1) rfl dL_law_315 ?_
                refine j_iadd dL_law_316 ?_
                replace hr := m_bind hr; obtain ⟨x88, g89, hr⟩ := hr
                refine j_tial 4 (by decide) rfl dL_law_317 g89 ?_
                refine j_tload_n (i := 0) rfl rfl dL_law_318 ?_
                refine j_iload_n (i := 3) rfl rfl dL_law_319 ?_
                refine j_iconst (v := 2) rfl dL_law_320 ?_
                refine j_iadd dL_law_321 ?_
                replace hr := m_bind hr; obtain ⟨x90, g91, hr⟩ := hr
                refine j_tial 4 (by decide) rfl dL_law_322 g91 ?_
                by_cases o102 : m_ob s_9.2 h.1 8 = true
                · rw [if_pos o102] at hr
                  replace hr := m_bind hr; obtain ⟨r93, g92, hr⟩ := hr
                  refine j_callV (Y' := Y_X9_placed) (a := h.1) (as := [.int x88, .int x90]) (ci := 8) (T := TX9) (N := 8) ok_X9_placed [some (.ref h.1), some (.int x88), some (.int x90), none] rfl rfl rfl tw_2_88 tw_2_89 tw_2_90 nn_X9_placed (Nat.le_of_ble_eq_true rfl) dL_law_323 o102 (j_X9_placed (by omega) g92) ?_
                  refine j_aload_n (i := 2) rfl rfl dL_law_326 ?_
                  refine j_tload_n (i := 0) rfl rfl dL_law_327 ?_
                  refine j_iload_n (i := 3) rfl rfl dL_law_328 ?_
                  refine j_iconst (v := 1) rfl dL_law_329 ?_
                  refine j_iadd dL_law_330 ?_
                  replace hr := m_bind hr; obtain ⟨x94, g95, hr⟩ := hr
                  refine j_tial 4 (by decide) rfl dL_law_331 g95 ?_
                  refine j_tload_n (i := 0) rfl rfl dL_law_332 ?_
                  refine j_iload_n (i := 3) rfl rfl dL_law_333 ?_
                  refine j_iconst (v := 2) rfl dL_law_334 ?_
                  refine j_iadd dL_law_335 ?_
                  replace hr := m_bind hr; obtain ⟨x96, g97, hr⟩ := hr
                  refine j_tial 4 (by decide) rfl dL_law_336 g97 ?_
                  by_cases o101 : m_ob s_9.2 h4.1 9 = true
                  · rw [if_pos o101] at hr
                    replace hr := m_bind hr; obtain ⟨r99, g98, hr⟩ := hr
                    refine j_callV (Y' := Y_X10_placed) (a := h4.1) (as := [.int x94, .int x96]) (ci := 9) (T := TX10) (N := 30) ok_X10_placed [some (.ref h4.1), some (.int x94), some (.int x96), none] rfl rfl rfl tw_4_101 tw_4_102 tw_4_103 nn_X10_placed (Nat.le_of_ble_eq_true rfl) dL_law_337 o101 (j_X10_placed (by omega) g98) ?_
                    refine j_ic_eq (tgt := 1154) dL_law_340 rfl (fun c100 => ?_) (fun c100 => ?_)
                    · rw [if_pos c100] at hr
                      refine j_iinc (i := 3) (v := s_9.1 + 6) (L' := [some (.float (UInt32.ofNat 4)), some (.ref h.1), some (.ref h4.1), some (.int (s_9.1 + 6))]) rfl (m_o6 _) (Nat.le_of_ble_eq_true rfl) rfl rfl dL_law_1154 ?_
                      refine j_goto (tgt := 18) dL_law_1157 rfl ?_
                      cases hr
                      exact j_weak (L' := [some (.float (UInt32.ofNat 4)), some (.ref h.1), some (.ref h4.1), some (.int (s_9.1 + 6))]) (And.intro rfl (And.intro rfl (And.intro rfl (And.intro rfl trivial)))) hk
                    · rw [if_neg c100] at hr
                      refine j_iconst (v := 0) rfl dL_law_343 ?_
                      cases hr
                      rw [show _ = _ from hk]
                      exact j_ret dL_law_344 m_rk_z0
                  · rw [if_neg o101] at hr
                    cases hr
                · rw [if_neg o102] at hr
                  cases hr
              · rw [if_neg c87] at hr
                by_cases c103 : k13 = 5
                · rw [if_pos c103] at hr
                  refine j_tswIn (off := 312) (tgt := 345) dL_law_33 (by rw [c103]; decide) (by rw [c103]; decide) (by rw [c103]; rfl) rfl ?_
                  refine j_aload_n (i := 1) rfl rfl dL_law_345 ?_
                  refine j_tload_n (i := 0) rfl rfl dL_law_346 ?_
                  refine j_iload_n (i := 3) rfl rfl dL_law_347 ?_
                  refine j_iconst (v := 1) rfl dL_law_348 ?_
                  refine j_iadd dL_law_349 ?_
                  replace hr := m_bind hr; obtain ⟨x104, g105, hr⟩ := hr
                  refine j_tial 4 (by decide) rfl dL_law_350 g105 ?_
                  refine j_tload_n (i := 0) rfl rfl dL_law_351 ?_
                  refine j_iload_n (i := 3) rfl rfl dL_law_352 ?_
                  refine j_iconst (v := 2) rfl dL_law_353 ?_
                  refine j_iadd dL_law_354 ?_
                  replace hr := m_bind hr; obtain ⟨x106, g107, hr⟩ := hr
                  refine j_tial 4 (by decide) rfl dL_law_355 g107 ?_
                  by_cases o118 : m_ob s_9.2 h.1 8 = true
                  · rw [if_pos o118] at hr
                    replace hr := m_bind hr; obtain ⟨r109, g108, hr⟩ := hr
                    refine j_callV (Y' := Y_X9_told) (a := h.1) (as := [.int x104, .int x106]) (ci := 8) (T := TX9) (N := 8) ok_X9_told [some (.ref h.1), some (.int x104), some (.int x106), none] rfl rfl rfl tw_2_92 tw_2_93 tw_2_94 nn_X9_told (Nat.le_of_ble_eq_true rfl) dL_law_356 o118 (j_X9_told (by omega) g108) ?_
                    refine j_aload_n (i := 2) rfl rfl dL_law_359 ?_
                    refine j_tload_n (i := 0) rfl rfl dL_law_360 ?_
                    refine j_iload_n (i := 3) rfl rfl dL_law_361 ?_
                    refine j_iconst (v := 1) rfl dL_law_362 ?_
                    refine j_iadd dL_law_363 ?_
                    replace hr := m_bind hr; obtain ⟨x110, g111, hr⟩ := hr
                    refine j_tial 4 (by decide) rfl dL_law_364 g111 ?_
                    refine j_tload_n (i := 0) rfl rfl dL_law_365 ?_
                    refine j_iload_n (i := 3) rfl rfl dL_law_366 ?_
                    refine j_iconst (v := 2) rfl dL_law_367 ?_
                    refine j_iadd dL_law_368 ?_
                    replace hr := m_bind hr; obtain ⟨x112, g113, hr⟩ := hr
                    refine j_tial 4 (by decide) rfl dL_law_369 g113 ?_
                    by_cases o117 : m_ob s_9.2 h4.1 9 = true
                    · rw [if_pos o117] at hr
                      replace hr := m_bind hr; obtain ⟨r115, g114, hr⟩ := hr
                      refine j_callV (Y' := Y_X10_told) (a := h4.1) (as := [.int x110, .int x112]) (ci := 9) (T := TX10) (N := 30) ok_X10_told [some (.ref h4.1), some (.int x110), some (.int x112)] rfl rfl rfl tw_4_122 tw_4_123 tw_4_124 nn_X10_told (Nat.le_of_ble_eq_true rfl) dL_law_370 o117 (j_X10_told (by omega) g114) ?_
                      refine j_ic_eq (tgt := 1154) dL_law_373 rfl (fun c116 => ?_) (fun c116 => ?_)
                      · rw [if_pos c116] at hr
                        refine j_iinc (i := 3) (v := s_9.1 + 6) (L' := [some (.float (UInt32.ofNat 4)), some (.ref h.1), some (.ref h4.1), some (.int (s_9.1 + 6))]) rfl (m_o6 _) (Nat.le_of_ble_eq_true rfl) rfl rfl dL_law_1154 ?_
                        refine j_goto (tgt := 18) dL_law_1157 rfl ?_
                        cases hr
                        exact j_weak (L' := [some (.float (UInt32.ofNat 4)), some (.ref h.1), some (.ref h4.1), some (.int (s_9.1 + 6))]) (And.intro rfl (And.intro rfl (And.intro rfl (And.intro rfl trivial)))) hk
                      · rw [if_neg c116] at hr
                        refine j_iconst (v := 0) rfl dL_law_376 ?_
                        cases hr
                        rw [show _ = _ from hk]
                        exact j_ret dL_law_377 m_rk_z0
                    · rw [if_neg o117] at hr
                      cases hr
                  · rw [if_neg o118] at hr
                    cases hr
                · rw [if_neg c103] at hr
                  by_cases c119 : k13 = 6
                  · rw [if_pos c119] at hr
                    refine j_tswIn (off := 345) (tgt := 378) dL_law_33 (by rw [c119]; decide) (by rw [c119]; decide) (by rw [c119]; rfl) rfl ?_
                    refine j_aload_n (i := 1) rfl rfl dL_law_378 ?_
                    refine j_tload_n (i := 0) rfl rfl dL_law_379 ?_
                    refine j_iload_n (i := 3) rfl rfl dL_law_380 ?_
                    refine j_iconst (v := 1) rfl dL_law_381 ?_
                    refine j_iadd dL_law_382 ?_
                    replace hr := m_bind hr; obtain ⟨x120, g121, hr⟩ := hr
                    refine j_tial 4 (by decide) rfl dL_law_383 g121 ?_
                    refine j_tload_n (i := 0) rfl rfl dL_law_384 ?_
                    refine j_iload_n (i := 3) rfl rfl dL_law_385 ?_
                    refine j_iconst (v := 2) rfl dL_law_386 ?_
                    refine j_iadd dL_law_387 ?_
                    replace hr := m_bind hr; obtain ⟨x122, g123, hr⟩ := hr
                    refine j_tial 4 (by decide) rfl dL_law_388 g123 ?_
                    by_cases o134 : m_ob s_9.2 h.1 8 = true
                    · rw [if_pos o134] at hr
                      replace hr := m_bind hr; obtain ⟨r125, g124, hr⟩ := hr
                      refine j_callV (Y' := Y_X9_below) (a := h.1) (as := [.int x120, .int x122]) (ci := 8) (T := TX9) (N := 8) ok_X9_below [some (.ref h.1), some (.int x120), some (.int x122)] rfl rfl rfl tw_2_96 tw_2_97 tw_2_98 nn_X9_below (Nat.le_of_ble_eq_true rfl) dL_law_389 o134 (j_X9_below (by omega) g124) ?_
                      refine j_aload_n (i := 2) rfl rfl dL_law_392 ?_
                      refine j_tload_n (i := 0) rfl rfl dL_law_393 ?_
                      refine j_iload_n (i := 3) rfl rfl dL_law_394 ?_
                      refine j_iconst (v := 1) rfl dL_law_395 ?_
                      refine j_iadd dL_law_396 ?_
                      replace hr := m_bind hr; obtain ⟨x126, g127, hr⟩ := hr
                      refine j_tial 4 (by decide) rfl dL_law_397 g127 ?_
                      refine j_tload_n (i := 0) rfl rfl dL_law_398 ?_
                      refine j_iload_n (i := 3) rfl rfl dL_law_399 ?_
                      refine j_iconst (v := 2) rfl dL_law_400 ?_
                      refine j_iadd dL_law_401 ?_
                      replace hr := m_bind hr; obtain ⟨x128, g129, hr⟩ := hr
                      refine j_tial 4 (by decide) rfl dL_law_402 g129 ?_
                      by_cases o133 : m_ob s_9.2 h4.1 9 = true
                      · rw [if_pos o133] at hr
                        replace hr := m_bind hr; obtain ⟨r131, g130, hr⟩ := hr
                        refine j_callV (Y' := Y_X10_below) (a := h4.1) (as := [.int x126, .int x128]) (ci := 9) (T := TX10) (N := 30) ok_X10_below [some (.ref h4.1), some (.int x126), some (.int x128)] rfl rfl rfl tw_4_44 tw_4_45 tw_4_46 nn_X10_below (Nat.le_of_ble_eq_true rfl) dL_law_403 o133 (j_X10_below (by omega) g130) ?_
                        refine j_ic_eq (tgt := 1154) dL_law_406 rfl (fun c132 => ?_) (fun c132 => ?_)
                        · rw [if_pos c132] at hr
                          refine j_iinc (i := 3) (v := s_9.1 + 6) (L' := [some (.float (UInt32.ofNat 4)), some (.ref h.1), some (.ref h4.1), some (.int (s_9.1 + 6))]) rfl (m_o6 _) (Nat.le_of_ble_eq_true rfl) rfl rfl dL_law_1154 ?_
                          refine j_goto (tgt := 18) dL_law_1157 rfl ?_
                          cases hr
                          exact j_weak (L' := [some (.float (UInt32.ofNat 4)), some (.ref h.1), some (.ref h4.1), some (.int (s_9.1 + 6))]) (And.intro rfl (And.intro rfl (And.intro rfl (And.intro rfl trivial)))) hk
                        · rw [if_neg c132] at hr
                          refine j_iconst (v := 0) rfl dL_law_409 ?_
                          cases hr
                          rw [show _ = _ from hk]
                          exact j_ret dL_law_410 m_rk_z0
                      · rw [if_neg o133] at hr
                        cases hr
                    · rw [if_neg o134] at hr
                      cases hr
                  · rw [if_neg c119] at hr
                    by_cases c135 : k13 = 7
                    · rw [if_pos c135] at hr
                      refine j_tswIn (off := 378) (tgt := 411) dL_law_33 (by rw [c135]; decide) (by rw [c135]; decide) (by rw [c135]; rfl) rfl ?_
                      refine j_aload_n (i := 1) rfl rfl dL_law_411 ?_
                      refine j_tload_n (i := 0) rfl rfl dL_law_412 ?_
                      refine j_iload_n (i := 3) rfl rfl dL_law_413 ?_
                      refine j_iconst (v := 1) rfl dL_law_414 ?_
                      refine j_iadd dL_law_415 ?_
                      replace hr := m_bind hr; obtain ⟨x136, g137, hr⟩ := hr
                      refine j_tial 4 (by decide) rfl dL_law_416 g137 ?_
                      refine j_tload_n (i := 0) rfl rfl dL_law_417 ?_
                      refine j_iload_n (i := 3) rfl rfl dL_law_418 ?_
                      refine j_iconst (v := 2) rfl dL_law_419 ?_
                      refine j_iadd dL_law_420 ?_
                      replace hr := m_bind hr; obtain ⟨x138, g139, hr⟩ := hr
                      refine j_tial 4 (by decide) rfl dL_law_421 g139 ?_
                      by_cases o150 : m_ob s_9.2 h.1 8 = true
                      · rw [if_pos o150] at hr
                        replace hr := m_bind hr; obtain ⟨r141, g140, hr⟩ := hr
                        refine j_callV (Y' := Y_X9_steps) (a := h.1) (as := [.int x136, .int x138]) (ci := 8) (T := TX9) (N := 8) ok_X9_steps [some (.ref h.1), some (.int x136), some (.int x138)] rfl rfl rfl tw_2_103 tw_2_104 tw_2_105 nn_X9_steps (Nat.le_of_ble_eq_true rfl) dL_law_422 o150 (j_X9_steps (by omega) g140) ?_
                        refine j_aload_n (i := 2) rfl rfl dL_law_425 ?_
                        refine j_tload_n (i := 0) rfl rfl dL_law_426 ?_
                        refine j_iload_n (i := 3) rfl rfl dL_law_427 ?_
                        refine j_iconst (v := 1) rfl dL_law_428 ?_
                        refine j_iadd dL_law_429 ?_
                        replace hr := m_bind hr; obtain ⟨x142, g143, hr⟩ := hr
                        refine j_tial 4 (by decide) rfl dL_law_430 g143 ?_
                        refine j_tload_n (i := 0) rfl rfl dL_law_431 ?_
                        refine j_iload_n (i := 3) rfl rfl dL_law_432 ?_
                        refine j_iconst (v := 2) rfl dL_law_433 ?_
                        refine j_iadd dL_law_434 ?_
                        replace hr := m_bind hr; obtain ⟨x144, g145, hr⟩ := hr
                        refine j_tial 4 (by decide) rfl dL_law_435 g145 ?_
                        by_cases o149 : m_ob s_9.2 h4.1 9 = true
                        · rw [if_pos o149] at hr
                          replace hr := m_bind hr; obtain ⟨r147, g146, hr⟩ := hr
                          refine j_callV (Y' := Y_X10_steps) (a := h4.1) (as := [.int x142, .int x144]) (ci := 9) (T := TX10) (N := 30) ok_X10_steps [some (.ref h4.1), some (.int x142), some (.int x144)] rfl rfl rfl tw_4_72 tw_4_73 tw_4_74 nn_X10_steps (Nat.le_of_ble_eq_true rfl) dL_law_436 o149 (j_X10_steps (by omega) g146) ?_
                          refine j_ic_eq (tgt := 1154) dL_law_439 rfl (fun c148 => ?_) (fun c148 => ?_)
                          · rw [if_pos c148] at hr
                            refine j_iinc (i := 3) (v := s_9.1 + 6) (L' := [some (.float (UInt32.ofNat 4)), some (.ref h.1), some (.ref h4.1), some (.int (s_9.1 + 6))]) rfl (m_o6 _) (Nat.le_of_ble_eq_true rfl) rfl rfl dL_law_1154 ?_
                            refine j_goto (tgt := 18) dL_law_1157 rfl ?_
                            cases hr
                            exact j_weak (L' := [some (.float (UInt32.ofNat 4)), some (.ref h.1), some (.ref h4.1), some (.int (s_9.1 + 6))]) (And.intro rfl (And.intro rfl (And.intro rfl (And.intro rfl trivial)))) hk
                          · rw [if_neg c148] at hr
                            refine j_iconst (v := 0) rfl dL_law_442 ?_
                            cases hr
                            rw [show _ = _ from hk]
                            exact j_ret dL_law_443 m_rk_z0
                        · rw [if_neg o149] at hr
                          cases hr
                      · rw [if_neg o150] at hr
                        cases hr
                    · rw [if_neg c135] at hr
                      by_cases c151 : k13 = 8
                      · rw [if_pos c151] at hr
                        refine j_tswIn (off := 411) (tgt := 444) dL_law_33 (by rw [c151]; decide) (by rw [c151]; decide) (by rw [c151]; rfl) rfl ?_
                        refine j_aload_n (i := 1) rfl rfl dL_law_444 ?_
                        refine j_tload_n (i := 0) rfl rfl dL_law_445 ?_
                        refine j_iload_n (i := 3) rfl rfl dL_law_446 ?_
                        refine j_iconst (v := 1) rfl dL_law_447 ?_
                        refine j_iadd dL_law_448 ?_
                        replace hr := m_bind hr; obtain ⟨x152, g153, hr⟩ := hr
                        refine j_tial 4 (by decide) rfl dL_law_449 g153 ?_
                        refine j_tload_n (i := 0) rfl rfl dL_law_450 ?_
                        refine j_iload_n (i := 3) rfl rfl dL_law_451 ?_
                        refine j_iconst (v := 2) rfl dL_law_452 ?_
                        refine j_iadd dL_law_453 ?_
                        replace hr := m_bind hr; obtain ⟨x154, g155, hr⟩ := hr
                        refine j_tial 4 (by decide) rfl dL_law_454 g155 ?_
                        by_cases o166 : m_ob s_9.2 h.1 8 = true
                        · rw [if_pos o166] at hr
                          replace hr := m_bind hr; obtain ⟨r157, g156, hr⟩ := hr
                          refine j_callV (Y' := Y_X9_common) (a := h.1) (as := [.int x152, .int x154]) (ci := 8) (T := TX9) (N := 8) ok_X9_common [some (.ref h.1), some (.int x152), some (.int x154)] rfl rfl rfl tw_2_110 tw_2_111 tw_2_112 nn_X9_common (Nat.le_of_ble_eq_true rfl) dL_law_455 o166 (j_X9_common (by omega) g156) ?_
                          refine j_aload_n (i := 2) rfl rfl dL_law_458 ?_
                          refine j_tload_n (i := 0) rfl rfl dL_law_459 ?_
                          refine j_iload_n (i := 3) rfl rfl dL_law_460 ?_
                          refine j_iconst (v := 1) rfl dL_law_461 ?_
                          refine j_iadd dL_law_462 ?_
                          replace hr := m_bind hr; obtain ⟨x158, g159, hr⟩ := hr
                          refine j_tial 4 (by decide) rfl dL_law_463 g159 ?_
                          refine j_tload_n (i := 0) rfl rfl dL_law_464 ?_
                          refine j_iload_n (i := 3) rfl rfl dL_law_465 ?_
                          refine j_iconst (v := 2) rfl dL_law_466 ?_
                          refine j_iadd dL_law_467 ?_
                          replace hr := m_bind hr; obtain ⟨x160, g161, hr⟩ := hr
                          refine j_tial 4 (by decide) rfl dL_law_468 g161 ?_
                          by_cases o165 : m_ob s_9.2 h4.1 9 = true
                          · rw [if_pos o165] at hr
                            replace hr := m_bind hr; obtain ⟨r163, g162, hr⟩ := hr
                            refine j_callV (Y' := Y_X10_common) (a := h4.1) (as := [.int x158, .int x160]) (ci := 9) (T := TX10) (N := 30) ok_X10_common [some (.ref h4.1), some (.int x158), some (.int x160), none] rfl rfl rfl tw_4_76 tw_4_77 tw_4_78 nn_X10_common (Nat.le_of_ble_eq_true rfl) dL_law_469 o165 (j_X10_common (by omega) g162) ?_
                            refine j_ic_eq (tgt := 1154) dL_law_472 rfl (fun c164 => ?_) (fun c164 => ?_)
                            · rw [if_pos c164] at hr
                              refine j_iinc (i := 3) (v := s_9.1 + 6) (L' := [some (.float (UInt32.ofNat 4)), some (.ref h.1), some (.ref h4.1), some (.int (s_9.1 + 6))]) rfl (m_o6 _) (Nat.le_of_ble_eq_true rfl) rfl rfl dL_law_1154 ?_
                              refine j_goto (tgt := 18) dL_law_1157 rfl ?_
                              cases hr
                              exact j_weak (L' := [some (.float (UInt32.ofNat 4)), some (.ref h.1), some (.ref h4.1), some (.int (s_9.1 + 6))]) (And.intro rfl (And.intro rfl (And.intro rfl (And.intro rfl trivial)))) hk
                            · rw [if_neg c164] at hr
                              refine j_iconst (v := 0) rfl dL_law_475 ?_
                              cases hr
                              rw [show _ = _ from hk]
                              exact j_ret dL_law_476 m_rk_z0
                          · rw [if_neg o165] at hr
                            cases hr
                        · rw [if_neg o166] at hr
                          cases hr
                      · rw [if_neg c151] at hr
                        by_cases c167 : k13 = 9
                        · rw [if_pos c167] at hr
                          refine j_tswIn (off := 444) (tgt := 477) dL_law_33 (by rw [c167]; decide) (by rw [c167]; decide) (by rw [c167]; rfl) rfl ?_
                          refine j_aload_n (i := 1) rfl rfl dL_law_477 ?_
                          refine j_tload_n (i := 0) rfl rfl dL_law_478 ?_
                          refine j_iload_n (i := 3) rfl rfl dL_law_479 ?_
                          refine j_iconst (v := 1) rfl dL_law_480 ?_
                          refine j_iadd dL_law_481 ?_
                          replace hr := m_bind hr; obtain ⟨x168, g169, hr⟩ := hr
                          refine j_tial 4 (by decide) rfl dL_law_482 g169 ?_
                          refine j_tload_n (i := 0) rfl rfl dL_law_483 ?_
                          refine j_iload_n (i := 3) rfl rfl dL_law_484 ?_
                          refine j_iconst (v := 2) rfl dL_law_485 ?_
                          refine j_iadd dL_law_486 ?_
                          replace hr := m_bind hr; obtain ⟨x170, g171, hr⟩ := hr
                          refine j_tial 4 (by decide) rfl dL_law_487 g171 ?_
                          refine j_tload_n (i := 0) rfl rfl dL_law_488 ?_
                          refine j_iload_n (i := 3) rfl rfl dL_law_489 ?_
                          refine j_iconst (v := 3) rfl dL_law_490 ?_
                          refine j_iadd dL_law_491 ?_
                          replace hr := m_bind hr; obtain ⟨x172, g173, hr⟩ := hr
                          refine j_tial 4 (by decide) rfl dL_law_492 g173 ?_
                          by_cases o186 : m_ob s_9.2 h.1 8 = true
                          · rw [if_pos o186] at hr
                            replace hr := m_bind hr; obtain ⟨r175, g174, hr⟩ := hr
                            refine j_callV (Y' := Y_X9_commonTrait) (a := h.1) (as := [.int x168, .int x170, .int x172]) (ci := 8) (T := TX9) (N := 8) ok_X9_commonTrait [some (.ref h.1), some (.int x168), some (.int x170), some (.int x172)] rfl rfl rfl tw_2_117 tw_2_118 tw_2_119 nn_X9_commonTrait (Nat.le_of_ble_eq_true rfl) dL_law_493 o186 (j_X9_commonTrait (by omega) g174) ?_
                            refine j_aload_n (i := 2) rfl rfl dL_law_496 ?_
                            refine j_tload_n (i := 0) rfl rfl dL_law_497 ?_
                            refine j_iload_n (i := 3) rfl rfl dL_law_498 ?_
                            refine j_iconst (v := 1) rfl dL_law_499 ?_
                            refine j_iadd dL_law_500 ?_
                            replace hr := m_bind hr; obtain ⟨x176, g177, hr⟩ := hr
                            refine j_tial 4 (by decide) rfl dL_law_501 g177 ?_
                            refine j_tload_n (i := 0) rfl rfl dL_law_502 ?_
                            refine j_iload_n (i := 3) rfl rfl dL_law_503 ?_
                            refine j_iconst (v := 2) rfl dL_law_504 ?_
                            refine j_iadd dL_law_505 ?_
                            replace hr := m_bind hr; obtain ⟨x178, g179, hr⟩ := hr
                            refine j_tial 4 (by decide) rfl dL_law_506 g179 ?_
                            refine j_tload_n (i := 0) rfl rfl dL_law_507 ?_
                            refine j_iload_n (i := 3) rfl rfl dL_law_508 ?_
                            refine j_iconst (v := 3) rfl dL_law_509 ?_
                            refine j_iadd dL_law_510 ?_
                            replace hr := m_bind hr; obtain ⟨x180, g181, hr⟩ := hr
                            refine j_tial 4 (by decide) rfl dL_law_511 g181 ?_
                            by_cases o185 : m_ob s_9.2 h4.1 9 = true
                            · rw [if_pos o185] at hr
                              replace hr := m_bind hr; obtain ⟨r183, g182, hr⟩ := hr
                              refine j_callV (Y' := Y_X10_commonTrait) (a := h4.1) (as := [.int x176, .int x178, .int x180]) (ci := 9) (T := TX10) (N := 30) ok_X10_commonTrait [some (.ref h4.1), some (.int x176), some (.int x178), some (.int x180), none, none, none, none] rfl rfl rfl tw_4_80 tw_4_81 tw_4_82 nn_X10_commonTrait (Nat.le_of_ble_eq_true rfl) dL_law_512 o185 (j_X10_commonTrait (by omega) g182) ?_
                              refine j_ic_eq (tgt := 1154) dL_law_515 rfl (fun c184 => ?_) (fun c184 => ?_)
                              · rw [if_pos c184] at hr
                                refine j_iinc (i := 3) (v := s_9.1 + 6) (L' := [some (.float (UInt32.ofNat 4)), some (.ref h.1), some (.ref h4.1), some (.int (s_9.1 + 6))]) rfl (m_o6 _) (Nat.le_of_ble_eq_true rfl) rfl rfl dL_law_1154 ?_
                                refine j_goto (tgt := 18) dL_law_1157 rfl ?_
                                cases hr
                                exact j_weak (L' := [some (.float (UInt32.ofNat 4)), some (.ref h.1), some (.ref h4.1), some (.int (s_9.1 + 6))]) (And.intro rfl (And.intro rfl (And.intro rfl (And.intro rfl trivial)))) hk
                              · rw [if_neg c184] at hr
                                refine j_iconst (v := 0) rfl dL_law_518 ?_
                                cases hr
                                rw [show _ = _ from hk]
                                exact j_ret dL_law_519 m_rk_z0
                            · rw [if_neg o185] at hr
                              cases hr
                          · rw [if_neg o186] at hr
                            cases hr
                        · rw [if_neg c167] at hr
                          by_cases c187 : k13 = 10
                          · rw [if_pos c187] at hr
                            refine j_tswIn (off := 487) (tgt := 520) dL_law_33 (by rw [c187]; decide) (by rw [c187]; decide) (by rw [c187]; rfl) rfl ?_
                            refine j_aload_n (i := 1) rfl rfl dL_law_520 ?_
                            refine j_tload_n (i := 0) rfl rfl dL_law_521 ?_
                            refine j_iload_n (i := 3) rfl rfl dL_law_522 ?_
                            refine j_iconst (v := 1) rfl dL_law_523 ?_
                            refine j_iadd dL_law_524 ?_
                            replace hr := m_bind hr; obtain ⟨x188, g189, hr⟩ := hr
                            refine j_tial 4 (by decide) rfl dL_law_525 g189 ?_
                            refine j_tload_n (i := 0) rfl rfl dL_law_526 ?_
                            refine j_iload_n (i := 3) rfl rfl dL_law_527 ?_
                            refine j_iconst (v := 2) rfl dL_law_528 ?_
                            refine j_iadd dL_law_529 ?_
                            replace hr := m_bind hr; obtain ⟨x190, g191, hr⟩ := hr
                            refine j_tial 4 (by decide) rfl dL_law_530 g191 ?_
                            refine j_tload_n (i := 0) rfl rfl dL_law_531 ?_
                            refine j_iload_n (i := 3) rfl rfl dL_law_532 ?_
                            refine j_iconst (v := 3) rfl dL_law_533 ?_
                            refine j_iadd dL_law_534 ?_
                            replace hr := m_bind hr; obtain ⟨x192, g193, hr⟩ := hr
                            refine j_tial 4 (by decide) rfl dL_law_535 g193 ?_
                            by_cases o206 : m_ob s_9.2 h.1 8 = true
                            · rw [if_pos o206] at hr
                              replace hr := m_bind hr; obtain ⟨p195, g194, hr⟩ := hr
                              refine j_callV (Y' := Y_X9_rule) (a := h.1) (as := [.int x188, .int x190, .int x192]) (ci := 8) (T := TX9) (N := 8) ok_X9_rule [some (.ref h.1), some (.int x188), some (.int x190), some (.int x192)] rfl rfl rfl tw_2_132 tw_2_133 tw_2_134 nn_X9_rule (Nat.le_of_ble_eq_true rfl) dL_law_536 o206 (j_X9_rule (by omega) g194) ?_
                              refine j_aload_n (i := 2) rfl rfl dL_law_539 ?_
                              refine j_tload_n (i := 0) rfl rfl dL_law_540 ?_
                              refine j_iload_n (i := 3) rfl rfl dL_law_541 ?_
                              refine j_iconst (v := 1) rfl dL_law_542 ?_
                              refine j_iadd dL_law_543 ?_
                              replace hr := m_bind hr; obtain ⟨x196, g197, hr⟩ := hr
                              refine j_tial 4 (by decide) rfl dL_law_544 g197 ?_
                              refine j_tload_n (i := 0) rfl rfl dL_law_545 ?_
                              refine j_iload_n (i := 3) rfl rfl dL_law_546 ?_
                              refine j_iconst (v := 2) rfl dL_law_547 ?_
                              refine j_iadd dL_law_548 ?_
                              replace hr := m_bind hr; obtain ⟨x198, g199, hr⟩ := hr
                              refine j_tial 4 (by decide) rfl dL_law_549 g199 ?_
                              refine j_tload_n (i := 0) rfl rfl dL_law_550 ?_
                              refine j_iload_n (i := 3) rfl rfl dL_law_551 ?_
                              refine j_iconst (v := 3) rfl dL_law_552 ?_
                              refine j_iadd dL_law_553 ?_
                              replace hr := m_bind hr; obtain ⟨x200, g201, hr⟩ := hr
                              refine j_tial 4 (by decide) rfl dL_law_554 g201 ?_
                              by_cases o205 : m_ob p195.2 h4.1 9 = true
                              · rw [if_pos o205] at hr
                                replace hr := m_bind hr; obtain ⟨p203, g202, hr⟩ := hr
                                refine j_callV (Y' := Y_X10_rule) (a := h4.1) (as := [.int x196, .int x198, .int x200]) (ci := 9) (T := TX10) (N := 30) ok_X10_rule [some (.ref h4.1), some (.int x196), some (.int x198), some (.int x200)] rfl rfl rfl tw_4_126 tw_4_127 tw_4_128 nn_X10_rule (Nat.le_of_ble_eq_true rfl) dL_law_555 o205 (j_X10_rule (by omega) g202) ?_
                                refine j_ic_eq (tgt := 1154) dL_law_558 rfl (fun c204 => ?_) (fun c204 => ?_)
                                · rw [if_pos c204] at hr
                                  refine j_iinc (i := 3) (v := s_9.1 + 6) (L' := [some (.float (UInt32.ofNat 4)), some (.ref h.1), some (.ref h4.1), some (.int (s_9.1 + 6))]) rfl (m_o6 _) (Nat.le_of_ble_eq_true rfl) rfl rfl dL_law_1154 ?_
                                  refine j_goto (tgt := 18) dL_law_1157 rfl ?_
                                  cases hr
                                  exact j_weak (L' := [some (.float (UInt32.ofNat 4)), some (.ref h.1), some (.ref h4.1), some (.int (s_9.1 + 6))]) (And.intro rfl (And.intro rfl (And.intro rfl (And.intro rfl trivial)))) hk
                                · rw [if_neg c204] at hr
                                  refine j_iconst (v := 0) rfl dL_law_561 ?_
                                  cases hr
                                  rw [show _ = _ from hk]
                                  exact j_ret dL_law_562 m_rk_z0
                              · rw [if_neg o205] at hr
                                cases hr
                            · rw [if_neg o206] at hr
                              cases hr
                          · rw [if_neg c187] at hr
                            by_cases c207 : k13 = 11
                            · rw [if_pos c207] at hr
                              refine j_tswIn (off := 530) (tgt := 563) dL_law_33 (by rw [c207]; decide) (by rw [c207]; decide) (by rw [c207]; rfl) rfl ?_
                              refine j_aload_n (i := 1) rfl rfl dL_law_563 ?_
                              refine j_tload_n (i := 0) rfl rfl dL_law_564 ?_
                              refine j_iload_n (i := 3) rfl rfl dL_law_565 ?_
                              refine j_iconst (v := 1) rfl dL_law_566 ?_
                              refine j_iadd dL_law_567 ?_
                              replace hr := m_bind hr; obtain ⟨x208, g209, hr⟩ := hr
                              refine j_tial 4 (by decide) rfl dL_law_568 g209 ?_
                              refine j_tload_n (i := 0) rfl rfl dL_law_569 ?_
                              refine j_iload_n (i := 3) rfl rfl dL_law_570 ?_
                              refine j_iconst (v := 2) rfl dL_law_571 ?_
                              refine j_iadd dL_law_572 ?_
                              replace hr := m_bind hr; obtain ⟨x210, g211, hr⟩ := hr
                              refine j_tial 4 (by decide) rfl dL_law_573 g211 ?_
                              by_cases o222 : m_ob s_9.2 h.1 8 = true
                              · rw [if_pos o222] at hr
                                replace hr := m_bind hr; obtain ⟨p213, g212, hr⟩ := hr
                                refine j_callV (Y' := Y_X9_unrule) (a := h.1) (as := [.int x208, .int x210]) (ci := 8) (T := TX9) (N := 8) ok_X9_unrule [some (.ref h.1), some (.int x208), some (.int x210)] rfl rfl rfl tw_2_146 tw_2_147 tw_2_148 nn_X9_unrule (Nat.le_of_ble_eq_true rfl) dL_law_574 o222 (j_X9_unrule (by omega) g212) ?_
                                refine j_aload_n (i := 2) rfl rfl dL_law_577 ?_
                                refine j_tload_n (i := 0) rfl rfl dL_law_578 ?_
                                refine j_iload_n (i := 3) rfl rfl dL_law_579 ?_
                                refine j_iconst (v := 1) rfl dL_law_580 ?_
                                refine j_iadd dL_law_581 ?_
                                replace hr := m_bind hr; obtain ⟨x214, g215, hr⟩ := hr
                                refine j_tial 4 (by decide) rfl dL_law_582 g215 ?_
                                refine j_tload_n (i := 0) rfl rfl dL_law_583 ?_
                                refine j_iload_n (i := 3) rfl rfl dL_law_584 ?_
                                refine j_iconst (v := 2) rfl dL_law_585 ?_
                                refine j_iadd dL_law_586 ?_
                                replace hr := m_bind hr; obtain ⟨x216, g217, hr⟩ := hr
                                refine j_tial 4 (by decide) rfl dL_law_587 g217 ?_
                                by_cases o221 : m_ob p213.2 h4.1 9 = true
                                · rw [if_pos o221] at hr
                                  replace hr := m_bind hr; obtain ⟨p219, g218, hr⟩ := hr
                                  refine j_callV (Y' := Y_X10_unrule) (a := h4.1) (as := [.int x214, .int x216]) (ci := 9) (T := TX10) (N := 30) ok_X10_unrule [some (.ref h4.1), some (.int x214), some (.int x216)] rfl rfl rfl tw_4_130 tw_4_131 tw_4_132 nn_X10_unrule (Nat.le_of_ble_eq_true rfl) dL_law_588 o221 (j_X10_unrule (by omega) g218) ?_
                                  refine j_ic_eq (tgt := 1154) dL_law_591 rfl (fun c220 => ?_) (fun c220 => ?_)
                                  · rw [if_pos c220] at hr
                                    refine j_iinc (i := 3) (v := s_9.1 + 6) (L' := [some (.float (UInt32.ofNat 4)), some (.ref h.1), some (.ref h4.1), some (.int (s_9.1 + 6))]) rfl (m_o6 _) (Nat.le_of_ble_eq_true rfl) rfl rfl dL_law_1154 ?_
                                    refine j_goto (tgt := 18) dL_law_1157 rfl ?_
                                    cases hr
                                    exact j_weak (L' := [some (.float (UInt32.ofNat 4)), some (.ref h.1), some (.ref h4.1), some (.int (s_9.1 + 6))]) (And.intro rfl (And.intro rfl (And.intro rfl (And.intro rfl trivial)))) hk
                                  · rw [if_neg c220] at hr
                                    refine j_iconst (v := 0) rfl dL_law_594 ?_
                                    cases hr
                                    rw [show _ = _ from hk]
                                    exact j_ret dL_law_595 m_rk_z0
                                · rw [if_neg o221] at hr
                                  cases hr
                              · rw [if_neg o222] at hr
                                cases hr
                            · rw [if_neg c207] at hr
                              by_cases c223 : k13 = 12
                              · rw [if_pos c223] at hr
                                refine j_tswIn (off := 563) (tgt := 596) dL_law_33 (by rw [c223]; decide) (by rw [c223]; decide) (by rw [c223]; rfl) rfl ?_
                                refine j_aload_n (i := 1) rfl rfl dL_law_596 ?_
                                refine j_tload_n (i := 0) rfl rfl dL_law_597 ?_
                                refine j_iload_n (i := 3) rfl rfl dL_law_598 ?_
                                refine j_iconst (v := 1) rfl dL_law_599 ?_
                                refine j_iadd dL_law_600 ?_
                                replace hr := m_bind hr; obtain ⟨x224, g225, hr⟩ := hr
                                refine j_tial 4 (by decide) rfl dL_law_601 g225 ?_
                                refine j_tload_n (i := 0) rfl rfl dL_law_602 ?_
                                refine j_iload_n (i := 3) rfl rfl dL_law_603 ?_
                                refine j_iconst (v := 2) rfl dL_law_604 ?_
                                refine j_iadd dL_law_605 ?_
                                replace hr := m_bind hr; obtain ⟨x226, g227, hr⟩ := hr
                                refine j_tial 4 (by decide) rfl dL_law_606 g227 ?_
                                by_cases o238 : m_ob s_9.2 h.1 8 = true
                                · rw [if_pos o238] at hr
                                  replace hr := m_bind hr; obtain ⟨r229, g228, hr⟩ := hr
                                  refine j_callV (Y' := Y_X9_asks) (a := h.1) (as := [.int x224, .int x226]) (ci := 8) (T := TX9) (N := 8) ok_X9_asks [some (.ref h.1), some (.int x224), some (.int x226), none] rfl rfl rfl tw_2_156 tw_2_157 tw_2_158 nn_X9_asks (Nat.le_of_ble_eq_true rfl) dL_law_607 o238 (j_X9_asks (by omega) g228) ?_
                                  refine j_aload_n (i := 2) rfl rfl dL_law_610 ?_
                                  refine j_tload_n (i := 0) rfl rfl dL_law_611 ?_
                                  refine j_iload_n (i := 3) rfl rfl dL_law_612 ?_
                                  refine j_iconst (v := 1) rfl dL_law_613 ?_
                                  refine j_iadd dL_law_614 ?_
                                  replace hr := m_bind hr; obtain ⟨x230, g231, hr⟩ := hr
                                  refine j_tial 4 (by decide) rfl dL_law_615 g231 ?_
                                  refine j_tload_n (i := 0) rfl rfl dL_law_616 ?_
                                  refine j_iload_n (i := 3) rfl rfl dL_law_617 ?_
                                  refine j_iconst (v := 2) rfl dL_law_618 ?_
                                  refine j_iadd dL_law_619 ?_
                                  replace hr := m_bind hr; obtain ⟨x232, g233, hr⟩ := hr
                                  refine j_tial 4 (by decide) rfl dL_law_620 g233 ?_
                                  by_cases o237 : m_ob s_9.2 h4.1 9 = true
                                  · rw [if_pos o237] at hr
                                    replace hr := m_bind hr; obtain ⟨r235, g234, hr⟩ := hr
                                    refine j_callV (Y' := Y_X10_asks) (a := h4.1) (as := [.int x230, .int x232]) (ci := 9) (T := TX10) (N := 30) ok_X10_asks [some (.ref h4.1), some (.int x230), some (.int x232)] rfl rfl rfl tw_4_138 tw_4_139 tw_4_140 nn_X10_asks (Nat.le_of_ble_eq_true rfl) dL_law_621 o237 (j_X10_asks (by omega) g234) ?_
                                    refine j_ic_eq (tgt := 1154) dL_law_624 rfl (fun c236 => ?_) (fun c236 => ?_)
                                    · rw [if_pos c236] at hr
                                      refine j_iinc (i := 3) (v := s_9.1 + 6) (L' := [some (.float (UInt32.ofNat 4)), some (.ref h.1), some (.ref h4.1), some (.int (s_9.1 + 6))]) rfl (m_o6 _) (Nat.le_of_ble_eq_true rfl) rfl rfl dL_law_1154 ?_
                                      refine j_goto (tgt := 18) dL_law_1157 rfl ?_
                                      cases hr
                                      exact j_weak (L' := [some (.float (UInt32.ofNat 4)), some (.ref h.1), some (.ref h4.1), some (.int (s_9.1 + 6))]) (And.intro rfl (And.intro rfl (And.intro rfl (And.intro rfl trivial)))) hk
                                    · rw [if_neg c236] at hr
                                      refine j_iconst (v := 0) rfl dL_law_627 ?_
                                      cases hr
                                      rw [show _ = _ from hk]
                                      exact j_ret dL_law_628 m_rk_z0
                                  · rw [if_neg o237] at hr
                                    cases hr
                                · rw [if_neg o238] at hr
                                  cases hr
                              · rw [if_neg c223] at hr
                                by_cases c239 : k13 = 13
                                · rw [if_pos c239] at hr
                                  refine j_tswIn (off := 596) (tgt := 629) dL_law_33 (by rw [c239]; decide) (by rw [c239]; decide) (by rw [c239]; rfl) rfl ?_
                                  refine j_aload_n (i := 1) rfl rfl dL_law_629 ?_
                                  refine j_tload_n (i := 0) rfl rfl dL_law_630 ?_
                                  refine j_iload_n (i := 3) rfl rfl dL_law_631 ?_
                                  refine j_iconst (v := 1) rfl dL_law_632 ?_
                                  refine j_iadd dL_law_633 ?_
                                  replace hr := m_bind hr; obtain ⟨x240, g241, hr⟩ := hr
                                  refine j_tial 4 (by decide) rfl dL_law_634 g241 ?_
                                  refine j_tload_n (i := 0) rfl rfl dL_law_635 ?_
                                  refine j_iload_n (i := 3) rfl rfl dL_law_636 ?_
                                  refine j_iconst (v := 2) rfl dL_law_637 ?_
                                  refine j_iadd dL_law_638 ?_
                                  replace hr := m_bind hr; obtain ⟨x242, g243, hr⟩ := hr
                                  refine j_tial 4 (by decide) rfl dL_law_639 g243 ?_
                                  refine j_tload_n (i := 0) rfl rfl dL_law_640 ?_
                                  refine j_iload_n (i := 3) rfl rfl dL_law_641 ?_
                                  refine j_iconst (v := 3) rfl dL_law_642 ?_
                                  refine j_iadd dL_law_643 ?_
                                  replace hr := m_bind hr; obtain ⟨x244, g245, hr⟩ := hr
                                  refine j_tial 4 (by decide) rfl dL_law_644 g245 ?_
                                  by_cases o258 : m_ob s_9.2 h.1 8 = true
                                  · rw [if_pos o258] at hr
                                    replace hr := m_bind hr; obtain ⟨r247, g246, hr⟩ := hr
                                    refine j_callV (Y' := Y_X9_nearest) (a := h.1) (as := [.int x240, .int x242, .int x244]) (ci := 8) (T := TX9) (N := 8) ok_X9_nearest [some (.ref h.1), some (.int x240), some (.int x242), some (.int x244), none] rfl rfl rfl tw_2_176 tw_2_177 tw_2_178 nn_X9_nearest (Nat.le_of_ble_eq_true rfl) dL_law_645 o258 (j_X9_nearest (by omega) g246) ?_
                                    refine j_aload_n (i := 2) rfl rfl dL_law_648 ?_
                                    refine j_tload_n (i := 0) rfl rfl dL_law_649 ?_
                                    refine j_iload_n (i := 3) rfl rfl dL_law_650 ?_
                                    refine j_iconst (v := 1) rfl dL_law_651 ?_
                                    refine j_iadd dL_law_652 ?_
                                    replace hr := m_bind hr; obtain ⟨x248, g249, hr⟩ := hr
                                    refine j_tial 4 (by decide) rfl dL_law_653 g249 ?_
                                    refine j_tload_n (i := 0) rfl rfl dL_law_654 ?_
                                    refine j_iload_n (i := 3) rfl rfl dL_law_655 ?_
                                    refine j_iconst (v := 2) rfl dL_law_656 ?_
                                    refine j_iadd dL_law_657 ?_
                                    replace hr := m_bind hr; obtain ⟨x250, g251, hr⟩ := hr
                                    refine j_tial 4 (by decide) rfl dL_law_658 g251 ?_
                                    refine j_tload_n (i := 0) rfl rfl dL_law_659 ?_
                                    refine j_iload_n (i := 3) rfl rfl dL_law_660 ?_
                                    refine j_iconst (v := 3) rfl dL_law_661 ?_
                                    refine j_iadd dL_law_662 ?_
                                    replace hr := m_bind hr; obtain ⟨x252, g253, hr⟩ := hr
                                    refine j_tial 4 (by decide) rfl dL_law_663 g253 ?_
                                    by_cases o257 : m_ob s_9.2 h4.1 9 = true
                                    · rw [if_pos o257] at hr
                                      replace hr := m_bind hr; obtain ⟨r255, g254, hr⟩ := hr
                                      refine j_callV (Y' := Y_X10_nearest) (a := h4.1) (as := [.int x248, .int x250, .int x252]) (ci := 9) (T := TX10) (N := 30) ok_X10_nearest [some (.ref h4.1), some (.int x248), some (.int x250), some (.int x252), none, none, none] rfl rfl rfl tw_4_158 tw_4_159 tw_4_160 nn_X10_nearest (Nat.le_of_ble_eq_true rfl) dL_law_664 o257 (j_X10_nearest (by omega) g254) ?_
                                      refine j_ic_eq (tgt := 1154) dL_law_667 rfl (fun c256 => ?_) (fun c256 => ?_)
                                      · rw [if_pos c256] at hr
                                        refine j_iinc (i := 3) (v := s_9.1 + 6) (L' := [some (.float (UInt32.ofNat 4)), some (.ref h.1), some (.ref h4.1), some (.int (s_9.1 + 6))]) rfl (m_o6 _) (Nat.le_of_ble_eq_true rfl) rfl rfl dL_law_1154 ?_
                                        refine j_goto (tgt := 18) dL_law_1157 rfl ?_
                                        cases hr
                                        exact j_weak (L' := [some (.float (UInt32.ofNat 4)), some (.ref h.1), some (.ref h4.1), some (.int (s_9.1 + 6))]) (And.intro rfl (And.intro rfl (And.intro rfl (And.intro rfl trivial)))) hk
                                      · rw [if_neg c256] at hr
                                        refine j_iconst (v := 0) rfl dL_law_670 ?_
                                        cases hr
                                        rw [show _ = _ from hk]
                                        exact j_ret dL_law_671 m_rk_z0
                                    · rw [if_neg o257] at hr
                                      cases hr
                                  · rw [if_neg o258] at hr
                                    cases hr
                                · rw [if_neg c239] at hr
                                  by_cases c259 : k13 = 14
                                  · rw [if_pos c259] at hr
                                    refine j_tswIn (off := 639) (tgt := 672) dL_law_33 (by rw [c259]; decide) (by rw [c259]; decide) (by rw [c259]; rfl) rfl ?_
                                    refine j_aload_n (i := 1) rfl rfl dL_law_672 ?_
                                    refine j_tload_n (i := 0) rfl rfl dL_law_673 ?_
                                    refine j_iload_n (i := 3) rfl rfl dL_law_674 ?_
                                    refine j_iconst (v := 1) rfl dL_law_675 ?_
                                    refine j_iadd dL_law_676 ?_
                                    replace hr := m_bind hr; obtain ⟨x260, g261, hr⟩ := hr
                                    refine j_tial 4 (by decide) rfl dL_law_677 g261 ?_
                                    refine j_tload_n (i := 0) rfl rfl dL_law_678 ?_
                                    refine j_iload_n (i := 3) rfl rfl dL_law_679 ?_
                                    refine j_iconst (v := 2) rfl dL_law_680 ?_
                                    refine j_iadd dL_law_681 ?_
                                    replace hr := m_bind hr; obtain ⟨x262, g263, hr⟩ := hr
                                    refine j_tial 4 (by decide) rfl dL_law_682 g263 ?_
                                    refine j_tload_n (i := 0) rfl rfl dL_law_683 ?_
                                    refine j_iload_n (i := 3) rfl rfl dL_law_684 ?_
                                    refine j_iconst (v := 3) rfl dL_law_685 ?_
                                    refine j_iadd dL_law_686 ?_
                                    replace hr := m_bind hr; obtain ⟨x264, g265, hr⟩ := hr
                                    refine j_tial 4 (by decide) rfl dL_law_687 g265 ?_
                                    by_cases o278 : m_ob s_9.2 h.1 8 = true
                                    · rw [if_pos o278] at hr
                                      replace hr := m_bind hr; obtain ⟨p267, g266, hr⟩ := hr
                                      refine j_callV (Y' := Y_X9_lend) (a := h.1) (as := [.int x260, .int x262, .int x264]) (ci := 8) (T := TX9) (N := 8) ok_X9_lend [some (.ref h.1), some (.int x260), some (.int x262), some (.int x264), none] rfl rfl rfl tw_2_181 tw_2_182 tw_2_183 nn_X9_lend (Nat.le_of_ble_eq_true rfl) dL_law_688 o278 (j_X9_lend (by omega) g266) ?_
                                      refine j_aload_n (i := 2) rfl rfl dL_law_691 ?_
                                      refine j_tload_n (i := 0) rfl rfl dL_law_692 ?_
                                      refine j_iload_n (i := 3) rfl rfl dL_law_693 ?_
                                      refine j_iconst (v := 1) rfl dL_law_694 ?_
                                      refine j_iadd dL_law_695 ?_
                                      replace hr := m_bind hr; obtain ⟨x268, g269, hr⟩ := hr
                                      refine j_tial 4 (by decide) rfl dL_law_696 g269 ?_
                                      refine j_tload_n (i := 0) rfl rfl dL_law_697 ?_
                                      refine j_iload_n (i := 3) rfl rfl dL_law_698 ?_
                                      refine j_iconst (v := 2) rfl dL_law_699 ?_
                                      refine j_iadd dL_law_700 ?_
                                      replace hr := m_bind hr; obtain ⟨x270, g271, hr⟩ := hr
                                      refine j_tial 4 (by decide) rfl dL_law_701 g271 ?_
                                      refine j_tload_n (i := 0) rfl rfl dL_law_702 ?_
                                      refine j_iload_n (i := 3) rfl rfl dL_law_703 ?_
                                      refine j_iconst (v := 3) rfl dL_law_704 ?_
                                      refine j_iadd dL_law_705 ?_
                                      replace hr := m_bind hr; obtain ⟨x272, g273, hr⟩ := hr
                                      refine j_tial 4 (by decide) rfl dL_law_706 g273 ?_
                                      by_cases o277 : m_ob p267.2 h4.1 9 = true
                                      · rw [if_pos o277] at hr
                                        replace hr := m_bind hr; obtain ⟨p275, g274, hr⟩ := hr
                                        refine j_callV (Y' := Y_X10_lend) (a := h4.1) (as := [.int x268, .int x270, .int x272]) (ci := 9) (T := TX10) (N := 30) ok_X10_lend [some (.ref h4.1), some (.int x268), some (.int x270), some (.int x272), none, none, none] rfl rfl rfl tw_4_162 tw_4_163 tw_4_164 nn_X10_lend (Nat.le_of_ble_eq_true rfl) dL_law_707 o277 (j_X10_lend (by omega) g274) ?_
                                        refine j_ic_eq (tgt := 1154) dL_law_710 rfl (fun c276 => ?_) (fun c276 => ?_)
                                        · rw [if_pos c276] at hr
                                          refine j_iinc (i := 3) (v := s_9.1 + 6) (L' := [some (.float (UInt32.ofNat 4)), some (.ref h.1), some (.ref h4.1), some (.int (s_9.1 + 6))]) rfl (m_o6 _) (Nat.le_of_ble_eq_true rfl) rfl rfl dL_law_1154 ?_
                                          refine j_goto (tgt := 18) dL_law_1157 rfl ?_
                                          cases hr
                                          exact j_weak (L' := [some (.float (UInt32.ofNat 4)), some (.ref h.1), some (.ref h4.1), some (.int (s_9.1 + 6))]) (And.intro rfl (And.intro rfl (And.intro rfl (And.intro rfl trivial)))) hk
                                        · rw [if_neg c276] at hr
                                          refine j_iconst (v := 0) rfl dL_law_713 ?_
                                          cases hr
                                          rw [show _ = _ from hk]
                                          exact j_ret dL_law_714 m_rk_z0
                                      · rw [if_neg o277] at hr
                                        cases hr
                                    · rw [if_neg o278] at hr
                                      cases hr
                                  · rw [if_neg c259] at hr
                                    by_cases c279 : k13 = 15
                                    · rw [if_pos c279] at hr
                                      refine j_tswIn (off := 682) (tgt := 715) dL_law_33 (by rw [c279]; decide) (by rw [c279]; decide) (by rw [c279]; rfl) rfl ?_
                                      refine j_aload_n (i := 1) rfl rfl dL_law_715 ?_
                                      refine j_tload_n (i := 0) rfl rfl dL_law_716 ?_
                                      refine j_iload_n (i := 3) rfl rfl dL_law_717 ?_
                                      refine j_iconst (v := 1) rfl dL_law_718 ?_
                                      refine j_iadd dL_law_719 ?_
                                      replace hr := m_bind hr; obtain ⟨x280, g281, hr⟩ := hr
                                      refine j_tial 4 (by decide) rfl dL_law_720 g281 ?_
                                      refine j_tload_n (i := 0) rfl rfl dL_law_721 ?_
                                      refine j_iload_n (i := 3) rfl rfl dL_law_722 ?_
                                      refine j_iconst (v := 2) rfl dL_law_723 ?_
                                      refine j_iadd dL_law_724 ?_
                                      replace hr := m_bind hr; obtain ⟨x282, g283, hr⟩ := hr
                                      refine j_tial 4 (by decide) rfl dL_law_725 g283 ?_
                                      by_cases o294 : m_ob s_9.2 h.1 8 = true
                                      · rw [if_pos o294] at hr
                                        replace hr := m_bind hr; obtain ⟨p285, g284, hr⟩ := hr
                                        refine j_callV (Y' := Y_X9_giveBack) (a := h.1) (as := [.int x280, .int x282]) (ci := 8) (T := TX9) (N := 8) ok_X9_giveBack [some (.ref h.1), some (.int x280), some (.int x282), none] rfl rfl rfl tw_2_225 tw_2_226 tw_2_227 nn_X9_giveBack (Nat.le_of_ble_eq_true rfl) dL_law_726 o294 (j_X9_giveBack (by omega) g284) ?_
                                        refine j_aload_n (i := 2) rfl rfl dL_law_729 ?_
                                        refine j_tload_n (i := 0) rfl rfl dL_law_730 ?_
                                        refine j_iload_n (i := 3) rfl rfl dL_law_731 ?_
                                        refine j_iconst (v := 1) rfl dL_law_732 ?_
                                        refine j_iadd dL_law_733 ?_
                                        replace hr := m_bind hr; obtain ⟨x286, g287, hr⟩ := hr
                                        refine j_tial 4 (by decide) rfl dL_law_734 g287 ?_
                                        refine j_tload_n (i := 0) rfl rfl dL_law_735 ?_
                                        refine j_iload_n (i := 3) rfl rfl dL_law_736 ?_
                                        refine j_iconst (v := 2) rfl dL_law_737 ?_
                                        refine j_iadd dL_law_738 ?_
                                        replace hr := m_bind hr; obtain ⟨x288, g289, hr⟩ := hr
                                        refine j_tial 4 (by decide) rfl dL_law_739 g289 ?_
                                        by_cases o293 : m_ob p285.2 h4.1 9 = true
                                        · rw [if_pos o293] at hr
                                          replace hr := m_bind hr; obtain ⟨p291, g290, hr⟩ := hr
                                          refine j_callV (Y' := Y_X10_giveBack) (a := h4.1) (as := [.int x286, .int x288]) (ci := 9) (T := TX10) (N := 30) ok_X10_giveBack [some (.ref h4.1), some (.int x286), some (.int x288), none] rfl rfl rfl tw_4_178 tw_4_179 tw_4_180 nn_X10_giveBack (Nat.le_of_ble_eq_true rfl) dL_law_740 o293 (j_X10_giveBack (by omega) g290) ?_
                                          refine j_ic_eq (tgt := 1154) dL_law_743 rfl (fun c292 => ?_) (fun c292 => ?_)
                                          · rw [if_pos c292] at hr
                                            refine j_iinc (i := 3) (v := s_9.1 + 6) (L' := [some (.float (UInt32.ofNat 4)), some (.ref h.1), some (.ref h4.1), some (.int (s_9.1 + 6))]) rfl (m_o6 _) (Nat.le_of_ble_eq_true rfl) rfl rfl dL_law_1154 ?_
                                            refine j_goto (tgt := 18) dL_law_1157 rfl ?_
                                            cases hr
                                            exact j_weak (L' := [some (.float (UInt32.ofNat 4)), some (.ref h.1), some (.ref h4.1), some (.int (s_9.1 + 6))]) (And.intro rfl (And.intro rfl (And.intro rfl (And.intro rfl trivial)))) hk
                                          · rw [if_neg c292] at hr
                                            refine j_iconst (v := 0) rfl dL_law_746 ?_
                                            cases hr
                                            rw [show _ = _ from hk]
                                            exact j_ret dL_law_747 m_rk_z0
                                        · rw [if_neg o293] at hr
                                          cases hr
                                      · rw [if_neg o294] at hr
                                        cases hr
                                    · rw [if_neg c279] at hr
                                      by_cases c295 : k13 = 16
                                      · rw [if_pos c295] at hr
                                        refine j_tswIn (off := 715) (tgt := 748) dL_law_33 (by rw [c295]; decide) (by rw [c295]; decide) (by rw [c295]; rfl) rfl ?_
                                        refine j_aload_n (i := 1) rfl rfl dL_law_748 ?_
                                        refine j_tload_n (i := 0) rfl rfl dL_law_749 ?_
                                        refine j_iload_n (i := 3) rfl rfl dL_law_750 ?_
                                        refine j_iconst (v := 1) rfl dL_law_751 ?_
                                        refine j_iadd dL_law_752 ?_
                                        replace hr := m_bind hr; obtain ⟨x296, g297, hr⟩ := hr
                                        refine j_tial 4 (by decide) rfl dL_law_753 g297 ?_
                                        by_cases o306 : m_ob s_9.2 h.1 8 = true
                                        · rw [if_pos o306] at hr
                                          replace hr := m_bind hr; obtain ⟨r299, g298, hr⟩ := hr
                                          refine j_callV (Y' := Y_X9_overdue) (a := h.1) (as := [.int x296]) (ci := 8) (T := TX9) (N := 8) ok_X9_overdue [some (.ref h.1), some (.int x296)] rfl rfl rfl tw_3_11 tw_3_12 tw_3_13 nn_X9_overdue (Nat.le_of_ble_eq_true rfl) dL_law_754 o306 (j_X9_overdue (by omega) g298) ?_
                                          refine j_aload_n (i := 2) rfl rfl dL_law_757 ?_
                                          refine j_tload_n (i := 0) rfl rfl dL_law_758 ?_
                                          refine j_iload_n (i := 3) rfl rfl dL_law_759 ?_
                                          refine j_iconst (v := 1) rfl dL_law_760 ?_
                                          refine j_iadd dL_law_761 ?_
                                          replace hr := m_bind hr; obtain ⟨x300, g301, hr⟩ := hr
                                          refine j_tial 4 (by decide) rfl dL_law_762 g301 ?_
                                          by_cases o305 : m_ob s_9.2 h4.1 9 = true
                                          · rw [if_pos o305] at hr
                                            replace hr := m_bind hr; obtain ⟨r303, g302, hr⟩ := hr
                                            refine j_callV (Y' := Y_X10_overdue) (a := h4.1) (as := [.int x300]) (ci := 9) (T := TX10) (N := 30) ok_X10_overdue [some (.ref h4.1), some (.int x300), none, none] rfl rfl rfl tw_4_190 tw_4_191 tw_4_192 nn_X10_overdue (Nat.le_of_ble_eq_true rfl) dL_law_763 o305 (j_X10_overdue (by omega) g302) ?_
                                            refine j_ic_eq (tgt := 1154) dL_law_766 rfl (fun c304 => ?_) (fun c304 => ?_)
                                            · rw [if_pos c304] at hr
                                              refine j_iinc (i := 3) (v := s_9.1 + 6) (L' := [some (.float (UInt32.ofNat 4)), some (.ref h.1), some (.ref h4.1), some (.int (s_9.1 + 6))]) rfl (m_o6 _) (Nat.le_of_ble_eq_true rfl) rfl rfl dL_law_1154 ?_
                                              refine j_goto (tgt := 18) dL_law_1157 rfl ?_
                                              cases hr
                                              exact j_weak (L' := [some (.float (UInt32.ofNat 4)), some (.ref h.1), some (.ref h4.1), some (.int (s_9.1 + 6))]) (And.intro rfl (And.intro rfl (And.intro rfl (And.intro rfl trivial)))) hk
                                            · rw [if_neg c304] at hr
                                              refine j_iconst (v := 0) rfl dL_law_769 ?_
                                              cases hr
                                              rw [show _ = _ from hk]
                                              exact j_ret dL_law_770 m_rk_z0
                                          · rw [if_neg o305] at hr
                                            cases hr
                                        · rw [if_neg o306] at hr
                                          cases hr
                                      · rw [if_neg c295] at hr
                                        by_cases c307 : k13 = 17
                                        · rw [if_pos c307] at hr
                                          refine j_tswIn (off := 738) (tgt := 771) dL_law_33 (by rw [c307]; decide) (by rw [c307]; decide) (by rw [c307]; rfl) rfl ?_
                                          refine j_aload_n (i := 1) rfl rfl dL_law_771 ?_
                                          refine j_tload_n (i := 0) rfl rfl dL_law_772 ?_
                                          refine j_iload_n (i := 3) rfl rfl dL_law_773 ?_
                                          refine j_iconst (v := 1) rfl dL_law_774 ?_
                                          refine j_iadd dL_law_775 ?_
                                          replace hr := m_bind hr; obtain ⟨x308, g309, hr⟩ := hr
                                          refine j_tial 4 (by decide) rfl dL_law_776 g309 ?_
                                          refine j_tload_n (i := 0) rfl rfl dL_law_777 ?_
                                          refine j_iload_n (i := 3) rfl rfl dL_law_778 ?_
                                          refine j_iconst (v := 2) rfl dL_law_779 ?_
                                          refine j_iadd dL_law_780 ?_
                                          replace hr := m_bind hr; obtain ⟨x310, g311, hr⟩ := hr
                                          refine j_tial 4 (by decide) rfl dL_law_781 g311 ?_
                                          by_cases o322 : m_ob s_9.2 h.1 8 = true
                                          · rw [if_pos o322] at hr
                                            replace hr := m_bind hr; obtain ⟨r313, g312, hr⟩ := hr
                                            refine j_callV (Y' := Y_X9_lateOne) (a := h.1) (as := [.int x308, .int x310]) (ci := 8) (T := TX9) (N := 8) ok_X9_lateOne [some (.ref h.1), some (.int x308), some (.int x310)] rfl rfl rfl tw_3_19 tw_3_20 tw_3_21 nn_X9_lateOne (Nat.le_of_ble_eq_true rfl) dL_law_782 o322 (j_X9_lateOne (by omega) g312) ?_
                                            refine j_aload_n (i := 2) rfl rfl dL_law_785 ?_
                                            refine j_tload_n (i := 0) rfl rfl dL_law_786 ?_
                                            refine j_iload_n (i := 3) rfl rfl dL_law_787 ?_
                                            refine j_iconst (v := 1) rfl dL_law_788 ?_
                                            refine j_iadd dL_law_789 ?_
                                            replace hr := m_bind hr; obtain ⟨x314, g315, hr⟩ := hr
                                            refine j_tial 4 (by decide) rfl dL_law_790 g315 ?_
                                            refine j_tload_n (i := 0) rfl rfl dL_law_791 ?_
                                            refine j_iload_n (i := 3) rfl rfl dL_law_792 ?_
                                            refine j_iconst (v := 2) rfl dL_law_793 ?_
                                            refine j_iadd dL_law_794 ?_
                                            replace hr := m_bind hr; obtain ⟨x316, g317, hr⟩ := hr
                                            refine j_tial 4 (by decide) rfl dL_law_795 g317 ?_
                                            by_cases o321 : m_ob s_9.2 h4.1 9 = true
                                            · rw [if_pos o321] at hr
                                              replace hr := m_bind hr; obtain ⟨r319, g318, hr⟩ := hr
                                              refine j_callV (Y' := Y_X10_lateOne) (a := h4.1) (as := [.int x314, .int x316]) (ci := 9) (T := TX10) (N := 30) ok_X10_lateOne [some (.ref h4.1), some (.int x314), some (.int x316), none, none, none, none] rfl rfl rfl tw_4_194 tw_4_195 tw_4_196 nn_X10_lateOne (Nat.le_of_ble_eq_true rfl) dL_law_796 o321 (j_X10_lateOne (by omega) g318) ?_
                                              refine j_ic_eq (tgt := 1154) dL_law_799 rfl (fun c320 => ?_) (fun c320 => ?_)
                                              · rw [if_pos c320] at hr
                                                refine j_iinc (i := 3) (v := s_9.1 + 6) (L' := [some (.float (UInt32.ofNat 4)), some (.ref h.1), some (.ref h4.1), some (.int (s_9.1 + 6))]) rfl (m_o6 _) (Nat.le_of_ble_eq_true rfl) rfl rfl dL_law_1154 ?_
                                                refine j_goto (tgt := 18) dL_law_1157 rfl ?_
                                                cases hr
                                                exact j_weak (L' := [some (.float (UInt32.ofNat 4)), some (.ref h.1), some (.ref h4.1), some (.int (s_9.1 + 6))]) (And.intro rfl (And.intro rfl (And.intro rfl (And.intro rfl trivial)))) hk
                                              · rw [if_neg c320] at hr
                                                refine j_iconst (v := 0) rfl dL_law_802 ?_
                                                cases hr
                                                rw [show _ = _ from hk]
                                                exact j_ret dL_law_803 m_rk_z0
                                            · rw [if_neg o321] at hr
                                              cases hr
                                          · rw [if_neg o322] at hr
                                            cases hr
                                        · rw [if_neg c307] at hr
                                          by_cases c323 : k13 = 18
                                          · rw [if_pos c323] at hr
                                            refine j_tswIn (off := 771) (tgt := 804) dL_law_33 (by rw [c323]; decide) (by rw [c323]; decide) (by rw [c323]; rfl) rfl ?_
                                            refine j_aload_n (i := 1) rfl rfl dL_law_804 ?_
                                            refine j_tload_n (i := 0) rfl rfl dL_law_805 ?_
                                            refine j_iload_n (i := 3) rfl rfl dL_law_806 ?_
                                            refine j_iconst (v := 1) rfl dL_law_807 ?_
                                            refine j_iadd dL_law_808 ?_
                                            replace hr := m_bind hr; obtain ⟨x324, g325, hr⟩ := hr
                                            refine j_tial 4 (by decide) rfl dL_law_809 g325 ?_
                                            refine j_tload_n (i := 0) rfl rfl dL_law_810 ?_
                                            refine j_iload_n (i := 3) rfl rfl dL_law_811 ?_
                                            refine j_iconst (v := 2) rfl dL_law_812 ?_
                                            refine j_iadd dL_law_813 ?_
                                            replace hr := m_bind hr; obtain ⟨x326, g327, hr⟩ := hr
                                            refine j_tial 4 (by decide) rfl dL_law_814 g327 ?_
                                            by_cases o338 : m_ob s_9.2 h.1 8 = true
                                            · rw [if_pos o338] at hr
                                              replace hr := m_bind hr; obtain ⟨r329, g328, hr⟩ := hr
                                              refine j_callV (Y' := Y_X9_fees) (a := h.1) (as := [.int x324, .int x326]) (ci := 8) (T := TX9) (N := 8) ok_X9_fees [some (.ref h.1), some (.int x324), some (.int x326)] rfl rfl rfl tw_3_27 tw_3_28 tw_3_29 nn_X9_fees (Nat.le_of_ble_eq_true rfl) dL_law_815 o338 (j_X9_fees (by omega) g328) ?_
                                              refine j_aload_n (i := 2) rfl rfl dL_law_818 ?_
                                              refine j_tload_n (i := 0) rfl rfl dL_law_819 ?_
                                              refine j_iload_n (i := 3) rfl rfl dL_law_820 ?_
                                              refine j_iconst (v := 1) rfl dL_law_821 ?_
                                              refine j_iadd dL_law_822 ?_
                                              replace hr := m_bind hr; obtain ⟨x330, g331, hr⟩ := hr
                                              refine j_tial 4 (by decide) rfl dL_law_823 g331 ?_
                                              refine j_tload_n (i := 0) rfl rfl dL_law_824 ?_
                                              refine j_iload_n (i := 3) rfl rfl dL_law_825 ?_
                                              refine j_iconst (v := 2) rfl dL_law_826 ?_
                                              refine j_iadd dL_law_827 ?_
                                              replace hr := m_bind hr; obtain ⟨x332, g333, hr⟩ := hr
                                              refine j_tial 4 (by decide) rfl dL_law_828 g333 ?_
                                              by_cases o337 : m_ob s_9.2 h4.1 9 = true
                                              · rw [if_pos o337] at hr
                                                replace hr := m_bind hr; obtain ⟨r335, g334, hr⟩ := hr
                                                refine j_callV (Y' := Y_X10_fees) (a := h4.1) (as := [.int x330, .int x332]) (ci := 9) (T := TX10) (N := 30) ok_X10_fees [some (.ref h4.1), some (.int x330), some (.int x332), none, none] rfl rfl rfl tw_4_198 tw_4_199 tw_4_200 nn_X10_fees (Nat.le_of_ble_eq_true rfl) dL_law_829 o337 (j_X10_fees (by omega) g334) ?_
                                                refine j_ic_eq (tgt := 1154) dL_law_832 rfl (fun c336 => ?_) (fun c336 => ?_)
                                                · rw [if_pos c336] at hr
                                                  refine j_iinc (i := 3) (v := s_9.1 + 6) (L' := [some (.float (UInt32.ofNat 4)), some (.ref h.1), some (.ref h4.1), some (.int (s_9.1 + 6))]) rfl (m_o6 _) (Nat.le_of_ble_eq_true rfl) rfl rfl dL_law_1154 ?_
                                                  refine j_goto (tgt := 18) dL_law_1157 rfl ?_
                                                  cases hr
                                                  exact j_weak (L' := [some (.float (UInt32.ofNat 4)), some (.ref h.1), some (.ref h4.1), some (.int (s_9.1 + 6))]) (And.intro rfl (And.intro rfl (And.intro rfl (And.intro rfl trivial)))) hk
                                                · rw [if_neg c336] at hr
                                                  refine j_iconst (v := 0) rfl dL_law_835 ?_
                                                  cases hr
                                                  rw [show _ = _ from hk]
                                                  exact j_ret dL_law_836 m_rk_z0
                                              · rw [if_neg o337] at hr
                                                cases hr
                                            · rw [if_neg o338] at hr
                                              cases hr
                                          · rw [if_neg c323] at hr
                                            by_cases c339 : k13 = 19
                                            · rw [if_pos c339] at hr
                                              refine j_tswIn (off := 804) (tgt := 837) dL_law_33 (by rw [c339]; decide) (by rw [c339]; decide) (by rw [c339]; rfl) rfl ?_
                                              refine j_aload_n (i := 1) rfl rfl dL_law_837 ?_
                                              refine j_tload_n (i := 0) rfl rfl dL_law_838 ?_
                                              refine j_iload_n (i := 3) rfl rfl dL_law_839 ?_
                                              refine j_iconst (v := 1) rfl dL_law_840 ?_
                                              refine j_iadd dL_law_841 ?_
                                              replace hr := m_bind hr; obtain ⟨x340, g341, hr⟩ := hr
                                              refine j_tial 4 (by decide) rfl dL_law_842 g341 ?_
                                              refine j_tload_n (i := 0) rfl rfl dL_law_843 ?_
                                              refine j_iload_n (i := 3) rfl rfl dL_law_844 ?_
                                              refine j_iconst (v := 2) rfl dL_law_845 ?_
                                              refine j_iadd dL_law_846 ?_
                                              replace hr := m_bind hr; obtain ⟨x342, g343, hr⟩ := hr
                                              refine j_tial 4 (by decide) rfl dL_law_847 g343 ?_
                                              refine j_tload_n (i := 0) rfl rfl dL_law_848 ?_
                                              refine j_iload_n (i := 3) rfl rfl dL_law_849 ?_
                                              refine j_iconst (v := 3) rfl dL_law_850 ?_
                                              refine j_iadd dL_law_851 ?_
                                              replace hr := m_bind hr; obtain ⟨x344, g345, hr⟩ := hr
                                              refine j_tial 4 (by decide) rfl dL_law_852 g345 ?_
                                              refine j_tload_n (i := 0) rfl rfl dL_law_853 ?_
                                              refine j_iload_n (i := 3) rfl rfl dL_law_854 ?_
                                              refine j_iconst (v := 4) rfl dL_law_855 ?_
                                              refine j_iadd dL_law_856 ?_
                                              replace hr := m_bind hr; obtain ⟨x346, g347, hr⟩ := hr
                                              refine j_tial 4 (by decide) rfl dL_law_857 g347 ?_
                                              refine j_tload_n (i := 0) rfl rfl dL_law_858 ?_
                                              refine j_iload_n (i := 3) rfl rfl dL_law_859 ?_
                                              refine j_iconst (v := 5) rfl dL_law_860 ?_
                                              refine j_iadd dL_law_861 ?_
                                              replace hr := m_bind hr; obtain ⟨x348, g349, hr⟩ := hr
                                              refine j_tial 4 (by decide) rfl dL_law_862 g349 ?_
                                              by_cases o366 : m_ob s_9.2 h.1 8 = true
                                              · rw [if_pos o366] at hr
                                                replace hr := m_bind hr; obtain ⟨p351, g350, hr⟩ := hr
                                                refine j_callV (Y' := Y_X9_question) (a := h.1) (as := [.int x340, .int x342, .int x344, .int x346, .int x348]) (ci := 8) (T := TX9) (N := 8) ok_X9_question [some (.ref h.1), some (.int x340), some (.int x342), some (.int x344), some (.int x346), some (.int x348), none] rfl rfl rfl tw_3_35 tw_3_36 tw_3_37 nn_X9_question (Nat.le_of_ble_eq_true rfl) dL_law_863 o366 (j_X9_question (by omega) g350) ?_
                                                refine j_aload_n (i := 2) rfl rfl dL_law_866 ?_
                                                refine j_tload_n (i := 0) rfl rfl dL_law_867 ?_
                                                refine j_iload_n (i := 3) rfl rfl dL_law_868 ?_
                                                refine j_iconst (v := 1) rfl dL_law_869 ?_
                                                refine j_iadd dL_law_870 ?_
                                                replace hr := m_bind hr; obtain ⟨x352, g353, hr⟩ := hr
                                                refine j_tial 4 (by decide) rfl dL_law_871 g353 ?_
                                                refine j_tload_n (i := 0) rfl rfl dL_law_872 ?_
                                                refine j_iload_n (i := 3) rfl rfl dL_law_873 ?_
                                                refine j_iconst (v := 2) rfl dL_law_874 ?_
                                                refine j_iadd dL_law_875 ?_
                                                replace hr := m_bind hr; obtain ⟨x354, g355, hr⟩ := hr
                                                refine j_tial 4 (by decide) rfl dL_law_876 g355 ?_
                                                refine j_tload_n (i := 0) rfl rfl dL_law_877 ?_
                                                refine j_iload_n (i := 3) rfl rfl dL_law_878 ?_
                                                refine j_iconst (v := 3) rfl dL_law_879 ?_
                                                refine j_iadd dL_law_880 ?_
                                                replace hr := m_bind hr; obtain ⟨x356, g357, hr⟩ := hr
                                                refine j_tial 4 (by decide) rfl dL_law_881 g357 ?_
                                                refine j_tload_n (i := 0) rfl rfl dL_law_882 ?_
                                                refine j_iload_n (i := 3) rfl rfl dL_law_883 ?_
                                                refine j_iconst (v := 4) rfl dL_law_884 ?_
                                                refine j_iadd dL_law_885 ?_
                                                replace hr := m_bind hr; obtain ⟨x358, g359, hr⟩ := hr
                                                refine j_tial 4 (by decide) rfl dL_law_886 g359 ?_
                                                refine j_tload_n (i := 0) rfl rfl dL_law_887 ?_
                                                refine j_iload_n (i := 3) rfl rfl dL_law_888 ?_
                                                refine j_iconst (v := 5) rfl dL_law_889 ?_
                                                refine j_iadd dL_law_890 ?_
                                                replace hr := m_bind hr; obtain ⟨x360, g361, hr⟩ := hr
                                                refine j_tial 4 (by decide) rfl dL_law_891 g361 ?_
                                                by_cases o365 : m_ob p351.2 h4.1 9 = true
                                                · rw [if_pos o365] at hr
                                                  replace hr := m_bind hr; obtain ⟨p363, g362, hr⟩ := hr
                                                  refine j_callV (Y' := Y_X10_question) (a := h4.1) (as := [.int x352, .int x354, .int x356, .int x358, .int x360]) (ci := 9) (T := TX10) (N := 30) ok_X10_question [some (.ref h4.1), some (.int x352), some (.int x354), some (.int x356), some (.int x358), some (.int x360), none, none, none] rfl rfl rfl tw_4_202 tw_4_203 tw_4_204 nn_X10_question (Nat.le_of_ble_eq_true rfl) dL_law_892 o365 (j_X10_question (by omega) g362) ?_
                                                  refine j_ic_eq (tgt := 1154) dL_law_895 rfl (fun c364 => ?_) (fun c364 => ?_)
                                                  · rw [if_pos c364] at hr
                                                    refine j_iinc (i := 3) (v := s_9.1 + 6) (L' := [some (.float (UInt32.ofNat 4)), some (.ref h.1), some (.ref h4.1), some (.int (s_9.1 + 6))]) rfl (m_o6 _) (Nat.le_of_ble_eq_true rfl) rfl rfl dL_law_1154 ?_
                                                    refine j_goto (tgt := 18) dL_law_1157 rfl ?_
                                                    cases hr
                                                    exact j_weak (L' := [some (.float (UInt32.ofNat 4)), some (.ref h.1), some (.ref h4.1), some (.int (s_9.1 + 6))]) (And.intro rfl (And.intro rfl (And.intro rfl (And.intro rfl trivial)))) hk
                                                  · rw [if_neg c364] at hr
                                                    refine j_iconst (v := 0) rfl dL_law_898 ?_
                                                    cases hr
                                                    rw [show _ = _ from hk]
                                                    exact j_ret dL_law_899 m_rk_z0
                                                · rw [if_neg o365] at hr
                                                  cases hr
                                              · rw [if_neg o366] at hr
                                                cases hr
                                            · rw [if_neg c339] at hr
                                              by_cases c367 : k13 = 20
                                              · rw [if_pos c367] at hr
                                                refine j_tswIn (off := 867) (tgt := 900) dL_law_33 (by rw [c367]; decide) (by rw [c367]; decide) (by rw [c367]; rfl) rfl ?_
                                                refine j_aload_n (i := 1) rfl rfl dL_law_900 ?_
                                                refine j_tload_n (i := 0) rfl rfl dL_law_901 ?_
                                                refine j_iload_n (i := 3) rfl rfl dL_law_902 ?_
                                                refine j_iconst (v := 1) rfl dL_law_903 ?_
                                                refine j_iadd dL_law_904 ?_
                                                replace hr := m_bind hr; obtain ⟨x368, g369, hr⟩ := hr
                                                refine j_tial 4 (by decide) rfl dL_law_905 g369 ?_
                                                refine j_tload_n (i := 0) rfl rfl dL_law_906 ?_
                                                refine j_iload_n (i := 3) rfl rfl dL_law_907 ?_
                                                refine j_iconst (v := 2) rfl dL_law_908 ?_
                                                refine j_iadd dL_law_909 ?_
                                                replace hr := m_bind hr; obtain ⟨x370, g371, hr⟩ := hr
                                                refine j_tial 4 (by decide) rfl dL_law_910 g371 ?_
                                                by_cases o382 : m_ob s_9.2 h.1 8 = true
                                                · rw [if_pos o382] at hr
                                                  replace hr := m_bind hr; obtain ⟨p373, g372, hr⟩ := hr
                                                  refine j_callV (Y' := Y_X9_name) (a := h.1) (as := [.int x368, .int x370]) (ci := 8) (T := TX9) (N := 8) ok_X9_name [some (.ref h.1), some (.int x368), some (.int x370), none, none, none] rfl rfl rfl tw_3_81 tw_3_82 tw_3_83 nn_X9_name (Nat.le_of_ble_eq_true rfl) dL_law_911 o382 (j_X9_name (by omega) g372) ?_
                                                  refine j_aload_n (i := 2) rfl rfl dL_law_914 ?_
                                                  refine j_tload_n (i := 0) rfl rfl dL_law_915 ?_
                                                  refine j_iload_n (i := 3) rfl rfl dL_law_916 ?_
                                                  refine j_iconst (v := 1) rfl dL_law_917 ?_
                                                  refine j_iadd dL_law_918 ?_
                                                  replace hr := m_bind hr; obtain ⟨x374, g375, hr⟩ := hr
                                                  refine j_tial 4 (by decide) rfl dL_law_919 g375 ?_
                                                  refine j_tload_n (i := 0) rfl rfl dL_law_920 ?_
                                                  refine j_iload_n (i := 3) rfl rfl dL_law_921 ?_
                                                  refine j_iconst (v := 2) rfl dL_law_922 ?_
                                                  refine j_iadd dL_law_923 ?_
                                                  replace hr := m_bind hr; obtain ⟨x376, g377, hr⟩ := hr
                                                  refine j_tial 4 (by decide) rfl dL_law_924 g377 ?_
                                                  by_cases o381 : m_ob p373.2 h4.1 9 = true
                                                  · rw [if_pos o381] at hr
                                                    replace hr := m_bind hr; obtain ⟨p379, g378, hr⟩ := hr
                                                    refine j_callV (Y' := Y_X10_name) (a := h4.1) (as := [.int x374, .int x376]) (ci := 9) (T := TX10) (N := 30) ok_X10_name [some (.ref h4.1), some (.int x374), some (.int x376), none, none] rfl rfl rfl tw_4_209 tw_4_210 tw_4_211 nn_X10_name (Nat.le_of_ble_eq_true rfl) dL_law_925 o381 (j_X10_name (by omega) g378) ?_
                                                    refine j_ic_eq (tgt := 1154) dL_law_928 rfl (fun c380 => ?_) (fun c380 => ?_)
                                                    · rw [if_pos c380] at hr
                                                      refine j_iinc (i := 3) (v := s_9.1 + 6) (L' := [some (.float (UInt32.ofNat 4)), some (.ref h.1), some (.ref h4.1), some (.int (s_9.1 + 6))]) rfl (m_o6 _) (Nat.le_of_ble_eq_true rfl) rfl rfl dL_law_1154 ?_
                                                      refine j_goto (tgt := 18) dL_law_1157 rfl ?_
                                                      cases hr
                                                      exact j_weak (L' := [some (.float (UInt32.ofNat 4)), some (.ref h.1), some (.ref h4.1), some (.int (s_9.1 + 6))]) (And.intro rfl (And.intro rfl (And.intro rfl (And.intro rfl trivial)))) hk
                                                    · rw [if_neg c380] at hr
                                                      refine j_iconst (v := 0) rfl dL_law_931 ?_
                                                      cases hr
                                                      rw [show _ = _ from hk]
                                                      exact j_ret dL_law_932 m_rk_z0
                                                  · rw [if_neg o381] at hr
                                                    cases hr
                                                · rw [if_neg o382] at hr
                                                  cases hr
                                              · rw [if_neg c367] at hr
                                                by_cases c383 : k13 = 21
                                                · rw [if_pos c383] at hr
                                                  refine j_tswIn (off := 900) (tgt := 933) dL_law_33 (by rw [c383]; decide) (by rw [c383]; decide) (by rw [c383]; rfl) rfl ?_
                                                  refine j_aload_n (i := 1) rfl rfl dL_law_933 ?_
                                                  by_cases o390 : m_ob s_9.2 h.1 8 = true
                                                  · rw [if_pos o390] at hr
                                                    replace hr := m_bind hr; obtain ⟨r385, g384, hr⟩ := hr
                                                    refine j_callV (Y' := Y_X9_asked) (a := h.1) (as := []) (ci := 8) (T := TX9) (N := 8) ok_X9_asked [some (.ref h.1)] rfl rfl rfl tw_3_102 tw_3_103 tw_3_104 nn_X9_asked (Nat.le_of_ble_eq_true rfl) dL_law_934 o390 (j_X9_asked g384) ?_
                                                    refine j_aload_n (i := 2) rfl rfl dL_law_937 ?_
                                                    by_cases o389 : m_ob s_9.2 h4.1 9 = true
                                                    · rw [if_pos o389] at hr
                                                      replace hr := m_bind hr; obtain ⟨r387, g386, hr⟩ := hr
                                                      refine j_callV (Y' := Y_X10_asked) (a := h4.1) (as := []) (ci := 9) (T := TX10) (N := 30) ok_X10_asked [some (.ref h4.1)] rfl rfl rfl tw_4_217 tw_4_218 tw_4_219 nn_X10_asked (Nat.le_of_ble_eq_true rfl) dL_law_938 o389 (j_X10_asked g386) ?_
                                                      refine j_ic_eq (tgt := 1154) dL_law_941 rfl (fun c388 => ?_) (fun c388 => ?_)
                                                      · rw [if_pos c388] at hr
                                                        refine j_iinc (i := 3) (v := s_9.1 + 6) (L' := [some (.float (UInt32.ofNat 4)), some (.ref h.1), some (.ref h4.1), some (.int (s_9.1 + 6))]) rfl (m_o6 _) (Nat.le_of_ble_eq_true rfl) rfl rfl dL_law_1154 ?_
                                                        refine j_goto (tgt := 18) dL_law_1157 rfl ?_
                                                        cases hr
                                                        exact j_weak (L' := [some (.float (UInt32.ofNat 4)), some (.ref h.1), some (.ref h4.1), some (.int (s_9.1 + 6))]) (And.intro rfl (And.intro rfl (And.intro rfl (And.intro rfl trivial)))) hk
                                                      · rw [if_neg c388] at hr
                                                        refine j_iconst (v := 0) rfl dL_law_944 ?_
                                                        cases hr
                                                        rw [show _ = _ from hk]
                                                        exact j_ret dL_law_945 m_rk_z0
                                                    · rw [if_neg o389] at hr
                                                      cases hr
                                                  · rw [if_neg o390] at hr
                                                    cases hr
                                                · rw [if_neg c383] at hr
                                                  by_cases c391 : k13 = 22
                                                  · rw [if_pos c391] at hr
                                                    refine j_tswIn (off := 913) (tgt := 946) dL_law_33 (by rw [c391]; decide) (by rw [c391]; decide) (by rw [c391]; rfl) rfl ?_
                                                    refine j_aload_n (i := 1) rfl rfl dL_law_946 ?_
                                                    refine j_tload_n (i := 0) rfl rfl dL_law_947 ?_
                                                    refine j_iload_n (i := 3) rfl rfl dL_law_948 ?_
                                                    refine j_iconst (v := 1) rfl dL_law_949 ?_
                                                    refine j_iadd dL_law_950 ?_
                                                    replace hr := m_bind hr; obtain ⟨x392, g393, hr⟩ := hr
                                                    refine j_tial 4 (by decide) rfl dL_law_951 g393 ?_
                                                    refine j_tload_n (i := 0) rfl rfl dL_law_952 ?_
                                                    refine j_iload_n (i := 3) rfl rfl dL_law_953 ?_
                                                    refine j_iconst (v := 2) rfl dL_law_954 ?_
                                                    refine j_iadd dL_law_955 ?_
                                                    replace hr := m_bind hr; obtain ⟨x394, g395, hr⟩ := hr
                                                    refine j_tial 4 (by decide) rfl dL_law_956 g395 ?_
                                                    by_cases o406 : m_ob s_9.2 h.1 8 = true
                                                    · rw [if_pos o406] at hr
                                                      replace hr := m_bind hr; obtain ⟨p397, g396, hr⟩ := hr
                                                      refine j_callV (Y' := Y_X9_convert) (a := h.1) (as := [.int x392, .int x394]) (ci := 8) (T := TX9) (N := 8) ok_X9_convert [some (.ref h.1), some (.int x392), some (.int x394), none] rfl rfl rfl tw_3_106 tw_3_107 tw_3_108 nn_X9_convert (Nat.le_of_ble_eq_true rfl) dL_law_957 o406 (j_X9_convert (by omega) g396) ?_
                                                      refine j_aload_n (i := 2) rfl rfl dL_law_960 ?_
                                                      refine j_tload_n (i := 0) rfl rfl dL_law_961 ?_
                                                      refine j_iload_n (i := 3) rfl rfl dL_law_962 ?_
                                                      refine j_iconst (v := 1) rfl dL_law_963 ?_
                                                      refine j_iadd dL_law_964 ?_
                                                      replace hr := m_bind hr; obtain ⟨x398, g399, hr⟩ := hr
                                                      refine j_tial 4 (by decide) rfl dL_law_965 g399 ?_
                                                      refine j_tload_n (i := 0) rfl rfl dL_law_966 ?_
                                                      refine j_iload_n (i := 3) rfl rfl dL_law_967 ?_
                                                      refine j_iconst (v := 2) rfl dL_law_968 ?_
                                                      refine j_iadd dL_law_969 ?_
                                                      replace hr := m_bind hr; obtain ⟨x400, g401, hr⟩ := hr
                                                      refine j_tial 4 (by decide) rfl dL_law_970 g401 ?_
                                                      by_cases o405 : m_ob p397.2 h4.1 9 = true
                                                      · rw [if_pos o405] at hr
                                                        replace hr := m_bind hr; obtain ⟨p403, g402, hr⟩ := hr
                                                        refine j_callV (Y' := Y_X10_convert) (a := h4.1) (as := [.int x398, .int x400]) (ci := 9) (T := TX10) (N := 30) ok_X10_convert [some (.ref h4.1), some (.int x398), some (.int x400), none, none] rfl rfl rfl tw_4_221 tw_4_222 tw_4_223 nn_X10_convert (Nat.le_of_ble_eq_true rfl) dL_law_971 o405 (j_X10_convert (by omega) g402) ?_
                                                        refine j_ic_eq (tgt := 1154) dL_law_974 rfl (fun c404 => ?_) (fun c404 => ?_)
                                                        · rw [if_pos c404] at hr
                                                          refine j_iinc (i := 3) (v := s_9.1 + 6) (L' := [some (.float (UInt32.ofNat 4)), some (.ref h.1), some (.ref h4.1), some (.int (s_9.1 + 6))]) rfl (m_o6 _) (Nat.le_of_ble_eq_true rfl) rfl rfl dL_law_1154 ?_
                                                          refine j_goto (tgt := 18) dL_law_1157 rfl ?_
                                                          cases hr
                                                          exact j_weak (L' := [some (.float (UInt32.ofNat 4)), some (.ref h.1), some (.ref h4.1), some (.int (s_9.1 + 6))]) (And.intro rfl (And.intro rfl (And.intro rfl (And.intro rfl trivial)))) hk
                                                        · rw [if_neg c404] at hr
                                                          refine j_iconst (v := 0) rfl dL_law_977 ?_
                                                          cases hr
                                                          rw [show _ = _ from hk]
                                                          exact j_ret dL_law_978 m_rk_z0
                                                      · rw [if_neg o405] at hr
                                                        cases hr
                                                    · rw [if_neg o406] at hr
                                                      cases hr
                                                  · rw [if_neg c391] at hr
                                                    by_cases c407 : k13 = 23
                                                    · rw [if_pos c407] at hr
                                                      refine j_tswIn (off := 946) (tgt := 979) dL_law_33 (by rw [c407]; decide) (by rw [c407]; decide) (by rw [c407]; rfl) rfl ?_
                                                      refine j_aload_n (i := 1) rfl rfl dL_law_979 ?_
                                                      refine j_tload_n (i := 0) rfl rfl dL_law_980 ?_
                                                      refine j_iload_n (i := 3) rfl rfl dL_law_981 ?_
                                                      refine j_iconst (v := 1) rfl dL_law_982 ?_
                                                      refine j_iadd dL_law_983 ?_
                                                      replace hr := m_bind hr; obtain ⟨x408, g409, hr⟩ := hr
                                                      refine j_tial 4 (by decide) rfl dL_law_984 g409 ?_
                                                      refine j_tload_n (i := 0) rfl rfl dL_law_985 ?_
                                                      refine j_iload_n (i := 3) rfl rfl dL_law_986 ?_
                                                      refine j_iconst (v := 2) rfl dL_law_987 ?_
                                                      refine j_iadd dL_law_988 ?_
                                                      replace hr := m_bind hr; obtain ⟨x410, g411, hr⟩ := hr
                                                      refine j_tial 4 (by decide) rfl dL_law_989 g411 ?_
                                                      refine j_tload_n (i := 0) rfl rfl dL_law_990 ?_
                                                      refine j_iload_n (i := 3) rfl rfl dL_law_991 ?_
                                                      refine j_iconst (v := 3) rfl dL_law_992 ?_
                                                      refine j_iadd dL_law_993 ?_
                                                      replace hr := m_bind hr; obtain ⟨x412, g413, hr⟩ := hr
                                                      refine j_tial 4 (by decide) rfl dL_law_994 g413 ?_
                                                      by_cases o426 : m_ob s_9.2 h.1 8 = true
                                                      · rw [if_pos o426] at hr
                                                        replace hr := m_bind hr; obtain ⟨r415, g414, hr⟩ := hr
                                                        refine j_callV (Y' := Y_X9_find) (a := h.1) (as := [.int x408, .int x410, .int x412]) (ci := 8) (T := TX9) (N := 8) ok_X9_find [some (.ref h.1), some (.int x408), some (.int x410), some (.int x412)] rfl rfl rfl tw_3_122 tw_3_123 tw_3_124 nn_X9_find (Nat.le_of_ble_eq_true rfl) dL_law_995 o426 (j_X9_find (by omega) g414) ?_
                                                        refine j_aload_n (i := 2) rfl rfl dL_law_998 ?_
                                                        refine j_tload_n (i := 0) rfl rfl dL_law_999 ?_
                                                        refine j_iload_n (i := 3) rfl rfl dL_law_1000 ?_
                                                        refine j_iconst (v := 1) rfl dL_law_1001 ?_
                                                        refine j_iadd dL_law_1002 ?_
                                                        replace hr := m_bind hr; obtain ⟨x416, g417, hr⟩ := hr
                                                        refine j_tial 4 (by decide) rfl dL_law_1003 g417 ?_
                                                        refine j_tload_n (i := 0) rfl rfl dL_law_1004 ?_
                                                        refine j_iload_n (i := 3) rfl rfl dL_law_1005 ?_
                                                        refine j_iconst (v := 2) rfl dL_law_1006 ?_
                                                        refine j_iadd dL_law_1007 ?_
                                                        replace hr := m_bind hr; obtain ⟨x418, g419, hr⟩ := hr
                                                        refine j_tial 4 (by decide) rfl dL_law_1008 g419 ?_
                                                        refine j_tload_n (i := 0) rfl rfl dL_law_1009 ?_
                                                        refine j_iload_n (i := 3) rfl rfl dL_law_1010 ?_
                                                        refine j_iconst (v := 3) rfl dL_law_1011 ?_
                                                        refine j_iadd dL_law_1012 ?_
                                                        replace hr := m_bind hr; obtain ⟨x420, g421, hr⟩ := hr
                                                        refine j_tial 4 (by decide) rfl dL_law_1013 g421 ?_
                                                        by_cases o425 : m_ob s_9.2 h4.1 9 = true
                                                        · rw [if_pos o425] at hr
                                                          replace hr := m_bind hr; obtain ⟨r423, g422, hr⟩ := hr
                                                          refine j_callV (Y' := Y_X10_find) (a := h4.1) (as := [.int x416, .int x418, .int x420]) (ci := 9) (T := TX10) (N := 30) ok_X10_find [some (.ref h4.1), some (.int x416), some (.int x418), some (.int x420), none, none] rfl rfl rfl tw_4_225 tw_4_226 tw_4_227 nn_X10_find (Nat.le_of_ble_eq_true rfl) dL_law_1014 o425 (j_X10_find (by omega) g422) ?_
                                                          refine j_ic_eq (tgt := 1154) dL_law_1017 rfl (fun c424 => ?_) (fun c424 => ?_)
                                                          · rw [if_pos c424] at hr
                                                            refine j_iinc (i := 3) (v := s_9.1 + 6) (L' := [some (.float (UInt32.ofNat 4)), some (.ref h.1), some (.ref h4.1), some (.int (s_9.1 + 6))]) rfl (m_o6 _) (Nat.le_of_ble_eq_true rfl) rfl rfl dL_law_1154 ?_
                                                            refine j_goto (tgt := 18) dL_law_1157 rfl ?_
                                                            cases hr
                                                            exact j_weak (L' := [some (.float (UInt32.ofNat 4)), some (.ref h.1), some (.ref h4.1), some (.int (s_9.1 + 6))]) (And.intro rfl (And.intro rfl (And.intro rfl (And.intro rfl trivial)))) hk
                                                          · rw [if_neg c424] at hr
                                                            refine j_iconst (v := 0) rfl dL_law_1020 ?_
                                                            cases hr
                                                            rw [show _ = _ from hk]
                                                            exact j_ret dL_law_1021 m_rk_z0
                                                        · rw [if_neg o425] at hr
                                                          cases hr
                                                      · rw [if_neg o426] at hr
                                                        cases hr
                                                    · rw [if_neg c407] at hr
                                                      by_cases c427 : k13 = 24
                                                      · rw [if_pos c427] at hr
                                                        refine j_tswIn (off := 989) (tgt := 1022) dL_law_33 (by rw [c427]; decide) (by rw [c427]; decide) (by rw [c427]; rfl) rfl ?_
                                                        refine j_aload_n (i := 1) rfl rfl dL_law_1022 ?_
                                                        refine j_tload_n (i := 0) rfl rfl dL_law_1023 ?_
                                                        refine j_iload_n (i := 3) rfl rfl dL_law_1024 ?_
                                                        refine j_iconst (v := 1) rfl dL_law_1025 ?_
                                                        refine j_iadd dL_law_1026 ?_
                                                        replace hr := m_bind hr; obtain ⟨x428, g429, hr⟩ := hr
                                                        refine j_tial 4 (by decide) rfl dL_law_1027 g429 ?_
                                                        refine j_tload_n (i := 0) rfl rfl dL_law_1028 ?_
                                                        refine j_iload_n (i := 3) rfl rfl dL_law_1029 ?_
                                                        refine j_iconst (v := 2) rfl dL_law_1030 ?_
                                                        refine j_iadd dL_law_1031 ?_
                                                        replace hr := m_bind hr; obtain ⟨x430, g431, hr⟩ := hr
                                                        refine j_tial 4 (by decide) rfl dL_law_1032 g431 ?_
                                                        by_cases o442 : m_ob s_9.2 h.1 8 = true
                                                        · rw [if_pos o442] at hr
                                                          replace hr := m_bind hr; obtain ⟨r433, g432, hr⟩ := hr
                                                          refine j_callV (Y' := Y_X9_nth) (a := h.1) (as := [.int x428, .int x430]) (ci := 8) (T := TX9) (N := 8) ok_X9_nth [some (.ref h.1), some (.int x428), some (.int x430)] rfl rfl rfl tw_3_132 tw_3_133 tw_3_134 nn_X9_nth (Nat.le_of_ble_eq_true rfl) dL_law_1033 o442 (j_X9_nth (by omega) g432) ?_
                                                          refine j_aload_n (i := 2) rfl rfl dL_law_1036 ?_
                                                          refine j_tload_n (i := 0) rfl rfl dL_law_1037 ?_
                                                          refine j_iload_n (i := 3) rfl rfl dL_law_1038 ?_
                                                          refine j_iconst (v := 1) rfl dL_law_1039 ?_
                                                          refine j_iadd dL_law_1040 ?_
                                                          replace hr := m_bind hr; obtain ⟨x434, g435, hr⟩ := hr
                                                          refine j_tial 4 (by decide) rfl dL_law_1041 g435 ?_
                                                          refine j_tload_n (i := 0) rfl rfl dL_law_1042 ?_
                                                          refine j_iload_n (i := 3) rfl rfl dL_law_1043 ?_
                                                          refine j_iconst (v := 2) rfl dL_law_1044 ?_
                                                          refine j_iadd dL_law_1045 ?_
                                                          replace hr := m_bind hr; obtain ⟨x436, g437, hr⟩ := hr
                                                          refine j_tial 4 (by decide) rfl dL_law_1046 g437 ?_
                                                          by_cases o441 : m_ob s_9.2 h4.1 9 = true
                                                          · rw [if_pos o441] at hr
                                                            replace hr := m_bind hr; obtain ⟨r439, g438, hr⟩ := hr
                                                            refine j_callV (Y' := Y_X10_nth) (a := h4.1) (as := [.int x434, .int x436]) (ci := 9) (T := TX10) (N := 30) ok_X10_nth [some (.ref h4.1), some (.int x434), some (.int x436), none, none, none, none] rfl rfl rfl tw_4_229 tw_4_230 tw_4_231 nn_X10_nth (Nat.le_of_ble_eq_true rfl) dL_law_1047 o441 (j_X10_nth (by omega) g438) ?_
                                                            refine j_ic_eq (tgt := 1154) dL_law_1050 rfl (fun c440 => ?_) (fun c440 => ?_)
                                                            · rw [if_pos c440] at hr
                                                              refine j_iinc (i := 3) (v := s_9.1 + 6) (L' := [some (.float (UInt32.ofNat 4)), some (.ref h.1), some (.ref h4.1), some (.int (s_9.1 + 6))]) rfl (m_o6 _) (Nat.le_of_ble_eq_true rfl) rfl rfl dL_law_1154 ?_
                                                              refine j_goto (tgt := 18) dL_law_1157 rfl ?_
                                                              cases hr
                                                              exact j_weak (L' := [some (.float (UInt32.ofNat 4)), some (.ref h.1), some (.ref h4.1), some (.int (s_9.1 + 6))]) (And.intro rfl (And.intro rfl (And.intro rfl (And.intro rfl trivial)))) hk
                                                            · rw [if_neg c440] at hr
                                                              refine j_iconst (v := 0) rfl dL_law_1053 ?_
                                                              cases hr
                                                              rw [show _ = _ from hk]
                                                              exact j_ret dL_law_1054 m_rk_z0
                                                          · rw [if_neg o441] at hr
                                                            cases hr
                                                        · rw [if_neg o442] at hr
                                                          cases hr
                                                      · rw [if_neg c427] at hr
                                                        by_cases c443 : k13 = 25
                                                        · rw [if_pos c443] at hr
                                                          refine j_tswIn (off := 1022) (tgt := 1055) dL_law_33 (by rw [c443]; decide) (by rw [c443]; decide) (by rw [c443]; rfl) rfl ?_
                                                          refine j_aload_n (i := 1) rfl rfl dL_law_1055 ?_
                                                          refine j_tload_n (i := 0) rfl rfl dL_law_1056 ?_
                                                          refine j_iload_n (i := 3) rfl rfl dL_law_1057 ?_
                                                          refine j_iconst (v := 1) rfl dL_law_1058 ?_
                                                          refine j_iadd dL_law_1059 ?_
                                                          replace hr := m_bind hr; obtain ⟨x444, g445, hr⟩ := hr
                                                          refine j_tial 4 (by decide) rfl dL_law_1060 g445 ?_
                                                          refine j_tload_n (i := 0) rfl rfl dL_law_1061 ?_
                                                          refine j_iload_n (i := 3) rfl rfl dL_law_1062 ?_
                                                          refine j_iconst (v := 2) rfl dL_law_1063 ?_
                                                          refine j_iadd dL_law_1064 ?_
                                                          replace hr := m_bind hr; obtain ⟨x446, g447, hr⟩ := hr
                                                          refine j_tial 4 (by decide) rfl dL_law_1065 g447 ?_
                                                          refine j_tload_n (i := 0) rfl rfl dL_law_1066 ?_
                                                          refine j_iload_n (i := 3) rfl rfl dL_law_1067 ?_
                                                          refine j_iconst (v := 3) rfl dL_law_1068 ?_
                                                          refine j_iadd dL_law_1069 ?_
                                                          replace hr := m_bind hr; obtain ⟨x448, g449, hr⟩ := hr
                                                          refine j_tial 4 (by decide) rfl dL_law_1070 g449 ?_
                                                          by_cases o462 : m_ob s_9.2 h.1 8 = true
                                                          · rw [if_pos o462] at hr
                                                            replace hr := m_bind hr; obtain ⟨p451, g450, hr⟩ := hr
                                                            refine j_callV (Y' := Y_X9_shelf) (a := h.1) (as := [.int x444, .int x446, .int x448]) (ci := 8) (T := TX9) (N := 8) ok_X9_shelf [some (.ref h.1), some (.int x444), some (.int x446), some (.int x448), none] rfl rfl rfl tw_3_140 tw_3_141 tw_3_142 nn_X9_shelf (Nat.le_of_ble_eq_true rfl) dL_law_1071 o462 (j_X9_shelf (by omega) g450) ?_
                                                            refine j_aload_n (i := 2) rfl rfl dL_law_1074 ?_
                                                            refine j_tload_n (i := 0) rfl rfl dL_law_1075 ?_
                                                            refine j_iload_n (i := 3) rfl rfl dL_law_1076 ?_
                                                            refine j_iconst (v := 1) rfl dL_law_1077 ?_
                                                            refine j_iadd dL_law_1078 ?_
                                                            replace hr := m_bind hr; obtain ⟨x452, g453, hr⟩ := hr
                                                            refine j_tial 4 (by decide) rfl dL_law_1079 g453 ?_
                                                            refine j_tload_n (i := 0) rfl rfl dL_law_1080 ?_
                                                            refine j_iload_n (i := 3) rfl rfl dL_law_1081 ?_
                                                            refine j_iconst (v := 2) rfl dL_law_1082 ?_
                                                            refine j_iadd dL_law_1083 ?_
                                                            replace hr := m_bind hr; obtain ⟨x454, g455, hr⟩ := hr
                                                            refine j_tial 4 (by decide) rfl dL_law_1084 g455 ?_
                                                            refine j_tload_n (i := 0) rfl rfl dL_law_1085 ?_
                                                            refine j_iload_n (i := 3) rfl rfl dL_law_1086 ?_
                                                            refine j_iconst (v := 3) rfl dL_law_1087 ?_
                                                            refine j_iadd dL_law_1088 ?_
                                                            replace hr := m_bind hr; obtain ⟨x456, g457, hr⟩ := hr
                                                            refine j_tial 4 (by decide) rfl dL_law_1089 g457 ?_
                                                            by_cases o461 : m_ob p451.2 h4.1 9 = true
                                                            · rw [if_pos o461] at hr
                                                              replace hr := m_bind hr; obtain ⟨p459, g458, hr⟩ := hr
                                                              refine j_callV (Y' := Y_X10_shelf) (a := h4.1) (as := [.int x452, .int x454, .int x456]) (ci := 9) (T := TX10) (N := 30) ok_X10_shelf [some (.ref h4.1), some (.int x452), some (.int x454), some (.int x456), none] rfl rfl rfl tw_4_233 tw_4_234 tw_4_235 nn_X10_shelf (Nat.le_of_ble_eq_true rfl) dL_law_1090 o461 (j_X10_shelf (by omega) g458) ?_
                                                              refine j_ic_eq (tgt := 1154) dL_law_1093 rfl (fun c460 => ?_) (fun c460 => ?_)
                                                              · rw [if_pos c460] at hr
                                                                refine j_iinc (i := 3) (v := s_9.1 + 6) (L' := [some (.float (UInt32.ofNat 4)), some (.ref h.1), some (.ref h4.1), some (.int (s_9.1 + 6))]) rfl (m_o6 _) (Nat.le_of_ble_eq_true rfl) rfl rfl dL_law_1154 ?_
                                                                refine j_goto (tgt := 18) dL_law_1157 rfl ?_
                                                                cases hr
                                                                exact j_weak (L' := [some (.float (UInt32.ofNat 4)), some (.ref h.1), some (.ref h4.1), some (.int (s_9.1 + 6))]) (And.intro rfl (And.intro rfl (And.intro rfl (And.intro rfl trivial)))) hk
                                                              · rw [if_neg c460] at hr
                                                                refine j_iconst (v := 0) rfl dL_law_1096 ?_
                                                                cases hr
                                                                rw [show _ = _ from hk]
                                                                exact j_ret dL_law_1097 m_rk_z0
                                                            · rw [if_neg o461] at hr
                                                              cases hr
                                                          · rw [if_neg o462] at hr
                                                            cases hr
                                                        · rw [if_neg c443] at hr
                                                          by_cases c463 : k13 = 26
                                                          · rw [if_pos c463] at hr
                                                            refine j_tswIn (off := 1065) (tgt := 1098) dL_law_33 (by rw [c463]; decide) (by rw [c463]; decide) (by rw [c463]; rfl) rfl ?_
                                                            refine j_aload_n (i := 1) rfl rfl dL_law_1098 ?_
                                                            refine j_tload_n (i := 0) rfl rfl dL_law_1099 ?_
                                                            refine j_iload_n (i := 3) rfl rfl dL_law_1100 ?_
                                                            refine j_iconst (v := 1) rfl dL_law_1101 ?_
                                                            refine j_iadd dL_law_1102 ?_
                                                            replace hr := m_bind hr; obtain ⟨x464, g465, hr⟩ := hr
                                                            refine j_tial 4 (by decide) rfl dL_law_1103 g465 ?_
                                                            refine j_tload_n (i := 0) rfl rfl dL_law_1104 ?_
                                                            refine j_iload_n (i := 3) rfl rfl dL_law_1105 ?_
                                                            refine j_iconst (v := 2) rfl dL_law_1106 ?_
                                                            refine j_iadd dL_law_1107 ?_
                                                            replace hr := m_bind hr; obtain ⟨x466, g467, hr⟩ := hr
                                                            refine j_tial 4 (by decide) rfl dL_law_1108 g467 ?_
                                                            by_cases o478 : m_ob s_9.2 h.1 8 = true
                                                            · rw [if_pos o478] at hr
                                                              replace hr := m_bind hr; obtain ⟨p469, g468, hr⟩ := hr
                                                              refine j_callV (Y' := Y_X9_move) (a := h.1) (as := [.int x464, .int x466]) (ci := 8) (T := TX9) (N := 8) ok_X9_move [some (.ref h.1), some (.int x464), some (.int x466), none, none] rfl rfl rfl tw_3_149 tw_3_150 tw_3_151 nn_X9_move (Nat.le_of_ble_eq_true rfl) dL_law_1109 o478 (j_X9_move (by omega) g468) ?_
                                                              refine j_aload_n (i := 2) rfl rfl dL_law_1112 ?_
                                                              refine j_tload_n (i := 0) rfl rfl dL_law_1113 ?_
                                                              refine j_iload_n (i := 3) rfl rfl dL_law_1114 ?_
                                                              refine j_iconst (v := 1) rfl dL_law_1115 ?_
                                                              refine j_iadd dL_law_1116 ?_
                                                              replace hr := m_bind hr; obtain ⟨x470, g471, hr⟩ := hr
                                                              refine j_tial 4 (by decide) rfl dL_law_1117 g471 ?_
                                                              refine j_tload_n (i := 0) rfl rfl dL_law_1118 ?_
                                                              refine j_iload_n (i := 3) rfl rfl dL_law_1119 ?_
                                                              refine j_iconst (v := 2) rfl dL_law_1120 ?_
                                                              refine j_iadd dL_law_1121 ?_
                                                              replace hr := m_bind hr; obtain ⟨x472, g473, hr⟩ := hr
                                                              refine j_tial 4 (by decide) rfl dL_law_1122 g473 ?_
                                                              by_cases o477 : m_ob p469.2 h4.1 9 = true
                                                              · rw [if_pos o477] at hr
                                                                replace hr := m_bind hr; obtain ⟨p475, g474, hr⟩ := hr
                                                                refine j_callV (Y' := Y_X10_move) (a := h4.1) (as := [.int x470, .int x472]) (ci := 9) (T := TX10) (N := 30) ok_X10_move [some (.ref h4.1), some (.int x470), some (.int x472)] rfl rfl rfl tw_4_238 tw_4_239 tw_5_0 nn_X10_move (Nat.le_of_ble_eq_true rfl) dL_law_1123 o477 (j_X10_move (by omega) g474) ?_
                                                                refine j_ic_eq (tgt := 1154) dL_law_1126 rfl (fun c476 => ?_) (fun c476 => ?_)
                                                                · rw [if_pos c476] at hr
                                                                  refine j_iinc (i := 3) (v := s_9.1 + 6) (L' := [some (.float (UInt32.ofNat 4)), some (.ref h.1), some (.ref h4.1), some (.int (s_9.1 + 6))]) rfl (m_o6 _) (Nat.le_of_ble_eq_true rfl) rfl rfl dL_law_1154 ?_
                                                                  refine j_goto (tgt := 18) dL_law_1157 rfl ?_
                                                                  cases hr
                                                                  exact j_weak (L' := [some (.float (UInt32.ofNat 4)), some (.ref h.1), some (.ref h4.1), some (.int (s_9.1 + 6))]) (And.intro rfl (And.intro rfl (And.intro rfl (And.intro rfl trivial)))) hk
                                                                · rw [if_neg c476] at hr
                                                                  refine j_iconst (v := 0) rfl dL_law_1129 ?_
                                                                  cases hr
                                                                  rw [show _ = _ from hk]
                                                                  exact j_ret dL_law_1130 m_rk_z0
                                                              · rw [if_neg o477] at hr
                                                                cases hr
                                                            · rw [if_neg o478] at hr
                                                              cases hr
                                                          · rw [if_neg c463] at hr
                                                            by_cases c479 : k13 = 27
                                                            · rw [if_pos c479] at hr
                                                              refine j_tswIn (off := 1098) (tgt := 1131) dL_law_33 (by rw [c479]; decide) (by rw [c479]; decide) (by rw [c479]; rfl) rfl ?_
                                                              refine j_aload_n (i := 1) rfl rfl dL_law_1131 ?_
                                                              refine j_tload_n (i := 0) rfl rfl dL_law_1132 ?_
                                                              refine j_iload_n (i := 3) rfl rfl dL_law_1133 ?_
                                                              refine j_iconst (v := 1) rfl dL_law_1134 ?_
                                                              refine j_iadd dL_law_1135 ?_
                                                              replace hr := m_bind hr; obtain ⟨x480, g481, hr⟩ := hr
                                                              refine j_tial 4 (by decide) rfl dL_law_1136 g481 ?_
                                                              by_cases o490 : m_ob s_9.2 h.1 8 = true
                                                              · rw [if_pos o490] at hr
                                                                replace hr := m_bind hr; obtain ⟨r483, g482, hr⟩ := hr
                                                                refine j_callV (Y' := Y_X9_count) (a := h.1) (as := [.int x480]) (ci := 8) (T := TX9) (N := 8) ok_X9_count [some (.ref h.1), some (.int x480)] rfl rfl rfl tw_3_161 tw_3_162 tw_3_163 nn_X9_count (Nat.le_of_ble_eq_true rfl) dL_law_1137 o490 (j_X9_count (by omega) g482) ?_
                                                                refine j_aload_n (i := 2) rfl rfl dL_law_1140 ?_
                                                                refine j_tload_n (i := 0) rfl rfl dL_law_1141 ?_
                                                                refine j_iload_n (i := 3) rfl rfl dL_law_1142 ?_
                                                                refine j_iconst (v := 1) rfl dL_law_1143 ?_
                                                                refine j_iadd dL_law_1144 ?_
                                                                replace hr := m_bind hr; obtain ⟨x484, g485, hr⟩ := hr
                                                                refine j_tial 4 (by decide) rfl dL_law_1145 g485 ?_
                                                                by_cases o489 : m_ob s_9.2 h4.1 9 = true
                                                                · rw [if_pos o489] at hr
                                                                  replace hr := m_bind hr; obtain ⟨r487, g486, hr⟩ := hr
                                                                  refine j_callV (Y' := Y_X10_count) (a := h4.1) (as := [.int x484]) (ci := 9) (T := TX10) (N := 30) ok_X10_count [some (.ref h4.1), some (.int x484), none, none] rfl rfl rfl tw_5_6 tw_5_7 tw_5_8 nn_X10_count (Nat.le_of_ble_eq_true rfl) dL_law_1146 o489 (j_X10_count g486) ?_
                                                                  refine j_ic_eq (tgt := 1154) dL_law_1149 rfl (fun c488 => ?_) (fun c488 => ?_)
                                                                  · rw [if_pos c488] at hr
                                                                    refine j_iinc (i := 3) (v := s_9.1 + 6) (L' := [some (.float (UInt32.ofNat 4)), some (.ref h.1), some (.ref h4.1), some (.int (s_9.1 + 6))]) rfl (m_o6 _) (Nat.le_of_ble_eq_true rfl) rfl rfl dL_law_1154 ?_
                                                                    refine j_goto (tgt := 18) dL_law_1157 rfl ?_
                                                                    cases hr
                                                                    exact j_weak (L' := [some (.float (UInt32.ofNat 4)), some (.ref h.1), some (.ref h4.1), some (.int (s_9.1 + 6))]) (And.intro rfl (And.intro rfl (And.intro rfl (And.intro rfl trivial)))) hk
                                                                  · rw [if_neg c488] at hr
                                                                    refine j_iconst (v := 0) rfl dL_law_1152 ?_
                                                                    cases hr
                                                                    rw [show _ = _ from hk]
                                                                    exact j_ret dL_law_1153 m_rk_z0
                                                                · rw [if_neg o489] at hr
                                                                  cases hr
                                                              · rw [if_neg o490] at hr
                                                                cases hr
                                                            · rw [if_neg c479] at hr
                                                              refine j_tswOut (tgt := 1154) dL_law_33 (by have := m_sw (k := 0) (by decide) c15; have := m_sw (k := 1) (by decide) c35; have := m_sw (k := 2) (by decide) c51; have := m_sw (k := 3) (by decide) c71; have := m_sw (k := 4) (by decide) c87; have := m_sw (k := 5) (by decide) c103; have := m_sw (k := 6) (by decide) c119; have := m_sw (k := 7) (by decide) c135; have := m_sw (k := 8) (by decide) c151; have := m_sw (k := 9) (by decide) c167; have := m_sw (k := 10) (by decide) c187; have := m_sw (k := 11) (by decide) c207; have := m_sw (k := 12) (by decide) c223; have := m_sw (k := 13) (by decide) c239; have := m_sw (k := 14) (by decide) c259; have := m_sw (k := 15) (by decide) c279; have := m_sw (k := 16) (by decide) c295; have := m_sw (k := 17) (by decide) c307; have := m_sw (k := 18) (by decide) c323; have := m_sw (k := 19) (by decide) c339; have := m_sw (k := 20) (by decide) c367; have := m_sw (k := 21) (by decide) c383; have := m_sw (k := 22) (by decide) c391; have := m_sw (k := 23) (by decide) c407; have := m_sw (k := 24) (by decide) c427; have := m_sw (k := 25) (by decide) c443; have := m_sw (k := 26) (by decide) c463; have := m_sw (k := 27) (by decide) c479; omega) rfl ?_
                                                              refine j_iinc (i := 3) (v := s_9.1 + 6) (L' := [some (.float (UInt32.ofNat 4)), some (.ref h.1), some (.ref h4.1), some (.int (s_9.1 + 6))]) rfl (m_o6 _) (Nat.le_of_ble_eq_true rfl) rfl rfl dL_law_1154 ?_
                                                              refine j_goto (tgt := 18) dL_law_1157 rfl ?_
                                                              cases hr
                                                              exact j_weak (L' := [some (.float (UInt32.ofNat 4)), some (.ref h.1), some (.ref h4.1), some (.int (s_9.1 + 6))]) (And.intro rfl (And.intro rfl (And.intro rfl (And.intro rfl trivial)))) hk
  · cases e491 with
    | inl x492 =>
      dsimp only at hr
      dsimp only
      refine j_iconst (v := 1) rfl dL_law_1160 ?_
      cases hr
      exact j_ret dL_law_1161 m_rk_z1
    | inr v494 =>
      dsimp only at hr
      cases hr
      rfl
