def fL_law_L18 (L : Nat) (A : Nat → Int) : Nat → Int → SS → Option (Nat × SS)
  | 0, _, _ => none
  | n + 1, l3, S =>
    if (w32 (((L : Int)) - 6)) < l3 then (
      some (0, S)
    ) else (
      rdS L A l3 fun v1 =>
      if jand v1 63 = 0 then (
        rdS L A (w32 (l3 + 1)) fun v4 =>
        rdS L A (w32 (l3 + 2)) fun v6 =>
        rdS L A (w32 (l3 + 3)) fun v8 =>
        rdS L A (w32 (l3 + 4)) fun v10 =>
        rdS L A (w32 (l3 + 5)) fun v12 =>
        Option.bind (fX11_feed v4 v6 v8 v10 v12 S) fun q14 =>
        rdS L A (w32 (l3 + 1)) fun v15 =>
        rdS L A (w32 (l3 + 2)) fun v17 =>
        rdS L A (w32 (l3 + 3)) fun v19 =>
        rdS L A (w32 (l3 + 4)) fun v21 =>
        rdS L A (w32 (l3 + 5)) fun v23 =>
        Option.bind (fX12_feed v15 v17 v19 v21 v23 q14.2) fun q25 =>
        if q14.1 = q25.1 then (
          lt (w32 (l3 + 6)) fun x26 =>
          fL_law_L18 L A n x26 q25.2
        ) else (
          some (1, q25.2)
        )
      ) else (
        if jand v1 63 = 1 then (
          rdS L A (w32 (l3 + 1)) fun v29 =>
          Option.bind (fX11_town v29 S) fun q31 =>
          rdS L A (w32 (l3 + 1)) fun v32 =>
          Option.bind (fX12_town v32 q31.2) fun q34 =>
          if q31.1 = q34.1 then (
            lt (w32 (l3 + 6)) fun x35 =>
            fL_law_L18 L A n x35 q34.2
          ) else (
            some (1, q34.2)
          )
        ) else (
          if jand v1 63 = 2 then (
            rdS L A (w32 (l3 + 1)) fun v38 =>
            Option.bind (fX11_fault v38 S) fun q40 =>
            rdS L A (w32 (l3 + 1)) fun v41 =>
            Option.bind (fX12_fault v41 S) fun q43 =>
            if q40 = q43.1 then (
              lt (w32 (l3 + 6)) fun x44 =>
              fL_law_L18 L A n x44 q43.2
            ) else (
              some (1, q43.2)
            )
          ) else (
            if jand v1 63 = 3 then (
              rdS L A (w32 (l3 + 1)) fun v47 =>
              rdS L A (w32 (l3 + 2)) fun v49 =>
              Option.bind (fX11_street v47 v49 S) fun q51 =>
              rdS L A (w32 (l3 + 1)) fun v52 =>
              rdS L A (w32 (l3 + 2)) fun v54 =>
              Option.bind (fX12_street v52 v54 S) fun q56 =>
              if q51 = q56.1 then (
                lt (w32 (l3 + 6)) fun x57 =>
                fL_law_L18 L A n x57 q56.2
              ) else (
                some (1, q56.2)
              )
            ) else (
              if jand v1 63 = 4 then (
                rdS L A (w32 (l3 + 1)) fun v60 =>
                rdS L A (w32 (l3 + 2)) fun v62 =>
                Option.bind (fX11_goer v60 v62 S) fun q64 =>
                rdS L A (w32 (l3 + 1)) fun v65 =>
                rdS L A (w32 (l3 + 2)) fun v67 =>
                Option.bind (fX12_goer v65 v67 q64.2) fun q69 =>
                if q64.1 = q69.1 then (
                  lt (w32 (l3 + 6)) fun x70 =>
                  fL_law_L18 L A n x70 q69.2
                ) else (
                  some (1, q69.2)
                )
              ) else (
                if jand v1 63 = 5 then (
                  rdS L A (w32 (l3 + 1)) fun v73 =>
                  rdS L A (w32 (l3 + 2)) fun v75 =>
                  Option.bind (fX11_why v73 v75 S) fun q77 =>
                  rdS L A (w32 (l3 + 1)) fun v78 =>
                  rdS L A (w32 (l3 + 2)) fun v80 =>
                  Option.bind (fX12_why v78 v80 q77.2) fun q82 =>
                  if q77.1 = q82.1 then (
                    lt (w32 (l3 + 6)) fun x83 =>
                    fL_law_L18 L A n x83 q82.2
                  ) else (
                    some (1, q82.2)
                  )
                ) else (
                  if jand v1 63 = 6 then (
                    rdS L A (w32 (l3 + 1)) fun v86 =>
                    rdS L A (w32 (l3 + 2)) fun v88 =>
                    rdS L A (w32 (l3 + 3)) fun v90 =>
                    Option.bind (fX11_by v86 v88 v90 S) fun q92 =>
                    rdS L A (w32 (l3 + 1)) fun v93 =>
                    rdS L A (w32 (l3 + 2)) fun v95 =>
                    rdS L A (w32 (l3 + 3)) fun v97 =>
                    Option.bind (fX12_by v93 v95 v97 q92.2) fun q99 =>
                    if q92.1 = q99.1 then (
                      lt (w32 (l3 + 6)) fun x100 =>
                      fL_law_L18 L A n x100 q99.2
                    ) else (
                      some (1, q99.2)
                    )
                  ) else (
                    if jand v1 63 = 7 then (
                      rdS L A (w32 (l3 + 1)) fun v103 =>
                      rdS L A (w32 (l3 + 2)) fun v105 =>
                      Option.bind (fX11_go v103 v105 S) fun q107 =>
                      rdS L A (w32 (l3 + 1)) fun v108 =>
                      rdS L A (w32 (l3 + 2)) fun v110 =>
                      Option.bind (fX12_go v108 v110 q107.2) fun q112 =>
                      if q107.1 = q112.1 then (
                        lt (w32 (l3 + 6)) fun x113 =>
                        fL_law_L18 L A n x113 q112.2
                      ) else (
                        some (1, q112.2)
                      )
                    ) else (
                      if jand v1 63 = 8 then (
                        rdS L A (w32 (l3 + 1)) fun v116 =>
                        rdS L A (w32 (l3 + 2)) fun v118 =>
                        Option.bind (fX11_sign v116 v118 S) fun q120 =>
                        rdS L A (w32 (l3 + 1)) fun v121 =>
                        rdS L A (w32 (l3 + 2)) fun v123 =>
                        Option.bind (fX12_sign v121 v123 q120.2) fun q125 =>
                        if q120.1 = q125.1 then (
                          lt (w32 (l3 + 6)) fun x126 =>
                          fL_law_L18 L A n x126 q125.2
                        ) else (
                          some (1, q125.2)
                        )
                      ) else (
                        if jand v1 63 = 9 then (
                          rdS L A (w32 (l3 + 1)) fun v129 =>
                          Option.bind (fX11_bollards v129 S) fun q131 =>
                          rdS L A (w32 (l3 + 1)) fun v132 =>
                          Option.bind (fX12_bollards v132 q131.2) fun q134 =>
                          if q131.1 = q134.1 then (
                            lt (w32 (l3 + 6)) fun x135 =>
                            fL_law_L18 L A n x135 q134.2
                          ) else (
                            some (1, q134.2)
                          )
                        ) else (
                          if jand v1 63 = 10 then (
                            rdS L A (w32 (l3 + 1)) fun v138 =>
                            rdS L A (w32 (l3 + 2)) fun v140 =>
                            rdS L A (w32 (l3 + 3)) fun v142 =>
                            Option.bind (fX11_put v138 v140 v142 S) fun q144 =>
                            rdS L A (w32 (l3 + 1)) fun v145 =>
                            rdS L A (w32 (l3 + 2)) fun v147 =>
                            rdS L A (w32 (l3 + 3)) fun v149 =>
                            Option.bind (fX12_put v145 v147 v149 q144.2) fun q151 =>
                            if q144.1 = q151.1 then (
                              lt (w32 (l3 + 6)) fun x152 =>
                              fL_law_L18 L A n x152 q151.2
                            ) else (
                              some (1, q151.2)
                            )
                          ) else (
                            if jand v1 63 = 11 then (
                              rdS L A (w32 (l3 + 1)) fun v155 =>
                              Option.bind (fX11_undo v155 S) fun q157 =>
                              rdS L A (w32 (l3 + 1)) fun v158 =>
                              Option.bind (fX12_undo v158 q157.2) fun q160 =>
                              if q157.1 = q160.1 then (
                                lt (w32 (l3 + 6)) fun x161 =>
                                fL_law_L18 L A n x161 q160.2
                              ) else (
                                some (1, q160.2)
                              )
                            ) else (
                              if jand v1 63 = 12 then (
                                rdS L A (w32 (l3 + 1)) fun v164 =>
                                rdS L A (w32 (l3 + 2)) fun v166 =>
                                Option.bind (fX11_judge v164 v166 S) fun q168 =>
                                rdS L A (w32 (l3 + 1)) fun v169 =>
                                rdS L A (w32 (l3 + 2)) fun v171 =>
                                Option.bind (fX12_judge v169 v171 q168.2) fun q173 =>
                                if q168.1 = q173.1 then (
                                  lt (w32 (l3 + 6)) fun x174 =>
                                  fL_law_L18 L A n x174 q173.2
                                ) else (
                                  some (1, q173.2)
                                )
                              ) else (
                                if jand v1 63 = 13 then (
                                  rdS L A (w32 (l3 + 1)) fun v177 =>
                                  Option.bind (fX11_perform v177 S) fun q179 =>
                                  rdS L A (w32 (l3 + 1)) fun v180 =>
                                  Option.bind (fX12_perform v180 q179.2) fun q182 =>
                                  if q179.1 = q182.1 then (
                                    lt (w32 (l3 + 6)) fun x183 =>
                                    fL_law_L18 L A n x183 q182.2
                                  ) else (
                                    some (1, q182.2)
                                  )
                                ) else (
                                  if jand v1 63 = 14 then (
                                    rdS L A (w32 (l3 + 1)) fun v186 =>
                                    rdS L A (w32 (l3 + 2)) fun v188 =>
                                    Option.bind (fX11_day v186 v188 S) fun q190 =>
                                    rdS L A (w32 (l3 + 1)) fun v191 =>
                                    rdS L A (w32 (l3 + 2)) fun v193 =>
                                    Option.bind (fX12_day v191 v193 q190.2) fun q195 =>
                                    if q190.1 = q195.1 then (
                                      lt (w32 (l3 + 6)) fun x196 =>
                                      fL_law_L18 L A n x196 q195.2
                                    ) else (
                                      some (1, q195.2)
                                    )
                                  ) else (
                                    if jand v1 63 = 15 then (
                                      rdS L A (w32 (l3 + 1)) fun v199 =>
                                      rdS L A (w32 (l3 + 2)) fun v201 =>
                                      rdS L A (w32 (l3 + 3)) fun v203 =>
                                      Option.bind (fX11_soonest v199 v201 v203 S) fun q205 =>
                                      rdS L A (w32 (l3 + 1)) fun v206 =>
                                      rdS L A (w32 (l3 + 2)) fun v208 =>
                                      rdS L A (w32 (l3 + 3)) fun v210 =>
                                      Option.bind (fX12_soonest v206 v208 v210 q205.2) fun q212 =>
                                      if q205.1 = q212.1 then (
                                        lt (w32 (l3 + 6)) fun x213 =>
                                        fL_law_L18 L A n x213 q212.2
                                      ) else (
                                        some (1, q212.2)
                                      )
                                    ) else (
                                      if jand v1 63 = 16 then (
                                        rdS L A (w32 (l3 + 1)) fun v216 =>
                                        rdS L A (w32 (l3 + 2)) fun v218 =>
                                        rdS L A (w32 (l3 + 3)) fun v220 =>
                                        rdS L A (w32 (l3 + 4)) fun v222 =>
                                        Option.bind (fX11_way v216 v218 v220 v222 S) fun q224 =>
                                        rdS L A (w32 (l3 + 1)) fun v225 =>
                                        rdS L A (w32 (l3 + 2)) fun v227 =>
                                        rdS L A (w32 (l3 + 3)) fun v229 =>
                                        rdS L A (w32 (l3 + 4)) fun v231 =>
                                        Option.bind (fX12_way v225 v227 v229 v231 q224.2) fun q233 =>
                                        if q224.1 = q233.1 then (
                                          lt (w32 (l3 + 6)) fun x234 =>
                                          fL_law_L18 L A n x234 q233.2
                                        ) else (
                                          some (1, q233.2)
                                        )
                                      ) else (
                                        if jand v1 63 = 17 then (
                                          rdS L A (w32 (l3 + 1)) fun v237 =>
                                          rdS L A (w32 (l3 + 2)) fun v239 =>
                                          rdS L A (w32 (l3 + 3)) fun v241 =>
                                          rdS L A (w32 (l3 + 4)) fun v243 =>
                                          Option.bind (fX11_rows v237 v239 v241 v243 S) fun q245 =>
                                          rdS L A (w32 (l3 + 1)) fun v246 =>
                                          rdS L A (w32 (l3 + 2)) fun v248 =>
                                          rdS L A (w32 (l3 + 3)) fun v250 =>
                                          rdS L A (w32 (l3 + 4)) fun v252 =>
                                          Option.bind (fX12_rows v246 v248 v250 v252 q245.2) fun q254 =>
                                          if (lc q245.1 q254.1) = 0 then (
                                            lt (w32 (l3 + 6)) fun x255 =>
                                            fL_law_L18 L A n x255 q254.2
                                          ) else (
                                            some (1, q254.2)
                                          )
                                        ) else (
                                          if jand v1 63 = 18 then (
                                            rdS L A (w32 (l3 + 1)) fun v258 =>
                                            rdS L A (w32 (l3 + 2)) fun v260 =>
                                            Option.bind (fX11_when v258 v260 S) fun q262 =>
                                            rdS L A (w32 (l3 + 1)) fun v263 =>
                                            rdS L A (w32 (l3 + 2)) fun v265 =>
                                            Option.bind (fX12_when v263 v265 q262.2) fun q267 =>
                                            if q262.1 = q267.1 then (
                                              lt (w32 (l3 + 6)) fun x268 =>
                                              fL_law_L18 L A n x268 q267.2
                                            ) else (
                                              some (1, q267.2)
                                            )
                                          ) else (
                                            if jand v1 63 = 19 then (
                                              rdS L A (w32 (l3 + 1)) fun v271 =>
                                              rdS L A (w32 (l3 + 2)) fun v273 =>
                                              Option.bind (fX11_bound v271 v273 S) fun q275 =>
                                              rdS L A (w32 (l3 + 1)) fun v276 =>
                                              rdS L A (w32 (l3 + 2)) fun v278 =>
                                              Option.bind (fX12_bound v276 v278 q275.2) fun q280 =>
                                              if q275.1 = q280.1 then (
                                                lt (w32 (l3 + 6)) fun x281 =>
                                                fL_law_L18 L A n x281 q280.2
                                              ) else (
                                                some (1, q280.2)
                                              )
                                            ) else (
                                              if jand v1 63 = 20 then (
                                                rdS L A (w32 (l3 + 1)) fun v284 =>
                                                Option.bind (fX11_reach v284 S) fun q286 =>
                                                rdS L A (w32 (l3 + 1)) fun v287 =>
                                                Option.bind (fX12_reach v287 q286.2) fun q289 =>
                                                if q286.1 = q289.1 then (
                                                  lt (w32 (l3 + 6)) fun x290 =>
                                                  fL_law_L18 L A n x290 q289.2
                                                ) else (
                                                  some (1, q289.2)
                                                )
                                              ) else (
                                                if jand v1 63 = 21 then (
                                                  rdS L A (w32 (l3 + 1)) fun v293 =>
                                                  rdS L A (w32 (l3 + 2)) fun v295 =>
                                                  Option.bind (fX11_meet v293 v295 S) fun q297 =>
                                                  rdS L A (w32 (l3 + 1)) fun v298 =>
                                                  rdS L A (w32 (l3 + 2)) fun v300 =>
                                                  Option.bind (fX12_meet v298 v300 q297.2) fun q302 =>
                                                  if q297.1 = q302.1 then (
                                                    lt (w32 (l3 + 6)) fun x303 =>
                                                    fL_law_L18 L A n x303 q302.2
                                                  ) else (
                                                    some (1, q302.2)
                                                  )
                                                ) else (
                                                  if jand v1 63 = 22 then (
                                                    rdS L A (w32 (l3 + 1)) fun v306 =>
                                                    rdS L A (w32 (l3 + 2)) fun v308 =>
                                                    rdS L A (w32 (l3 + 3)) fun v310 =>
                                                    Option.bind (fX11_meetAt v306 v308 v310 S) fun q312 =>
                                                    rdS L A (w32 (l3 + 1)) fun v313 =>
                                                    rdS L A (w32 (l3 + 2)) fun v315 =>
                                                    rdS L A (w32 (l3 + 3)) fun v317 =>
                                                    Option.bind (fX12_meetAt v313 v315 v317 q312.2) fun q319 =>
                                                    if q312.1 = q319.1 then (
                                                      lt (w32 (l3 + 6)) fun x320 =>
                                                      fL_law_L18 L A n x320 q319.2
                                                    ) else (
                                                      some (1, q319.2)
                                                    )
                                                  ) else (
                                                    if jand v1 63 = 23 then (
                                                      rdS L A (w32 (l3 + 1)) fun v323 =>
                                                      Option.bind (fX11_ring v323 S) fun q325 =>
                                                      rdS L A (w32 (l3 + 1)) fun v326 =>
                                                      Option.bind (fX12_ring v326 q325.2) fun q328 =>
                                                      if q325.1 = q328.1 then (
                                                        lt (w32 (l3 + 6)) fun x329 =>
                                                        fL_law_L18 L A n x329 q328.2
                                                      ) else (
                                                        some (1, q328.2)
                                                      )
                                                    ) else (
                                                      if jand v1 63 = 24 then (
                                                        rdS L A (w32 (l3 + 1)) fun v332 =>
                                                        Option.bind (fX11_laws v332 S) fun q334 =>
                                                        rdS L A (w32 (l3 + 1)) fun v335 =>
                                                        Option.bind (fX12_laws v335 q334.2) fun q337 =>
                                                        if q334.1 = q337.1 then (
                                                          lt (w32 (l3 + 6)) fun x338 =>
                                                          fL_law_L18 L A n x338 q337.2
                                                        ) else (
                                                          some (1, q337.2)
                                                        )
                                                      ) else (
                                                        if jand v1 63 = 25 then (
                                                          rdS L A (w32 (l3 + 1)) fun v341 =>
                                                          rdS L A (w32 (l3 + 2)) fun v343 =>
                                                          Option.bind (fX11_bylaw v341 v343 S) fun q345 =>
                                                          rdS L A (w32 (l3 + 1)) fun v346 =>
                                                          rdS L A (w32 (l3 + 2)) fun v348 =>
                                                          Option.bind (fX12_bylaw v346 v348 q345.2) fun q350 =>
                                                          if q345.1 = q350.1 then (
                                                            lt (w32 (l3 + 6)) fun x351 =>
                                                            fL_law_L18 L A n x351 q350.2
                                                          ) else (
                                                            some (1, q350.2)
                                                          )
                                                        ) else (
                                                          if jand v1 63 = 26 then (
                                                            rdS L A (w32 (l3 + 1)) fun v354 =>
                                                            rdS L A (w32 (l3 + 2)) fun v356 =>
                                                            rdS L A (w32 (l3 + 3)) fun v358 =>
                                                            Option.bind (fX11_shut v354 v356 v358 S) fun q360 =>
                                                            rdS L A (w32 (l3 + 1)) fun v361 =>
                                                            rdS L A (w32 (l3 + 2)) fun v363 =>
                                                            rdS L A (w32 (l3 + 3)) fun v365 =>
                                                            Option.bind (fX12_shut v361 v363 v365 q360.2) fun q367 =>
                                                            if q360.1 = q367.1 then (
                                                              lt (w32 (l3 + 6)) fun x368 =>
                                                              fL_law_L18 L A n x368 q367.2
                                                            ) else (
                                                              some (1, q367.2)
                                                            )
                                                          ) else (
                                                            if jand v1 63 = 27 then (
                                                              rdS L A (w32 (l3 + 1)) fun v371 =>
                                                              rdS L A (w32 (l3 + 2)) fun v373 =>
                                                              Option.bind (fX11_needed v371 v373 S) fun q375 =>
                                                              rdS L A (w32 (l3 + 1)) fun v376 =>
                                                              rdS L A (w32 (l3 + 2)) fun v378 =>
                                                              Option.bind (fX12_needed v376 v378 q375.2) fun q380 =>
                                                              if q375.1 = q380.1 then (
                                                                lt (w32 (l3 + 6)) fun x381 =>
                                                                fL_law_L18 L A n x381 q380.2
                                                              ) else (
                                                                some (1, q380.2)
                                                              )
                                                            ) else (
                                                              if jand v1 63 = 28 then (
                                                                rdS L A (w32 (l3 + 1)) fun v384 =>
                                                                rdS L A (w32 (l3 + 2)) fun v386 =>
                                                                rdS L A (w32 (l3 + 3)) fun v388 =>
                                                                Option.bind (fX11_from v384 v386 v388 S) fun q390 =>
                                                                rdS L A (w32 (l3 + 1)) fun v391 =>
                                                                rdS L A (w32 (l3 + 2)) fun v393 =>
                                                                rdS L A (w32 (l3 + 3)) fun v395 =>
                                                                Option.bind (fX12_from v391 v393 v395 q390.2) fun q397 =>
                                                                if q390.1 = q397.1 then (
                                                                  lt (w32 (l3 + 6)) fun x398 =>
                                                                  fL_law_L18 L A n x398 q397.2
                                                                ) else (
                                                                  some (1, q397.2)
                                                                )
                                                              ) else (
                                                                if jand v1 63 = 29 then (
                                                                  rdS L A (w32 (l3 + 1)) fun v401 =>
                                                                  rdS L A (w32 (l3 + 2)) fun v403 =>
                                                                  rdS L A (w32 (l3 + 3)) fun v405 =>
                                                                  Option.bind (fX11_bollardsBy v401 v403 v405 S) fun q407 =>
                                                                  rdS L A (w32 (l3 + 1)) fun v408 =>
                                                                  rdS L A (w32 (l3 + 2)) fun v410 =>
                                                                  rdS L A (w32 (l3 + 3)) fun v412 =>
                                                                  Option.bind (fX12_bollardsBy v408 v410 v412 q407.2) fun q414 =>
                                                                  if q407.1 = q414.1 then (
                                                                    lt (w32 (l3 + 6)) fun x415 =>
                                                                    fL_law_L18 L A n x415 q414.2
                                                                  ) else (
                                                                    some (1, q414.2)
                                                                  )
                                                                ) else (
                                                                  if jand v1 63 = 30 then (
                                                                    rdS L A (w32 (l3 + 1)) fun v418 =>
                                                                    rdS L A (w32 (l3 + 2)) fun v420 =>
                                                                    rdS L A (w32 (l3 + 3)) fun v422 =>
                                                                    Option.bind (fX11_attempt v418 v420 v422 S) fun q424 =>
                                                                    rdS L A (w32 (l3 + 1)) fun v425 =>
                                                                    rdS L A (w32 (l3 + 2)) fun v427 =>
                                                                    rdS L A (w32 (l3 + 3)) fun v429 =>
                                                                    Option.bind (fX12_attempt v425 v427 v429 q424.2) fun q431 =>
                                                                    if q424.1 = q431.1 then (
                                                                      lt (w32 (l3 + 6)) fun x432 =>
                                                                      fL_law_L18 L A n x432 q431.2
                                                                    ) else (
                                                                      some (1, q431.2)
                                                                    )
                                                                  ) else (
                                                                    if jand v1 63 = 31 then (
                                                                      rdS L A (w32 (l3 + 1)) fun v435 =>
                                                                      rdS L A (w32 (l3 + 2)) fun v437 =>
                                                                      Option.bind (fX11_forces v435 v437 S) fun q439 =>
                                                                      rdS L A (w32 (l3 + 1)) fun v440 =>
                                                                      rdS L A (w32 (l3 + 2)) fun v442 =>
                                                                      Option.bind (fX12_forces v440 v442 q439.2) fun q444 =>
                                                                      if q439.1 = q444.1 then (
                                                                        lt (w32 (l3 + 6)) fun x445 =>
                                                                        fL_law_L18 L A n x445 q444.2
                                                                      ) else (
                                                                        some (1, q444.2)
                                                                      )
                                                                    ) else (
                                                                      if jand v1 63 = 32 then (
                                                                        rdS L A (w32 (l3 + 1)) fun v448 =>
                                                                        rdS L A (w32 (l3 + 2)) fun v450 =>
                                                                        Option.bind (fX11_best v448 v450 S) fun q452 =>
                                                                        rdS L A (w32 (l3 + 1)) fun v453 =>
                                                                        rdS L A (w32 (l3 + 2)) fun v455 =>
                                                                        Option.bind (fX12_best v453 v455 q452.2) fun q457 =>
                                                                        if q452.1 = q457.1 then (
                                                                          lt (w32 (l3 + 6)) fun x458 =>
                                                                          fL_law_L18 L A n x458 q457.2
                                                                        ) else (
                                                                          some (1, q457.2)
                                                                        )
                                                                      ) else (
                                                                        if jand v1 63 = 33 then (
                                                                          rdS L A (w32 (l3 + 1)) fun v461 =>
                                                                          rdS L A (w32 (l3 + 2)) fun v463 =>
                                                                          rdS L A (w32 (l3 + 3)) fun v465 =>
                                                                          rdS L A (w32 (l3 + 4)) fun v467 =>
                                                                          Option.bind (fX11_chance v461 v463 v465 v467 S) fun q469 =>
                                                                          rdS L A (w32 (l3 + 1)) fun v470 =>
                                                                          rdS L A (w32 (l3 + 2)) fun v472 =>
                                                                          rdS L A (w32 (l3 + 3)) fun v474 =>
                                                                          rdS L A (w32 (l3 + 4)) fun v476 =>
                                                                          Option.bind (fX12_chance v470 v472 v474 v476 q469.2) fun q478 =>
                                                                          if q469.1 = q478.1 then (
                                                                            lt (w32 (l3 + 6)) fun x479 =>
                                                                            fL_law_L18 L A n x479 q478.2
                                                                          ) else (
                                                                            some (1, q478.2)
                                                                          )
                                                                        ) else (
                                                                          if jand v1 63 = 34 then (
                                                                            rdS L A (w32 (l3 + 1)) fun v482 =>
                                                                            rdS L A (w32 (l3 + 2)) fun v484 =>
                                                                            rdS L A (w32 (l3 + 3)) fun v486 =>
                                                                            Option.bind (fX11_mean v482 v484 v486 S) fun q488 =>
                                                                            rdS L A (w32 (l3 + 1)) fun v489 =>
                                                                            rdS L A (w32 (l3 + 2)) fun v491 =>
                                                                            rdS L A (w32 (l3 + 3)) fun v493 =>
                                                                            Option.bind (fX12_mean v489 v491 v493 q488.2) fun q495 =>
                                                                            if q488.1 = q495.1 then (
                                                                              lt (w32 (l3 + 6)) fun x496 =>
                                                                              fL_law_L18 L A n x496 q495.2
                                                                            ) else (
                                                                              some (1, q495.2)
                                                                            )
                                                                          ) else (
                                                                            if jand v1 63 = 35 then (
                                                                              rdS L A (w32 (l3 + 1)) fun v499 =>
                                                                              rdS L A (w32 (l3 + 2)) fun v501 =>
                                                                              Option.bind (fX11_likeliest v499 v501 S) fun q503 =>
                                                                              rdS L A (w32 (l3 + 1)) fun v504 =>
                                                                              rdS L A (w32 (l3 + 2)) fun v506 =>
                                                                              Option.bind (fX12_likeliest v504 v506 q503.2) fun q508 =>
                                                                              if q503.1 = q508.1 then (
                                                                                lt (w32 (l3 + 6)) fun x509 =>
                                                                                fL_law_L18 L A n x509 q508.2
                                                                              ) else (
                                                                                some (1, q508.2)
                                                                              )
                                                                            ) else (
                                                                              if jand v1 63 = 36 then (
                                                                                rdS L A (w32 (l3 + 1)) fun v512 =>
                                                                                rdS L A (w32 (l3 + 2)) fun v514 =>
                                                                                rdS L A (w32 (l3 + 3)) fun v516 =>
                                                                                Option.bind (fX11_numbers v512 v514 v516 S) fun q518 =>
                                                                                rdS L A (w32 (l3 + 1)) fun v519 =>
                                                                                rdS L A (w32 (l3 + 2)) fun v521 =>
                                                                                rdS L A (w32 (l3 + 3)) fun v523 =>
                                                                                Option.bind (fX12_numbers v519 v521 v523 q518.2) fun q525 =>
                                                                                if q518.1 = q525.1 then (
                                                                                  lt (w32 (l3 + 6)) fun x526 =>
                                                                                  fL_law_L18 L A n x526 q525.2
                                                                                ) else (
                                                                                  some (1, q525.2)
                                                                                )
                                                                              ) else (
                                                                                if jand v1 63 = 37 then (
                                                                                  rdS L A (w32 (l3 + 1)) fun v529 =>
                                                                                  rdS L A (w32 (l3 + 2)) fun v531 =>
                                                                                  rdS L A (w32 (l3 + 3)) fun v533 =>
                                                                                  rdS L A (w32 (l3 + 4)) fun v535 =>
                                                                                  Option.bind (fX11_write v529 v531 (kor (kshl v533 32) (kand v535 4294967295)) S) fun q537 =>
                                                                                  rdS L A (w32 (l3 + 1)) fun v538 =>
                                                                                  rdS L A (w32 (l3 + 2)) fun v540 =>
                                                                                  rdS L A (w32 (l3 + 3)) fun v542 =>
                                                                                  rdS L A (w32 (l3 + 4)) fun v544 =>
                                                                                  Option.bind (fX12_write v538 v540 (kor (kshl v542 32) (kand v544 4294967295)) q537.2) fun q546 =>
                                                                                  if (lc q537.1 q546.1) = 0 then (
                                                                                    lt (w32 (l3 + 6)) fun x547 =>
                                                                                    fL_law_L18 L A n x547 q546.2
                                                                                  ) else (
                                                                                    some (1, q546.2)
                                                                                  )
                                                                                ) else (
                                                                                  if jand v1 63 = 38 then (
                                                                                    rdS L A (w32 (l3 + 1)) fun v550 =>
                                                                                    rdS L A (w32 (l3 + 2)) fun v552 =>
                                                                                    rdS L A (w32 (l3 + 3)) fun v554 =>
                                                                                    rdS L A (w32 (l3 + 4)) fun v556 =>
                                                                                    Option.bind (fX11_lists v550 v552 v554 v556 S) fun q558 =>
                                                                                    rdS L A (w32 (l3 + 1)) fun v559 =>
                                                                                    rdS L A (w32 (l3 + 2)) fun v561 =>
                                                                                    rdS L A (w32 (l3 + 3)) fun v563 =>
                                                                                    rdS L A (w32 (l3 + 4)) fun v565 =>
                                                                                    Option.bind (fX12_lists v559 v561 v563 v565 q558.2) fun q567 =>
                                                                                    if q558.1 = q567.1 then (
                                                                                      lt (w32 (l3 + 6)) fun x568 =>
                                                                                      fL_law_L18 L A n x568 q567.2
                                                                                    ) else (
                                                                                      some (1, q567.2)
                                                                                    )
                                                                                  ) else (
                                                                                    if jand v1 63 = 39 then (
                                                                                      rdS L A (w32 (l3 + 1)) fun v571 =>
                                                                                      Option.bind (fX11_image v571 S) fun q573 =>
                                                                                      rdS L A (w32 (l3 + 1)) fun v574 =>
                                                                                      Option.bind (fX12_image v574 q573.2) fun q576 =>
                                                                                      if q573.1 = q576.1 then (
                                                                                        lt (w32 (l3 + 6)) fun x577 =>
                                                                                        fL_law_L18 L A n x577 q576.2
                                                                                      ) else (
                                                                                        some (1, q576.2)
                                                                                      )
                                                                                    ) else (
                                                                                      if jand v1 63 = 40 then (
                                                                                        rdS L A (w32 (l3 + 1)) fun v580 =>
                                                                                        Option.bind (fX11_restore v580 S) fun q582 =>
                                                                                        rdS L A (w32 (l3 + 1)) fun v583 =>
                                                                                        Option.bind (fX12_restore v583 q582.2) fun q585 =>
                                                                                        if q582.1 = q585.1 then (
                                                                                          lt (w32 (l3 + 6)) fun x586 =>
                                                                                          fL_law_L18 L A n x586 q585.2
                                                                                        ) else (
                                                                                          some (1, q585.2)
                                                                                        )
                                                                                      ) else (
                                                                                        if jand v1 63 = 41 then (
                                                                                          rdS L A (w32 (l3 + 1)) fun v589 =>
                                                                                          Option.bind (fX11_count v589 S) fun q591 =>
                                                                                          rdS L A (w32 (l3 + 1)) fun v592 =>
                                                                                          Option.bind (fX12_count v592 S) fun q594 =>
                                                                                          if q591 = q594.1 then (
                                                                                            lt (w32 (l3 + 6)) fun x595 =>
                                                                                            fL_law_L18 L A n x595 q594.2
                                                                                          ) else (
                                                                                            some (1, q594.2)
                                                                                          )
                                                                                        ) else (
                                                                                          lt (w32 (l3 + 6)) fun x597 =>
                                                                                          fL_law_L18 L A n x597 S
                                                                                        )
                                                                                      )
                                                                                    )
                                                                                  )
                                                                                )
                                                                              )
                                                                            )
                                                                          )
                                                                        )
                                                                      )
                                                                    )
                                                                  )
                                                                )
                                                              )
                                                            )
                                                          )
                                                        )
                                                      )
                                                    )
                                                  )
                                                )
                                              )
                                            )
                                          )
                                        )
                                      )
                                    )
                                  )
                                )
                              )
                            )
                          )
                        )
                      )
                    )
                  )
                )
              )
            )
          )
        )
      )
    )
def fLaw (L : Nat) (A : Nat → Int) (S : SS) : Option (Bool × SS) :=
  Option.bind (fL_law_L18 L A FU 0 S) fun q1 =>
  if q1.1 = 0 then (
    some (true, q1.2)
  ) else (
    some (false, q1.2)
  )
set_option maxRecDepth 100000 in
set_option maxHeartbeats 40000000 in
theorem lL_law_L18 {G : GG} {Φ : Option VV → MM → Prop} {L : Nat} {A : Nat → Int} (eL : scL G = L) (eX : scX G = A) (hb : L ≤ 100000) : ∀ (n : Nat) (l3 : Int) (S : SS) (q : Nat × SS), fL_law_L18 L A n l3 S = some q → (q.1 = 0 → At G mLaw 74 1750 [] [] (mm q.2) 600000 7302250 Φ) → (q.1 = 1 → Φ (some (vi (bI false))) (mm q.2)) → At G mLaw 74 18 [(0, vr 100031), (1, vr 1), (2, vr 130), (3, vi l3)] [] (mm S) 600000 7302250 Φ := by
  intro n
  induction n with
  | zero =>
    intro _ _ _ h
    cases h
  | succ n ih =>
    intro l3 S q h K1750 KR
    unfold fL_law_L18 at h
    rcases ite_e h with ⟨c598, h⟩ | ⟨c598, h⟩
    · refine At.iloadn dL_law_18 rfl <| At.aloadn dL_law_19 rfl <| At.sclen eL eX hb dL_law_20 <| At.bipush dL_law_21 (by decide) <| At.isub dL_law_23 <| At.icmp_gt_t (tgt := 1750) dL_law_24 (by decide) c598 <| ?_
      obtain rfl := Option.some.inj h
      exact At.sub [] rfl (K1750 rfl)
    · refine At.iloadn dL_law_18 rfl <| At.aloadn dL_law_19 rfl <| At.sclen eL eX hb dL_law_20 <| At.bipush dL_law_21 (by decide) <| At.isub dL_law_23 <| At.icmp_gt_f (tgt := 1750) dL_law_24 (by decide) c598 <| ?_
      refine At.aloadn dL_law_27 rfl <| At.iloadn dL_law_28 rfl <| ?_
      obtain ⟨v1, hv1, g2, h⟩ := rdS_e h
      rcases ite_e h with ⟨c3, h⟩ | ⟨c3, h⟩
      · refine At.scald eL eX hb g2.1 g2.2 dL_law_29 <| At.nm hv1 <| At.bipush dL_law_30 (by decide) <| At.iand dL_law_32 <| At.tsIn (off := 183) (tgt := 216) dL_law_33 (by omega) (by omega) (by rw [c3] <;> rfl) (by decide) <| ?_
        refine At.aloadn dL_law_216 rfl <| At.aloadn dL_law_217 rfl <| At.iloadn dL_law_218 rfl <| At.iconst dL_law_219 (by decide) <| At.iadd dL_law_220 <| ?_
        obtain ⟨v4, hv4, g5, h⟩ := rdS_e h
        refine At.scald eL eX hb g5.1 g5.2 dL_law_221 <| At.nm hv4 <| At.aloadn dL_law_222 rfl <| At.iloadn dL_law_223 rfl <| At.iconst dL_law_224 (by decide) <| At.iadd dL_law_225 <| ?_
        obtain ⟨v6, hv6, g7, h⟩ := rdS_e h
        refine At.scald eL eX hb g7.1 g7.2 dL_law_226 <| At.nm hv6 <| At.aloadn dL_law_227 rfl <| At.iloadn dL_law_228 rfl <| At.iconst dL_law_229 (by decide) <| At.iadd dL_law_230 <| ?_
        obtain ⟨v8, hv8, g9, h⟩ := rdS_e h
        refine At.scald eL eX hb g9.1 g9.2 dL_law_231 <| At.nm hv8 <| At.aloadn dL_law_232 rfl <| At.iloadn dL_law_233 rfl <| At.iconst dL_law_234 (by decide) <| At.iadd dL_law_235 <| ?_
        obtain ⟨v10, hv10, g11, h⟩ := rdS_e h
        refine At.scald eL eX hb g11.1 g11.2 dL_law_236 <| At.nm hv10 <| At.aloadn dL_law_237 rfl <| At.iloadn dL_law_238 rfl <| At.iconst dL_law_239 (by decide) <| At.iadd dL_law_240 <| ?_
        obtain ⟨v12, hv12, g13, h⟩ := rdS_e h
        refine At.scald eL eX hb g13.1 g13.2 dL_law_241 <| At.nm hv12 <| ?_
        obtain ⟨q14, hq14, h⟩ := bnd_e h
        refine At.cV1L ⟨Nat.le_refl _, Nat.le_refl _⟩ (av := [vi v4, vi v6, vi v8, vi v10, vi v12]) (rest := []) mv_X11_feed lk_L_13 dL_law_242 rfl rfl sh_1 (Nat.le_of_ble_eq_true rfl) (by omega) ⟨rfl, rfl⟩ (rX11_feed hq14) <| At.aloadn dL_law_245 rfl <| At.aloadn dL_law_246 rfl <| At.iloadn dL_law_247 rfl <| At.iconst dL_law_248 (by decide) <| At.iadd dL_law_249 <| ?_
        obtain ⟨v15, hv15, g16, h⟩ := rdS_e h
        refine At.scald eL eX hb g16.1 g16.2 dL_law_250 <| At.nm hv15 <| At.aloadn dL_law_251 rfl <| At.iloadn dL_law_252 rfl <| At.iconst dL_law_253 (by decide) <| At.iadd dL_law_254 <| ?_
        obtain ⟨v17, hv17, g18, h⟩ := rdS_e h
        refine At.scald eL eX hb g18.1 g18.2 dL_law_255 <| At.nm hv17 <| At.aloadn dL_law_256 rfl <| At.iloadn dL_law_257 rfl <| At.iconst dL_law_258 (by decide) <| At.iadd dL_law_259 <| ?_
        obtain ⟨v19, hv19, g20, h⟩ := rdS_e h
        refine At.scald eL eX hb g20.1 g20.2 dL_law_260 <| At.nm hv19 <| At.aloadn dL_law_261 rfl <| At.iloadn dL_law_262 rfl <| At.iconst dL_law_263 (by decide) <| At.iadd dL_law_264 <| ?_
        obtain ⟨v21, hv21, g22, h⟩ := rdS_e h
        refine At.scald eL eX hb g22.1 g22.2 dL_law_265 <| At.nm hv21 <| At.aloadn dL_law_266 rfl <| At.iloadn dL_law_267 rfl <| At.iconst dL_law_268 (by decide) <| At.iadd dL_law_269 <| ?_
        obtain ⟨v23, hv23, g24, h⟩ := rdS_e h
        refine At.scald eL eX hb g24.1 g24.2 dL_law_270 <| At.nm hv23 <| ?_
        obtain ⟨q25, hq25, h⟩ := bnd_e h
        rcases ite_e h with ⟨c27, h⟩ | ⟨c27, h⟩
        · refine At.cV1L ⟨Nat.le_refl _, Nat.le_refl _⟩ (av := [vi v15, vi v17, vi v19, vi v21, vi v23]) (rest := [vi q14.1]) mv_X12_feed lk_L_17 dL_law_271 rfl rfl sh_130 (Nat.le_of_ble_eq_true rfl) (by omega) ⟨rfl, rfl⟩ (rX12_feed hq25) <| At.icmp_eq_t (tgt := 1744) dL_law_274 (by decide) c27 <| ?_
          obtain ⟨x26, hx26, h⟩ := lt_e h
          refine At.iinc (ls' := [(3, vi x26), (0, vr 100031), (1, vr 1), (2, vr 130)]) dL_law_1744 rfl (by decide) (by rw [hx26]; rfl) <| At.goto (tgt := 18) dL_law_1747 (by decide) <| ?_
          exact At.sub [1, 2, 3, 0] rfl (ih _ _ _ h K1750 KR)
        · refine At.cV1L ⟨Nat.le_refl _, Nat.le_refl _⟩ (av := [vi v15, vi v17, vi v19, vi v21, vi v23]) (rest := [vi q14.1]) mv_X12_feed lk_L_17 dL_law_271 rfl rfl sh_130 (Nat.le_of_ble_eq_true rfl) (by omega) ⟨rfl, rfl⟩ (rX12_feed hq25) <| At.icmp_eq_f (tgt := 1744) dL_law_274 (by decide) c27 <| ?_
          obtain rfl := Option.some.inj h
          exact At.iconst dL_law_277 (by decide) <| At.zret (b := false) rfl (Nat.le_refl _) (Nat.le_refl _) (KR rfl) dL_law_278
      · rcases ite_e h with ⟨c28, h⟩ | ⟨c28, h⟩
        · refine At.scald eL eX hb g2.1 g2.2 dL_law_29 <| At.nm hv1 <| At.bipush dL_law_30 (by decide) <| At.iand dL_law_32 <| At.tsIn (off := 246) (tgt := 279) dL_law_33 (by omega) (by omega) (by rw [c28] <;> rfl) (by decide) <| ?_
          refine At.aloadn dL_law_279 rfl <| At.aloadn dL_law_280 rfl <| At.iloadn dL_law_281 rfl <| At.iconst dL_law_282 (by decide) <| At.iadd dL_law_283 <| ?_
          obtain ⟨v29, hv29, g30, h⟩ := rdS_e h
          refine At.scald eL eX hb g30.1 g30.2 dL_law_284 <| At.nm hv29 <| ?_
          obtain ⟨q31, hq31, h⟩ := bnd_e h
          refine At.cV1L ⟨Nat.le_refl _, Nat.le_refl _⟩ (av := [vi v29]) (rest := []) mv_X11_town lk_L_18 dL_law_285 rfl rfl sh_1 (Nat.le_of_ble_eq_true rfl) (by omega) ⟨rfl, rfl⟩ (rX11_town hq31) <| At.aloadn dL_law_288 rfl <| At.aloadn dL_law_289 rfl <| At.iloadn dL_law_290 rfl <| At.iconst dL_law_291 (by decide) <| At.iadd dL_law_292 <| ?_
          obtain ⟨v32, hv32, g33, h⟩ := rdS_e h
          refine At.scald eL eX hb g33.1 g33.2 dL_law_293 <| At.nm hv32 <| ?_
          obtain ⟨q34, hq34, h⟩ := bnd_e h
          rcases ite_e h with ⟨c36, h⟩ | ⟨c36, h⟩
          · refine At.cV1L ⟨Nat.le_refl _, Nat.le_refl _⟩ (av := [vi v32]) (rest := [vi q31.1]) mv_X12_town lk_L_22 dL_law_294 rfl rfl sh_130 (Nat.le_of_ble_eq_true rfl) (by omega) ⟨rfl, rfl⟩ (rX12_town hq34) <| At.icmp_eq_t (tgt := 1744) dL_law_297 (by decide) c36 <| ?_
            obtain ⟨x35, hx35, h⟩ := lt_e h
            refine At.iinc (ls' := [(3, vi x35), (0, vr 100031), (1, vr 1), (2, vr 130)]) dL_law_1744 rfl (by decide) (by rw [hx35]; rfl) <| At.goto (tgt := 18) dL_law_1747 (by decide) <| ?_
            exact At.sub [1, 2, 3, 0] rfl (ih _ _ _ h K1750 KR)
          · refine At.cV1L ⟨Nat.le_refl _, Nat.le_refl _⟩ (av := [vi v32]) (rest := [vi q31.1]) mv_X12_town lk_L_22 dL_law_294 rfl rfl sh_130 (Nat.le_of_ble_eq_true rfl) (by omega) ⟨rfl, rfl⟩ (rX12_town hq34) <| At.icmp_eq_f (tgt := 1744) dL_law_297 (by decide) c36 <| ?_
            obtain rfl := Option.some.inj h
            exact At.iconst dL_law_300 (by decide) <| At.zret (b := false) rfl (Nat.le_refl _) (Nat.le_refl _) (KR rfl) dL_law_301
        · rcases ite_e h with ⟨c37, h⟩ | ⟨c37, h⟩
          · refine At.scald eL eX hb g2.1 g2.2 dL_law_29 <| At.nm hv1 <| At.bipush dL_law_30 (by decide) <| At.iand dL_law_32 <| At.tsIn (off := 269) (tgt := 302) dL_law_33 (by omega) (by omega) (by rw [c37] <;> rfl) (by decide) <| ?_
            refine At.aloadn dL_law_302 rfl <| At.aloadn dL_law_303 rfl <| At.iloadn dL_law_304 rfl <| At.iconst dL_law_305 (by decide) <| At.iadd dL_law_306 <| ?_
            obtain ⟨v38, hv38, g39, h⟩ := rdS_e h
            refine At.scald eL eX hb g39.1 g39.2 dL_law_307 <| At.nm hv38 <| ?_
            obtain ⟨q40, hq40, h⟩ := bnd_e h
            refine At.cV1L ⟨Nat.le_refl _, Nat.le_refl _⟩ (av := [vi v38]) (rest := []) mv_X11_fault lk_L_23 dL_law_308 rfl rfl sh_1 (Nat.le_of_ble_eq_true rfl) (by omega) ⟨rfl, rfl⟩ (rX11_fault hq40) <| At.aloadn dL_law_311 rfl <| At.aloadn dL_law_312 rfl <| At.iloadn dL_law_313 rfl <| At.iconst dL_law_314 (by decide) <| At.iadd dL_law_315 <| ?_
            obtain ⟨v41, hv41, g42, h⟩ := rdS_e h
            refine At.scald eL eX hb g42.1 g42.2 dL_law_316 <| At.nm hv41 <| ?_
            obtain ⟨q43, hq43, h⟩ := bnd_e h
            rcases ite_e h with ⟨c45, h⟩ | ⟨c45, h⟩
            · refine At.cV1L ⟨Nat.le_refl _, Nat.le_refl _⟩ (av := [vi v41]) (rest := [vi q40]) mv_X12_fault lk_L_26 dL_law_317 rfl rfl sh_130 (Nat.le_of_ble_eq_true rfl) (by omega) ⟨rfl, rfl⟩ (rX12_fault hq43) <| At.icmp_eq_t (tgt := 1744) dL_law_320 (by decide) c45 <| ?_
              obtain ⟨x44, hx44, h⟩ := lt_e h
              refine At.iinc (ls' := [(3, vi x44), (0, vr 100031), (1, vr 1), (2, vr 130)]) dL_law_1744 rfl (by decide) (by rw [hx44]; rfl) <| At.goto (tgt := 18) dL_law_1747 (by decide) <| ?_
              exact At.sub [1, 2, 3, 0] rfl (ih _ _ _ h K1750 KR)
            · refine At.cV1L ⟨Nat.le_refl _, Nat.le_refl _⟩ (av := [vi v41]) (rest := [vi q40]) mv_X12_fault lk_L_26 dL_law_317 rfl rfl sh_130 (Nat.le_of_ble_eq_true rfl) (by omega) ⟨rfl, rfl⟩ (rX12_fault hq43) <| At.icmp_eq_f (tgt := 1744) dL_law_320 (by decide) c45 <| ?_
              obtain rfl := Option.some.inj h
              exact At.iconst dL_law_323 (by decide) <| At.zret (b := false) rfl (Nat.le_refl _) (Nat.le_refl _) (KR rfl) dL_law_324
          · rcases ite_e h with ⟨c46, h⟩ | ⟨c46, h⟩
            · refine At.scald eL eX hb g2.1 g2.2 dL_law_29 <| At.nm hv1 <| At.bipush dL_law_30 (by decide) <| At.iand dL_law_32 <| At.tsIn (off := 292) (tgt := 325) dL_law_33 (by omega) (by omega) (by rw [c46] <;> rfl) (by decide) <| ?_
              refine At.aloadn dL_law_325 rfl <| At.aloadn dL_law_326 rfl <| At.iloadn dL_law_327 rfl <| At.iconst dL_law_328 (by decide) <| At.iadd dL_law_329 <| ?_
              obtain ⟨v47, hv47, g48, h⟩ := rdS_e h
              refine At.scald eL eX hb g48.1 g48.2 dL_law_330 <| At.nm hv47 <| At.aloadn dL_law_331 rfl <| At.iloadn dL_law_332 rfl <| At.iconst dL_law_333 (by decide) <| At.iadd dL_law_334 <| ?_
              obtain ⟨v49, hv49, g50, h⟩ := rdS_e h
              refine At.scald eL eX hb g50.1 g50.2 dL_law_335 <| At.nm hv49 <| ?_
              obtain ⟨q51, hq51, h⟩ := bnd_e h
              refine At.cV1L ⟨Nat.le_refl _, Nat.le_refl _⟩ (av := [vi v47, vi v49]) (rest := []) mv_X11_street lk_L_27 dL_law_336 rfl rfl sh_1 (Nat.le_of_ble_eq_true rfl) (by omega) ⟨rfl, rfl⟩ (rX11_street hq51) <| At.aloadn dL_law_339 rfl <| At.aloadn dL_law_340 rfl <| At.iloadn dL_law_341 rfl <| At.iconst dL_law_342 (by decide) <| At.iadd dL_law_343 <| ?_
              obtain ⟨v52, hv52, g53, h⟩ := rdS_e h
              refine At.scald eL eX hb g53.1 g53.2 dL_law_344 <| At.nm hv52 <| At.aloadn dL_law_345 rfl <| At.iloadn dL_law_346 rfl <| At.iconst dL_law_347 (by decide) <| At.iadd dL_law_348 <| ?_
              obtain ⟨v54, hv54, g55, h⟩ := rdS_e h
              refine At.scald eL eX hb g55.1 g55.2 dL_law_349 <| At.nm hv54 <| ?_
              obtain ⟨q56, hq56, h⟩ := bnd_e h
              rcases ite_e h with ⟨c58, h⟩ | ⟨c58, h⟩
              · refine At.cV1L ⟨Nat.le_refl _, Nat.le_refl _⟩ (av := [vi v52, vi v54]) (rest := [vi q51]) mv_X12_street lk_L_31 dL_law_350 rfl rfl sh_130 (Nat.le_of_ble_eq_true rfl) (by omega) ⟨rfl, rfl⟩ (rX12_street hq56) <| At.icmp_eq_t (tgt := 1744) dL_law_353 (by decide) c58 <| ?_
                obtain ⟨x57, hx57, h⟩ := lt_e h
                refine At.iinc (ls' := [(3, vi x57), (0, vr 100031), (1, vr 1), (2, vr 130)]) dL_law_1744 rfl (by decide) (by rw [hx57]; rfl) <| At.goto (tgt := 18) dL_law_1747 (by decide) <| ?_
                exact At.sub [1, 2, 3, 0] rfl (ih _ _ _ h K1750 KR)
              · refine At.cV1L ⟨Nat.le_refl _, Nat.le_refl _⟩ (av := [vi v52, vi v54]) (rest := [vi q51]) mv_X12_street lk_L_31 dL_law_350 rfl rfl sh_130 (Nat.le_of_ble_eq_true rfl) (by omega) ⟨rfl, rfl⟩ (rX12_street hq56) <| At.icmp_eq_f (tgt := 1744) dL_law_353 (by decide) c58 <| ?_
                obtain rfl := Option.some.inj h
                exact At.iconst dL_law_356 (by decide) <| At.zret (b := false) rfl (Nat.le_refl _) (Nat.le_refl _) (KR rfl) dL_law_357
            · rcases ite_e h with ⟨c59, h⟩ | ⟨c59, h⟩
              · refine At.scald eL eX hb g2.1 g2.2 dL_law_29 <| At.nm hv1 <| At.bipush dL_law_30 (by decide) <| At.iand dL_law_32 <| At.tsIn (off := 325) (tgt := 358) dL_law_33 (by omega) (by omega) (by rw [c59] <;> rfl) (by decide) <| ?_
                refine At.aloadn dL_law_358 rfl <| At.aloadn dL_law_359 rfl <| At.iloadn dL_law_360 rfl <| At.iconst dL_law_361 (by decide) <| At.iadd dL_law_362 <| ?_
                obtain ⟨v60, hv60, g61, h⟩ := rdS_e h
                refine At.scald eL eX hb g61.1 g61.2 dL_law_363 <| At.nm hv60 <| At.aloadn dL_law_364 rfl <| At.iloadn dL_law_365 rfl <| At.iconst dL_law_366 (by decide) <| At.iadd dL_law_367 <| ?_
                obtain ⟨v62, hv62, g63, h⟩ := rdS_e h
                refine At.scald eL eX hb g63.1 g63.2 dL_law_368 <| At.nm hv62 <| ?_
                obtain ⟨q64, hq64, h⟩ := bnd_e h
                refine At.cV1L ⟨Nat.le_refl _, Nat.le_refl _⟩ (av := [vi v60, vi v62]) (rest := []) mv_X11_goer lk_L_32 dL_law_369 rfl rfl sh_1 (Nat.le_of_ble_eq_true rfl) (by omega) ⟨rfl, rfl⟩ (rX11_goer hq64) <| At.aloadn dL_law_372 rfl <| At.aloadn dL_law_373 rfl <| At.iloadn dL_law_374 rfl <| At.iconst dL_law_375 (by decide) <| At.iadd dL_law_376 <| ?_
                obtain ⟨v65, hv65, g66, h⟩ := rdS_e h
                refine At.scald eL eX hb g66.1 g66.2 dL_law_377 <| At.nm hv65 <| At.aloadn dL_law_378 rfl <| At.iloadn dL_law_379 rfl <| At.iconst dL_law_380 (by decide) <| At.iadd dL_law_381 <| ?_
                obtain ⟨v67, hv67, g68, h⟩ := rdS_e h
                refine At.scald eL eX hb g68.1 g68.2 dL_law_382 <| At.nm hv67 <| ?_
                obtain ⟨q69, hq69, h⟩ := bnd_e h
                rcases ite_e h with ⟨c71, h⟩ | ⟨c71, h⟩
                · refine At.cV1L ⟨Nat.le_refl _, Nat.le_refl _⟩ (av := [vi v65, vi v67]) (rest := [vi q64.1]) mv_X12_goer lk_L_35 dL_law_383 rfl rfl sh_130 (Nat.le_of_ble_eq_true rfl) (by omega) ⟨rfl, rfl⟩ (rX12_goer hq69) <| At.icmp_eq_t (tgt := 1744) dL_law_386 (by decide) c71 <| ?_
                  obtain ⟨x70, hx70, h⟩ := lt_e h
                  refine At.iinc (ls' := [(3, vi x70), (0, vr 100031), (1, vr 1), (2, vr 130)]) dL_law_1744 rfl (by decide) (by rw [hx70]; rfl) <| At.goto (tgt := 18) dL_law_1747 (by decide) <| ?_
                  exact At.sub [1, 2, 3, 0] rfl (ih _ _ _ h K1750 KR)
                · refine At.cV1L ⟨Nat.le_refl _, Nat.le_refl _⟩ (av := [vi v65, vi v67]) (rest := [vi q64.1]) mv_X12_goer lk_L_35 dL_law_383 rfl rfl sh_130 (Nat.le_of_ble_eq_true rfl) (by omega) ⟨rfl, rfl⟩ (rX12_goer hq69) <| At.icmp_eq_f (tgt := 1744) dL_law_386 (by decide) c71 <| ?_
                  obtain rfl := Option.some.inj h
                  exact At.iconst dL_law_389 (by decide) <| At.zret (b := false) rfl (Nat.le_refl _) (Nat.le_refl _) (KR rfl) dL_law_390
              · rcases ite_e h with ⟨c72, h⟩ | ⟨c72, h⟩
                · refine At.scald eL eX hb g2.1 g2.2 dL_law_29 <| At.nm hv1 <| At.bipush dL_law_30 (by decide) <| At.iand dL_law_32 <| At.tsIn (off := 358) (tgt := 391) dL_law_33 (by omega) (by omega) (by rw [c72] <;> rfl) (by decide) <| ?_
                  refine At.aloadn dL_law_391 rfl <| At.aloadn dL_law_392 rfl <| At.iloadn dL_law_393 rfl <| At.iconst dL_law_394 (by decide) <| At.iadd dL_law_395 <| ?_
                  obtain ⟨v73, hv73, g74, h⟩ := rdS_e h
                  refine At.scald eL eX hb g74.1 g74.2 dL_law_396 <| At.nm hv73 <| At.aloadn dL_law_397 rfl <| At.iloadn dL_law_398 rfl <| At.iconst dL_law_399 (by decide) <| At.iadd dL_law_400 <| ?_
                  obtain ⟨v75, hv75, g76, h⟩ := rdS_e h
                  refine At.scald eL eX hb g76.1 g76.2 dL_law_401 <| At.nm hv75 <| ?_
                  obtain ⟨q77, hq77, h⟩ := bnd_e h
                  refine At.cV1L ⟨Nat.le_refl _, Nat.le_refl _⟩ (av := [vi v73, vi v75]) (rest := []) mv_X11_why lk_L_36 dL_law_402 rfl rfl sh_1 (Nat.le_of_ble_eq_true rfl) (by omega) ⟨rfl, rfl⟩ (rX11_why hq77) <| At.aloadn dL_law_405 rfl <| At.aloadn dL_law_406 rfl <| At.iloadn dL_law_407 rfl <| At.iconst dL_law_408 (by decide) <| At.iadd dL_law_409 <| ?_
                  obtain ⟨v78, hv78, g79, h⟩ := rdS_e h
                  refine At.scald eL eX hb g79.1 g79.2 dL_law_410 <| At.nm hv78 <| At.aloadn dL_law_411 rfl <| At.iloadn dL_law_412 rfl <| At.iconst dL_law_413 (by decide) <| At.iadd dL_law_414 <| ?_
                  obtain ⟨v80, hv80, g81, h⟩ := rdS_e h
                  refine At.scald eL eX hb g81.1 g81.2 dL_law_415 <| At.nm hv80 <| ?_
                  obtain ⟨q82, hq82, h⟩ := bnd_e h
                  rcases ite_e h with ⟨c84, h⟩ | ⟨c84, h⟩
                  · refine At.cV1L ⟨Nat.le_refl _, Nat.le_refl _⟩ (av := [vi v78, vi v80]) (rest := [vi q77.1]) mv_X12_why lk_L_39 dL_law_416 rfl rfl sh_130 (Nat.le_of_ble_eq_true rfl) (by omega) ⟨rfl, rfl⟩ (rX12_why hq82) <| At.icmp_eq_t (tgt := 1744) dL_law_419 (by decide) c84 <| ?_
                    obtain ⟨x83, hx83, h⟩ := lt_e h
                    refine At.iinc (ls' := [(3, vi x83), (0, vr 100031), (1, vr 1), (2, vr 130)]) dL_law_1744 rfl (by decide) (by rw [hx83]; rfl) <| At.goto (tgt := 18) dL_law_1747 (by decide) <| ?_
                    exact At.sub [1, 2, 3, 0] rfl (ih _ _ _ h K1750 KR)
                  · refine At.cV1L ⟨Nat.le_refl _, Nat.le_refl _⟩ (av := [vi v78, vi v80]) (rest := [vi q77.1]) mv_X12_why lk_L_39 dL_law_416 rfl rfl sh_130 (Nat.le_of_ble_eq_true rfl) (by omega) ⟨rfl, rfl⟩ (rX12_why hq82) <| At.icmp_eq_f (tgt := 1744) dL_law_419 (by decide) c84 <| ?_
                    obtain rfl := Option.some.inj h
                    exact At.iconst dL_law_422 (by decide) <| At.zret (b := false) rfl (Nat.le_refl _) (Nat.le_refl _) (KR rfl) dL_law_423
                · rcases ite_e h with ⟨c85, h⟩ | ⟨c85, h⟩
                  · refine At.scald eL eX hb g2.1 g2.2 dL_law_29 <| At.nm hv1 <| At.bipush dL_law_30 (by decide) <| At.iand dL_law_32 <| At.tsIn (off := 391) (tgt := 424) dL_law_33 (by omega) (by omega) (by rw [c85] <;> rfl) (by decide) <| ?_
                    refine At.aloadn dL_law_424 rfl <| At.aloadn dL_law_425 rfl <| At.iloadn dL_law_426 rfl <| At.iconst dL_law_427 (by decide) <| At.iadd dL_law_428 <| ?_
                    obtain ⟨v86, hv86, g87, h⟩ := rdS_e h
                    refine At.scald eL eX hb g87.1 g87.2 dL_law_429 <| At.nm hv86 <| At.aloadn dL_law_430 rfl <| At.iloadn dL_law_431 rfl <| At.iconst dL_law_432 (by decide) <| At.iadd dL_law_433 <| ?_
                    obtain ⟨v88, hv88, g89, h⟩ := rdS_e h
                    refine At.scald eL eX hb g89.1 g89.2 dL_law_434 <| At.nm hv88 <| At.aloadn dL_law_435 rfl <| At.iloadn dL_law_436 rfl <| At.iconst dL_law_437 (by decide) <| At.iadd dL_law_438 <| ?_
                    obtain ⟨v90, hv90, g91, h⟩ := rdS_e h
                    refine At.scald eL eX hb g91.1 g91.2 dL_law_439 <| At.nm hv90 <| ?_
                    obtain ⟨q92, hq92, h⟩ := bnd_e h
                    refine At.cV1L ⟨Nat.le_refl _, Nat.le_refl _⟩ (av := [vi v86, vi v88, vi v90]) (rest := []) mv_X11_by lk_L_40 dL_law_440 rfl rfl sh_1 (Nat.le_of_ble_eq_true rfl) (by omega) ⟨rfl, rfl⟩ (rX11_by hq92) <| At.aloadn dL_law_443 rfl <| At.aloadn dL_law_444 rfl <| At.iloadn dL_law_445 rfl <| At.iconst dL_law_446 (by decide) <| At.iadd dL_law_447 <| ?_
                    obtain ⟨v93, hv93, g94, h⟩ := rdS_e h
                    refine At.scald eL eX hb g94.1 g94.2 dL_law_448 <| At.nm hv93 <| At.aloadn dL_law_449 rfl <| At.iloadn dL_law_450 rfl <| At.iconst dL_law_451 (by decide) <| At.iadd dL_law_452 <| ?_
                    obtain ⟨v95, hv95, g96, h⟩ := rdS_e h
                    refine At.scald eL eX hb g96.1 g96.2 dL_law_453 <| At.nm hv95 <| At.aloadn dL_law_454 rfl <| At.iloadn dL_law_455 rfl <| At.iconst dL_law_456 (by decide) <| At.iadd dL_law_457 <| ?_
                    obtain ⟨v97, hv97, g98, h⟩ := rdS_e h
                    refine At.scald eL eX hb g98.1 g98.2 dL_law_458 <| At.nm hv97 <| ?_
                    obtain ⟨q99, hq99, h⟩ := bnd_e h
                    rcases ite_e h with ⟨c101, h⟩ | ⟨c101, h⟩
                    · refine At.cV1L ⟨Nat.le_refl _, Nat.le_refl _⟩ (av := [vi v93, vi v95, vi v97]) (rest := [vi q92.1]) mv_X12_by lk_L_44 dL_law_459 rfl rfl sh_130 (Nat.le_of_ble_eq_true rfl) (by omega) ⟨rfl, rfl⟩ (rX12_by hq99) <| At.icmp_eq_t (tgt := 1744) dL_law_462 (by decide) c101 <| ?_
                      obtain ⟨x100, hx100, h⟩ := lt_e h
                      refine At.iinc (ls' := [(3, vi x100), (0, vr 100031), (1, vr 1), (2, vr 130)]) dL_law_1744 rfl (by decide) (by rw [hx100]; rfl) <| At.goto (tgt := 18) dL_law_1747 (by decide) <| ?_
                      exact At.sub [1, 2, 3, 0] rfl (ih _ _ _ h K1750 KR)
                    · refine At.cV1L ⟨Nat.le_refl _, Nat.le_refl _⟩ (av := [vi v93, vi v95, vi v97]) (rest := [vi q92.1]) mv_X12_by lk_L_44 dL_law_459 rfl rfl sh_130 (Nat.le_of_ble_eq_true rfl) (by omega) ⟨rfl, rfl⟩ (rX12_by hq99) <| At.icmp_eq_f (tgt := 1744) dL_law_462 (by decide) c101 <| ?_
                      obtain rfl := Option.some.inj h
                      exact At.iconst dL_law_465 (by decide) <| At.zret (b := false) rfl (Nat.le_refl _) (Nat.le_refl _) (KR rfl) dL_law_466
                  · rcases ite_e h with ⟨c102, h⟩ | ⟨c102, h⟩
                    · refine At.scald eL eX hb g2.1 g2.2 dL_law_29 <| At.nm hv1 <| At.bipush dL_law_30 (by decide) <| At.iand dL_law_32 <| At.tsIn (off := 434) (tgt := 467) dL_law_33 (by omega) (by omega) (by rw [c102] <;> rfl) (by decide) <| ?_
                      refine At.aloadn dL_law_467 rfl <| At.aloadn dL_law_468 rfl <| At.iloadn dL_law_469 rfl <| At.iconst dL_law_470 (by decide) <| At.iadd dL_law_471 <| ?_
                      obtain ⟨v103, hv103, g104, h⟩ := rdS_e h
                      refine At.scald eL eX hb g104.1 g104.2 dL_law_472 <| At.nm hv103 <| At.aloadn dL_law_473 rfl <| At.iloadn dL_law_474 rfl <| At.iconst dL_law_475 (by decide) <| At.iadd dL_law_476 <| ?_
                      obtain ⟨v105, hv105, g106, h⟩ := rdS_e h
                      refine At.scald eL eX hb g106.1 g106.2 dL_law_477 <| At.nm hv105 <| ?_
                      obtain ⟨q107, hq107, h⟩ := bnd_e h
                      refine At.cV1L ⟨Nat.le_refl _, Nat.le_refl _⟩ (av := [vi v103, vi v105]) (rest := []) mv_X11_go lk_L_45 dL_law_478 rfl rfl sh_1 (Nat.le_of_ble_eq_true rfl) (by omega) ⟨rfl, rfl⟩ (rX11_go hq107) <| At.aloadn dL_law_481 rfl <| At.aloadn dL_law_482 rfl <| At.iloadn dL_law_483 rfl <| At.iconst dL_law_484 (by decide) <| At.iadd dL_law_485 <| ?_
                      obtain ⟨v108, hv108, g109, h⟩ := rdS_e h
                      refine At.scald eL eX hb g109.1 g109.2 dL_law_486 <| At.nm hv108 <| At.aloadn dL_law_487 rfl <| At.iloadn dL_law_488 rfl <| At.iconst dL_law_489 (by decide) <| At.iadd dL_law_490 <| ?_
                      obtain ⟨v110, hv110, g111, h⟩ := rdS_e h
                      refine At.scald eL eX hb g111.1 g111.2 dL_law_491 <| At.nm hv110 <| ?_
                      obtain ⟨q112, hq112, h⟩ := bnd_e h
                      rcases ite_e h with ⟨c114, h⟩ | ⟨c114, h⟩
                      · refine At.cV1L ⟨Nat.le_refl _, Nat.le_refl _⟩ (av := [vi v108, vi v110]) (rest := [vi q107.1]) mv_X12_go lk_L_48 dL_law_492 rfl rfl sh_130 (Nat.le_of_ble_eq_true rfl) (by omega) ⟨rfl, rfl⟩ (rX12_go hq112) <| At.icmp_eq_t (tgt := 1744) dL_law_495 (by decide) c114 <| ?_
                        obtain ⟨x113, hx113, h⟩ := lt_e h
                        refine At.iinc (ls' := [(3, vi x113), (0, vr 100031), (1, vr 1), (2, vr 130)]) dL_law_1744 rfl (by decide) (by rw [hx113]; rfl) <| At.goto (tgt := 18) dL_law_1747 (by decide) <| ?_
                        exact At.sub [1, 2, 3, 0] rfl (ih _ _ _ h K1750 KR)
                      · refine At.cV1L ⟨Nat.le_refl _, Nat.le_refl _⟩ (av := [vi v108, vi v110]) (rest := [vi q107.1]) mv_X12_go lk_L_48 dL_law_492 rfl rfl sh_130 (Nat.le_of_ble_eq_true rfl) (by omega) ⟨rfl, rfl⟩ (rX12_go hq112) <| At.icmp_eq_f (tgt := 1744) dL_law_495 (by decide) c114 <| ?_
                        obtain rfl := Option.some.inj h
                        exact At.iconst dL_law_498 (by decide) <| At.zret (b := false) rfl (Nat.le_refl _) (Nat.le_refl _) (KR rfl) dL_law_499
                    · rcases ite_e h with ⟨c115, h⟩ | ⟨c115, h⟩
                      · refine At.scald eL eX hb g2.1 g2.2 dL_law_29 <| At.nm hv1 <| At.bipush dL_law_30 (by decide) <| At.iand dL_law_32 <| At.tsIn (off := 467) (tgt := 500) dL_law_33 (by omega) (by omega) (by rw [c115] <;> rfl) (by decide) <| ?_
                        refine At.aloadn dL_law_500 rfl <| At.aloadn dL_law_501 rfl <| At.iloadn dL_law_502 rfl <| At.iconst dL_law_503 (by decide) <| At.iadd dL_law_504 <| ?_
                        obtain ⟨v116, hv116, g117, h⟩ := rdS_e h
                        refine At.scald eL eX hb g117.1 g117.2 dL_law_505 <| At.nm hv116 <| At.aloadn dL_law_506 rfl <| At.iloadn dL_law_507 rfl <| At.iconst dL_law_508 (by decide) <| At.iadd dL_law_509 <| ?_
                        obtain ⟨v118, hv118, g119, h⟩ := rdS_e h
                        refine At.scald eL eX hb g119.1 g119.2 dL_law_510 <| At.nm hv118 <| ?_
                        obtain ⟨q120, hq120, h⟩ := bnd_e h
                        refine At.cV1L ⟨Nat.le_refl _, Nat.le_refl _⟩ (av := [vi v116, vi v118]) (rest := []) mv_X11_sign lk_L_49 dL_law_511 rfl rfl sh_1 (Nat.le_of_ble_eq_true rfl) (by omega) ⟨rfl, rfl⟩ (rX11_sign hq120) <| At.aloadn dL_law_514 rfl <| At.aloadn dL_law_515 rfl <| At.iloadn dL_law_516 rfl <| At.iconst dL_law_517 (by decide) <| At.iadd dL_law_518 <| ?_
                        obtain ⟨v121, hv121, g122, h⟩ := rdS_e h
                        refine At.scald eL eX hb g122.1 g122.2 dL_law_519 <| At.nm hv121 <| At.aloadn dL_law_520 rfl <| At.iloadn dL_law_521 rfl <| At.iconst dL_law_522 (by decide) <| At.iadd dL_law_523 <| ?_
                        obtain ⟨v123, hv123, g124, h⟩ := rdS_e h
                        refine At.scald eL eX hb g124.1 g124.2 dL_law_524 <| At.nm hv123 <| ?_
                        obtain ⟨q125, hq125, h⟩ := bnd_e h
                        rcases ite_e h with ⟨c127, h⟩ | ⟨c127, h⟩
                        · refine At.cV1L ⟨Nat.le_refl _, Nat.le_refl _⟩ (av := [vi v121, vi v123]) (rest := [vi q120.1]) mv_X12_sign lk_L_52 dL_law_525 rfl rfl sh_130 (Nat.le_of_ble_eq_true rfl) (by omega) ⟨rfl, rfl⟩ (rX12_sign hq125) <| At.icmp_eq_t (tgt := 1744) dL_law_528 (by decide) c127 <| ?_
                          obtain ⟨x126, hx126, h⟩ := lt_e h
                          refine At.iinc (ls' := [(3, vi x126), (0, vr 100031), (1, vr 1), (2, vr 130)]) dL_law_1744 rfl (by decide) (by rw [hx126]; rfl) <| At.goto (tgt := 18) dL_law_1747 (by decide) <| ?_
                          exact At.sub [1, 2, 3, 0] rfl (ih _ _ _ h K1750 KR)
                        · refine At.cV1L ⟨Nat.le_refl _, Nat.le_refl _⟩ (av := [vi v121, vi v123]) (rest := [vi q120.1]) mv_X12_sign lk_L_52 dL_law_525 rfl rfl sh_130 (Nat.le_of_ble_eq_true rfl) (by omega) ⟨rfl, rfl⟩ (rX12_sign hq125) <| At.icmp_eq_f (tgt := 1744) dL_law_528 (by decide) c127 <| ?_
                          obtain rfl := Option.some.inj h
                          exact At.iconst dL_law_531 (by decide) <| At.zret (b := false) rfl (Nat.le_refl _) (Nat.le_refl _) (KR rfl) dL_law_532
                      · rcases ite_e h with ⟨c128, h⟩ | ⟨c128, h⟩
                        · refine At.scald eL eX hb g2.1 g2.2 dL_law_29 <| At.nm hv1 <| At.bipush dL_law_30 (by decide) <| At.iand dL_law_32 <| At.tsIn (off := 500) (tgt := 533) dL_law_33 (by omega) (by omega) (by rw [c128] <;> rfl) (by decide) <| ?_
                          refine At.aloadn dL_law_533 rfl <| At.aloadn dL_law_534 rfl <| At.iloadn dL_law_535 rfl <| At.iconst dL_law_536 (by decide) <| At.iadd dL_law_537 <| ?_
                          obtain ⟨v129, hv129, g130, h⟩ := rdS_e h
                          refine At.scald eL eX hb g130.1 g130.2 dL_law_538 <| At.nm hv129 <| ?_
                          obtain ⟨q131, hq131, h⟩ := bnd_e h
                          refine At.cV1L ⟨Nat.le_refl _, Nat.le_refl _⟩ (av := [vi v129]) (rest := []) mv_X11_bollards lk_L_53 dL_law_539 rfl rfl sh_1 (Nat.le_of_ble_eq_true rfl) (by omega) ⟨rfl, rfl⟩ (rX11_bollards hq131) <| At.aloadn dL_law_542 rfl <| At.aloadn dL_law_543 rfl <| At.iloadn dL_law_544 rfl <| At.iconst dL_law_545 (by decide) <| At.iadd dL_law_546 <| ?_
                          obtain ⟨v132, hv132, g133, h⟩ := rdS_e h
                          refine At.scald eL eX hb g133.1 g133.2 dL_law_547 <| At.nm hv132 <| ?_
                          obtain ⟨q134, hq134, h⟩ := bnd_e h
                          rcases ite_e h with ⟨c136, h⟩ | ⟨c136, h⟩
                          · refine At.cV1L ⟨Nat.le_refl _, Nat.le_refl _⟩ (av := [vi v132]) (rest := [vi q131.1]) mv_X12_bollards lk_L_56 dL_law_548 rfl rfl sh_130 (Nat.le_of_ble_eq_true rfl) (by omega) ⟨rfl, rfl⟩ (rX12_bollards hq134) <| At.icmp_eq_t (tgt := 1744) dL_law_551 (by decide) c136 <| ?_
                            obtain ⟨x135, hx135, h⟩ := lt_e h
                            refine At.iinc (ls' := [(3, vi x135), (0, vr 100031), (1, vr 1), (2, vr 130)]) dL_law_1744 rfl (by decide) (by rw [hx135]; rfl) <| At.goto (tgt := 18) dL_law_1747 (by decide) <| ?_
                            exact At.sub [1, 2, 3, 0] rfl (ih _ _ _ h K1750 KR)
                          · refine At.cV1L ⟨Nat.le_refl _, Nat.le_refl _⟩ (av := [vi v132]) (rest := [vi q131.1]) mv_X12_bollards lk_L_56 dL_law_548 rfl rfl sh_130 (Nat.le_of_ble_eq_true rfl) (by omega) ⟨rfl, rfl⟩ (rX12_bollards hq134) <| At.icmp_eq_f (tgt := 1744) dL_law_551 (by decide) c136 <| ?_
                            obtain rfl := Option.some.inj h
                            exact At.iconst dL_law_554 (by decide) <| At.zret (b := false) rfl (Nat.le_refl _) (Nat.le_refl _) (KR rfl) dL_law_555
                        · rcases ite_e h with ⟨c137, h⟩ | ⟨c137, h⟩
                          · refine At.scald eL eX hb g2.1 g2.2 dL_law_29 <| At.nm hv1 <| At.bipush dL_law_30 (by decide) <| At.iand dL_law_32 <| At.tsIn (off := 523) (tgt := 556) dL_law_33 (by omega) (by omega) (by rw [c137] <;> rfl) (by decide) <| ?_
                            refine At.aloadn dL_law_556 rfl <| At.aloadn dL_law_557 rfl <| At.iloadn dL_law_558 rfl <| At.iconst dL_law_559 (by decide) <| At.iadd dL_law_560 <| ?_
                            obtain ⟨v138, hv138, g139, h⟩ := rdS_e h
                            refine At.scald eL eX hb g139.1 g139.2 dL_law_561 <| At.nm hv138 <| At.aloadn dL_law_562 rfl <| At.iloadn dL_law_563 rfl <| At.iconst dL_law_564 (by decide) <| At.iadd dL_law_565 <| ?_
                            obtain ⟨v140, hv140, g141, h⟩ := rdS_e h
                            refine At.scald eL eX hb g141.1 g141.2 dL_law_566 <| At.nm hv140 <| At.aloadn dL_law_567 rfl <| At.iloadn dL_law_568 rfl <| At.iconst dL_law_569 (by decide) <| At.iadd dL_law_570 <| ?_
                            obtain ⟨v142, hv142, g143, h⟩ := rdS_e h
                            refine At.scald eL eX hb g143.1 g143.2 dL_law_571 <| At.nm hv142 <| ?_
                            obtain ⟨q144, hq144, h⟩ := bnd_e h
                            refine At.cV1L ⟨Nat.le_refl _, Nat.le_refl _⟩ (av := [vi v138, vi v140, vi v142]) (rest := []) mv_X11_put lk_L_57 dL_law_572 rfl rfl sh_1 (Nat.le_of_ble_eq_true rfl) (by omega) ⟨rfl, rfl⟩ (rX11_put hq144) <| At.aloadn dL_law_575 rfl <| At.aloadn dL_law_576 rfl <| At.iloadn dL_law_577 rfl <| At.iconst dL_law_578 (by decide) <| At.iadd dL_law_579 <| ?_
                            obtain ⟨v145, hv145, g146, h⟩ := rdS_e h
                            refine At.scald eL eX hb g146.1 g146.2 dL_law_580 <| At.nm hv145 <| At.aloadn dL_law_581 rfl <| At.iloadn dL_law_582 rfl <| At.iconst dL_law_583 (by decide) <| At.iadd dL_law_584 <| ?_
                            obtain ⟨v147, hv147, g148, h⟩ := rdS_e h
                            refine At.scald eL eX hb g148.1 g148.2 dL_law_585 <| At.nm hv147 <| At.aloadn dL_law_586 rfl <| At.iloadn dL_law_587 rfl <| At.iconst dL_law_588 (by decide) <| At.iadd dL_law_589 <| ?_
                            obtain ⟨v149, hv149, g150, h⟩ := rdS_e h
                            refine At.scald eL eX hb g150.1 g150.2 dL_law_590 <| At.nm hv149 <| ?_
                            obtain ⟨q151, hq151, h⟩ := bnd_e h
                            rcases ite_e h with ⟨c153, h⟩ | ⟨c153, h⟩
                            · refine At.cV1L ⟨Nat.le_refl _, Nat.le_refl _⟩ (av := [vi v145, vi v147, vi v149]) (rest := [vi q144.1]) mv_X12_put lk_L_60 dL_law_591 rfl rfl sh_130 (Nat.le_of_ble_eq_true rfl) (by omega) ⟨rfl, rfl⟩ (rX12_put hq151) <| At.icmp_eq_t (tgt := 1744) dL_law_594 (by decide) c153 <| ?_
                              obtain ⟨x152, hx152, h⟩ := lt_e h
                              refine At.iinc (ls' := [(3, vi x152), (0, vr 100031), (1, vr 1), (2, vr 130)]) dL_law_1744 rfl (by decide) (by rw [hx152]; rfl) <| At.goto (tgt := 18) dL_law_1747 (by decide) <| ?_
                              exact At.sub [1, 2, 3, 0] rfl (ih _ _ _ h K1750 KR)
                            · refine At.cV1L ⟨Nat.le_refl _, Nat.le_refl _⟩ (av := [vi v145, vi v147, vi v149]) (rest := [vi q144.1]) mv_X12_put lk_L_60 dL_law_591 rfl rfl sh_130 (Nat.le_of_ble_eq_true rfl) (by omega) ⟨rfl, rfl⟩ (rX12_put hq151) <| At.icmp_eq_f (tgt := 1744) dL_law_594 (by decide) c153 <| ?_
                              obtain rfl := Option.some.inj h
                              exact At.iconst dL_law_597 (by decide) <| At.zret (b := false) rfl (Nat.le_refl _) (Nat.le_refl _) (KR rfl) dL_law_598
                          · rcases ite_e h with ⟨c154, h⟩ | ⟨c154, h⟩
                            · refine At.scald eL eX hb g2.1 g2.2 dL_law_29 <| At.nm hv1 <| At.bipush dL_law_30 (by decide) <| At.iand dL_law_32 <| At.tsIn (off := 566) (tgt := 599) dL_law_33 (by omega) (by omega) (by rw [c154] <;> rfl) (by decide) <| ?_
                              refine At.aloadn dL_law_599 rfl <| At.aloadn dL_law_600 rfl <| At.iloadn dL_law_601 rfl <| At.iconst dL_law_602 (by decide) <| At.iadd dL_law_603 <| ?_
                              obtain ⟨v155, hv155, g156, h⟩ := rdS_e h
                              refine At.scald eL eX hb g156.1 g156.2 dL_law_604 <| At.nm hv155 <| ?_
                              obtain ⟨q157, hq157, h⟩ := bnd_e h
                              refine At.cV1L ⟨Nat.le_refl _, Nat.le_refl _⟩ (av := [vi v155]) (rest := []) mv_X11_undo lk_L_61 dL_law_605 rfl rfl sh_1 (Nat.le_of_ble_eq_true rfl) (by omega) ⟨rfl, rfl⟩ (rX11_undo hq157) <| At.aloadn dL_law_608 rfl <| At.aloadn dL_law_609 rfl <| At.iloadn dL_law_610 rfl <| At.iconst dL_law_611 (by decide) <| At.iadd dL_law_612 <| ?_
                              obtain ⟨v158, hv158, g159, h⟩ := rdS_e h
                              refine At.scald eL eX hb g159.1 g159.2 dL_law_613 <| At.nm hv158 <| ?_
                              obtain ⟨q160, hq160, h⟩ := bnd_e h
                              rcases ite_e h with ⟨c162, h⟩ | ⟨c162, h⟩
                              · refine At.cV1L ⟨Nat.le_refl _, Nat.le_refl _⟩ (av := [vi v158]) (rest := [vi q157.1]) mv_X12_undo lk_L_64 dL_law_614 rfl rfl sh_130 (Nat.le_of_ble_eq_true rfl) (by omega) ⟨rfl, rfl⟩ (rX12_undo hq160) <| At.icmp_eq_t (tgt := 1744) dL_law_617 (by decide) c162 <| ?_
                                obtain ⟨x161, hx161, h⟩ := lt_e h
                                refine At.iinc (ls' := [(3, vi x161), (0, vr 100031), (1, vr 1), (2, vr 130)]) dL_law_1744 rfl (by decide) (by rw [hx161]; rfl) <| At.goto (tgt := 18) dL_law_1747 (by decide) <| ?_
                                exact At.sub [1, 2, 3, 0] rfl (ih _ _ _ h K1750 KR)
                              · refine At.cV1L ⟨Nat.le_refl _, Nat.le_refl _⟩ (av := [vi v158]) (rest := [vi q157.1]) mv_X12_undo lk_L_64 dL_law_614 rfl rfl sh_130 (Nat.le_of_ble_eq_true rfl) (by omega) ⟨rfl, rfl⟩ (rX12_undo hq160) <| At.icmp_eq_f (tgt := 1744) dL_law_617 (by decide) c162 <| ?_
                                obtain rfl := Option.some.inj h
                                exact At.iconst dL_law_620 (by decide) <| At.zret (b := false) rfl (Nat.le_refl _) (Nat.le_refl _) (KR rfl) dL_law_621
                            · rcases ite_e h with ⟨c163, h⟩ | ⟨c163, h⟩
                              · refine At.scald eL eX hb g2.1 g2.2 dL_law_29 <| At.nm hv1 <| At.bipush dL_law_30 (by decide) <| At.iand dL_law_32 <| At.tsIn (off := 589) (tgt := 622) dL_law_33 (by omega) (by omega) (by rw [c163] <;> rfl) (by decide) <| ?_
                                refine At.aloadn dL_law_622 rfl <| At.aloadn dL_law_623 rfl <| At.iloadn dL_law_624 rfl <| At.iconst dL_law_625 (by decide) <| At.iadd dL_law_626 <| ?_
                                obtain ⟨v164, hv164, g165, h⟩ := rdS_e h
                                refine At.scald eL eX hb g165.1 g165.2 dL_law_627 <| At.nm hv164 <| At.aloadn dL_law_628 rfl <| At.iloadn dL_law_629 rfl <| At.iconst dL_law_630 (by decide) <| At.iadd dL_law_631 <| ?_
                                obtain ⟨v166, hv166, g167, h⟩ := rdS_e h
                                refine At.scald eL eX hb g167.1 g167.2 dL_law_632 <| At.nm hv166 <| ?_
                                obtain ⟨q168, hq168, h⟩ := bnd_e h
                                refine At.cV1L ⟨Nat.le_refl _, Nat.le_refl _⟩ (av := [vi v164, vi v166]) (rest := []) mv_X11_judge lk_L_65 dL_law_633 rfl rfl sh_1 (Nat.le_of_ble_eq_true rfl) (by omega) ⟨rfl, rfl⟩ (rX11_judge hq168) <| At.aloadn dL_law_636 rfl <| At.aloadn dL_law_637 rfl <| At.iloadn dL_law_638 rfl <| At.iconst dL_law_639 (by decide) <| At.iadd dL_law_640 <| ?_
                                obtain ⟨v169, hv169, g170, h⟩ := rdS_e h
                                refine At.scald eL eX hb g170.1 g170.2 dL_law_641 <| At.nm hv169 <| At.aloadn dL_law_642 rfl <| At.iloadn dL_law_643 rfl <| At.iconst dL_law_644 (by decide) <| At.iadd dL_law_645 <| ?_
                                obtain ⟨v171, hv171, g172, h⟩ := rdS_e h
                                refine At.scald eL eX hb g172.1 g172.2 dL_law_646 <| At.nm hv171 <| ?_
                                obtain ⟨q173, hq173, h⟩ := bnd_e h
                                rcases ite_e h with ⟨c175, h⟩ | ⟨c175, h⟩
                                · refine At.cV1L ⟨Nat.le_refl _, Nat.le_refl _⟩ (av := [vi v169, vi v171]) (rest := [vi q168.1]) mv_X12_judge lk_L_68 dL_law_647 rfl rfl sh_130 (Nat.le_of_ble_eq_true rfl) (by omega) ⟨rfl, rfl⟩ (rX12_judge hq173) <| At.icmp_eq_t (tgt := 1744) dL_law_650 (by decide) c175 <| ?_
                                  obtain ⟨x174, hx174, h⟩ := lt_e h
                                  refine At.iinc (ls' := [(3, vi x174), (0, vr 100031), (1, vr 1), (2, vr 130)]) dL_law_1744 rfl (by decide) (by rw [hx174]; rfl) <| At.goto (tgt := 18) dL_law_1747 (by decide) <| ?_
                                  exact At.sub [1, 2, 3, 0] rfl (ih _ _ _ h K1750 KR)
                                · refine At.cV1L ⟨Nat.le_refl _, Nat.le_refl _⟩ (av := [vi v169, vi v171]) (rest := [vi q168.1]) mv_X12_judge lk_L_68 dL_law_647 rfl rfl sh_130 (Nat.le_of_ble_eq_true rfl) (by omega) ⟨rfl, rfl⟩ (rX12_judge hq173) <| At.icmp_eq_f (tgt := 1744) dL_law_650 (by decide) c175 <| ?_
                                  obtain rfl := Option.some.inj h
                                  exact At.iconst dL_law_653 (by decide) <| At.zret (b := false) rfl (Nat.le_refl _) (Nat.le_refl _) (KR rfl) dL_law_654
                              · rcases ite_e h with ⟨c176, h⟩ | ⟨c176, h⟩
                                · refine At.scald eL eX hb g2.1 g2.2 dL_law_29 <| At.nm hv1 <| At.bipush dL_law_30 (by decide) <| At.iand dL_law_32 <| At.tsIn (off := 622) (tgt := 655) dL_law_33 (by omega) (by omega) (by rw [c176] <;> rfl) (by decide) <| ?_
                                  refine At.aloadn dL_law_655 rfl <| At.aloadn dL_law_656 rfl <| At.iloadn dL_law_657 rfl <| At.iconst dL_law_658 (by decide) <| At.iadd dL_law_659 <| ?_
                                  obtain ⟨v177, hv177, g178, h⟩ := rdS_e h
                                  refine At.scald eL eX hb g178.1 g178.2 dL_law_660 <| At.nm hv177 <| ?_
                                  obtain ⟨q179, hq179, h⟩ := bnd_e h
                                  refine At.cV1L ⟨Nat.le_refl _, Nat.le_refl _⟩ (av := [vi v177]) (rest := []) mv_X11_perform lk_L_69 dL_law_661 rfl rfl sh_1 (Nat.le_of_ble_eq_true rfl) (by omega) ⟨rfl, rfl⟩ (rX11_perform hq179) <| At.aloadn dL_law_664 rfl <| At.aloadn dL_law_665 rfl <| At.iloadn dL_law_666 rfl <| At.iconst dL_law_667 (by decide) <| At.iadd dL_law_668 <| ?_
                                  obtain ⟨v180, hv180, g181, h⟩ := rdS_e h
                                  refine At.scald eL eX hb g181.1 g181.2 dL_law_669 <| At.nm hv180 <| ?_
                                  obtain ⟨q182, hq182, h⟩ := bnd_e h
                                  rcases ite_e h with ⟨c184, h⟩ | ⟨c184, h⟩
                                  · refine At.cV1L ⟨Nat.le_refl _, Nat.le_refl _⟩ (av := [vi v180]) (rest := [vi q179.1]) mv_X12_perform lk_L_72 dL_law_670 rfl rfl sh_130 (Nat.le_of_ble_eq_true rfl) (by omega) ⟨rfl, rfl⟩ (rX12_perform hq182) <| At.icmp_eq_t (tgt := 1744) dL_law_673 (by decide) c184 <| ?_
                                    obtain ⟨x183, hx183, h⟩ := lt_e h
                                    refine At.iinc (ls' := [(3, vi x183), (0, vr 100031), (1, vr 1), (2, vr 130)]) dL_law_1744 rfl (by decide) (by rw [hx183]; rfl) <| At.goto (tgt := 18) dL_law_1747 (by decide) <| ?_
                                    exact At.sub [1, 2, 3, 0] rfl (ih _ _ _ h K1750 KR)
                                  · refine At.cV1L ⟨Nat.le_refl _, Nat.le_refl _⟩ (av := [vi v180]) (rest := [vi q179.1]) mv_X12_perform lk_L_72 dL_law_670 rfl rfl sh_130 (Nat.le_of_ble_eq_true rfl) (by omega) ⟨rfl, rfl⟩ (rX12_perform hq182) <| At.icmp_eq_f (tgt := 1744) dL_law_673 (by decide) c184 <| ?_
                                    obtain rfl := Option.some.inj h
                                    exact At.iconst dL_law_676 (by decide) <| At.zret (b := false) rfl (Nat.le_refl _) (Nat.le_refl _) (KR rfl) dL_law_677
                                · rcases ite_e h with ⟨c185, h⟩ | ⟨c185, h⟩
                                  · refine At.scald eL eX hb g2.1 g2.2 dL_law_29 <| At.nm hv1 <| At.bipush dL_law_30 (by decide) <| At.iand dL_law_32 <| At.tsIn (off := 645) (tgt := 678) dL_law_33 (by omega) (by omega) (by rw [c185] <;> rfl) (by decide) <| ?_
                                    refine At.aloadn dL_law_678 rfl <| At.aloadn dL_law_679 rfl <| At.iloadn dL_law_680 rfl <| At.iconst dL_law_681 (by decide) <| At.iadd dL_law_682 <| ?_
                                    obtain ⟨v186, hv186, g187, h⟩ := rdS_e h
                                    refine At.scald eL eX hb g187.1 g187.2 dL_law_683 <| At.nm hv186 <| At.aloadn dL_law_684 rfl <| At.iloadn dL_law_685 rfl <| At.iconst dL_law_686 (by decide) <| At.iadd dL_law_687 <| ?_
                                    obtain ⟨v188, hv188, g189, h⟩ := rdS_e h
                                    refine At.scald eL eX hb g189.1 g189.2 dL_law_688 <| At.nm hv188 <| ?_
                                    obtain ⟨q190, hq190, h⟩ := bnd_e h
                                    refine At.cV1L ⟨Nat.le_refl _, Nat.le_refl _⟩ (av := [vi v186, vi v188]) (rest := []) mv_X11_day lk_L_73 dL_law_689 rfl rfl sh_1 (Nat.le_of_ble_eq_true rfl) (by omega) ⟨rfl, rfl⟩ (rX11_day hq190) <| At.aloadn dL_law_692 rfl <| At.aloadn dL_law_693 rfl <| At.iloadn dL_law_694 rfl <| At.iconst dL_law_695 (by decide) <| At.iadd dL_law_696 <| ?_
                                    obtain ⟨v191, hv191, g192, h⟩ := rdS_e h
                                    refine At.scald eL eX hb g192.1 g192.2 dL_law_697 <| At.nm hv191 <| At.aloadn dL_law_698 rfl <| At.iloadn dL_law_699 rfl <| At.iconst dL_law_700 (by decide) <| At.iadd dL_law_701 <| ?_
                                    obtain ⟨v193, hv193, g194, h⟩ := rdS_e h
                                    refine At.scald eL eX hb g194.1 g194.2 dL_law_702 <| At.nm hv193 <| ?_
                                    obtain ⟨q195, hq195, h⟩ := bnd_e h
                                    rcases ite_e h with ⟨c197, h⟩ | ⟨c197, h⟩
                                    · refine At.cV1L ⟨Nat.le_refl _, Nat.le_refl _⟩ (av := [vi v191, vi v193]) (rest := [vi q190.1]) mv_X12_day lk_L_76 dL_law_703 rfl rfl sh_130 (Nat.le_of_ble_eq_true rfl) (by omega) ⟨rfl, rfl⟩ (rX12_day hq195) <| At.icmp_eq_t (tgt := 1744) dL_law_706 (by decide) c197 <| ?_
                                      obtain ⟨x196, hx196, h⟩ := lt_e h
                                      refine At.iinc (ls' := [(3, vi x196), (0, vr 100031), (1, vr 1), (2, vr 130)]) dL_law_1744 rfl (by decide) (by rw [hx196]; rfl) <| At.goto (tgt := 18) dL_law_1747 (by decide) <| ?_
                                      exact At.sub [1, 2, 3, 0] rfl (ih _ _ _ h K1750 KR)
                                    · refine At.cV1L ⟨Nat.le_refl _, Nat.le_refl _⟩ (av := [vi v191, vi v193]) (rest := [vi q190.1]) mv_X12_day lk_L_76 dL_law_703 rfl rfl sh_130 (Nat.le_of_ble_eq_true rfl) (by omega) ⟨rfl, rfl⟩ (rX12_day hq195) <| At.icmp_eq_f (tgt := 1744) dL_law_706 (by decide) c197 <| ?_
                                      obtain rfl := Option.some.inj h
                                      exact At.iconst dL_law_709 (by decide) <| At.zret (b := false) rfl (Nat.le_refl _) (Nat.le_refl _) (KR rfl) dL_law_710
                                  · rcases ite_e h with ⟨c198, h⟩ | ⟨c198, h⟩
                                    · refine At.scald eL eX hb g2.1 g2.2 dL_law_29 <| At.nm hv1 <| At.bipush dL_law_30 (by decide) <| At.iand dL_law_32 <| At.tsIn (off := 678) (tgt := 711) dL_law_33 (by omega) (by omega) (by rw [c198] <;> rfl) (by decide) <| ?_
                                      refine At.aloadn dL_law_711 rfl <| At.aloadn dL_law_712 rfl <| At.iloadn dL_law_713 rfl <| At.iconst dL_law_714 (by decide) <| At.iadd dL_law_715 <| ?_
                                      obtain ⟨v199, hv199, g200, h⟩ := rdS_e h
                                      refine At.scald eL eX hb g200.1 g200.2 dL_law_716 <| At.nm hv199 <| At.aloadn dL_law_717 rfl <| At.iloadn dL_law_718 rfl <| At.iconst dL_law_719 (by decide) <| At.iadd dL_law_720 <| ?_
                                      obtain ⟨v201, hv201, g202, h⟩ := rdS_e h
                                      refine At.scald eL eX hb g202.1 g202.2 dL_law_721 <| At.nm hv201 <| At.aloadn dL_law_722 rfl <| At.iloadn dL_law_723 rfl <| At.iconst dL_law_724 (by decide) <| At.iadd dL_law_725 <| ?_
                                      obtain ⟨v203, hv203, g204, h⟩ := rdS_e h
                                      refine At.scald eL eX hb g204.1 g204.2 dL_law_726 <| At.nm hv203 <| ?_
                                      obtain ⟨q205, hq205, h⟩ := bnd_e h
                                      refine At.cV1L ⟨Nat.le_refl _, Nat.le_refl _⟩ (av := [vi v199, vi v201, vi v203]) (rest := []) mv_X11_soonest lk_L_77 dL_law_727 rfl rfl sh_1 (Nat.le_of_ble_eq_true rfl) (by omega) ⟨rfl, rfl⟩ (rX11_soonest hq205) <| At.aloadn dL_law_730 rfl <| At.aloadn dL_law_731 rfl <| At.iloadn dL_law_732 rfl <| At.iconst dL_law_733 (by decide) <| At.iadd dL_law_734 <| ?_
                                      obtain ⟨v206, hv206, g207, h⟩ := rdS_e h
                                      refine At.scald eL eX hb g207.1 g207.2 dL_law_735 <| At.nm hv206 <| At.aloadn dL_law_736 rfl <| At.iloadn dL_law_737 rfl <| At.iconst dL_law_738 (by decide) <| At.iadd dL_law_739 <| ?_
                                      obtain ⟨v208, hv208, g209, h⟩ := rdS_e h
                                      refine At.scald eL eX hb g209.1 g209.2 dL_law_740 <| At.nm hv208 <| At.aloadn dL_law_741 rfl <| At.iloadn dL_law_742 rfl <| At.iconst dL_law_743 (by decide) <| At.iadd dL_law_744 <| ?_
                                      obtain ⟨v210, hv210, g211, h⟩ := rdS_e h
                                      refine At.scald eL eX hb g211.1 g211.2 dL_law_745 <| At.nm hv210 <| ?_
                                      obtain ⟨q212, hq212, h⟩ := bnd_e h
                                      rcases ite_e h with ⟨c214, h⟩ | ⟨c214, h⟩
                                      · refine At.cV1L ⟨Nat.le_refl _, Nat.le_refl _⟩ (av := [vi v206, vi v208, vi v210]) (rest := [vi q205.1]) mv_X12_soonest lk_L_80 dL_law_746 rfl rfl sh_130 (Nat.le_of_ble_eq_true rfl) (by omega) ⟨rfl, rfl⟩ (rX12_soonest hq212) <| At.icmp_eq_t (tgt := 1744) dL_law_749 (by decide) c214 <| ?_
                                        obtain ⟨x213, hx213, h⟩ := lt_e h
                                        refine At.iinc (ls' := [(3, vi x213), (0, vr 100031), (1, vr 1), (2, vr 130)]) dL_law_1744 rfl (by decide) (by rw [hx213]; rfl) <| At.goto (tgt := 18) dL_law_1747 (by decide) <| ?_
                                        exact At.sub [1, 2, 3, 0] rfl (ih _ _ _ h K1750 KR)
                                      · refine At.cV1L ⟨Nat.le_refl _, Nat.le_refl _⟩ (av := [vi v206, vi v208, vi v210]) (rest := [vi q205.1]) mv_X12_soonest lk_L_80 dL_law_746 rfl rfl sh_130 (Nat.le_of_ble_eq_true rfl) (by omega) ⟨rfl, rfl⟩ (rX12_soonest hq212) <| At.icmp_eq_f (tgt := 1744) dL_law_749 (by decide) c214 <| ?_
                                        obtain rfl := Option.some.inj h
                                        exact At.iconst dL_law_752 (by decide) <| At.zret (b := false) rfl (Nat.le_refl _) (Nat.le_refl _) (KR rfl) dL_law_753
                                    · rcases ite_e h with ⟨c215, h⟩ | ⟨c215, h⟩
                                      · refine At.scald eL eX hb g2.1 g2.2 dL_law_29 <| At.nm hv1 <| At.bipush dL_law_30 (by decide) <| At.iand dL_law_32 <| At.tsIn (off := 721) (tgt := 754) dL_law_33 (by omega) (by omega) (by rw [c215] <;> rfl) (by decide) <| ?_
                                        refine At.aloadn dL_law_754 rfl <| At.aloadn dL_law_755 rfl <| At.iloadn dL_law_756 rfl <| At.iconst dL_law_757 (by decide) <| At.iadd dL_law_758 <| ?_
                                        obtain ⟨v216, hv216, g217, h⟩ := rdS_e h
                                        refine At.scald eL eX hb g217.1 g217.2 dL_law_759 <| At.nm hv216 <| At.aloadn dL_law_760 rfl <| At.iloadn dL_law_761 rfl <| At.iconst dL_law_762 (by decide) <| At.iadd dL_law_763 <| ?_
                                        obtain ⟨v218, hv218, g219, h⟩ := rdS_e h
                                        refine At.scald eL eX hb g219.1 g219.2 dL_law_764 <| At.nm hv218 <| At.aloadn dL_law_765 rfl <| At.iloadn dL_law_766 rfl <| At.iconst dL_law_767 (by decide) <| At.iadd dL_law_768 <| ?_
                                        obtain ⟨v220, hv220, g221, h⟩ := rdS_e h
                                        refine At.scald eL eX hb g221.1 g221.2 dL_law_769 <| At.nm hv220 <| At.aloadn dL_law_770 rfl <| At.iloadn dL_law_771 rfl <| At.iconst dL_law_772 (by decide) <| At.iadd dL_law_773 <| ?_
                                        obtain ⟨v222, hv222, g223, h⟩ := rdS_e h
                                        refine At.scald eL eX hb g223.1 g223.2 dL_law_774 <| At.nm hv222 <| ?_
                                        obtain ⟨q224, hq224, h⟩ := bnd_e h
                                        refine At.cV1L ⟨Nat.le_refl _, Nat.le_refl _⟩ (av := [vi v216, vi v218, vi v220, vi v222]) (rest := []) mv_X11_way lk_L_81 dL_law_775 rfl rfl sh_1 (Nat.le_of_ble_eq_true rfl) (by omega) ⟨rfl, rfl⟩ (rX11_way hq224) <| At.aloadn dL_law_778 rfl <| At.aloadn dL_law_779 rfl <| At.iloadn dL_law_780 rfl <| At.iconst dL_law_781 (by decide) <| At.iadd dL_law_782 <| ?_
                                        obtain ⟨v225, hv225, g226, h⟩ := rdS_e h
                                        refine At.scald eL eX hb g226.1 g226.2 dL_law_783 <| At.nm hv225 <| At.aloadn dL_law_784 rfl <| At.iloadn dL_law_785 rfl <| At.iconst dL_law_786 (by decide) <| At.iadd dL_law_787 <| ?_
                                        obtain ⟨v227, hv227, g228, h⟩ := rdS_e h
                                        refine At.scald eL eX hb g228.1 g228.2 dL_law_788 <| At.nm hv227 <| At.aloadn dL_law_789 rfl <| At.iloadn dL_law_790 rfl <| At.iconst dL_law_791 (by decide) <| At.iadd dL_law_792 <| ?_
                                        obtain ⟨v229, hv229, g230, h⟩ := rdS_e h
                                        refine At.scald eL eX hb g230.1 g230.2 dL_law_793 <| At.nm hv229 <| At.aloadn dL_law_794 rfl <| At.iloadn dL_law_795 rfl <| At.iconst dL_law_796 (by decide) <| At.iadd dL_law_797 <| ?_
                                        obtain ⟨v231, hv231, g232, h⟩ := rdS_e h
                                        refine At.scald eL eX hb g232.1 g232.2 dL_law_798 <| At.nm hv231 <| ?_
                                        obtain ⟨q233, hq233, h⟩ := bnd_e h
                                        rcases ite_e h with ⟨c235, h⟩ | ⟨c235, h⟩
                                        · refine At.cV1L ⟨Nat.le_refl _, Nat.le_refl _⟩ (av := [vi v225, vi v227, vi v229, vi v231]) (rest := [vi q224.1]) mv_X12_way lk_L_85 dL_law_799 rfl rfl sh_130 (Nat.le_of_ble_eq_true rfl) (by omega) ⟨rfl, rfl⟩ (rX12_way hq233) <| At.icmp_eq_t (tgt := 1744) dL_law_802 (by decide) c235 <| ?_
                                          obtain ⟨x234, hx234, h⟩ := lt_e h
                                          refine At.iinc (ls' := [(3, vi x234), (0, vr 100031), (1, vr 1), (2, vr 130)]) dL_law_1744 rfl (by decide) (by rw [hx234]; rfl) <| At.goto (tgt := 18) dL_law_1747 (by decide) <| ?_
                                          exact At.sub [1, 2, 3, 0] rfl (ih _ _ _ h K1750 KR)
                                        · refine At.cV1L ⟨Nat.le_refl _, Nat.le_refl _⟩ (av := [vi v225, vi v227, vi v229, vi v231]) (rest := [vi q224.1]) mv_X12_way lk_L_85 dL_law_799 rfl rfl sh_130 (Nat.le_of_ble_eq_true rfl) (by omega) ⟨rfl, rfl⟩ (rX12_way hq233) <| At.icmp_eq_f (tgt := 1744) dL_law_802 (by decide) c235 <| ?_
                                          obtain rfl := Option.some.inj h
                                          exact At.iconst dL_law_805 (by decide) <| At.zret (b := false) rfl (Nat.le_refl _) (Nat.le_refl _) (KR rfl) dL_law_806
                                      · rcases ite_e h with ⟨c236, h⟩ | ⟨c236, h⟩
                                        · refine At.scald eL eX hb g2.1 g2.2 dL_law_29 <| At.nm hv1 <| At.bipush dL_law_30 (by decide) <| At.iand dL_law_32 <| At.tsIn (off := 774) (tgt := 807) dL_law_33 (by omega) (by omega) (by rw [c236] <;> rfl) (by decide) <| ?_
                                          refine At.aloadn dL_law_807 rfl <| At.aloadn dL_law_808 rfl <| At.iloadn dL_law_809 rfl <| At.iconst dL_law_810 (by decide) <| At.iadd dL_law_811 <| ?_
                                          obtain ⟨v237, hv237, g238, h⟩ := rdS_e h
                                          refine At.scald eL eX hb g238.1 g238.2 dL_law_812 <| At.nm hv237 <| At.aloadn dL_law_813 rfl <| At.iloadn dL_law_814 rfl <| At.iconst dL_law_815 (by decide) <| At.iadd dL_law_816 <| ?_
                                          obtain ⟨v239, hv239, g240, h⟩ := rdS_e h
                                          refine At.scald eL eX hb g240.1 g240.2 dL_law_817 <| At.nm hv239 <| At.aloadn dL_law_818 rfl <| At.iloadn dL_law_819 rfl <| At.iconst dL_law_820 (by decide) <| At.iadd dL_law_821 <| ?_
                                          obtain ⟨v241, hv241, g242, h⟩ := rdS_e h
                                          refine At.scald eL eX hb g242.1 g242.2 dL_law_822 <| At.nm hv241 <| At.aloadn dL_law_823 rfl <| At.iloadn dL_law_824 rfl <| At.iconst dL_law_825 (by decide) <| At.iadd dL_law_826 <| ?_
                                          obtain ⟨v243, hv243, g244, h⟩ := rdS_e h
                                          refine At.scald eL eX hb g244.1 g244.2 dL_law_827 <| At.nm hv243 <| ?_
                                          obtain ⟨q245, hq245, h⟩ := bnd_e h
                                          refine At.cV1L ⟨Nat.le_refl _, Nat.le_refl _⟩ (av := [vi v237, vi v239, vi v241, vi v243]) (rest := []) mv_X11_rows lk_L_86 dL_law_828 rfl rfl sh_1 (Nat.le_of_ble_eq_true rfl) (by omega) ⟨rfl, rfl⟩ (rX11_rows hq245) <| At.aloadn dL_law_831 rfl <| At.aloadn dL_law_832 rfl <| At.iloadn dL_law_833 rfl <| At.iconst dL_law_834 (by decide) <| At.iadd dL_law_835 <| ?_
                                          obtain ⟨v246, hv246, g247, h⟩ := rdS_e h
                                          refine At.scald eL eX hb g247.1 g247.2 dL_law_836 <| At.nm hv246 <| At.aloadn dL_law_837 rfl <| At.iloadn dL_law_838 rfl <| At.iconst dL_law_839 (by decide) <| At.iadd dL_law_840 <| ?_
                                          obtain ⟨v248, hv248, g249, h⟩ := rdS_e h
                                          refine At.scald eL eX hb g249.1 g249.2 dL_law_841 <| At.nm hv248 <| At.aloadn dL_law_842 rfl <| At.iloadn dL_law_843 rfl <| At.iconst dL_law_844 (by decide) <| At.iadd dL_law_845 <| ?_
                                          obtain ⟨v250, hv250, g251, h⟩ := rdS_e h
                                          refine At.scald eL eX hb g251.1 g251.2 dL_law_846 <| At.nm hv250 <| At.aloadn dL_law_847 rfl <| At.iloadn dL_law_848 rfl <| At.iconst dL_law_849 (by decide) <| At.iadd dL_law_850 <| ?_
                                          obtain ⟨v252, hv252, g253, h⟩ := rdS_e h
                                          refine At.scald eL eX hb g253.1 g253.2 dL_law_851 <| At.nm hv252 <| ?_
                                          obtain ⟨q254, hq254, h⟩ := bnd_e h
                                          rcases ite_e h with ⟨c256, h⟩ | ⟨c256, h⟩
                                          · refine At.cV1L ⟨Nat.le_refl _, Nat.le_refl _⟩ (av := [vi v246, vi v248, vi v250, vi v252]) (rest := [vl q245.1]) mv_X12_rows lk_L_90 dL_law_852 rfl rfl sh_130 (Nat.le_of_ble_eq_true rfl) (by omega) ⟨rfl, rfl⟩ (rX12_rows hq254) <| At.lcmp dL_law_855 <| At.if_eq_t (tgt := 1744) dL_law_856 (by decide) c256 <| ?_
                                            obtain ⟨x255, hx255, h⟩ := lt_e h
                                            refine At.iinc (ls' := [(3, vi x255), (0, vr 100031), (1, vr 1), (2, vr 130)]) dL_law_1744 rfl (by decide) (by rw [hx255]; rfl) <| At.goto (tgt := 18) dL_law_1747 (by decide) <| ?_
                                            exact At.sub [1, 2, 3, 0] rfl (ih _ _ _ h K1750 KR)
                                          · refine At.cV1L ⟨Nat.le_refl _, Nat.le_refl _⟩ (av := [vi v246, vi v248, vi v250, vi v252]) (rest := [vl q245.1]) mv_X12_rows lk_L_90 dL_law_852 rfl rfl sh_130 (Nat.le_of_ble_eq_true rfl) (by omega) ⟨rfl, rfl⟩ (rX12_rows hq254) <| At.lcmp dL_law_855 <| At.if_eq_f (tgt := 1744) dL_law_856 (by decide) c256 <| ?_
                                            obtain rfl := Option.some.inj h
                                            exact At.iconst dL_law_859 (by decide) <| At.zret (b := false) rfl (Nat.le_refl _) (Nat.le_refl _) (KR rfl) dL_law_860
                                        · rcases ite_e h with ⟨c257, h⟩ | ⟨c257, h⟩
                                          · refine At.scald eL eX hb g2.1 g2.2 dL_law_29 <| At.nm hv1 <| At.bipush dL_law_30 (by decide) <| At.iand dL_law_32 <| At.tsIn (off := 828) (tgt := 861) dL_law_33 (by omega) (by omega) (by rw [c257] <;> rfl) (by decide) <| ?_
                                            refine At.aloadn dL_law_861 rfl <| At.aloadn dL_law_862 rfl <| At.iloadn dL_law_863 rfl <| At.iconst dL_law_864 (by decide) <| At.iadd dL_law_865 <| ?_
                                            obtain ⟨v258, hv258, g259, h⟩ := rdS_e h
                                            refine At.scald eL eX hb g259.1 g259.2 dL_law_866 <| At.nm hv258 <| At.aloadn dL_law_867 rfl <| At.iloadn dL_law_868 rfl <| At.iconst dL_law_869 (by decide) <| At.iadd dL_law_870 <| ?_
                                            obtain ⟨v260, hv260, g261, h⟩ := rdS_e h
                                            refine At.scald eL eX hb g261.1 g261.2 dL_law_871 <| At.nm hv260 <| ?_
                                            obtain ⟨q262, hq262, h⟩ := bnd_e h
                                            refine At.cV1L ⟨Nat.le_refl _, Nat.le_refl _⟩ (av := [vi v258, vi v260]) (rest := []) mv_X11_when lk_L_91 dL_law_872 rfl rfl sh_1 (Nat.le_of_ble_eq_true rfl) (by omega) ⟨rfl, rfl⟩ (rX11_when hq262) <| At.aloadn dL_law_875 rfl <| At.aloadn dL_law_876 rfl <| At.iloadn dL_law_877 rfl <| At.iconst dL_law_878 (by decide) <| At.iadd dL_law_879 <| ?_
                                            obtain ⟨v263, hv263, g264, h⟩ := rdS_e h
                                            refine At.scald eL eX hb g264.1 g264.2 dL_law_880 <| At.nm hv263 <| At.aloadn dL_law_881 rfl <| At.iloadn dL_law_882 rfl <| At.iconst dL_law_883 (by decide) <| At.iadd dL_law_884 <| ?_
                                            obtain ⟨v265, hv265, g266, h⟩ := rdS_e h
                                            refine At.scald eL eX hb g266.1 g266.2 dL_law_885 <| At.nm hv265 <| ?_
                                            obtain ⟨q267, hq267, h⟩ := bnd_e h
                                            rcases ite_e h with ⟨c269, h⟩ | ⟨c269, h⟩
                                            · refine At.cV1L ⟨Nat.le_refl _, Nat.le_refl _⟩ (av := [vi v263, vi v265]) (rest := [vi q262.1]) mv_X12_when lk_L_94 dL_law_886 rfl rfl sh_130 (Nat.le_of_ble_eq_true rfl) (by omega) ⟨rfl, rfl⟩ (rX12_when hq267) <| At.icmp_eq_t (tgt := 1744) dL_law_889 (by decide) c269 <| ?_
                                              obtain ⟨x268, hx268, h⟩ := lt_e h
                                              refine At.iinc (ls' := [(3, vi x268), (0, vr 100031), (1, vr 1), (2, vr 130)]) dL_law_1744 rfl (by decide) (by rw [hx268]; rfl) <| At.goto (tgt := 18) dL_law_1747 (by decide) <| ?_
                                              exact At.sub [1, 2, 3, 0] rfl (ih _ _ _ h K1750 KR)
                                            · refine At.cV1L ⟨Nat.le_refl _, Nat.le_refl _⟩ (av := [vi v263, vi v265]) (rest := [vi q262.1]) mv_X12_when lk_L_94 dL_law_886 rfl rfl sh_130 (Nat.le_of_ble_eq_true rfl) (by omega) ⟨rfl, rfl⟩ (rX12_when hq267) <| At.icmp_eq_f (tgt := 1744) dL_law_889 (by decide) c269 <| ?_
                                              obtain rfl := Option.some.inj h
                                              exact At.iconst dL_law_892 (by decide) <| At.zret (b := false) rfl (Nat.le_refl _) (Nat.le_refl _) (KR rfl) dL_law_893
                                          · rcases ite_e h with ⟨c270, h⟩ | ⟨c270, h⟩
                                            · refine At.scald eL eX hb g2.1 g2.2 dL_law_29 <| At.nm hv1 <| At.bipush dL_law_30 (by decide) <| At.iand dL_law_32 <| At.tsIn (off := 861) (tgt := 894) dL_law_33 (by omega) (by omega) (by rw [c270] <;> rfl) (by decide) <| ?_
                                              refine At.aloadn dL_law_894 rfl <| At.aloadn dL_law_895 rfl <| At.iloadn dL_law_896 rfl <| At.iconst dL_law_897 (by decide) <| At.iadd dL_law_898 <| ?_
                                              obtain ⟨v271, hv271, g272, h⟩ := rdS_e h
                                              refine At.scald eL eX hb g272.1 g272.2 dL_law_899 <| At.nm hv271 <| At.aloadn dL_law_900 rfl <| At.iloadn dL_law_901 rfl <| At.iconst dL_law_902 (by decide) <| At.iadd dL_law_903 <| ?_
                                              obtain ⟨v273, hv273, g274, h⟩ := rdS_e h
                                              refine At.scald eL eX hb g274.1 g274.2 dL_law_904 <| At.nm hv273 <| ?_
                                              obtain ⟨q275, hq275, h⟩ := bnd_e h
                                              refine At.cV1L ⟨Nat.le_refl _, Nat.le_refl _⟩ (av := [vi v271, vi v273]) (rest := []) mv_X11_bound lk_L_95 dL_law_905 rfl rfl sh_1 (Nat.le_of_ble_eq_true rfl) (by omega) ⟨rfl, rfl⟩ (rX11_bound hq275) <| At.aloadn dL_law_908 rfl <| At.aloadn dL_law_909 rfl <| At.iloadn dL_law_910 rfl <| At.iconst dL_law_911 (by decide) <| At.iadd dL_law_912 <| ?_
                                              obtain ⟨v276, hv276, g277, h⟩ := rdS_e h
                                              refine At.scald eL eX hb g277.1 g277.2 dL_law_913 <| At.nm hv276 <| At.aloadn dL_law_914 rfl <| At.iloadn dL_law_915 rfl <| At.iconst dL_law_916 (by decide) <| At.iadd dL_law_917 <| ?_
                                              obtain ⟨v278, hv278, g279, h⟩ := rdS_e h
                                              refine At.scald eL eX hb g279.1 g279.2 dL_law_918 <| At.nm hv278 <| ?_
                                              obtain ⟨q280, hq280, h⟩ := bnd_e h
                                              rcases ite_e h with ⟨c282, h⟩ | ⟨c282, h⟩
                                              · refine At.cV1L ⟨Nat.le_refl _, Nat.le_refl _⟩ (av := [vi v276, vi v278]) (rest := [vi q275.1]) mv_X12_bound lk_L_98 dL_law_919 rfl rfl sh_130 (Nat.le_of_ble_eq_true rfl) (by omega) ⟨rfl, rfl⟩ (rX12_bound hq280) <| At.icmp_eq_t (tgt := 1744) dL_law_922 (by decide) c282 <| ?_
                                                obtain ⟨x281, hx281, h⟩ := lt_e h
                                                refine At.iinc (ls' := [(3, vi x281), (0, vr 100031), (1, vr 1), (2, vr 130)]) dL_law_1744 rfl (by decide) (by rw [hx281]; rfl) <| At.goto (tgt := 18) dL_law_1747 (by decide) <| ?_
                                                exact At.sub [1, 2, 3, 0] rfl (ih _ _ _ h K1750 KR)
                                              · refine At.cV1L ⟨Nat.le_refl _, Nat.le_refl _⟩ (av := [vi v276, vi v278]) (rest := [vi q275.1]) mv_X12_bound lk_L_98 dL_law_919 rfl rfl sh_130 (Nat.le_of_ble_eq_true rfl) (by omega) ⟨rfl, rfl⟩ (rX12_bound hq280) <| At.icmp_eq_f (tgt := 1744) dL_law_922 (by decide) c282 <| ?_
                                                obtain rfl := Option.some.inj h
                                                exact At.iconst dL_law_925 (by decide) <| At.zret (b := false) rfl (Nat.le_refl _) (Nat.le_refl _) (KR rfl) dL_law_926
                                            · rcases ite_e h with ⟨c283, h⟩ | ⟨c283, h⟩
                                              · refine At.scald eL eX hb g2.1 g2.2 dL_law_29 <| At.nm hv1 <| At.bipush dL_law_30 (by decide) <| At.iand dL_law_32 <| At.tsIn (off := 894) (tgt := 927) dL_law_33 (by omega) (by omega) (by rw [c283] <;> rfl) (by decide) <| ?_
                                                refine At.aloadn dL_law_927 rfl <| At.aloadn dL_law_928 rfl <| At.iloadn dL_law_929 rfl <| At.iconst dL_law_930 (by decide) <| At.iadd dL_law_931 <| ?_
                                                obtain ⟨v284, hv284, g285, h⟩ := rdS_e h
                                                refine At.scald eL eX hb g285.1 g285.2 dL_law_932 <| At.nm hv284 <| ?_
                                                obtain ⟨q286, hq286, h⟩ := bnd_e h
                                                refine At.cV1L ⟨Nat.le_refl _, Nat.le_refl _⟩ (av := [vi v284]) (rest := []) mv_X11_reach lk_L_99 dL_law_933 rfl rfl sh_1 (Nat.le_of_ble_eq_true rfl) (by omega) ⟨rfl, rfl⟩ (rX11_reach hq286) <| At.aloadn dL_law_936 rfl <| At.aloadn dL_law_937 rfl <| At.iloadn dL_law_938 rfl <| At.iconst dL_law_939 (by decide) <| At.iadd dL_law_940 <| ?_
                                                obtain ⟨v287, hv287, g288, h⟩ := rdS_e h
                                                refine At.scald eL eX hb g288.1 g288.2 dL_law_941 <| At.nm hv287 <| ?_
                                                obtain ⟨q289, hq289, h⟩ := bnd_e h
                                                rcases ite_e h with ⟨c291, h⟩ | ⟨c291, h⟩
                                                · refine At.cV1L ⟨Nat.le_refl _, Nat.le_refl _⟩ (av := [vi v287]) (rest := [vi q286.1]) mv_X12_reach lk_L_102 dL_law_942 rfl rfl sh_130 (Nat.le_of_ble_eq_true rfl) (by omega) ⟨rfl, rfl⟩ (rX12_reach hq289) <| At.icmp_eq_t (tgt := 1744) dL_law_945 (by decide) c291 <| ?_
                                                  obtain ⟨x290, hx290, h⟩ := lt_e h
                                                  refine At.iinc (ls' := [(3, vi x290), (0, vr 100031), (1, vr 1), (2, vr 130)]) dL_law_1744 rfl (by decide) (by rw [hx290]; rfl) <| At.goto (tgt := 18) dL_law_1747 (by decide) <| ?_
                                                  exact At.sub [1, 2, 3, 0] rfl (ih _ _ _ h K1750 KR)
                                                · refine At.cV1L ⟨Nat.le_refl _, Nat.le_refl _⟩ (av := [vi v287]) (rest := [vi q286.1]) mv_X12_reach lk_L_102 dL_law_942 rfl rfl sh_130 (Nat.le_of_ble_eq_true rfl) (by omega) ⟨rfl, rfl⟩ (rX12_reach hq289) <| At.icmp_eq_f (tgt := 1744) dL_law_945 (by decide) c291 <| ?_
                                                  obtain rfl := Option.some.inj h
                                                  exact At.iconst dL_law_948 (by decide) <| At.zret (b := false) rfl (Nat.le_refl _) (Nat.le_refl _) (KR rfl) dL_law_949
                                              · rcases ite_e h with ⟨c292, h⟩ | ⟨c292, h⟩
                                                · refine At.scald eL eX hb g2.1 g2.2 dL_law_29 <| At.nm hv1 <| At.bipush dL_law_30 (by decide) <| At.iand dL_law_32 <| At.tsIn (off := 917) (tgt := 950) dL_law_33 (by omega) (by omega) (by rw [c292] <;> rfl) (by decide) <| ?_
                                                  refine At.aloadn dL_law_950 rfl <| At.aloadn dL_law_951 rfl <| At.iloadn dL_law_952 rfl <| At.iconst dL_law_953 (by decide) <| At.iadd dL_law_954 <| ?_
                                                  obtain ⟨v293, hv293, g294, h⟩ := rdS_e h
                                                  refine At.scald eL eX hb g294.1 g294.2 dL_law_955 <| At.nm hv293 <| At.aloadn dL_law_956 rfl <| At.iloadn dL_law_957 rfl <| At.iconst dL_law_958 (by decide) <| At.iadd dL_law_959 <| ?_
                                                  obtain ⟨v295, hv295, g296, h⟩ := rdS_e h
                                                  refine At.scald eL eX hb g296.1 g296.2 dL_law_960 <| At.nm hv295 <| ?_
                                                  obtain ⟨q297, hq297, h⟩ := bnd_e h
                                                  refine At.cV1L ⟨Nat.le_refl _, Nat.le_refl _⟩ (av := [vi v293, vi v295]) (rest := []) mv_X11_meet lk_L_103 dL_law_961 rfl rfl sh_1 (Nat.le_of_ble_eq_true rfl) (by omega) ⟨rfl, rfl⟩ (rX11_meet hq297) <| At.aloadn dL_law_964 rfl <| At.aloadn dL_law_965 rfl <| At.iloadn dL_law_966 rfl <| At.iconst dL_law_967 (by decide) <| At.iadd dL_law_968 <| ?_
                                                  obtain ⟨v298, hv298, g299, h⟩ := rdS_e h
                                                  refine At.scald eL eX hb g299.1 g299.2 dL_law_969 <| At.nm hv298 <| At.aloadn dL_law_970 rfl <| At.iloadn dL_law_971 rfl <| At.iconst dL_law_972 (by decide) <| At.iadd dL_law_973 <| ?_
                                                  obtain ⟨v300, hv300, g301, h⟩ := rdS_e h
                                                  refine At.scald eL eX hb g301.1 g301.2 dL_law_974 <| At.nm hv300 <| ?_
                                                  obtain ⟨q302, hq302, h⟩ := bnd_e h
                                                  rcases ite_e h with ⟨c304, h⟩ | ⟨c304, h⟩
                                                  · refine At.cV1L ⟨Nat.le_refl _, Nat.le_refl _⟩ (av := [vi v298, vi v300]) (rest := [vi q297.1]) mv_X12_meet lk_L_106 dL_law_975 rfl rfl sh_130 (Nat.le_of_ble_eq_true rfl) (by omega) ⟨rfl, rfl⟩ (rX12_meet hq302) <| At.icmp_eq_t (tgt := 1744) dL_law_978 (by decide) c304 <| ?_
                                                    obtain ⟨x303, hx303, h⟩ := lt_e h
                                                    refine At.iinc (ls' := [(3, vi x303), (0, vr 100031), (1, vr 1), (2, vr 130)]) dL_law_1744 rfl (by decide) (by rw [hx303]; rfl) <| At.goto (tgt := 18) dL_law_1747 (by decide) <| ?_
                                                    exact At.sub [1, 2, 3, 0] rfl (ih _ _ _ h K1750 KR)
                                                  · refine At.cV1L ⟨Nat.le_refl _, Nat.le_refl _⟩ (av := [vi v298, vi v300]) (rest := [vi q297.1]) mv_X12_meet lk_L_106 dL_law_975 rfl rfl sh_130 (Nat.le_of_ble_eq_true rfl) (by omega) ⟨rfl, rfl⟩ (rX12_meet hq302) <| At.icmp_eq_f (tgt := 1744) dL_law_978 (by decide) c304 <| ?_
                                                    obtain rfl := Option.some.inj h
                                                    exact At.iconst dL_law_981 (by decide) <| At.zret (b := false) rfl (Nat.le_refl _) (Nat.le_refl _) (KR rfl) dL_law_982
                                                · rcases ite_e h with ⟨c305, h⟩ | ⟨c305, h⟩
                                                  · refine At.scald eL eX hb g2.1 g2.2 dL_law_29 <| At.nm hv1 <| At.bipush dL_law_30 (by decide) <| At.iand dL_law_32 <| At.tsIn (off := 950) (tgt := 983) dL_law_33 (by omega) (by omega) (by rw [c305] <;> rfl) (by decide) <| ?_
                                                    refine At.aloadn dL_law_983 rfl <| At.aloadn dL_law_984 rfl <| At.iloadn dL_law_985 rfl <| At.iconst dL_law_986 (by decide) <| At.iadd dL_law_987 <| ?_
                                                    obtain ⟨v306, hv306, g307, h⟩ := rdS_e h
                                                    refine At.scald eL eX hb g307.1 g307.2 dL_law_988 <| At.nm hv306 <| At.aloadn dL_law_989 rfl <| At.iloadn dL_law_990 rfl <| At.iconst dL_law_991 (by decide) <| At.iadd dL_law_992 <| ?_
                                                    obtain ⟨v308, hv308, g309, h⟩ := rdS_e h
                                                    refine At.scald eL eX hb g309.1 g309.2 dL_law_993 <| At.nm hv308 <| At.aloadn dL_law_994 rfl <| At.iloadn dL_law_995 rfl <| At.iconst dL_law_996 (by decide) <| At.iadd dL_law_997 <| ?_
                                                    obtain ⟨v310, hv310, g311, h⟩ := rdS_e h
                                                    refine At.scald eL eX hb g311.1 g311.2 dL_law_998 <| At.nm hv310 <| ?_
                                                    obtain ⟨q312, hq312, h⟩ := bnd_e h
                                                    refine At.cV1L ⟨Nat.le_refl _, Nat.le_refl _⟩ (av := [vi v306, vi v308, vi v310]) (rest := []) mv_X11_meetAt lk_L_107 dL_law_999 rfl rfl sh_1 (Nat.le_of_ble_eq_true rfl) (by omega) ⟨rfl, rfl⟩ (rX11_meetAt hq312) <| At.aloadn dL_law_1002 rfl <| At.aloadn dL_law_1003 rfl <| At.iloadn dL_law_1004 rfl <| At.iconst dL_law_1005 (by decide) <| At.iadd dL_law_1006 <| ?_
                                                    obtain ⟨v313, hv313, g314, h⟩ := rdS_e h
                                                    refine At.scald eL eX hb g314.1 g314.2 dL_law_1007 <| At.nm hv313 <| At.aloadn dL_law_1008 rfl <| At.iloadn dL_law_1009 rfl <| At.iconst dL_law_1010 (by decide) <| At.iadd dL_law_1011 <| ?_
                                                    obtain ⟨v315, hv315, g316, h⟩ := rdS_e h
                                                    refine At.scald eL eX hb g316.1 g316.2 dL_law_1012 <| At.nm hv315 <| At.aloadn dL_law_1013 rfl <| At.iloadn dL_law_1014 rfl <| At.iconst dL_law_1015 (by decide) <| At.iadd dL_law_1016 <| ?_
                                                    obtain ⟨v317, hv317, g318, h⟩ := rdS_e h
                                                    refine At.scald eL eX hb g318.1 g318.2 dL_law_1017 <| At.nm hv317 <| ?_
                                                    obtain ⟨q319, hq319, h⟩ := bnd_e h
                                                    rcases ite_e h with ⟨c321, h⟩ | ⟨c321, h⟩
                                                    · refine At.cV1L ⟨Nat.le_refl _, Nat.le_refl _⟩ (av := [vi v313, vi v315, vi v317]) (rest := [vi q312.1]) mv_X12_meetAt lk_L_110 dL_law_1018 rfl rfl sh_130 (Nat.le_of_ble_eq_true rfl) (by omega) ⟨rfl, rfl⟩ (rX12_meetAt hq319) <| At.icmp_eq_t (tgt := 1744) dL_law_1021 (by decide) c321 <| ?_
                                                      obtain ⟨x320, hx320, h⟩ := lt_e h
                                                      refine At.iinc (ls' := [(3, vi x320), (0, vr 100031), (1, vr 1), (2, vr 130)]) dL_law_1744 rfl (by decide) (by rw [hx320]; rfl) <| At.goto (tgt := 18) dL_law_1747 (by decide) <| ?_
                                                      exact At.sub [1, 2, 3, 0] rfl (ih _ _ _ h K1750 KR)
                                                    · refine At.cV1L ⟨Nat.le_refl _, Nat.le_refl _⟩ (av := [vi v313, vi v315, vi v317]) (rest := [vi q312.1]) mv_X12_meetAt lk_L_110 dL_law_1018 rfl rfl sh_130 (Nat.le_of_ble_eq_true rfl) (by omega) ⟨rfl, rfl⟩ (rX12_meetAt hq319) <| At.icmp_eq_f (tgt := 1744) dL_law_1021 (by decide) c321 <| ?_
                                                      obtain rfl := Option.some.inj h
                                                      exact At.iconst dL_law_1024 (by decide) <| At.zret (b := false) rfl (Nat.le_refl _) (Nat.le_refl _) (KR rfl) dL_law_1025
                                                  · rcases ite_e h with ⟨c322, h⟩ | ⟨c322, h⟩
                                                    · refine At.scald eL eX hb g2.1 g2.2 dL_law_29 <| At.nm hv1 <| At.bipush dL_law_30 (by decide) <| At.iand dL_law_32 <| At.tsIn (off := 993) (tgt := 1026) dL_law_33 (by omega) (by omega) (by rw [c322] <;> rfl) (by decide) <| ?_
                                                      refine At.aloadn dL_law_1026 rfl <| At.aloadn dL_law_1027 rfl <| At.iloadn dL_law_1028 rfl <| At.iconst dL_law_1029 (by decide) <| At.iadd dL_law_1030 <| ?_
                                                      obtain ⟨v323, hv323, g324, h⟩ := rdS_e h
                                                      refine At.scald eL eX hb g324.1 g324.2 dL_law_1031 <| At.nm hv323 <| ?_
                                                      obtain ⟨q325, hq325, h⟩ := bnd_e h
                                                      refine At.cV1L ⟨Nat.le_refl _, Nat.le_refl _⟩ (av := [vi v323]) (rest := []) mv_X11_ring lk_L_111 dL_law_1032 rfl rfl sh_1 (Nat.le_of_ble_eq_true rfl) (by omega) ⟨rfl, rfl⟩ (rX11_ring hq325) <| At.aloadn dL_law_1035 rfl <| At.aloadn dL_law_1036 rfl <| At.iloadn dL_law_1037 rfl <| At.iconst dL_law_1038 (by decide) <| At.iadd dL_law_1039 <| ?_
                                                      obtain ⟨v326, hv326, g327, h⟩ := rdS_e h
                                                      refine At.scald eL eX hb g327.1 g327.2 dL_law_1040 <| At.nm hv326 <| ?_
                                                      obtain ⟨q328, hq328, h⟩ := bnd_e h
                                                      rcases ite_e h with ⟨c330, h⟩ | ⟨c330, h⟩
                                                      · refine At.cV1L ⟨Nat.le_refl _, Nat.le_refl _⟩ (av := [vi v326]) (rest := [vi q325.1]) mv_X12_ring lk_L_114 dL_law_1041 rfl rfl sh_130 (Nat.le_of_ble_eq_true rfl) (by omega) ⟨rfl, rfl⟩ (rX12_ring hq328) <| At.icmp_eq_t (tgt := 1744) dL_law_1044 (by decide) c330 <| ?_
                                                        obtain ⟨x329, hx329, h⟩ := lt_e h
                                                        refine At.iinc (ls' := [(3, vi x329), (0, vr 100031), (1, vr 1), (2, vr 130)]) dL_law_1744 rfl (by decide) (by rw [hx329]; rfl) <| At.goto (tgt := 18) dL_law_1747 (by decide) <| ?_
                                                        exact At.sub [1, 2, 3, 0] rfl (ih _ _ _ h K1750 KR)
                                                      · refine At.cV1L ⟨Nat.le_refl _, Nat.le_refl _⟩ (av := [vi v326]) (rest := [vi q325.1]) mv_X12_ring lk_L_114 dL_law_1041 rfl rfl sh_130 (Nat.le_of_ble_eq_true rfl) (by omega) ⟨rfl, rfl⟩ (rX12_ring hq328) <| At.icmp_eq_f (tgt := 1744) dL_law_1044 (by decide) c330 <| ?_
                                                        obtain rfl := Option.some.inj h
                                                        exact At.iconst dL_law_1047 (by decide) <| At.zret (b := false) rfl (Nat.le_refl _) (Nat.le_refl _) (KR rfl) dL_law_1048
                                                    · rcases ite_e h with ⟨c331, h⟩ | ⟨c331, h⟩
                                                      · refine At.scald eL eX hb g2.1 g2.2 dL_law_29 <| At.nm hv1 <| At.bipush dL_law_30 (by decide) <| At.iand dL_law_32 <| At.tsIn (off := 1016) (tgt := 1049) dL_law_33 (by omega) (by omega) (by rw [c331] <;> rfl) (by decide) <| ?_
                                                        refine At.aloadn dL_law_1049 rfl <| At.aloadn dL_law_1050 rfl <| At.iloadn dL_law_1051 rfl <| At.iconst dL_law_1052 (by decide) <| At.iadd dL_law_1053 <| ?_
                                                        obtain ⟨v332, hv332, g333, h⟩ := rdS_e h
                                                        refine At.scald eL eX hb g333.1 g333.2 dL_law_1054 <| At.nm hv332 <| ?_
                                                        obtain ⟨q334, hq334, h⟩ := bnd_e h
                                                        refine At.cV1L ⟨Nat.le_refl _, Nat.le_refl _⟩ (av := [vi v332]) (rest := []) mv_X11_laws lk_L_115 dL_law_1055 rfl rfl sh_1 (Nat.le_of_ble_eq_true rfl) (by omega) ⟨rfl, rfl⟩ (rX11_laws hq334) <| At.aloadn dL_law_1058 rfl <| At.aloadn dL_law_1059 rfl <| At.iloadn dL_law_1060 rfl <| At.iconst dL_law_1061 (by decide) <| At.iadd dL_law_1062 <| ?_
                                                        obtain ⟨v335, hv335, g336, h⟩ := rdS_e h
                                                        refine At.scald eL eX hb g336.1 g336.2 dL_law_1063 <| At.nm hv335 <| ?_
                                                        obtain ⟨q337, hq337, h⟩ := bnd_e h
                                                        rcases ite_e h with ⟨c339, h⟩ | ⟨c339, h⟩
                                                        · refine At.cV1L ⟨Nat.le_refl _, Nat.le_refl _⟩ (av := [vi v335]) (rest := [vi q334.1]) mv_X12_laws lk_L_118 dL_law_1064 rfl rfl sh_130 (Nat.le_of_ble_eq_true rfl) (by omega) ⟨rfl, rfl⟩ (rX12_laws hq337) <| At.icmp_eq_t (tgt := 1744) dL_law_1067 (by decide) c339 <| ?_
                                                          obtain ⟨x338, hx338, h⟩ := lt_e h
                                                          refine At.iinc (ls' := [(3, vi x338), (0, vr 100031), (1, vr 1), (2, vr 130)]) dL_law_1744 rfl (by decide) (by rw [hx338]; rfl) <| At.goto (tgt := 18) dL_law_1747 (by decide) <| ?_
                                                          exact At.sub [1, 2, 3, 0] rfl (ih _ _ _ h K1750 KR)
                                                        · refine At.cV1L ⟨Nat.le_refl _, Nat.le_refl _⟩ (av := [vi v335]) (rest := [vi q334.1]) mv_X12_laws lk_L_118 dL_law_1064 rfl rfl sh_130 (Nat.le_of_ble_eq_true rfl) (by omega) ⟨rfl, rfl⟩ (rX12_laws hq337) <| At.icmp_eq_f (tgt := 1744) dL_law_1067 (by decide) c339 <| ?_
                                                          obtain rfl := Option.some.inj h
                                                          exact At.iconst dL_law_1070 (by decide) <| At.zret (b := false) rfl (Nat.le_refl _) (Nat.le_refl _) (KR rfl) dL_law_1071
                                                      · rcases ite_e h with ⟨c340, h⟩ | ⟨c340, h⟩
                                                        · refine At.scald eL eX hb g2.1 g2.2 dL_law_29 <| At.nm hv1 <| At.bipush dL_law_30 (by decide) <| At.iand dL_law_32 <| At.tsIn (off := 1039) (tgt := 1072) dL_law_33 (by omega) (by omega) (by rw [c340] <;> rfl) (by decide) <| ?_
                                                          refine At.aloadn dL_law_1072 rfl <| At.aloadn dL_law_1073 rfl <| At.iloadn dL_law_1074 rfl <| At.iconst dL_law_1075 (by decide) <| At.iadd dL_law_1076 <| ?_
                                                          obtain ⟨v341, hv341, g342, h⟩ := rdS_e h
                                                          refine At.scald eL eX hb g342.1 g342.2 dL_law_1077 <| At.nm hv341 <| At.aloadn dL_law_1078 rfl <| At.iloadn dL_law_1079 rfl <| At.iconst dL_law_1080 (by decide) <| At.iadd dL_law_1081 <| ?_
                                                          obtain ⟨v343, hv343, g344, h⟩ := rdS_e h
                                                          refine At.scald eL eX hb g344.1 g344.2 dL_law_1082 <| At.nm hv343 <| ?_
                                                          obtain ⟨q345, hq345, h⟩ := bnd_e h
                                                          refine At.cV1L ⟨Nat.le_refl _, Nat.le_refl _⟩ (av := [vi v341, vi v343]) (rest := []) mv_X11_bylaw lk_L_119 dL_law_1083 rfl rfl sh_1 (Nat.le_of_ble_eq_true rfl) (by omega) ⟨rfl, rfl⟩ (rX11_bylaw hq345) <| At.aloadn dL_law_1086 rfl <| At.aloadn dL_law_1087 rfl <| At.iloadn dL_law_1088 rfl <| At.iconst dL_law_1089 (by decide) <| At.iadd dL_law_1090 <| ?_
                                                          obtain ⟨v346, hv346, g347, h⟩ := rdS_e h
                                                          refine At.scald eL eX hb g347.1 g347.2 dL_law_1091 <| At.nm hv346 <| At.aloadn dL_law_1092 rfl <| At.iloadn dL_law_1093 rfl <| At.iconst dL_law_1094 (by decide) <| At.iadd dL_law_1095 <| ?_
                                                          obtain ⟨v348, hv348, g349, h⟩ := rdS_e h
                                                          refine At.scald eL eX hb g349.1 g349.2 dL_law_1096 <| At.nm hv348 <| ?_
                                                          obtain ⟨q350, hq350, h⟩ := bnd_e h
                                                          rcases ite_e h with ⟨c352, h⟩ | ⟨c352, h⟩
                                                          · refine At.cV1L ⟨Nat.le_refl _, Nat.le_refl _⟩ (av := [vi v346, vi v348]) (rest := [vi q345.1]) mv_X12_bylaw lk_L_122 dL_law_1097 rfl rfl sh_130 (Nat.le_of_ble_eq_true rfl) (by omega) ⟨rfl, rfl⟩ (rX12_bylaw hq350) <| At.icmp_eq_t (tgt := 1744) dL_law_1100 (by decide) c352 <| ?_
                                                            obtain ⟨x351, hx351, h⟩ := lt_e h
                                                            refine At.iinc (ls' := [(3, vi x351), (0, vr 100031), (1, vr 1), (2, vr 130)]) dL_law_1744 rfl (by decide) (by rw [hx351]; rfl) <| At.goto (tgt := 18) dL_law_1747 (by decide) <| ?_
                                                            exact At.sub [1, 2, 3, 0] rfl (ih _ _ _ h K1750 KR)
                                                          · refine At.cV1L ⟨Nat.le_refl _, Nat.le_refl _⟩ (av := [vi v346, vi v348]) (rest := [vi q345.1]) mv_X12_bylaw lk_L_122 dL_law_1097 rfl rfl sh_130 (Nat.le_of_ble_eq_true rfl) (by omega) ⟨rfl, rfl⟩ (rX12_bylaw hq350) <| At.icmp_eq_f (tgt := 1744) dL_law_1100 (by decide) c352 <| ?_
                                                            obtain rfl := Option.some.inj h
                                                            exact At.iconst dL_law_1103 (by decide) <| At.zret (b := false) rfl (Nat.le_refl _) (Nat.le_refl _) (KR rfl) dL_law_1104
                                                        · rcases ite_e h with ⟨c353, h⟩ | ⟨c353, h⟩
                                                          · refine At.scald eL eX hb g2.1 g2.2 dL_law_29 <| At.nm hv1 <| At.bipush dL_law_30 (by decide) <| At.iand dL_law_32 <| At.tsIn (off := 1072) (tgt := 1105) dL_law_33 (by omega) (by omega) (by rw [c353] <;> rfl) (by decide) <| ?_
                                                            refine At.aloadn dL_law_1105 rfl <| At.aloadn dL_law_1106 rfl <| At.iloadn dL_law_1107 rfl <| At.iconst dL_law_1108 (by decide) <| At.iadd dL_law_1109 <| ?_
                                                            obtain ⟨v354, hv354, g355, h⟩ := rdS_e h
                                                            refine At.scald eL eX hb g355.1 g355.2 dL_law_1110 <| At.nm hv354 <| At.aloadn dL_law_1111 rfl <| At.iloadn dL_law_1112 rfl <| At.iconst dL_law_1113 (by decide) <| At.iadd dL_law_1114 <| ?_
                                                            obtain ⟨v356, hv356, g357, h⟩ := rdS_e h
                                                            refine At.scald eL eX hb g357.1 g357.2 dL_law_1115 <| At.nm hv356 <| At.aloadn dL_law_1116 rfl <| At.iloadn dL_law_1117 rfl <| At.iconst dL_law_1118 (by decide) <| At.iadd dL_law_1119 <| ?_
                                                            obtain ⟨v358, hv358, g359, h⟩ := rdS_e h
                                                            refine At.scald eL eX hb g359.1 g359.2 dL_law_1120 <| At.nm hv358 <| ?_
                                                            obtain ⟨q360, hq360, h⟩ := bnd_e h
                                                            refine At.cV1L ⟨Nat.le_refl _, Nat.le_refl _⟩ (av := [vi v354, vi v356, vi v358]) (rest := []) mv_X11_shut lk_L_123 dL_law_1121 rfl rfl sh_1 (Nat.le_of_ble_eq_true rfl) (by omega) ⟨rfl, rfl⟩ (rX11_shut hq360) <| At.aloadn dL_law_1124 rfl <| At.aloadn dL_law_1125 rfl <| At.iloadn dL_law_1126 rfl <| At.iconst dL_law_1127 (by decide) <| At.iadd dL_law_1128 <| ?_
                                                            obtain ⟨v361, hv361, g362, h⟩ := rdS_e h
                                                            refine At.scald eL eX hb g362.1 g362.2 dL_law_1129 <| At.nm hv361 <| At.aloadn dL_law_1130 rfl <| At.iloadn dL_law_1131 rfl <| At.iconst dL_law_1132 (by decide) <| At.iadd dL_law_1133 <| ?_
                                                            obtain ⟨v363, hv363, g364, h⟩ := rdS_e h
                                                            refine At.scald eL eX hb g364.1 g364.2 dL_law_1134 <| At.nm hv363 <| At.aloadn dL_law_1135 rfl <| At.iloadn dL_law_1136 rfl <| At.iconst dL_law_1137 (by decide) <| At.iadd dL_law_1138 <| ?_
                                                            obtain ⟨v365, hv365, g366, h⟩ := rdS_e h
                                                            refine At.scald eL eX hb g366.1 g366.2 dL_law_1139 <| At.nm hv365 <| ?_
                                                            obtain ⟨q367, hq367, h⟩ := bnd_e h
                                                            rcases ite_e h with ⟨c369, h⟩ | ⟨c369, h⟩
                                                            · refine At.cV1L ⟨Nat.le_refl _, Nat.le_refl _⟩ (av := [vi v361, vi v363, vi v365]) (rest := [vi q360.1]) mv_X12_shut lk_L_126 dL_law_1140 rfl rfl sh_130 (Nat.le_of_ble_eq_true rfl) (by omega) ⟨rfl, rfl⟩ (rX12_shut hq367) <| At.icmp_eq_t (tgt := 1744) dL_law_1143 (by decide) c369 <| ?_
                                                              obtain ⟨x368, hx368, h⟩ := lt_e h
                                                              refine At.iinc (ls' := [(3, vi x368), (0, vr 100031), (1, vr 1), (2, vr 130)]) dL_law_1744 rfl (by decide) (by rw [hx368]; rfl) <| At.goto (tgt := 18) dL_law_1747 (by decide) <| ?_
                                                              exact At.sub [1, 2, 3, 0] rfl (ih _ _ _ h K1750 KR)
                                                            · refine At.cV1L ⟨Nat.le_refl _, Nat.le_refl _⟩ (av := [vi v361, vi v363, vi v365]) (rest := [vi q360.1]) mv_X12_shut lk_L_126 dL_law_1140 rfl rfl sh_130 (Nat.le_of_ble_eq_true rfl) (by omega) ⟨rfl, rfl⟩ (rX12_shut hq367) <| At.icmp_eq_f (tgt := 1744) dL_law_1143 (by decide) c369 <| ?_
                                                              obtain rfl := Option.some.inj h
                                                              exact At.iconst dL_law_1146 (by decide) <| At.zret (b := false) rfl (Nat.le_refl _) (Nat.le_refl _) (KR rfl) dL_law_1147
                                                          · rcases ite_e h with ⟨c370, h⟩ | ⟨c370, h⟩
                                                            · refine At.scald eL eX hb g2.1 g2.2 dL_law_29 <| At.nm hv1 <| At.bipush dL_law_30 (by decide) <| At.iand dL_law_32 <| At.tsIn (off := 1115) (tgt := 1148) dL_law_33 (by omega) (by omega) (by rw [c370] <;> rfl) (by decide) <| ?_
                                                              refine At.aloadn dL_law_1148 rfl <| At.aloadn dL_law_1149 rfl <| At.iloadn dL_law_1150 rfl <| At.iconst dL_law_1151 (by decide) <| At.iadd dL_law_1152 <| ?_
                                                              obtain ⟨v371, hv371, g372, h⟩ := rdS_e h
                                                              refine At.scald eL eX hb g372.1 g372.2 dL_law_1153 <| At.nm hv371 <| At.aloadn dL_law_1154 rfl <| At.iloadn dL_law_1155 rfl <| At.iconst dL_law_1156 (by decide) <| At.iadd dL_law_1157 <| ?_
                                                              obtain ⟨v373, hv373, g374, h⟩ := rdS_e h
                                                              refine At.scald eL eX hb g374.1 g374.2 dL_law_1158 <| At.nm hv373 <| ?_
                                                              obtain ⟨q375, hq375, h⟩ := bnd_e h
                                                              refine At.cV1L ⟨Nat.le_refl _, Nat.le_refl _⟩ (av := [vi v371, vi v373]) (rest := []) mv_X11_needed lk_L_127 dL_law_1159 rfl rfl sh_1 (Nat.le_of_ble_eq_true rfl) (by omega) ⟨rfl, rfl⟩ (rX11_needed hq375) <| At.aloadn dL_law_1162 rfl <| At.aloadn dL_law_1163 rfl <| At.iloadn dL_law_1164 rfl <| At.iconst dL_law_1165 (by decide) <| At.iadd dL_law_1166 <| ?_
                                                              obtain ⟨v376, hv376, g377, h⟩ := rdS_e h
                                                              refine At.scald eL eX hb g377.1 g377.2 dL_law_1167 <| At.nm hv376 <| At.aloadn dL_law_1168 rfl <| At.iloadn dL_law_1169 rfl <| At.iconst dL_law_1170 (by decide) <| At.iadd dL_law_1171 <| ?_
                                                              obtain ⟨v378, hv378, g379, h⟩ := rdS_e h
                                                              refine At.scald eL eX hb g379.1 g379.2 dL_law_1172 <| At.nm hv378 <| ?_
                                                              obtain ⟨q380, hq380, h⟩ := bnd_e h
                                                              rcases ite_e h with ⟨c382, h⟩ | ⟨c382, h⟩
                                                              · refine At.cV1L ⟨Nat.le_refl _, Nat.le_refl _⟩ (av := [vi v376, vi v378]) (rest := [vi q375.1]) mv_X12_needed lk_L_130 dL_law_1173 rfl rfl sh_130 (Nat.le_of_ble_eq_true rfl) (by omega) ⟨rfl, rfl⟩ (rX12_needed hq380) <| At.icmp_eq_t (tgt := 1744) dL_law_1176 (by decide) c382 <| ?_
                                                                obtain ⟨x381, hx381, h⟩ := lt_e h
                                                                refine At.iinc (ls' := [(3, vi x381), (0, vr 100031), (1, vr 1), (2, vr 130)]) dL_law_1744 rfl (by decide) (by rw [hx381]; rfl) <| At.goto (tgt := 18) dL_law_1747 (by decide) <| ?_
                                                                exact At.sub [1, 2, 3, 0] rfl (ih _ _ _ h K1750 KR)
                                                              · refine At.cV1L ⟨Nat.le_refl _, Nat.le_refl _⟩ (av := [vi v376, vi v378]) (rest := [vi q375.1]) mv_X12_needed lk_L_130 dL_law_1173 rfl rfl sh_130 (Nat.le_of_ble_eq_true rfl) (by omega) ⟨rfl, rfl⟩ (rX12_needed hq380) <| At.icmp_eq_f (tgt := 1744) dL_law_1176 (by decide) c382 <| ?_
                                                                obtain rfl := Option.some.inj h
                                                                exact At.iconst dL_law_1179 (by decide) <| At.zret (b := false) rfl (Nat.le_refl _) (Nat.le_refl _) (KR rfl) dL_law_1180
                                                            · rcases ite_e h with ⟨c383, h⟩ | ⟨c383, h⟩
                                                              · refine At.scald eL eX hb g2.1 g2.2 dL_law_29 <| At.nm hv1 <| At.bipush dL_law_30 (by decide) <| At.iand dL_law_32 <| At.tsIn (off := 1148) (tgt := 1181) dL_law_33 (by omega) (by omega) (by rw [c383] <;> rfl) (by decide) <| ?_
                                                                refine At.aloadn dL_law_1181 rfl <| At.aloadn dL_law_1182 rfl <| At.iloadn dL_law_1183 rfl <| At.iconst dL_law_1184 (by decide) <| At.iadd dL_law_1185 <| ?_
                                                                obtain ⟨v384, hv384, g385, h⟩ := rdS_e h
                                                                refine At.scald eL eX hb g385.1 g385.2 dL_law_1186 <| At.nm hv384 <| At.aloadn dL_law_1187 rfl <| At.iloadn dL_law_1188 rfl <| At.iconst dL_law_1189 (by decide) <| At.iadd dL_law_1190 <| ?_
                                                                obtain ⟨v386, hv386, g387, h⟩ := rdS_e h
                                                                refine At.scald eL eX hb g387.1 g387.2 dL_law_1191 <| At.nm hv386 <| At.aloadn dL_law_1192 rfl <| At.iloadn dL_law_1193 rfl <| At.iconst dL_law_1194 (by decide) <| At.iadd dL_law_1195 <| ?_
                                                                obtain ⟨v388, hv388, g389, h⟩ := rdS_e h
                                                                refine At.scald eL eX hb g389.1 g389.2 dL_law_1196 <| At.nm hv388 <| ?_
                                                                obtain ⟨q390, hq390, h⟩ := bnd_e h
                                                                refine At.cV1L ⟨Nat.le_refl _, Nat.le_refl _⟩ (av := [vi v384, vi v386, vi v388]) (rest := []) mv_X11_from lk_L_131 dL_law_1197 rfl rfl sh_1 (Nat.le_of_ble_eq_true rfl) (by omega) ⟨rfl, rfl⟩ (rX11_from hq390) <| At.aloadn dL_law_1200 rfl <| At.aloadn dL_law_1201 rfl <| At.iloadn dL_law_1202 rfl <| At.iconst dL_law_1203 (by decide) <| At.iadd dL_law_1204 <| ?_
                                                                obtain ⟨v391, hv391, g392, h⟩ := rdS_e h
                                                                refine At.scald eL eX hb g392.1 g392.2 dL_law_1205 <| At.nm hv391 <| At.aloadn dL_law_1206 rfl <| At.iloadn dL_law_1207 rfl <| At.iconst dL_law_1208 (by decide) <| At.iadd dL_law_1209 <| ?_
                                                                obtain ⟨v393, hv393, g394, h⟩ := rdS_e h
                                                                refine At.scald eL eX hb g394.1 g394.2 dL_law_1210 <| At.nm hv393 <| At.aloadn dL_law_1211 rfl <| At.iloadn dL_law_1212 rfl <| At.iconst dL_law_1213 (by decide) <| At.iadd dL_law_1214 <| ?_
                                                                obtain ⟨v395, hv395, g396, h⟩ := rdS_e h
                                                                refine At.scald eL eX hb g396.1 g396.2 dL_law_1215 <| At.nm hv395 <| ?_
                                                                obtain ⟨q397, hq397, h⟩ := bnd_e h
                                                                rcases ite_e h with ⟨c399, h⟩ | ⟨c399, h⟩
                                                                · refine At.cV1L ⟨Nat.le_refl _, Nat.le_refl _⟩ (av := [vi v391, vi v393, vi v395]) (rest := [vi q390.1]) mv_X12_from lk_L_134 dL_law_1216 rfl rfl sh_130 (Nat.le_of_ble_eq_true rfl) (by omega) ⟨rfl, rfl⟩ (rX12_from hq397) <| At.icmp_eq_t (tgt := 1744) dL_law_1219 (by decide) c399 <| ?_
                                                                  obtain ⟨x398, hx398, h⟩ := lt_e h
                                                                  refine At.iinc (ls' := [(3, vi x398), (0, vr 100031), (1, vr 1), (2, vr 130)]) dL_law_1744 rfl (by decide) (by rw [hx398]; rfl) <| At.goto (tgt := 18) dL_law_1747 (by decide) <| ?_
                                                                  exact At.sub [1, 2, 3, 0] rfl (ih _ _ _ h K1750 KR)
                                                                · refine At.cV1L ⟨Nat.le_refl _, Nat.le_refl _⟩ (av := [vi v391, vi v393, vi v395]) (rest := [vi q390.1]) mv_X12_from lk_L_134 dL_law_1216 rfl rfl sh_130 (Nat.le_of_ble_eq_true rfl) (by omega) ⟨rfl, rfl⟩ (rX12_from hq397) <| At.icmp_eq_f (tgt := 1744) dL_law_1219 (by decide) c399 <| ?_
                                                                  obtain rfl := Option.some.inj h
                                                                  exact At.iconst dL_law_1222 (by decide) <| At.zret (b := false) rfl (Nat.le_refl _) (Nat.le_refl _) (KR rfl) dL_law_1223
                                                              · rcases ite_e h with ⟨c400, h⟩ | ⟨c400, h⟩
                                                                · refine At.scald eL eX hb g2.1 g2.2 dL_law_29 <| At.nm hv1 <| At.bipush dL_law_30 (by decide) <| At.iand dL_law_32 <| At.tsIn (off := 1191) (tgt := 1224) dL_law_33 (by omega) (by omega) (by rw [c400] <;> rfl) (by decide) <| ?_
                                                                  refine At.aloadn dL_law_1224 rfl <| At.aloadn dL_law_1225 rfl <| At.iloadn dL_law_1226 rfl <| At.iconst dL_law_1227 (by decide) <| At.iadd dL_law_1228 <| ?_
                                                                  obtain ⟨v401, hv401, g402, h⟩ := rdS_e h
                                                                  refine At.scald eL eX hb g402.1 g402.2 dL_law_1229 <| At.nm hv401 <| At.aloadn dL_law_1230 rfl <| At.iloadn dL_law_1231 rfl <| At.iconst dL_law_1232 (by decide) <| At.iadd dL_law_1233 <| ?_
                                                                  obtain ⟨v403, hv403, g404, h⟩ := rdS_e h
                                                                  refine At.scald eL eX hb g404.1 g404.2 dL_law_1234 <| At.nm hv403 <| At.aloadn dL_law_1235 rfl <| At.iloadn dL_law_1236 rfl <| At.iconst dL_law_1237 (by decide) <| At.iadd dL_law_1238 <| ?_
                                                                  obtain ⟨v405, hv405, g406, h⟩ := rdS_e h
                                                                  refine At.scald eL eX hb g406.1 g406.2 dL_law_1239 <| At.nm hv405 <| ?_
                                                                  obtain ⟨q407, hq407, h⟩ := bnd_e h
                                                                  refine At.cV1L ⟨Nat.le_refl _, Nat.le_refl _⟩ (av := [vi v401, vi v403, vi v405]) (rest := []) mv_X11_bollardsBy lk_L_135 dL_law_1240 rfl rfl sh_1 (Nat.le_of_ble_eq_true rfl) (by omega) ⟨rfl, rfl⟩ (rX11_bollardsBy hq407) <| At.aloadn dL_law_1243 rfl <| At.aloadn dL_law_1244 rfl <| At.iloadn dL_law_1245 rfl <| At.iconst dL_law_1246 (by decide) <| At.iadd dL_law_1247 <| ?_
                                                                  obtain ⟨v408, hv408, g409, h⟩ := rdS_e h
                                                                  refine At.scald eL eX hb g409.1 g409.2 dL_law_1248 <| At.nm hv408 <| At.aloadn dL_law_1249 rfl <| At.iloadn dL_law_1250 rfl <| At.iconst dL_law_1251 (by decide) <| At.iadd dL_law_1252 <| ?_
                                                                  obtain ⟨v410, hv410, g411, h⟩ := rdS_e h
                                                                  refine At.scald eL eX hb g411.1 g411.2 dL_law_1253 <| At.nm hv410 <| At.aloadn dL_law_1254 rfl <| At.iloadn dL_law_1255 rfl <| At.iconst dL_law_1256 (by decide) <| At.iadd dL_law_1257 <| ?_
                                                                  obtain ⟨v412, hv412, g413, h⟩ := rdS_e h
                                                                  refine At.scald eL eX hb g413.1 g413.2 dL_law_1258 <| At.nm hv412 <| ?_
                                                                  obtain ⟨q414, hq414, h⟩ := bnd_e h
                                                                  rcases ite_e h with ⟨c416, h⟩ | ⟨c416, h⟩
                                                                  · refine At.cV1L ⟨Nat.le_refl _, Nat.le_refl _⟩ (av := [vi v408, vi v410, vi v412]) (rest := [vi q407.1]) mv_X12_bollardsBy lk_L_138 dL_law_1259 rfl rfl sh_130 (Nat.le_of_ble_eq_true rfl) (by omega) ⟨rfl, rfl⟩ (rX12_bollardsBy hq414) <| At.icmp_eq_t (tgt := 1744) dL_law_1262 (by decide) c416 <| ?_
                                                                    obtain ⟨x415, hx415, h⟩ := lt_e h
                                                                    refine At.iinc (ls' := [(3, vi x415), (0, vr 100031), (1, vr 1), (2, vr 130)]) dL_law_1744 rfl (by decide) (by rw [hx415]; rfl) <| At.goto (tgt := 18) dL_law_1747 (by decide) <| ?_
                                                                    exact At.sub [1, 2, 3, 0] rfl (ih _ _ _ h K1750 KR)
                                                                  · refine At.cV1L ⟨Nat.le_refl _, Nat.le_refl _⟩ (av := [vi v408, vi v410, vi v412]) (rest := [vi q407.1]) mv_X12_bollardsBy lk_L_138 dL_law_1259 rfl rfl sh_130 (Nat.le_of_ble_eq_true rfl) (by omega) ⟨rfl, rfl⟩ (rX12_bollardsBy hq414) <| At.icmp_eq_f (tgt := 1744) dL_law_1262 (by decide) c416 <| ?_
                                                                    obtain rfl := Option.some.inj h
                                                                    exact At.iconst dL_law_1265 (by decide) <| At.zret (b := false) rfl (Nat.le_refl _) (Nat.le_refl _) (KR rfl) dL_law_1266
                                                                · rcases ite_e h with ⟨c417, h⟩ | ⟨c417, h⟩
                                                                  · refine At.scald eL eX hb g2.1 g2.2 dL_law_29 <| At.nm hv1 <| At.bipush dL_law_30 (by decide) <| At.iand dL_law_32 <| At.tsIn (off := 1234) (tgt := 1267) dL_law_33 (by omega) (by omega) (by rw [c417] <;> rfl) (by decide) <| ?_
                                                                    refine At.aloadn dL_law_1267 rfl <| At.aloadn dL_law_1268 rfl <| At.iloadn dL_law_1269 rfl <| At.iconst dL_law_1270 (by decide) <| At.iadd dL_law_1271 <| ?_
                                                                    obtain ⟨v418, hv418, g419, h⟩ := rdS_e h
                                                                    refine At.scald eL eX hb g419.1 g419.2 dL_law_1272 <| At.nm hv418 <| At.aloadn dL_law_1273 rfl <| At.iloadn dL_law_1274 rfl <| At.iconst dL_law_1275 (by decide) <| At.iadd dL_law_1276 <| ?_
                                                                    obtain ⟨v420, hv420, g421, h⟩ := rdS_e h
                                                                    refine At.scald eL eX hb g421.1 g421.2 dL_law_1277 <| At.nm hv420 <| At.aloadn dL_law_1278 rfl <| At.iloadn dL_law_1279 rfl <| At.iconst dL_law_1280 (by decide) <| At.iadd dL_law_1281 <| ?_
                                                                    obtain ⟨v422, hv422, g423, h⟩ := rdS_e h
                                                                    refine At.scald eL eX hb g423.1 g423.2 dL_law_1282 <| At.nm hv422 <| ?_
                                                                    obtain ⟨q424, hq424, h⟩ := bnd_e h
                                                                    refine At.cV1L ⟨Nat.le_refl _, Nat.le_refl _⟩ (av := [vi v418, vi v420, vi v422]) (rest := []) mv_X11_attempt lk_L_139 dL_law_1283 rfl rfl sh_1 (Nat.le_of_ble_eq_true rfl) (by omega) ⟨rfl, rfl⟩ (rX11_attempt hq424) <| At.aloadn dL_law_1286 rfl <| At.aloadn dL_law_1287 rfl <| At.iloadn dL_law_1288 rfl <| At.iconst dL_law_1289 (by decide) <| At.iadd dL_law_1290 <| ?_
                                                                    obtain ⟨v425, hv425, g426, h⟩ := rdS_e h
                                                                    refine At.scald eL eX hb g426.1 g426.2 dL_law_1291 <| At.nm hv425 <| At.aloadn dL_law_1292 rfl <| At.iloadn dL_law_1293 rfl <| At.iconst dL_law_1294 (by decide) <| At.iadd dL_law_1295 <| ?_
                                                                    obtain ⟨v427, hv427, g428, h⟩ := rdS_e h
                                                                    refine At.scald eL eX hb g428.1 g428.2 dL_law_1296 <| At.nm hv427 <| At.aloadn dL_law_1297 rfl <| At.iloadn dL_law_1298 rfl <| At.iconst dL_law_1299 (by decide) <| At.iadd dL_law_1300 <| ?_
                                                                    obtain ⟨v429, hv429, g430, h⟩ := rdS_e h
                                                                    refine At.scald eL eX hb g430.1 g430.2 dL_law_1301 <| At.nm hv429 <| ?_
                                                                    obtain ⟨q431, hq431, h⟩ := bnd_e h
                                                                    rcases ite_e h with ⟨c433, h⟩ | ⟨c433, h⟩
                                                                    · refine At.cV1L ⟨Nat.le_refl _, Nat.le_refl _⟩ (av := [vi v425, vi v427, vi v429]) (rest := [vi q424.1]) mv_X12_attempt lk_L_142 dL_law_1302 rfl rfl sh_130 (Nat.le_of_ble_eq_true rfl) (by omega) ⟨rfl, rfl⟩ (rX12_attempt hq431) <| At.icmp_eq_t (tgt := 1744) dL_law_1305 (by decide) c433 <| ?_
                                                                      obtain ⟨x432, hx432, h⟩ := lt_e h
                                                                      refine At.iinc (ls' := [(3, vi x432), (0, vr 100031), (1, vr 1), (2, vr 130)]) dL_law_1744 rfl (by decide) (by rw [hx432]; rfl) <| At.goto (tgt := 18) dL_law_1747 (by decide) <| ?_
                                                                      exact At.sub [1, 2, 3, 0] rfl (ih _ _ _ h K1750 KR)
                                                                    · refine At.cV1L ⟨Nat.le_refl _, Nat.le_refl _⟩ (av := [vi v425, vi v427, vi v429]) (rest := [vi q424.1]) mv_X12_attempt lk_L_142 dL_law_1302 rfl rfl sh_130 (Nat.le_of_ble_eq_true rfl) (by omega) ⟨rfl, rfl⟩ (rX12_attempt hq431) <| At.icmp_eq_f (tgt := 1744) dL_law_1305 (by decide) c433 <| ?_
                                                                      obtain rfl := Option.some.inj h
                                                                      exact At.iconst dL_law_1308 (by decide) <| At.zret (b := false) rfl (Nat.le_refl _) (Nat.le_refl _) (KR rfl) dL_law_1309
                                                                  · rcases ite_e h with ⟨c434, h⟩ | ⟨c434, h⟩
                                                                    · refine At.scald eL eX hb g2.1 g2.2 dL_law_29 <| At.nm hv1 <| At.bipush dL_law_30 (by decide) <| At.iand dL_law_32 <| At.tsIn (off := 1277) (tgt := 1310) dL_law_33 (by omega) (by omega) (by rw [c434] <;> rfl) (by decide) <| ?_
                                                                      refine At.aloadn dL_law_1310 rfl <| At.aloadn dL_law_1311 rfl <| At.iloadn dL_law_1312 rfl <| At.iconst dL_law_1313 (by decide) <| At.iadd dL_law_1314 <| ?_
                                                                      obtain ⟨v435, hv435, g436, h⟩ := rdS_e h
                                                                      refine At.scald eL eX hb g436.1 g436.2 dL_law_1315 <| At.nm hv435 <| At.aloadn dL_law_1316 rfl <| At.iloadn dL_law_1317 rfl <| At.iconst dL_law_1318 (by decide) <| At.iadd dL_law_1319 <| ?_
                                                                      obtain ⟨v437, hv437, g438, h⟩ := rdS_e h
                                                                      refine At.scald eL eX hb g438.1 g438.2 dL_law_1320 <| At.nm hv437 <| ?_
                                                                      obtain ⟨q439, hq439, h⟩ := bnd_e h
                                                                      refine At.cV1L ⟨Nat.le_refl _, Nat.le_refl _⟩ (av := [vi v435, vi v437]) (rest := []) mv_X11_forces lk_L_143 dL_law_1321 rfl rfl sh_1 (Nat.le_of_ble_eq_true rfl) (by omega) ⟨rfl, rfl⟩ (rX11_forces hq439) <| At.aloadn dL_law_1324 rfl <| At.aloadn dL_law_1325 rfl <| At.iloadn dL_law_1326 rfl <| At.iconst dL_law_1327 (by decide) <| At.iadd dL_law_1328 <| ?_
                                                                      obtain ⟨v440, hv440, g441, h⟩ := rdS_e h
                                                                      refine At.scald eL eX hb g441.1 g441.2 dL_law_1329 <| At.nm hv440 <| At.aloadn dL_law_1330 rfl <| At.iloadn dL_law_1331 rfl <| At.iconst dL_law_1332 (by decide) <| At.iadd dL_law_1333 <| ?_
                                                                      obtain ⟨v442, hv442, g443, h⟩ := rdS_e h
                                                                      refine At.scald eL eX hb g443.1 g443.2 dL_law_1334 <| At.nm hv442 <| ?_
                                                                      obtain ⟨q444, hq444, h⟩ := bnd_e h
                                                                      rcases ite_e h with ⟨c446, h⟩ | ⟨c446, h⟩
                                                                      · refine At.cV1L ⟨Nat.le_refl _, Nat.le_refl _⟩ (av := [vi v440, vi v442]) (rest := [vi q439.1]) mv_X12_forces lk_L_146 dL_law_1335 rfl rfl sh_130 (Nat.le_of_ble_eq_true rfl) (by omega) ⟨rfl, rfl⟩ (rX12_forces hq444) <| At.icmp_eq_t (tgt := 1744) dL_law_1338 (by decide) c446 <| ?_
                                                                        obtain ⟨x445, hx445, h⟩ := lt_e h
                                                                        refine At.iinc (ls' := [(3, vi x445), (0, vr 100031), (1, vr 1), (2, vr 130)]) dL_law_1744 rfl (by decide) (by rw [hx445]; rfl) <| At.goto (tgt := 18) dL_law_1747 (by decide) <| ?_
                                                                        exact At.sub [1, 2, 3, 0] rfl (ih _ _ _ h K1750 KR)
                                                                      · refine At.cV1L ⟨Nat.le_refl _, Nat.le_refl _⟩ (av := [vi v440, vi v442]) (rest := [vi q439.1]) mv_X12_forces lk_L_146 dL_law_1335 rfl rfl sh_130 (Nat.le_of_ble_eq_true rfl) (by omega) ⟨rfl, rfl⟩ (rX12_forces hq444) <| At.icmp_eq_f (tgt := 1744) dL_law_1338 (by decide) c446 <| ?_
                                                                        obtain rfl := Option.some.inj h
                                                                        exact At.iconst dL_law_1341 (by decide) <| At.zret (b := false) rfl (Nat.le_refl _) (Nat.le_refl _) (KR rfl) dL_law_1342
                                                                    · rcases ite_e h with ⟨c447, h⟩ | ⟨c447, h⟩
                                                                      · refine At.scald eL eX hb g2.1 g2.2 dL_law_29 <| At.nm hv1 <| At.bipush dL_law_30 (by decide) <| At.iand dL_law_32 <| At.tsIn (off := 1310) (tgt := 1343) dL_law_33 (by omega) (by omega) (by rw [c447] <;> rfl) (by decide) <| ?_
                                                                        refine At.aloadn dL_law_1343 rfl <| At.aloadn dL_law_1344 rfl <| At.iloadn dL_law_1345 rfl <| At.iconst dL_law_1346 (by decide) <| At.iadd dL_law_1347 <| ?_
                                                                        obtain ⟨v448, hv448, g449, h⟩ := rdS_e h
                                                                        refine At.scald eL eX hb g449.1 g449.2 dL_law_1348 <| At.nm hv448 <| At.aloadn dL_law_1349 rfl <| At.iloadn dL_law_1350 rfl <| At.iconst dL_law_1351 (by decide) <| At.iadd dL_law_1352 <| ?_
                                                                        obtain ⟨v450, hv450, g451, h⟩ := rdS_e h
                                                                        refine At.scald eL eX hb g451.1 g451.2 dL_law_1353 <| At.nm hv450 <| ?_
                                                                        obtain ⟨q452, hq452, h⟩ := bnd_e h
                                                                        refine At.cV1L ⟨Nat.le_refl _, Nat.le_refl _⟩ (av := [vi v448, vi v450]) (rest := []) mv_X11_best lk_L_147 dL_law_1354 rfl rfl sh_1 (Nat.le_of_ble_eq_true rfl) (by omega) ⟨rfl, rfl⟩ (rX11_best hq452) <| At.aloadn dL_law_1357 rfl <| At.aloadn dL_law_1358 rfl <| At.iloadn dL_law_1359 rfl <| At.iconst dL_law_1360 (by decide) <| At.iadd dL_law_1361 <| ?_
                                                                        obtain ⟨v453, hv453, g454, h⟩ := rdS_e h
                                                                        refine At.scald eL eX hb g454.1 g454.2 dL_law_1362 <| At.nm hv453 <| At.aloadn dL_law_1363 rfl <| At.iloadn dL_law_1364 rfl <| At.iconst dL_law_1365 (by decide) <| At.iadd dL_law_1366 <| ?_
                                                                        obtain ⟨v455, hv455, g456, h⟩ := rdS_e h
                                                                        refine At.scald eL eX hb g456.1 g456.2 dL_law_1367 <| At.nm hv455 <| ?_
                                                                        obtain ⟨q457, hq457, h⟩ := bnd_e h
                                                                        rcases ite_e h with ⟨c459, h⟩ | ⟨c459, h⟩
                                                                        · refine At.cV1L ⟨Nat.le_refl _, Nat.le_refl _⟩ (av := [vi v453, vi v455]) (rest := [vi q452.1]) mv_X12_best lk_L_150 dL_law_1368 rfl rfl sh_130 (Nat.le_of_ble_eq_true rfl) (by omega) ⟨rfl, rfl⟩ (rX12_best hq457) <| At.icmp_eq_t (tgt := 1744) dL_law_1371 (by decide) c459 <| ?_
                                                                          obtain ⟨x458, hx458, h⟩ := lt_e h
                                                                          refine At.iinc (ls' := [(3, vi x458), (0, vr 100031), (1, vr 1), (2, vr 130)]) dL_law_1744 rfl (by decide) (by rw [hx458]; rfl) <| At.goto (tgt := 18) dL_law_1747 (by decide) <| ?_
                                                                          exact At.sub [1, 2, 3, 0] rfl (ih _ _ _ h K1750 KR)
                                                                        · refine At.cV1L ⟨Nat.le_refl _, Nat.le_refl _⟩ (av := [vi v453, vi v455]) (rest := [vi q452.1]) mv_X12_best lk_L_150 dL_law_1368 rfl rfl sh_130 (Nat.le_of_ble_eq_true rfl) (by omega) ⟨rfl, rfl⟩ (rX12_best hq457) <| At.icmp_eq_f (tgt := 1744) dL_law_1371 (by decide) c459 <| ?_
                                                                          obtain rfl := Option.some.inj h
                                                                          exact At.iconst dL_law_1374 (by decide) <| At.zret (b := false) rfl (Nat.le_refl _) (Nat.le_refl _) (KR rfl) dL_law_1375
                                                                      · rcases ite_e h with ⟨c460, h⟩ | ⟨c460, h⟩
                                                                        · refine At.scald eL eX hb g2.1 g2.2 dL_law_29 <| At.nm hv1 <| At.bipush dL_law_30 (by decide) <| At.iand dL_law_32 <| At.tsIn (off := 1343) (tgt := 1376) dL_law_33 (by omega) (by omega) (by rw [c460] <;> rfl) (by decide) <| ?_
                                                                          refine At.aloadn dL_law_1376 rfl <| At.aloadn dL_law_1377 rfl <| At.iloadn dL_law_1378 rfl <| At.iconst dL_law_1379 (by decide) <| At.iadd dL_law_1380 <| ?_
                                                                          obtain ⟨v461, hv461, g462, h⟩ := rdS_e h
                                                                          refine At.scald eL eX hb g462.1 g462.2 dL_law_1381 <| At.nm hv461 <| At.aloadn dL_law_1382 rfl <| At.iloadn dL_law_1383 rfl <| At.iconst dL_law_1384 (by decide) <| At.iadd dL_law_1385 <| ?_
                                                                          obtain ⟨v463, hv463, g464, h⟩ := rdS_e h
                                                                          refine At.scald eL eX hb g464.1 g464.2 dL_law_1386 <| At.nm hv463 <| At.aloadn dL_law_1387 rfl <| At.iloadn dL_law_1388 rfl <| At.iconst dL_law_1389 (by decide) <| At.iadd dL_law_1390 <| ?_
                                                                          obtain ⟨v465, hv465, g466, h⟩ := rdS_e h
                                                                          refine At.scald eL eX hb g466.1 g466.2 dL_law_1391 <| At.nm hv465 <| At.aloadn dL_law_1392 rfl <| At.iloadn dL_law_1393 rfl <| At.iconst dL_law_1394 (by decide) <| At.iadd dL_law_1395 <| ?_
                                                                          obtain ⟨v467, hv467, g468, h⟩ := rdS_e h
                                                                          refine At.scald eL eX hb g468.1 g468.2 dL_law_1396 <| At.nm hv467 <| ?_
                                                                          obtain ⟨q469, hq469, h⟩ := bnd_e h
                                                                          refine At.cV1L ⟨Nat.le_refl _, Nat.le_refl _⟩ (av := [vi v461, vi v463, vi v465, vi v467]) (rest := []) mv_X11_chance lk_L_151 dL_law_1397 rfl rfl sh_1 (Nat.le_of_ble_eq_true rfl) (by omega) ⟨rfl, rfl⟩ (rX11_chance hq469) <| At.aloadn dL_law_1400 rfl <| At.aloadn dL_law_1401 rfl <| At.iloadn dL_law_1402 rfl <| At.iconst dL_law_1403 (by decide) <| At.iadd dL_law_1404 <| ?_
                                                                          obtain ⟨v470, hv470, g471, h⟩ := rdS_e h
                                                                          refine At.scald eL eX hb g471.1 g471.2 dL_law_1405 <| At.nm hv470 <| At.aloadn dL_law_1406 rfl <| At.iloadn dL_law_1407 rfl <| At.iconst dL_law_1408 (by decide) <| At.iadd dL_law_1409 <| ?_
                                                                          obtain ⟨v472, hv472, g473, h⟩ := rdS_e h
                                                                          refine At.scald eL eX hb g473.1 g473.2 dL_law_1410 <| At.nm hv472 <| At.aloadn dL_law_1411 rfl <| At.iloadn dL_law_1412 rfl <| At.iconst dL_law_1413 (by decide) <| At.iadd dL_law_1414 <| ?_
                                                                          obtain ⟨v474, hv474, g475, h⟩ := rdS_e h
                                                                          refine At.scald eL eX hb g475.1 g475.2 dL_law_1415 <| At.nm hv474 <| At.aloadn dL_law_1416 rfl <| At.iloadn dL_law_1417 rfl <| At.iconst dL_law_1418 (by decide) <| At.iadd dL_law_1419 <| ?_
                                                                          obtain ⟨v476, hv476, g477, h⟩ := rdS_e h
                                                                          refine At.scald eL eX hb g477.1 g477.2 dL_law_1420 <| At.nm hv476 <| ?_
                                                                          obtain ⟨q478, hq478, h⟩ := bnd_e h
                                                                          rcases ite_e h with ⟨c480, h⟩ | ⟨c480, h⟩
                                                                          · refine At.cV1L ⟨Nat.le_refl _, Nat.le_refl _⟩ (av := [vi v470, vi v472, vi v474, vi v476]) (rest := [vi q469.1]) mv_X12_chance lk_L_154 dL_law_1421 rfl rfl sh_130 (Nat.le_of_ble_eq_true rfl) (by omega) ⟨rfl, rfl⟩ (rX12_chance hq478) <| At.icmp_eq_t (tgt := 1744) dL_law_1424 (by decide) c480 <| ?_
                                                                            obtain ⟨x479, hx479, h⟩ := lt_e h
                                                                            refine At.iinc (ls' := [(3, vi x479), (0, vr 100031), (1, vr 1), (2, vr 130)]) dL_law_1744 rfl (by decide) (by rw [hx479]; rfl) <| At.goto (tgt := 18) dL_law_1747 (by decide) <| ?_
                                                                            exact At.sub [1, 2, 3, 0] rfl (ih _ _ _ h K1750 KR)
                                                                          · refine At.cV1L ⟨Nat.le_refl _, Nat.le_refl _⟩ (av := [vi v470, vi v472, vi v474, vi v476]) (rest := [vi q469.1]) mv_X12_chance lk_L_154 dL_law_1421 rfl rfl sh_130 (Nat.le_of_ble_eq_true rfl) (by omega) ⟨rfl, rfl⟩ (rX12_chance hq478) <| At.icmp_eq_f (tgt := 1744) dL_law_1424 (by decide) c480 <| ?_
                                                                            obtain rfl := Option.some.inj h
                                                                            exact At.iconst dL_law_1427 (by decide) <| At.zret (b := false) rfl (Nat.le_refl _) (Nat.le_refl _) (KR rfl) dL_law_1428
                                                                        · rcases ite_e h with ⟨c481, h⟩ | ⟨c481, h⟩
                                                                          · refine At.scald eL eX hb g2.1 g2.2 dL_law_29 <| At.nm hv1 <| At.bipush dL_law_30 (by decide) <| At.iand dL_law_32 <| At.tsIn (off := 1396) (tgt := 1429) dL_law_33 (by omega) (by omega) (by rw [c481] <;> rfl) (by decide) <| ?_
                                                                            refine At.aloadn dL_law_1429 rfl <| At.aloadn dL_law_1430 rfl <| At.iloadn dL_law_1431 rfl <| At.iconst dL_law_1432 (by decide) <| At.iadd dL_law_1433 <| ?_
                                                                            obtain ⟨v482, hv482, g483, h⟩ := rdS_e h
                                                                            refine At.scald eL eX hb g483.1 g483.2 dL_law_1434 <| At.nm hv482 <| At.aloadn dL_law_1435 rfl <| At.iloadn dL_law_1436 rfl <| At.iconst dL_law_1437 (by decide) <| At.iadd dL_law_1438 <| ?_
                                                                            obtain ⟨v484, hv484, g485, h⟩ := rdS_e h
                                                                            refine At.scald eL eX hb g485.1 g485.2 dL_law_1439 <| At.nm hv484 <| At.aloadn dL_law_1440 rfl <| At.iloadn dL_law_1441 rfl <| At.iconst dL_law_1442 (by decide) <| At.iadd dL_law_1443 <| ?_
                                                                            obtain ⟨v486, hv486, g487, h⟩ := rdS_e h
                                                                            refine At.scald eL eX hb g487.1 g487.2 dL_law_1444 <| At.nm hv486 <| ?_
                                                                            obtain ⟨q488, hq488, h⟩ := bnd_e h
                                                                            refine At.cV1L ⟨Nat.le_refl _, Nat.le_refl _⟩ (av := [vi v482, vi v484, vi v486]) (rest := []) mv_X11_mean lk_L_155 dL_law_1445 rfl rfl sh_1 (Nat.le_of_ble_eq_true rfl) (by omega) ⟨rfl, rfl⟩ (rX11_mean hq488) <| At.aloadn dL_law_1448 rfl <| At.aloadn dL_law_1449 rfl <| At.iloadn dL_law_1450 rfl <| At.iconst dL_law_1451 (by decide) <| At.iadd dL_law_1452 <| ?_
                                                                            obtain ⟨v489, hv489, g490, h⟩ := rdS_e h
                                                                            refine At.scald eL eX hb g490.1 g490.2 dL_law_1453 <| At.nm hv489 <| At.aloadn dL_law_1454 rfl <| At.iloadn dL_law_1455 rfl <| At.iconst dL_law_1456 (by decide) <| At.iadd dL_law_1457 <| ?_
                                                                            obtain ⟨v491, hv491, g492, h⟩ := rdS_e h
                                                                            refine At.scald eL eX hb g492.1 g492.2 dL_law_1458 <| At.nm hv491 <| At.aloadn dL_law_1459 rfl <| At.iloadn dL_law_1460 rfl <| At.iconst dL_law_1461 (by decide) <| At.iadd dL_law_1462 <| ?_
                                                                            obtain ⟨v493, hv493, g494, h⟩ := rdS_e h
                                                                            refine At.scald eL eX hb g494.1 g494.2 dL_law_1463 <| At.nm hv493 <| ?_
                                                                            obtain ⟨q495, hq495, h⟩ := bnd_e h
                                                                            rcases ite_e h with ⟨c497, h⟩ | ⟨c497, h⟩
                                                                            · refine At.cV1L ⟨Nat.le_refl _, Nat.le_refl _⟩ (av := [vi v489, vi v491, vi v493]) (rest := [vi q488.1]) mv_X12_mean lk_L_158 dL_law_1464 rfl rfl sh_130 (Nat.le_of_ble_eq_true rfl) (by omega) ⟨rfl, rfl⟩ (rX12_mean hq495) <| At.icmp_eq_t (tgt := 1744) dL_law_1467 (by decide) c497 <| ?_
                                                                              obtain ⟨x496, hx496, h⟩ := lt_e h
                                                                              refine At.iinc (ls' := [(3, vi x496), (0, vr 100031), (1, vr 1), (2, vr 130)]) dL_law_1744 rfl (by decide) (by rw [hx496]; rfl) <| At.goto (tgt := 18) dL_law_1747 (by decide) <| ?_
                                                                              exact At.sub [1, 2, 3, 0] rfl (ih _ _ _ h K1750 KR)
                                                                            · refine At.cV1L ⟨Nat.le_refl _, Nat.le_refl _⟩ (av := [vi v489, vi v491, vi v493]) (rest := [vi q488.1]) mv_X12_mean lk_L_158 dL_law_1464 rfl rfl sh_130 (Nat.le_of_ble_eq_true rfl) (by omega) ⟨rfl, rfl⟩ (rX12_mean hq495) <| At.icmp_eq_f (tgt := 1744) dL_law_1467 (by decide) c497 <| ?_
                                                                              obtain rfl := Option.some.inj h
                                                                              exact At.iconst dL_law_1470 (by decide) <| At.zret (b := false) rfl (Nat.le_refl _) (Nat.le_refl _) (KR rfl) dL_law_1471
                                                                          · rcases ite_e h with ⟨c498, h⟩ | ⟨c498, h⟩
                                                                            · refine At.scald eL eX hb g2.1 g2.2 dL_law_29 <| At.nm hv1 <| At.bipush dL_law_30 (by decide) <| At.iand dL_law_32 <| At.tsIn (off := 1439) (tgt := 1472) dL_law_33 (by omega) (by omega) (by rw [c498] <;> rfl) (by decide) <| ?_
                                                                              refine At.aloadn dL_law_1472 rfl <| At.aloadn dL_law_1473 rfl <| At.iloadn dL_law_1474 rfl <| At.iconst dL_law_1475 (by decide) <| At.iadd dL_law_1476 <| ?_
                                                                              obtain ⟨v499, hv499, g500, h⟩ := rdS_e h
                                                                              refine At.scald eL eX hb g500.1 g500.2 dL_law_1477 <| At.nm hv499 <| At.aloadn dL_law_1478 rfl <| At.iloadn dL_law_1479 rfl <| At.iconst dL_law_1480 (by decide) <| At.iadd dL_law_1481 <| ?_
                                                                              obtain ⟨v501, hv501, g502, h⟩ := rdS_e h
                                                                              refine At.scald eL eX hb g502.1 g502.2 dL_law_1482 <| At.nm hv501 <| ?_
                                                                              obtain ⟨q503, hq503, h⟩ := bnd_e h
                                                                              refine At.cV1L ⟨Nat.le_refl _, Nat.le_refl _⟩ (av := [vi v499, vi v501]) (rest := []) mv_X11_likeliest lk_L_159 dL_law_1483 rfl rfl sh_1 (Nat.le_of_ble_eq_true rfl) (by omega) ⟨rfl, rfl⟩ (rX11_likeliest hq503) <| At.aloadn dL_law_1486 rfl <| At.aloadn dL_law_1487 rfl <| At.iloadn dL_law_1488 rfl <| At.iconst dL_law_1489 (by decide) <| At.iadd dL_law_1490 <| ?_
                                                                              obtain ⟨v504, hv504, g505, h⟩ := rdS_e h
                                                                              refine At.scald eL eX hb g505.1 g505.2 dL_law_1491 <| At.nm hv504 <| At.aloadn dL_law_1492 rfl <| At.iloadn dL_law_1493 rfl <| At.iconst dL_law_1494 (by decide) <| At.iadd dL_law_1495 <| ?_
                                                                              obtain ⟨v506, hv506, g507, h⟩ := rdS_e h
                                                                              refine At.scald eL eX hb g507.1 g507.2 dL_law_1496 <| At.nm hv506 <| ?_
                                                                              obtain ⟨q508, hq508, h⟩ := bnd_e h
                                                                              rcases ite_e h with ⟨c510, h⟩ | ⟨c510, h⟩
                                                                              · refine At.cV1L ⟨Nat.le_refl _, Nat.le_refl _⟩ (av := [vi v504, vi v506]) (rest := [vi q503.1]) mv_X12_likeliest lk_L_162 dL_law_1497 rfl rfl sh_130 (Nat.le_of_ble_eq_true rfl) (by omega) ⟨rfl, rfl⟩ (rX12_likeliest hq508) <| At.icmp_eq_t (tgt := 1744) dL_law_1500 (by decide) c510 <| ?_
                                                                                obtain ⟨x509, hx509, h⟩ := lt_e h
                                                                                refine At.iinc (ls' := [(3, vi x509), (0, vr 100031), (1, vr 1), (2, vr 130)]) dL_law_1744 rfl (by decide) (by rw [hx509]; rfl) <| At.goto (tgt := 18) dL_law_1747 (by decide) <| ?_
                                                                                exact At.sub [1, 2, 3, 0] rfl (ih _ _ _ h K1750 KR)
                                                                              · refine At.cV1L ⟨Nat.le_refl _, Nat.le_refl _⟩ (av := [vi v504, vi v506]) (rest := [vi q503.1]) mv_X12_likeliest lk_L_162 dL_law_1497 rfl rfl sh_130 (Nat.le_of_ble_eq_true rfl) (by omega) ⟨rfl, rfl⟩ (rX12_likeliest hq508) <| At.icmp_eq_f (tgt := 1744) dL_law_1500 (by decide) c510 <| ?_
                                                                                obtain rfl := Option.some.inj h
                                                                                exact At.iconst dL_law_1503 (by decide) <| At.zret (b := false) rfl (Nat.le_refl _) (Nat.le_refl _) (KR rfl) dL_law_1504
                                                                            · rcases ite_e h with ⟨c511, h⟩ | ⟨c511, h⟩
                                                                              · refine At.scald eL eX hb g2.1 g2.2 dL_law_29 <| At.nm hv1 <| At.bipush dL_law_30 (by decide) <| At.iand dL_law_32 <| At.tsIn (off := 1472) (tgt := 1505) dL_law_33 (by omega) (by omega) (by rw [c511] <;> rfl) (by decide) <| ?_
                                                                                refine At.aloadn dL_law_1505 rfl <| At.aloadn dL_law_1506 rfl <| At.iloadn dL_law_1507 rfl <| At.iconst dL_law_1508 (by decide) <| At.iadd dL_law_1509 <| ?_
                                                                                obtain ⟨v512, hv512, g513, h⟩ := rdS_e h
                                                                                refine At.scald eL eX hb g513.1 g513.2 dL_law_1510 <| At.nm hv512 <| At.aloadn dL_law_1511 rfl <| At.iloadn dL_law_1512 rfl <| At.iconst dL_law_1513 (by decide) <| At.iadd dL_law_1514 <| ?_
                                                                                obtain ⟨v514, hv514, g515, h⟩ := rdS_e h
                                                                                refine At.scald eL eX hb g515.1 g515.2 dL_law_1515 <| At.nm hv514 <| At.aloadn dL_law_1516 rfl <| At.iloadn dL_law_1517 rfl <| At.iconst dL_law_1518 (by decide) <| At.iadd dL_law_1519 <| ?_
                                                                                obtain ⟨v516, hv516, g517, h⟩ := rdS_e h
                                                                                refine At.scald eL eX hb g517.1 g517.2 dL_law_1520 <| At.nm hv516 <| ?_
                                                                                obtain ⟨q518, hq518, h⟩ := bnd_e h
                                                                                refine At.cV1L ⟨Nat.le_refl _, Nat.le_refl _⟩ (av := [vi v512, vi v514, vi v516]) (rest := []) mv_X11_numbers lk_L_163 dL_law_1521 rfl rfl sh_1 (Nat.le_of_ble_eq_true rfl) (by omega) ⟨rfl, rfl⟩ (rX11_numbers hq518) <| At.aloadn dL_law_1524 rfl <| At.aloadn dL_law_1525 rfl <| At.iloadn dL_law_1526 rfl <| At.iconst dL_law_1527 (by decide) <| At.iadd dL_law_1528 <| ?_
                                                                                obtain ⟨v519, hv519, g520, h⟩ := rdS_e h
                                                                                refine At.scald eL eX hb g520.1 g520.2 dL_law_1529 <| At.nm hv519 <| At.aloadn dL_law_1530 rfl <| At.iloadn dL_law_1531 rfl <| At.iconst dL_law_1532 (by decide) <| At.iadd dL_law_1533 <| ?_
                                                                                obtain ⟨v521, hv521, g522, h⟩ := rdS_e h
                                                                                refine At.scald eL eX hb g522.1 g522.2 dL_law_1534 <| At.nm hv521 <| At.aloadn dL_law_1535 rfl <| At.iloadn dL_law_1536 rfl <| At.iconst dL_law_1537 (by decide) <| At.iadd dL_law_1538 <| ?_
                                                                                obtain ⟨v523, hv523, g524, h⟩ := rdS_e h
                                                                                refine At.scald eL eX hb g524.1 g524.2 dL_law_1539 <| At.nm hv523 <| ?_
                                                                                obtain ⟨q525, hq525, h⟩ := bnd_e h
                                                                                rcases ite_e h with ⟨c527, h⟩ | ⟨c527, h⟩
                                                                                · refine At.cV1L ⟨Nat.le_refl _, Nat.le_refl _⟩ (av := [vi v519, vi v521, vi v523]) (rest := [vi q518.1]) mv_X12_numbers lk_L_166 dL_law_1540 rfl rfl sh_130 (Nat.le_of_ble_eq_true rfl) (by omega) ⟨rfl, rfl⟩ (rX12_numbers hq525) <| At.icmp_eq_t (tgt := 1744) dL_law_1543 (by decide) c527 <| ?_
                                                                                  obtain ⟨x526, hx526, h⟩ := lt_e h
                                                                                  refine At.iinc (ls' := [(3, vi x526), (0, vr 100031), (1, vr 1), (2, vr 130)]) dL_law_1744 rfl (by decide) (by rw [hx526]; rfl) <| At.goto (tgt := 18) dL_law_1747 (by decide) <| ?_
                                                                                  exact At.sub [1, 2, 3, 0] rfl (ih _ _ _ h K1750 KR)
                                                                                · refine At.cV1L ⟨Nat.le_refl _, Nat.le_refl _⟩ (av := [vi v519, vi v521, vi v523]) (rest := [vi q518.1]) mv_X12_numbers lk_L_166 dL_law_1540 rfl rfl sh_130 (Nat.le_of_ble_eq_true rfl) (by omega) ⟨rfl, rfl⟩ (rX12_numbers hq525) <| At.icmp_eq_f (tgt := 1744) dL_law_1543 (by decide) c527 <| ?_
                                                                                  obtain rfl := Option.some.inj h
                                                                                  exact At.iconst dL_law_1546 (by decide) <| At.zret (b := false) rfl (Nat.le_refl _) (Nat.le_refl _) (KR rfl) dL_law_1547
                                                                              · rcases ite_e h with ⟨c528, h⟩ | ⟨c528, h⟩
                                                                                · refine At.scald eL eX hb g2.1 g2.2 dL_law_29 <| At.nm hv1 <| At.bipush dL_law_30 (by decide) <| At.iand dL_law_32 <| At.tsIn (off := 1515) (tgt := 1548) dL_law_33 (by omega) (by omega) (by rw [c528] <;> rfl) (by decide) <| ?_
                                                                                  refine At.aloadn dL_law_1548 rfl <| At.aloadn dL_law_1549 rfl <| At.iloadn dL_law_1550 rfl <| At.iconst dL_law_1551 (by decide) <| At.iadd dL_law_1552 <| ?_
                                                                                  obtain ⟨v529, hv529, g530, h⟩ := rdS_e h
                                                                                  refine At.scald eL eX hb g530.1 g530.2 dL_law_1553 <| At.nm hv529 <| At.aloadn dL_law_1554 rfl <| At.iloadn dL_law_1555 rfl <| At.iconst dL_law_1556 (by decide) <| At.iadd dL_law_1557 <| ?_
                                                                                  obtain ⟨v531, hv531, g532, h⟩ := rdS_e h
                                                                                  refine At.scald eL eX hb g532.1 g532.2 dL_law_1558 <| At.nm hv531 <| At.aloadn dL_law_1559 rfl <| At.iloadn dL_law_1560 rfl <| At.iconst dL_law_1561 (by decide) <| At.iadd dL_law_1562 <| ?_
                                                                                  obtain ⟨v533, hv533, g534, h⟩ := rdS_e h
                                                                                  refine At.scald eL eX hb g534.1 g534.2 dL_law_1563 <| At.nm hv533 <| At.i2l dL_law_1564 <| At.bipush dL_law_1565 (by decide) <| At.lshl dL_law_1567 <| At.aloadn dL_law_1568 rfl <| At.iloadn dL_law_1569 rfl <| At.iconst dL_law_1570 (by decide) <| At.iadd dL_law_1571 <| ?_
                                                                                  obtain ⟨v535, hv535, g536, h⟩ := rdS_e h
                                                                                  refine At.scald eL eX hb g536.1 g536.2 dL_law_1572 <| At.nm hv535 <| At.i2l dL_law_1573 <| At.ldc2 dL_law_1574 kl_L_167 (by decide) <| At.land dL_law_1577 <| At.lor dL_law_1578 <| ?_
                                                                                  obtain ⟨q537, hq537, h⟩ := bnd_e h
                                                                                  refine At.cV1L ⟨Nat.le_refl _, Nat.le_refl _⟩ (av := [vi v529, vi v531, vl (kor (kshl v533 32) (kand v535 4294967295))]) (rest := []) mv_X11_write lk_L_169 dL_law_1579 rfl rfl sh_1 (Nat.le_of_ble_eq_true rfl) (by omega) ⟨rfl, rfl⟩ (rX11_write hq537) <| At.aloadn dL_law_1582 rfl <| At.aloadn dL_law_1583 rfl <| At.iloadn dL_law_1584 rfl <| At.iconst dL_law_1585 (by decide) <| At.iadd dL_law_1586 <| ?_
                                                                                  obtain ⟨v538, hv538, g539, h⟩ := rdS_e h
                                                                                  refine At.scald eL eX hb g539.1 g539.2 dL_law_1587 <| At.nm hv538 <| At.aloadn dL_law_1588 rfl <| At.iloadn dL_law_1589 rfl <| At.iconst dL_law_1590 (by decide) <| At.iadd dL_law_1591 <| ?_
                                                                                  obtain ⟨v540, hv540, g541, h⟩ := rdS_e h
                                                                                  refine At.scald eL eX hb g541.1 g541.2 dL_law_1592 <| At.nm hv540 <| At.aloadn dL_law_1593 rfl <| At.iloadn dL_law_1594 rfl <| At.iconst dL_law_1595 (by decide) <| At.iadd dL_law_1596 <| ?_
                                                                                  obtain ⟨v542, hv542, g543, h⟩ := rdS_e h
                                                                                  refine At.scald eL eX hb g543.1 g543.2 dL_law_1597 <| At.nm hv542 <| At.i2l dL_law_1598 <| At.bipush dL_law_1599 (by decide) <| At.lshl dL_law_1601 <| At.aloadn dL_law_1602 rfl <| At.iloadn dL_law_1603 rfl <| At.iconst dL_law_1604 (by decide) <| At.iadd dL_law_1605 <| ?_
                                                                                  obtain ⟨v544, hv544, g545, h⟩ := rdS_e h
                                                                                  refine At.scald eL eX hb g545.1 g545.2 dL_law_1606 <| At.nm hv544 <| At.i2l dL_law_1607 <| At.ldc2 dL_law_1608 kl_L_167 (by decide) <| At.land dL_law_1611 <| At.lor dL_law_1612 <| ?_
                                                                                  obtain ⟨q546, hq546, h⟩ := bnd_e h
                                                                                  rcases ite_e h with ⟨c548, h⟩ | ⟨c548, h⟩
                                                                                  · refine At.cV1L ⟨Nat.le_refl _, Nat.le_refl _⟩ (av := [vi v538, vi v540, vl (kor (kshl v542 32) (kand v544 4294967295))]) (rest := [vl q537.1]) mv_X12_write lk_L_173 dL_law_1613 rfl rfl sh_130 (Nat.le_of_ble_eq_true rfl) (by omega) ⟨rfl, rfl⟩ (rX12_write hq546) <| At.lcmp dL_law_1616 <| At.if_eq_t (tgt := 1744) dL_law_1617 (by decide) c548 <| ?_
                                                                                    obtain ⟨x547, hx547, h⟩ := lt_e h
                                                                                    refine At.iinc (ls' := [(3, vi x547), (0, vr 100031), (1, vr 1), (2, vr 130)]) dL_law_1744 rfl (by decide) (by rw [hx547]; rfl) <| At.goto (tgt := 18) dL_law_1747 (by decide) <| ?_
                                                                                    exact At.sub [1, 2, 3, 0] rfl (ih _ _ _ h K1750 KR)
                                                                                  · refine At.cV1L ⟨Nat.le_refl _, Nat.le_refl _⟩ (av := [vi v538, vi v540, vl (kor (kshl v542 32) (kand v544 4294967295))]) (rest := [vl q537.1]) mv_X12_write lk_L_173 dL_law_1613 rfl rfl sh_130 (Nat.le_of_ble_eq_true rfl) (by omega) ⟨rfl, rfl⟩ (rX12_write hq546) <| At.lcmp dL_law_1616 <| At.if_eq_f (tgt := 1744) dL_law_1617 (by decide) c548 <| ?_
                                                                                    obtain rfl := Option.some.inj h
                                                                                    exact At.iconst dL_law_1620 (by decide) <| At.zret (b := false) rfl (Nat.le_refl _) (Nat.le_refl _) (KR rfl) dL_law_1621
                                                                                · rcases ite_e h with ⟨c549, h⟩ | ⟨c549, h⟩
                                                                                  · refine At.scald eL eX hb g2.1 g2.2 dL_law_29 <| At.nm hv1 <| At.bipush dL_law_30 (by decide) <| At.iand dL_law_32 <| At.tsIn (off := 1589) (tgt := 1622) dL_law_33 (by omega) (by omega) (by rw [c549] <;> rfl) (by decide) <| ?_
                                                                                    refine At.aloadn dL_law_1622 rfl <| At.aloadn dL_law_1623 rfl <| At.iloadn dL_law_1624 rfl <| At.iconst dL_law_1625 (by decide) <| At.iadd dL_law_1626 <| ?_
                                                                                    obtain ⟨v550, hv550, g551, h⟩ := rdS_e h
                                                                                    refine At.scald eL eX hb g551.1 g551.2 dL_law_1627 <| At.nm hv550 <| At.aloadn dL_law_1628 rfl <| At.iloadn dL_law_1629 rfl <| At.iconst dL_law_1630 (by decide) <| At.iadd dL_law_1631 <| ?_
                                                                                    obtain ⟨v552, hv552, g553, h⟩ := rdS_e h
                                                                                    refine At.scald eL eX hb g553.1 g553.2 dL_law_1632 <| At.nm hv552 <| At.aloadn dL_law_1633 rfl <| At.iloadn dL_law_1634 rfl <| At.iconst dL_law_1635 (by decide) <| At.iadd dL_law_1636 <| ?_
                                                                                    obtain ⟨v554, hv554, g555, h⟩ := rdS_e h
                                                                                    refine At.scald eL eX hb g555.1 g555.2 dL_law_1637 <| At.nm hv554 <| At.aloadn dL_law_1638 rfl <| At.iloadn dL_law_1639 rfl <| At.iconst dL_law_1640 (by decide) <| At.iadd dL_law_1641 <| ?_
                                                                                    obtain ⟨v556, hv556, g557, h⟩ := rdS_e h
                                                                                    refine At.scald eL eX hb g557.1 g557.2 dL_law_1642 <| At.nm hv556 <| ?_
                                                                                    obtain ⟨q558, hq558, h⟩ := bnd_e h
                                                                                    refine At.cV1L ⟨Nat.le_refl _, Nat.le_refl _⟩ (av := [vi v550, vi v552, vi v554, vi v556]) (rest := []) mv_X11_lists lk_L_174 dL_law_1643 rfl rfl sh_1 (Nat.le_of_ble_eq_true rfl) (by omega) ⟨rfl, rfl⟩ (rX11_lists hq558) <| At.aloadn dL_law_1646 rfl <| At.aloadn dL_law_1647 rfl <| At.iloadn dL_law_1648 rfl <| At.iconst dL_law_1649 (by decide) <| At.iadd dL_law_1650 <| ?_
                                                                                    obtain ⟨v559, hv559, g560, h⟩ := rdS_e h
                                                                                    refine At.scald eL eX hb g560.1 g560.2 dL_law_1651 <| At.nm hv559 <| At.aloadn dL_law_1652 rfl <| At.iloadn dL_law_1653 rfl <| At.iconst dL_law_1654 (by decide) <| At.iadd dL_law_1655 <| ?_
                                                                                    obtain ⟨v561, hv561, g562, h⟩ := rdS_e h
                                                                                    refine At.scald eL eX hb g562.1 g562.2 dL_law_1656 <| At.nm hv561 <| At.aloadn dL_law_1657 rfl <| At.iloadn dL_law_1658 rfl <| At.iconst dL_law_1659 (by decide) <| At.iadd dL_law_1660 <| ?_
                                                                                    obtain ⟨v563, hv563, g564, h⟩ := rdS_e h
                                                                                    refine At.scald eL eX hb g564.1 g564.2 dL_law_1661 <| At.nm hv563 <| At.aloadn dL_law_1662 rfl <| At.iloadn dL_law_1663 rfl <| At.iconst dL_law_1664 (by decide) <| At.iadd dL_law_1665 <| ?_
                                                                                    obtain ⟨v565, hv565, g566, h⟩ := rdS_e h
                                                                                    refine At.scald eL eX hb g566.1 g566.2 dL_law_1666 <| At.nm hv565 <| ?_
                                                                                    obtain ⟨q567, hq567, h⟩ := bnd_e h
                                                                                    rcases ite_e h with ⟨c569, h⟩ | ⟨c569, h⟩
                                                                                    · refine At.cV1L ⟨Nat.le_refl _, Nat.le_refl _⟩ (av := [vi v559, vi v561, vi v563, vi v565]) (rest := [vi q558.1]) mv_X12_lists lk_L_177 dL_law_1667 rfl rfl sh_130 (Nat.le_of_ble_eq_true rfl) (by omega) ⟨rfl, rfl⟩ (rX12_lists hq567) <| At.icmp_eq_t (tgt := 1744) dL_law_1670 (by decide) c569 <| ?_
                                                                                      obtain ⟨x568, hx568, h⟩ := lt_e h
                                                                                      refine At.iinc (ls' := [(3, vi x568), (0, vr 100031), (1, vr 1), (2, vr 130)]) dL_law_1744 rfl (by decide) (by rw [hx568]; rfl) <| At.goto (tgt := 18) dL_law_1747 (by decide) <| ?_
                                                                                      exact At.sub [1, 2, 3, 0] rfl (ih _ _ _ h K1750 KR)
                                                                                    · refine At.cV1L ⟨Nat.le_refl _, Nat.le_refl _⟩ (av := [vi v559, vi v561, vi v563, vi v565]) (rest := [vi q558.1]) mv_X12_lists lk_L_177 dL_law_1667 rfl rfl sh_130 (Nat.le_of_ble_eq_true rfl) (by omega) ⟨rfl, rfl⟩ (rX12_lists hq567) <| At.icmp_eq_f (tgt := 1744) dL_law_1670 (by decide) c569 <| ?_
                                                                                      obtain rfl := Option.some.inj h
                                                                                      exact At.iconst dL_law_1673 (by decide) <| At.zret (b := false) rfl (Nat.le_refl _) (Nat.le_refl _) (KR rfl) dL_law_1674
                                                                                  · rcases ite_e h with ⟨c570, h⟩ | ⟨c570, h⟩
                                                                                    · refine At.scald eL eX hb g2.1 g2.2 dL_law_29 <| At.nm hv1 <| At.bipush dL_law_30 (by decide) <| At.iand dL_law_32 <| At.tsIn (off := 1642) (tgt := 1675) dL_law_33 (by omega) (by omega) (by rw [c570] <;> rfl) (by decide) <| ?_
                                                                                      refine At.aloadn dL_law_1675 rfl <| At.aloadn dL_law_1676 rfl <| At.iloadn dL_law_1677 rfl <| At.iconst dL_law_1678 (by decide) <| At.iadd dL_law_1679 <| ?_
                                                                                      obtain ⟨v571, hv571, g572, h⟩ := rdS_e h
                                                                                      refine At.scald eL eX hb g572.1 g572.2 dL_law_1680 <| At.nm hv571 <| ?_
                                                                                      obtain ⟨q573, hq573, h⟩ := bnd_e h
                                                                                      refine At.cV1L ⟨Nat.le_refl _, Nat.le_refl _⟩ (av := [vi v571]) (rest := []) mv_X11_image lk_L_178 dL_law_1681 rfl rfl sh_1 (Nat.le_of_ble_eq_true rfl) (by omega) ⟨rfl, rfl⟩ (rX11_image hq573) <| At.aloadn dL_law_1684 rfl <| At.aloadn dL_law_1685 rfl <| At.iloadn dL_law_1686 rfl <| At.iconst dL_law_1687 (by decide) <| At.iadd dL_law_1688 <| ?_
                                                                                      obtain ⟨v574, hv574, g575, h⟩ := rdS_e h
                                                                                      refine At.scald eL eX hb g575.1 g575.2 dL_law_1689 <| At.nm hv574 <| ?_
                                                                                      obtain ⟨q576, hq576, h⟩ := bnd_e h
                                                                                      rcases ite_e h with ⟨c578, h⟩ | ⟨c578, h⟩
                                                                                      · refine At.cV1L ⟨Nat.le_refl _, Nat.le_refl _⟩ (av := [vi v574]) (rest := [vi q573.1]) mv_X12_image lk_L_181 dL_law_1690 rfl rfl sh_130 (Nat.le_of_ble_eq_true rfl) (by omega) ⟨rfl, rfl⟩ (rX12_image hq576) <| At.icmp_eq_t (tgt := 1744) dL_law_1693 (by decide) c578 <| ?_
                                                                                        obtain ⟨x577, hx577, h⟩ := lt_e h
                                                                                        refine At.iinc (ls' := [(3, vi x577), (0, vr 100031), (1, vr 1), (2, vr 130)]) dL_law_1744 rfl (by decide) (by rw [hx577]; rfl) <| At.goto (tgt := 18) dL_law_1747 (by decide) <| ?_
                                                                                        exact At.sub [1, 2, 3, 0] rfl (ih _ _ _ h K1750 KR)
                                                                                      · refine At.cV1L ⟨Nat.le_refl _, Nat.le_refl _⟩ (av := [vi v574]) (rest := [vi q573.1]) mv_X12_image lk_L_181 dL_law_1690 rfl rfl sh_130 (Nat.le_of_ble_eq_true rfl) (by omega) ⟨rfl, rfl⟩ (rX12_image hq576) <| At.icmp_eq_f (tgt := 1744) dL_law_1693 (by decide) c578 <| ?_
                                                                                        obtain rfl := Option.some.inj h
                                                                                        exact At.iconst dL_law_1696 (by decide) <| At.zret (b := false) rfl (Nat.le_refl _) (Nat.le_refl _) (KR rfl) dL_law_1697
                                                                                    · rcases ite_e h with ⟨c579, h⟩ | ⟨c579, h⟩
                                                                                      · refine At.scald eL eX hb g2.1 g2.2 dL_law_29 <| At.nm hv1 <| At.bipush dL_law_30 (by decide) <| At.iand dL_law_32 <| At.tsIn (off := 1665) (tgt := 1698) dL_law_33 (by omega) (by omega) (by rw [c579] <;> rfl) (by decide) <| ?_
                                                                                        refine At.aloadn dL_law_1698 rfl <| At.aloadn dL_law_1699 rfl <| At.iloadn dL_law_1700 rfl <| At.iconst dL_law_1701 (by decide) <| At.iadd dL_law_1702 <| ?_
                                                                                        obtain ⟨v580, hv580, g581, h⟩ := rdS_e h
                                                                                        refine At.scald eL eX hb g581.1 g581.2 dL_law_1703 <| At.nm hv580 <| ?_
                                                                                        obtain ⟨q582, hq582, h⟩ := bnd_e h
                                                                                        refine At.cV1L ⟨Nat.le_refl _, Nat.le_refl _⟩ (av := [vi v580]) (rest := []) mv_X11_restore lk_L_182 dL_law_1704 rfl rfl sh_1 (Nat.le_of_ble_eq_true rfl) (by omega) ⟨rfl, rfl⟩ (rX11_restore hq582) <| At.aloadn dL_law_1707 rfl <| At.aloadn dL_law_1708 rfl <| At.iloadn dL_law_1709 rfl <| At.iconst dL_law_1710 (by decide) <| At.iadd dL_law_1711 <| ?_
                                                                                        obtain ⟨v583, hv583, g584, h⟩ := rdS_e h
                                                                                        refine At.scald eL eX hb g584.1 g584.2 dL_law_1712 <| At.nm hv583 <| ?_
                                                                                        obtain ⟨q585, hq585, h⟩ := bnd_e h
                                                                                        rcases ite_e h with ⟨c587, h⟩ | ⟨c587, h⟩
                                                                                        · refine At.cV1L ⟨Nat.le_refl _, Nat.le_refl _⟩ (av := [vi v583]) (rest := [vi q582.1]) mv_X12_restore lk_L_185 dL_law_1713 rfl rfl sh_130 (Nat.le_of_ble_eq_true rfl) (by omega) ⟨rfl, rfl⟩ (rX12_restore hq585) <| At.icmp_eq_t (tgt := 1744) dL_law_1716 (by decide) c587 <| ?_
                                                                                          obtain ⟨x586, hx586, h⟩ := lt_e h
                                                                                          refine At.iinc (ls' := [(3, vi x586), (0, vr 100031), (1, vr 1), (2, vr 130)]) dL_law_1744 rfl (by decide) (by rw [hx586]; rfl) <| At.goto (tgt := 18) dL_law_1747 (by decide) <| ?_
                                                                                          exact At.sub [1, 2, 3, 0] rfl (ih _ _ _ h K1750 KR)
                                                                                        · refine At.cV1L ⟨Nat.le_refl _, Nat.le_refl _⟩ (av := [vi v583]) (rest := [vi q582.1]) mv_X12_restore lk_L_185 dL_law_1713 rfl rfl sh_130 (Nat.le_of_ble_eq_true rfl) (by omega) ⟨rfl, rfl⟩ (rX12_restore hq585) <| At.icmp_eq_f (tgt := 1744) dL_law_1716 (by decide) c587 <| ?_
                                                                                          obtain rfl := Option.some.inj h
                                                                                          exact At.iconst dL_law_1719 (by decide) <| At.zret (b := false) rfl (Nat.le_refl _) (Nat.le_refl _) (KR rfl) dL_law_1720
                                                                                      · rcases ite_e h with ⟨c588, h⟩ | ⟨c588, h⟩
                                                                                        · refine At.scald eL eX hb g2.1 g2.2 dL_law_29 <| At.nm hv1 <| At.bipush dL_law_30 (by decide) <| At.iand dL_law_32 <| At.tsIn (off := 1688) (tgt := 1721) dL_law_33 (by omega) (by omega) (by rw [c588] <;> rfl) (by decide) <| ?_
                                                                                          refine At.aloadn dL_law_1721 rfl <| At.aloadn dL_law_1722 rfl <| At.iloadn dL_law_1723 rfl <| At.iconst dL_law_1724 (by decide) <| At.iadd dL_law_1725 <| ?_
                                                                                          obtain ⟨v589, hv589, g590, h⟩ := rdS_e h
                                                                                          refine At.scald eL eX hb g590.1 g590.2 dL_law_1726 <| At.nm hv589 <| ?_
                                                                                          obtain ⟨q591, hq591, h⟩ := bnd_e h
                                                                                          refine At.cV1L ⟨Nat.le_refl _, Nat.le_refl _⟩ (av := [vi v589]) (rest := []) mv_X11_count lk_L_186 dL_law_1727 rfl rfl sh_1 (Nat.le_of_ble_eq_true rfl) (by omega) ⟨rfl, rfl⟩ (rX11_count hq591) <| At.aloadn dL_law_1730 rfl <| At.aloadn dL_law_1731 rfl <| At.iloadn dL_law_1732 rfl <| At.iconst dL_law_1733 (by decide) <| At.iadd dL_law_1734 <| ?_
                                                                                          obtain ⟨v592, hv592, g593, h⟩ := rdS_e h
                                                                                          refine At.scald eL eX hb g593.1 g593.2 dL_law_1735 <| At.nm hv592 <| ?_
                                                                                          obtain ⟨q594, hq594, h⟩ := bnd_e h
                                                                                          rcases ite_e h with ⟨c596, h⟩ | ⟨c596, h⟩
                                                                                          · refine At.cV1L ⟨Nat.le_refl _, Nat.le_refl _⟩ (av := [vi v592]) (rest := [vi q591]) mv_X12_count lk_L_189 dL_law_1736 rfl rfl sh_130 (Nat.le_of_ble_eq_true rfl) (by omega) ⟨rfl, rfl⟩ (rX12_count hq594) <| At.icmp_eq_t (tgt := 1744) dL_law_1739 (by decide) c596 <| ?_
                                                                                            obtain ⟨x595, hx595, h⟩ := lt_e h
                                                                                            refine At.iinc (ls' := [(3, vi x595), (0, vr 100031), (1, vr 1), (2, vr 130)]) dL_law_1744 rfl (by decide) (by rw [hx595]; rfl) <| At.goto (tgt := 18) dL_law_1747 (by decide) <| ?_
                                                                                            exact At.sub [1, 2, 3, 0] rfl (ih _ _ _ h K1750 KR)
                                                                                          · refine At.cV1L ⟨Nat.le_refl _, Nat.le_refl _⟩ (av := [vi v592]) (rest := [vi q591]) mv_X12_count lk_L_189 dL_law_1736 rfl rfl sh_130 (Nat.le_of_ble_eq_true rfl) (by omega) ⟨rfl, rfl⟩ (rX12_count hq594) <| At.icmp_eq_f (tgt := 1744) dL_law_1739 (by decide) c596 <| ?_
                                                                                            obtain rfl := Option.some.inj h
                                                                                            exact At.iconst dL_law_1742 (by decide) <| At.zret (b := false) rfl (Nat.le_refl _) (Nat.le_refl _) (KR rfl) dL_law_1743
                                                                                        · have hz : (jand v1 63 < 0 ∨ 41 < jand v1 63) := by omega
                                                                                          refine At.scald eL eX hb g2.1 g2.2 dL_law_29 <| At.nm hv1 <| At.bipush dL_law_30 (by decide) <| At.iand dL_law_32 <| At.tsOut (tgt := 1744) dL_law_33 hz (by decide) <| ?_
                                                                                          obtain ⟨x597, hx597, h⟩ := lt_e h
                                                                                          refine At.iinc (ls' := [(3, vi x597), (0, vr 100031), (1, vr 1), (2, vr 130)]) dL_law_1744 rfl (by decide) (by rw [hx597]; rfl) <| At.goto (tgt := 18) dL_law_1747 (by decide) <| ?_
                                                                                          exact At.sub [1, 2, 3, 0] rfl (ih _ _ _ h K1750 KR)
set_option maxRecDepth 100000 in
set_option maxHeartbeats 40000000 in
theorem rLaw {G : GG} {L : Nat} {A : Nat → Int} (eL : scL G = L) (eX : scX G = A) (hb : L ≤ 100000) {S : SS} {rr : Bool × SS} (h : fLaw L A S = some rr) : At G mLaw 74 16 [(2, vr 130), (1, vr 1), (0, vr 100031)] [] (mm S) 600000 7302250 (EQ (some (vi (bI rr.1))) rr.2) := by
  unfold fLaw at h
  refine At.iconst dL_law_16 (by decide) <| At.istoren (ls' := [(3, vi 0), (2, vr 130), (1, vr 1), (0, vr 100031)]) dL_law_17 (by decide) rfl <| ?_
  obtain ⟨q1, ho2, h⟩ := bnd_e h
  refine At.sub [3, 2, 1, 0] rfl (lL_law_L18 eL eX hb FU _ _ q1 ho2 (fun hq => ?_) (fun hq => ?_))
  · rw [if_pos hq] at h
    refine At.iconst dL_law_1750 (by decide) <| ?_
    obtain rfl := Option.some.inj h
    exact At.zret (b := true) rfl (Nat.le_refl _) (Nat.le_refl _) ⟨rfl, rfl⟩ dL_law_1751
  · rw [if_neg (by omega)] at h
    obtain rfl := Option.some.inj h
    exact ⟨rfl, rfl⟩
