/-! every method but the law and the constructors has nothing that the view machine does not do -/
section VMC
theorem vm_p0 : vm_PI am_i0 := fun h => absurd h (by decide)
theorem vm_p1 : vm_PI am_i1 := fun h => absurd h (by decide)
theorem vm_p2 : vm_PI am_i2 := fun h => absurd h (by decide)
theorem vm_p3 : vm_PI am_i3 := fun h => absurd h (by decide)
theorem vm_p4 : vm_PI am_i4 := fun h => absurd h (by decide)
theorem vm_p5 : vm_PI am_i5 := fun h => absurd h (by decide)
theorem vm_p6 : vm_PI am_i6 := fun h => absurd h (by decide)
theorem vm_p7 : vm_PI am_i7 := fun h => absurd h (by decide)
theorem vm_p8 : vm_PI am_i8 := fun h => absurd h (by decide)
theorem vm_p9 : vm_PI am_i9 := fun h => absurd h (by decide)
theorem vm_p10 : vm_PI am_i10 := fun _ => vm_at_ok (by decide +kernel)
theorem vm_p11 : vm_PI am_i11 := fun _ => vm_at_ok (by decide +kernel)
theorem vm_p12 : vm_PI am_i12 := fun _ => vm_at_ok (by decide +kernel)
theorem vm_p13 : vm_PI am_i13 := fun _ => vm_at_ok (by decide +kernel)
theorem vm_p14 : vm_PI am_i14 := fun _ => vm_at_ok (by decide +kernel)
theorem vm_p15 : vm_PI am_i15 := fun _ => vm_at_ok (by decide +kernel)
theorem vm_p16 : vm_PI am_i16 := fun _ => vm_at_ok (by decide +kernel)
theorem vm_p17 : vm_PI am_i17 := fun _ => vm_at_ok (by decide +kernel)
theorem vm_p18 : vm_PI am_i18 := fun _ => vm_at_ok (by decide +kernel)
theorem vm_p19 : vm_PI am_i19 := fun _ => vm_at_ok (by decide +kernel)
theorem vm_p20 : vm_PI am_i20 := fun _ => vm_at_ok (by decide +kernel)
theorem vm_p21 : vm_PI am_i21 := fun _ => vm_at_ok (by decide +kernel)
theorem vm_p22 : vm_PI am_i22 := fun _ => vm_at_ok (by decide +kernel)
theorem vm_p23 : vm_PI am_i23 := fun _ => vm_at_ok (by decide +kernel)
theorem vm_p24 : vm_PI am_i24 := fun _ => vm_at_ok (by decide +kernel)
theorem vm_p25 : vm_PI am_i25 := fun _ => vm_at_ok (by decide +kernel)
theorem vm_p26 : vm_PI am_i26 := fun _ => vm_at_ok (by decide +kernel)
theorem vm_p27 : vm_PI am_i27 := fun _ => vm_at_ok (by decide +kernel)
theorem vm_p28 : vm_PI am_i28 := fun _ => vm_at_ok (by decide +kernel)
theorem vm_p29 : vm_PI am_i29 := fun _ => vm_at_ok (by decide +kernel)
theorem vm_p30 : vm_PI am_i30 := fun _ => vm_at_ok (by decide +kernel)
theorem vm_p31 : vm_PI am_i31 := fun _ => vm_at_ok (by decide +kernel)
theorem vm_p32 : vm_PI am_i32 := fun _ => vm_at_ok (by decide +kernel)
theorem vm_p33 : vm_PI am_i33 := fun _ => vm_at_ok (by decide +kernel)
theorem vm_p34 : vm_PI am_i34 := fun _ => vm_at_ok (by decide +kernel)
theorem vm_p35 : vm_PI am_i35 := fun _ => vm_at_ok (by decide +kernel)
theorem vm_p36 : vm_PI am_i36 := fun _ => vm_at_ok (by decide +kernel)
theorem vm_p37 : vm_PI am_i37 := fun _ => vm_at_ok (by decide +kernel)
theorem vm_p38 : vm_PI am_i38 := fun _ => vm_at_ok (by decide +kernel)
theorem vm_p39 : vm_PI am_i39 := fun _ => vm_at_ok (by decide +kernel)
theorem vm_p40 : vm_PI am_i40 := fun _ => vm_at_ok (by decide +kernel)
theorem vm_p41 : vm_PI am_i41 := fun _ => vm_at_ok (by decide +kernel)
theorem vm_p42 : vm_PI am_i42 := fun _ => vm_at_ok (by decide +kernel)
theorem vm_p43 : vm_PI am_i43 := fun _ => vm_at_ok (by decide +kernel)
theorem vm_p44 : vm_PI am_i44 := fun _ => vm_at_ok (by decide +kernel)
theorem vm_p45 : vm_PI am_i45 := fun _ => vm_at_ok (by decide +kernel)
theorem vm_p46 : vm_PI am_i46 := fun _ => vm_at_ok (by decide +kernel)
theorem vm_p47 : vm_PI am_i47 := fun _ => vm_at_ok (by decide +kernel)
theorem vm_p48 : vm_PI am_i48 := fun _ => vm_at_ok (by decide +kernel)
theorem vm_p49 : vm_PI am_i49 := fun _ => vm_at_ok (by decide +kernel)
theorem vm_p50 : vm_PI am_i50 := fun _ => vm_at_ok (by decide +kernel)
theorem vm_p51 : vm_PI am_i51 := fun _ => vm_at_ok (by decide +kernel)
theorem vm_p52 : vm_PI am_i52 := fun _ => vm_at_ok (by decide +kernel)
theorem vm_p53 : vm_PI am_i53 := fun _ => vm_at_ok (by decide +kernel)
theorem vm_p54 : vm_PI am_i54 := fun _ => vm_at_ok (by decide +kernel)
theorem vm_p55 : vm_PI am_i55 := fun _ => vm_at_ok (by decide +kernel)
theorem vm_p56 : vm_PI am_i56 := fun _ => vm_at_ok (by decide +kernel)
theorem vm_p57 : vm_PI am_i57 := fun _ => vm_at_ok (by decide +kernel)
theorem vm_p58 : vm_PI am_i58 := fun _ => vm_at_ok (by decide +kernel)
theorem vm_p59 : vm_PI am_i59 := fun _ => vm_at_ok (by decide +kernel)
theorem vm_p60 : vm_PI am_i60 := fun _ => vm_at_ok (by decide +kernel)
theorem vm_p61 : vm_PI am_i61 := fun _ => vm_at_ok (by decide +kernel)
theorem vm_p62 : vm_PI am_i62 := fun _ => vm_at_ok (by decide +kernel)
theorem vm_p63 : vm_PI am_i63 := fun _ => vm_at_ok (by decide +kernel)
theorem vm_p64 : vm_PI am_i64 := fun _ => vm_at_ok (by decide +kernel)
theorem vm_p65 : vm_PI am_i65 := fun _ => vm_at_ok (by decide +kernel)
theorem vm_p66 : vm_PI am_i66 := fun _ => vm_at_ok (by decide +kernel)
theorem vm_p67 : vm_PI am_i67 := fun _ => vm_at_ok (by decide +kernel)
theorem vm_p68 : vm_PI am_i68 := fun _ => vm_at_ok (by decide +kernel)
theorem vm_p69 : vm_PI am_i69 := fun _ => vm_at_ok (by decide +kernel)
theorem vm_p70 : vm_PI am_i70 := fun _ => vm_at_ok (by decide +kernel)
theorem vm_p71 : vm_PI am_i71 := fun _ => vm_at_ok (by decide +kernel)
theorem vm_p72 : vm_PI am_i72 := fun _ => vm_at_ok (by decide +kernel)
theorem vm_p73 : vm_PI am_i73 := fun _ => vm_at_ok (by decide +kernel)
theorem vm_p74 : vm_PI am_i74 := fun _ => vm_at_ok (by decide +kernel)
theorem vm_p75 : vm_PI am_i75 := fun _ => vm_at_ok (by decide +kernel)
theorem vm_p76 : vm_PI am_i76 := fun _ => vm_at_ok (by decide +kernel)
theorem vm_p77 : vm_PI am_i77 := fun _ => vm_at_ok (by decide +kernel)
theorem vm_p78 : vm_PI am_i78 := fun _ => vm_at_ok (by decide +kernel)
theorem vm_p79 : vm_PI am_i79 := fun _ => vm_at_ok (by decide +kernel)
theorem vm_p80 : vm_PI am_i80 := fun _ => vm_at_ok (by decide +kernel)
theorem vm_p81 : vm_PI am_i81 := fun _ => vm_at_ok (by decide +kernel)
theorem vm_p82 : vm_PI am_i82 := fun _ => vm_at_ok (by decide +kernel)
theorem vm_p83 : vm_PI am_i83 := fun _ => vm_at_ok (by decide +kernel)
theorem vm_p84 : vm_PI am_i84 := fun _ => vm_at_ok (by decide +kernel)
theorem vm_p85 : vm_PI am_i85 := fun _ => vm_at_ok (by decide +kernel)
theorem vm_p86 : vm_PI am_i86 := fun _ => vm_at_ok (by decide +kernel)
theorem vm_p87 : vm_PI am_i87 := fun _ => vm_at_ok (by decide +kernel)
theorem vm_p88 : vm_PI am_i88 := fun _ => vm_at_ok (by decide +kernel)
theorem vm_p89 : vm_PI am_i89 := fun _ => vm_at_ok (by decide +kernel)
theorem vm_p90 : vm_PI am_i90 := fun _ => vm_at_ok (by decide +kernel)
theorem vm_p91 : vm_PI am_i91 := fun _ => vm_at_ok (by decide +kernel)
theorem vm_p92 : vm_PI am_i92 := fun _ => vm_at_ok (by decide +kernel)
theorem vm_p93 : vm_PI am_i93 := fun _ => vm_at_ok (by decide +kernel)
theorem vm_p94 : vm_PI am_i94 := fun _ => vm_at_ok (by decide +kernel)
theorem vm_p95 : vm_PI am_i95 := fun _ => vm_at_ok (by decide +kernel)
theorem vm_p96 : vm_PI am_i96 := fun _ => vm_at_ok (by decide +kernel)
theorem vm_p97 : vm_PI am_i97 := fun _ => vm_at_ok (by decide +kernel)
theorem vm_p98 : vm_PI am_i98 := fun _ => vm_at_ok (by decide +kernel)
theorem vm_p99 : vm_PI am_i99 := fun _ => vm_at_ok (by decide +kernel)
theorem vm_p100 : vm_PI am_i100 := fun _ => vm_at_ok (by decide +kernel)
theorem vm_p101 : vm_PI am_i101 := fun _ => vm_at_ok (by decide +kernel)
theorem vm_p102 : vm_PI am_i102 := fun _ => vm_at_ok (by decide +kernel)
theorem vm_p103 : vm_PI am_i103 := fun _ => vm_at_ok (by decide +kernel)
theorem vm_p104 : vm_PI am_i104 := fun _ => vm_at_ok (by decide +kernel)
theorem vm_p105 : vm_PI am_i105 := fun _ => vm_at_ok (by decide +kernel)
theorem vm_p106 : vm_PI am_i106 := fun _ => vm_at_ok (by decide +kernel)
theorem vm_p107 : vm_PI am_i107 := fun _ => vm_at_ok (by decide +kernel)
theorem vm_p108 : vm_PI am_i108 := fun _ => vm_at_ok (by decide +kernel)
theorem vm_p109 : vm_PI am_i109 := fun _ => vm_at_ok (by decide +kernel)
theorem vm_p110 : vm_PI am_i110 := fun _ => vm_at_ok (by decide +kernel)
theorem vm_p111 : vm_PI am_i111 := fun _ => vm_at_ok (by decide +kernel)
theorem vm_p112 : vm_PI am_i112 := fun _ => vm_at_ok (by decide +kernel)
theorem vm_p113 : vm_PI am_i113 := fun _ => vm_at_ok (by decide +kernel)
theorem vm_p114 : vm_PI am_i114 := fun _ => vm_at_ok (by decide +kernel)
theorem vm_p115 : vm_PI am_i115 := fun _ => vm_at_ok (by decide +kernel)
theorem vm_p116 : vm_PI am_i116 := fun _ => vm_at_ok (by decide +kernel)
theorem vm_p117 : vm_PI am_i117 := fun _ => vm_at_ok (by decide +kernel)
theorem vm_p118 : vm_PI am_i118 := fun _ => vm_at_ok (by decide +kernel)
theorem vm_p119 : vm_PI am_i119 := fun _ => vm_at_ok (by decide +kernel)
theorem vm_p120 : vm_PI am_i120 := fun _ => vm_at_ok (by decide +kernel)
theorem vm_p121 : vm_PI am_i121 := fun _ => vm_at_ok (by decide +kernel)
theorem vm_p122 : vm_PI am_i122 := fun _ => vm_at_ok (by decide +kernel)
theorem vm_p123 : vm_PI am_i123 := fun _ => vm_at_ok (by decide +kernel)
theorem vm_p124 : vm_PI am_i124 := fun _ => vm_at_ok (by decide +kernel)
theorem vm_p125 : vm_PI am_i125 := fun _ => vm_at_ok (by decide +kernel)
theorem vm_p126 : vm_PI am_i126 := fun _ => vm_at_ok (by decide +kernel)
theorem vm_p127 : vm_PI am_i127 := fun _ => vm_at_ok (by decide +kernel)
theorem vm_p128 : vm_PI am_i128 := fun _ => vm_at_ok (by decide +kernel)
theorem vm_p129 : vm_PI am_i129 := fun _ => vm_at_ok (by decide +kernel)
theorem vm_p130 : vm_PI am_i130 := fun _ => vm_at_ok (by decide +kernel)
theorem vm_p131 : vm_PI am_i131 := fun _ => vm_at_ok (by decide +kernel)
theorem vm_p132 : vm_PI am_i132 := fun _ => vm_at_ok (by decide +kernel)
theorem vm_p133 : vm_PI am_i133 := fun _ => vm_at_ok (by decide +kernel)
theorem vm_p134 : vm_PI am_i134 := fun _ => vm_at_ok (by decide +kernel)
theorem vm_p135 : vm_PI am_i135 := fun _ => vm_at_ok (by decide +kernel)
theorem vm_p136 : vm_PI am_i136 := fun _ => vm_at_ok (by decide +kernel)
theorem vm_p137 : vm_PI am_i137 := fun _ => vm_at_ok (by decide +kernel)
theorem vm_p138 : vm_PI am_i138 := fun _ => vm_at_ok (by decide +kernel)
theorem vm_p139 : vm_PI am_i139 := fun _ => vm_at_ok (by decide +kernel)
theorem vm_p140 : vm_PI am_i140 := fun _ => vm_at_ok (by decide +kernel)
theorem vm_p141 : vm_PI am_i141 := fun _ => vm_at_ok (by decide +kernel)
theorem vm_p142 : vm_PI am_i142 := fun _ => vm_at_ok (by decide +kernel)
theorem vm_p143 : vm_PI am_i143 := fun _ => vm_at_ok (by decide +kernel)
theorem vm_p144 : vm_PI am_i144 := fun _ => vm_at_ok (by decide +kernel)
theorem vm_p145 : vm_PI am_i145 := fun h => absurd h (by decide)
theorem vm_p146 : vm_PI am_i146 := fun _ => vm_at_ok (by decide +kernel)
theorem vm_p147 : vm_PI am_i147 := fun _ => vm_at_ok (by decide +kernel)
theorem vm_p148 : vm_PI am_i148 := fun _ => vm_at_ok (by decide +kernel)
theorem vm_p149 : vm_PI am_i149 := fun _ => vm_at_ok (by decide +kernel)
theorem vm_p150 : vm_PI am_i150 := fun _ => vm_at_ok (by decide +kernel)
theorem vm_p151 : vm_PI am_i151 := fun _ => vm_at_ok (by decide +kernel)
theorem vm_p152 : vm_PI am_i152 := fun _ => vm_at_ok (by decide +kernel)
theorem vm_p153 : vm_PI am_i153 := fun _ => vm_at_ok (by decide +kernel)
theorem vm_p154 : vm_PI am_i154 := fun _ => vm_at_ok (by decide +kernel)
theorem vm_p155 : vm_PI am_i155 := fun _ => vm_at_ok (by decide +kernel)
theorem vm_p156 : vm_PI am_i156 := fun _ => vm_at_ok (by decide +kernel)
theorem vm_p157 : vm_PI am_i157 := fun _ => vm_at_ok (by decide +kernel)
theorem vm_p158 : vm_PI am_i158 := fun _ => vm_at_ok (by decide +kernel)
theorem vm_p159 : vm_PI am_i159 := fun _ => vm_at_ok (by decide +kernel)
theorem vm_p160 : vm_PI am_i160 := fun _ => vm_at_ok (by decide +kernel)
theorem vm_p161 : vm_PI am_i161 := fun _ => vm_at_ok (by decide +kernel)
theorem vm_p162 : vm_PI am_i162 := fun _ => vm_at_ok (by decide +kernel)
theorem vm_p163 : vm_PI am_i163 := fun _ => vm_at_ok (by decide +kernel)
theorem vm_p164 : vm_PI am_i164 := fun _ => vm_at_ok (by decide +kernel)
theorem vm_p165 : vm_PI am_i165 := fun _ => vm_at_ok (by decide +kernel)
theorem vm_p166 : vm_PI am_i166 := fun _ => vm_at_ok (by decide +kernel)
theorem vm_p167 : vm_PI am_i167 := fun _ => vm_at_ok (by decide +kernel)
theorem vm_p168 : vm_PI am_i168 := fun _ => vm_at_ok (by decide +kernel)
theorem vm_p169 : vm_PI am_i169 := fun _ => vm_at_ok (by decide +kernel)
theorem vm_p170 : vm_PI am_i170 := fun _ => vm_at_ok (by decide +kernel)
theorem vm_p171 : vm_PI am_i171 := fun _ => vm_at_ok (by decide +kernel)
theorem vm_p172 : vm_PI am_i172 := fun _ => vm_at_ok (by decide +kernel)
theorem vm_p173 : vm_PI am_i173 := fun _ => vm_at_ok (by decide +kernel)
theorem vm_p174 : vm_PI am_i174 := fun _ => vm_at_ok (by decide +kernel)
theorem vm_p175 : vm_PI am_i175 := fun _ => vm_at_ok (by decide +kernel)
theorem vm_p176 : vm_PI am_i176 := fun _ => vm_at_ok (by decide +kernel)
theorem vm_p177 : vm_PI am_i177 := fun _ => vm_at_ok (by decide +kernel)
theorem vm_p178 : vm_PI am_i178 := fun _ => vm_at_ok (by decide +kernel)
theorem vm_p179 : vm_PI am_i179 := fun _ => vm_at_ok (by decide +kernel)
theorem vm_p180 : vm_PI am_i180 := fun _ => vm_at_ok (by decide +kernel)
theorem vm_p181 : vm_PI am_i181 := fun _ => vm_at_ok (by decide +kernel)
theorem vm_p182 : vm_PI am_i182 := fun _ => vm_at_ok (by decide +kernel)
theorem vm_p183 : vm_PI am_i183 := fun _ => vm_at_ok (by decide +kernel)
theorem vm_p184 : vm_PI am_i184 := fun _ => vm_at_ok (by decide +kernel)
theorem vm_p185 : vm_PI am_i185 := fun _ => vm_at_ok (by decide +kernel)
theorem vm_p186 : vm_PI am_i186 := fun _ => vm_at_ok (by decide +kernel)
theorem vm_p187 : vm_PI am_i187 := fun _ => vm_at_ok (by decide +kernel)
theorem vm_p188 : vm_PI am_i188 := fun _ => vm_at_ok (by decide +kernel)
theorem vm_p189 : vm_PI am_i189 := fun _ => vm_at_ok (by decide +kernel)
theorem vm_p190 : vm_PI am_i190 := fun _ => vm_at_ok (by decide +kernel)
theorem vm_p191 : vm_PI am_i191 := fun _ => vm_at_ok (by decide +kernel)
theorem vm_p192 : vm_PI am_i192 := fun _ => vm_at_ok (by decide +kernel)
theorem vm_p193 : vm_PI am_i193 := fun _ => vm_at_ok (by decide +kernel)
theorem vm_p194 : vm_PI am_i194 := fun _ => vm_at_ok (by decide +kernel)
theorem vm_p195 : vm_PI am_i195 := fun _ => vm_at_ok (by decide +kernel)
theorem vm_p196 : vm_PI am_i196 := fun _ => vm_at_ok (by decide +kernel)
theorem vm_p197 : vm_PI am_i197 := fun _ => vm_at_ok (by decide +kernel)
theorem vm_p198 : vm_PI am_i198 := fun _ => vm_at_ok (by decide +kernel)
theorem vm_p199 : vm_PI am_i199 := fun _ => vm_at_ok (by decide +kernel)
theorem vm_p200 : vm_PI am_i200 := fun _ => vm_at_ok (by decide +kernel)
theorem vm_p201 : vm_PI am_i201 := fun _ => vm_at_ok (by decide +kernel)
theorem vm_p202 : vm_PI am_i202 := fun _ => vm_at_ok (by decide +kernel)
theorem vm_p203 : vm_PI am_i203 := fun _ => vm_at_ok (by decide +kernel)
theorem vm_ptree : am_forT vm_PI 8 am_mt := ⟨⟨⟨⟨⟨⟨⟨⟨vm_p0, vm_p1⟩, ⟨vm_p2, vm_p3⟩⟩, ⟨⟨vm_p4, vm_p5⟩, ⟨vm_p6, vm_p7⟩⟩⟩, ⟨⟨⟨vm_p8, vm_p9⟩, ⟨vm_p10, vm_p11⟩⟩, ⟨⟨vm_p12, vm_p13⟩, ⟨vm_p14, vm_p15⟩⟩⟩⟩, ⟨⟨⟨⟨vm_p16, vm_p17⟩, ⟨vm_p18, vm_p19⟩⟩, ⟨⟨vm_p20, vm_p21⟩, ⟨vm_p22, vm_p23⟩⟩⟩, ⟨⟨⟨vm_p24, vm_p25⟩, ⟨vm_p26, vm_p27⟩⟩, ⟨⟨vm_p28, vm_p29⟩, ⟨vm_p30, vm_p31⟩⟩⟩⟩⟩, ⟨⟨⟨⟨⟨vm_p32, vm_p33⟩, ⟨vm_p34, vm_p35⟩⟩, ⟨⟨vm_p36, vm_p37⟩, ⟨vm_p38, vm_p39⟩⟩⟩, ⟨⟨⟨vm_p40, vm_p41⟩, ⟨vm_p42, vm_p43⟩⟩, ⟨⟨vm_p44, vm_p45⟩, ⟨vm_p46, vm_p47⟩⟩⟩⟩, ⟨⟨⟨⟨vm_p48, vm_p49⟩, ⟨vm_p50, vm_p51⟩⟩, ⟨⟨vm_p52, vm_p53⟩, ⟨vm_p54, vm_p55⟩⟩⟩, ⟨⟨⟨vm_p56, vm_p57⟩, ⟨vm_p58, vm_p59⟩⟩, ⟨⟨vm_p60, vm_p61⟩, ⟨vm_p62, vm_p63⟩⟩⟩⟩⟩⟩, ⟨⟨⟨⟨⟨⟨vm_p64, vm_p65⟩, ⟨vm_p66, vm_p67⟩⟩, ⟨⟨vm_p68, vm_p69⟩, ⟨vm_p70, vm_p71⟩⟩⟩, ⟨⟨⟨vm_p72, vm_p73⟩, ⟨vm_p74, vm_p75⟩⟩, ⟨⟨vm_p76, vm_p77⟩, ⟨vm_p78, vm_p79⟩⟩⟩⟩, ⟨⟨⟨⟨vm_p80, vm_p81⟩, ⟨vm_p82, vm_p83⟩⟩, ⟨⟨vm_p84, vm_p85⟩, ⟨vm_p86, vm_p87⟩⟩⟩, ⟨⟨⟨vm_p88, vm_p89⟩, ⟨vm_p90, vm_p91⟩⟩, ⟨⟨vm_p92, vm_p93⟩, ⟨vm_p94, vm_p95⟩⟩⟩⟩⟩, ⟨⟨⟨⟨⟨vm_p96, vm_p97⟩, ⟨vm_p98, vm_p99⟩⟩, ⟨⟨vm_p100, vm_p101⟩, ⟨vm_p102, vm_p103⟩⟩⟩, ⟨⟨⟨vm_p104, vm_p105⟩, ⟨vm_p106, vm_p107⟩⟩, ⟨⟨vm_p108, vm_p109⟩, ⟨vm_p110, vm_p111⟩⟩⟩⟩, ⟨⟨⟨⟨vm_p112, vm_p113⟩, ⟨vm_p114, vm_p115⟩⟩, ⟨⟨vm_p116, vm_p117⟩, ⟨vm_p118, vm_p119⟩⟩⟩, ⟨⟨⟨vm_p120, vm_p121⟩, ⟨vm_p122, vm_p123⟩⟩, ⟨⟨vm_p124, vm_p125⟩, ⟨vm_p126, vm_p127⟩⟩⟩⟩⟩⟩⟩, ⟨⟨⟨⟨⟨⟨⟨vm_p128, vm_p129⟩, ⟨vm_p130, vm_p131⟩⟩, ⟨⟨vm_p132, vm_p133⟩, ⟨vm_p134, vm_p135⟩⟩⟩, ⟨⟨⟨vm_p136, vm_p137⟩, ⟨vm_p138, vm_p139⟩⟩, ⟨⟨vm_p140, vm_p141⟩, ⟨vm_p142, vm_p143⟩⟩⟩⟩, ⟨⟨⟨⟨vm_p144, vm_p145⟩, ⟨vm_p146, vm_p147⟩⟩, ⟨⟨vm_p148, vm_p149⟩, ⟨vm_p150, vm_p151⟩⟩⟩, ⟨⟨⟨vm_p152, vm_p153⟩, ⟨vm_p154, vm_p155⟩⟩, ⟨⟨vm_p156, vm_p157⟩, ⟨vm_p158, vm_p159⟩⟩⟩⟩⟩, ⟨⟨⟨⟨⟨vm_p160, vm_p161⟩, ⟨vm_p162, vm_p163⟩⟩, ⟨⟨vm_p164, vm_p165⟩, ⟨vm_p166, vm_p167⟩⟩⟩, ⟨⟨⟨vm_p168, vm_p169⟩, ⟨vm_p170, vm_p171⟩⟩, ⟨⟨vm_p172, vm_p173⟩, ⟨vm_p174, vm_p175⟩⟩⟩⟩, ⟨⟨⟨⟨vm_p176, vm_p177⟩, ⟨vm_p178, vm_p179⟩⟩, ⟨⟨vm_p180, vm_p181⟩, ⟨vm_p182, vm_p183⟩⟩⟩, ⟨⟨⟨vm_p184, vm_p185⟩, ⟨vm_p186, vm_p187⟩⟩, ⟨⟨vm_p188, vm_p189⟩, ⟨vm_p190, vm_p191⟩⟩⟩⟩⟩⟩, ⟨⟨⟨⟨⟨⟨vm_p192, vm_p193⟩, ⟨vm_p194, vm_p195⟩⟩, ⟨⟨vm_p196, vm_p197⟩, ⟨vm_p198, vm_p199⟩⟩⟩, ⟨⟨⟨vm_p200, vm_p201⟩, ⟨vm_p202, vm_p203⟩⟩, ⟨⟨vm_p203, vm_p203⟩, ⟨vm_p203, vm_p203⟩⟩⟩⟩, ⟨⟨⟨⟨vm_p203, vm_p203⟩, ⟨vm_p203, vm_p203⟩⟩, ⟨⟨vm_p203, vm_p203⟩, ⟨vm_p203, vm_p203⟩⟩⟩, ⟨⟨⟨vm_p203, vm_p203⟩, ⟨vm_p203, vm_p203⟩⟩, ⟨⟨vm_p203, vm_p203⟩, ⟨vm_p203, vm_p203⟩⟩⟩⟩⟩, ⟨⟨⟨⟨⟨vm_p203, vm_p203⟩, ⟨vm_p203, vm_p203⟩⟩, ⟨⟨vm_p203, vm_p203⟩, ⟨vm_p203, vm_p203⟩⟩⟩, ⟨⟨⟨vm_p203, vm_p203⟩, ⟨vm_p203, vm_p203⟩⟩, ⟨⟨vm_p203, vm_p203⟩, ⟨vm_p203, vm_p203⟩⟩⟩⟩, ⟨⟨⟨⟨vm_p203, vm_p203⟩, ⟨vm_p203, vm_p203⟩⟩, ⟨⟨vm_p203, vm_p203⟩, ⟨vm_p203, vm_p203⟩⟩⟩, ⟨⟨⟨vm_p203, vm_p203⟩, ⟨vm_p203, vm_p203⟩⟩, ⟨⟨vm_p203, vm_p203⟩, ⟨vm_p203, vm_p203⟩⟩⟩⟩⟩⟩⟩⟩
theorem vm_pall (k : Nat) : vm_PI (am_mi k) := am_forT_get 8 am_mt k vm_ptree
theorem vm_ok {k : Nat} (hs : vm_sup k = true) {pc : Nat} {i : Jvm.ClassFile.Instr} (hc : am_code k pc = some i) : vm_iok (am_oc k) i = true := vm_pall k hs pc i hc
theorem vm_lall : am_allT vm_lok _ am_c0 = true := by decide +kernel
theorem vm_law {pc : Nat} (hp : 23 ≤ pc) {i : Jvm.ClassFile.Instr} (hc : am_code 0 pc = some i) : vm_iok (am_oc 0) i = true ∧ vm_nl i = true ∧ ∀ o ∈ vm_js i, 23 ≤ am_jmp pc o := by
  have hc : am_at am_c0 pc = some i := hc
  unfold am_at at hc
  split at hc
  · rename_i hq
    have hq := Nat.eq_of_beq_eq_true hq
    cases hc
    have h := am_allT_get (f := vm_lok) _ am_c0 pc vm_lall
    unfold vm_lok at h
    rw [hq] at h
    simp only [Bool.or_eq_true, Bool.and_eq_true, Nat.blt_eq] at h
    rcases h with h | ⟨h1, h2, h3⟩
    · omega
    · exact ⟨h1, h2, fun o ho => Nat.le_of_ble_eq_true (List.all_eq_true.mp h3 o ho)⟩
  · cases hc
theorem vm_entok {mid pc : Nat} (hs : vm_ent mid pc = true) {i : Jvm.ClassFile.Instr} (hc : am_code mid pc = some i) : vm_iok (am_oc mid) i = true := by
  simp only [vm_ent, Bool.or_eq_true, Bool.and_eq_true] at hs
  rcases hs with hs | ⟨h1, h2⟩
  · exact vm_ok hs hc
  · obtain rfl := Nat.eq_of_beq_eq_true h1
    exact (vm_law (Nat.le_of_ble_eq_true h2) hc).1
theorem vm_ent3 {mid pc : Nat} (hs : vm_ent mid pc = true) : vm_ent mid (pc + 3) = true := by
  simp only [vm_ent, Bool.or_eq_true, Bool.and_eq_true] at hs ⊢
  rcases hs with hs | ⟨h1, h2⟩
  · exact Or.inl hs
  · exact Or.inr ⟨h1, Nat.ble_eq_true_of_le (by have := Nat.le_of_ble_eq_true h2; omega)⟩
theorem vm_enth {mid pc X q : Nat} (hs : vm_ent mid pc = true) (hh : am_hdl (am_hs mid) pc X = some q) : vm_ent mid q = true := by
  simp only [vm_ent, Bool.or_eq_true, Bool.and_eq_true] at hs ⊢
  rcases hs with hs | ⟨h1, h2⟩
  · exact Or.inl hs
  · obtain rfl := Nat.eq_of_beq_eq_true h1
    cases hh
theorem vm_stepge {mid pc : Nat} {L st : List Value} {H : am_H} {i : Jvm.ClassFile.Instr} {x : am_F} (hn : vm_nl i = true) (hs : am_step mid pc L st H i = some x) : pc ≤ x.1 ∨ ∃ o ∈ vm_js i, x.1 = am_jmp pc o := by
  unfold am_step at hs
  split at hs
  all_goals (try simp only [am_ald, am_ast] at hs)
  all_goals (repeat' (split at hs))
  all_goals first
    | (cases hs; done)
    | (cases hn; done)
    | (cases hs; left; simp only []; omega)
    | (cases hs; right; exact ⟨_, List.mem_cons_self, rfl⟩)
    | (rename_i ho; cases hs; right; exact ⟨_, List.mem_cons_of_mem _ (Array.mem_toList_iff.mpr (Array.mem_of_getElem? ho)), rfl⟩)
    | (cases hs; simp only [vm_js, List.mem_singleton, exists_eq_left]; split <;> first | exact Or.inr rfl | (left; omega))
theorem vm_ents {mid pc : Nat} {L st : List Value} {H : am_H} {i : Jvm.ClassFile.Instr} {x : am_F} (hs : vm_ent mid pc = true) (hc : am_code mid pc = some i) (hx : am_step mid pc L st H i = some x) : vm_ent mid x.1 = true := by
  simp only [vm_ent, Bool.or_eq_true, Bool.and_eq_true] at hs ⊢
  rcases hs with hs | ⟨h1, h2⟩
  · exact Or.inl hs
  · obtain rfl := Nat.eq_of_beq_eq_true h1
    have h2 := Nat.le_of_ble_eq_true h2
    obtain ⟨_, l2, l3⟩ := vm_law h2 hc
    refine Or.inr ⟨h1, Nat.ble_eq_true_of_le ?_⟩
    rcases vm_stepge l2 hx with q | ⟨o, o1, o2⟩
    · omega
    · rw [o2]
      exact l3 o o1
end VMC
