theorem jwN_X11_textTold : Cond.instanceMethod yX11_textTold ∈ jT := jT_in (List.mem_append_right _ (List.mem_of_getElem? (i := 1567) (by decide +kernel))) rfl
theorem jwX_X11_textTold : Cond.selects RX11 yX11_textTold yX11_textTold ∈ jT := jT_in (List.mem_append_right _ (List.mem_of_getElem? (i := 1568) (by decide +kernel))) rfl
set_option maxRecDepth 100000 in
theorem jwO_X11_textTold : Cond.code (mX11_textTold).1 (mX11_textTold).2.1 (mX11_textTold).2.2.1 (mX11_textTold).2.2.2 ∈ jT := jT_in (List.mem_append_right _ (List.mem_of_getElem? (i := 1569) rfl)) rfl
theorem jwM_X11_305 : Cond.methodLink RX11 305 yX11_isText ∈ jT := jT_in (List.mem_append_right _ (List.mem_of_getElem? (i := 1570) (by decide +kernel))) rfl
theorem jwN_X11_isText : Cond.instanceMethod yX11_isText ∈ jT := jT_in (List.mem_append_right _ (List.mem_of_getElem? (i := 1572) (by decide +kernel))) rfl
set_option maxRecDepth 100000 in
theorem jwO_X11_isText : Cond.code (mX11_isText).1 (mX11_isText).2.1 (mX11_isText).2.2.1 (mX11_isText).2.2.2 ∈ jT := jT_in (List.mem_append_right _ (List.mem_of_getElem? (i := 1573) rfl)) rfl
theorem jwM_L_157 : Cond.methodLink RL 157 yX11_why ∈ jT := jT_in (List.mem_append_right _ (List.mem_of_getElem? (i := 1574) (by decide +kernel))) rfl
theorem jwN_X11_why : Cond.instanceMethod yX11_why ∈ jT := jT_in (List.mem_append_right _ (List.mem_of_getElem? (i := 1575) (by decide +kernel))) rfl
theorem jwX_X11_why : Cond.selects RX11 yX11_why yX11_why ∈ jT := jT_in (List.mem_append_right _ (List.mem_of_getElem? (i := 1576) (by decide +kernel))) rfl
set_option maxRecDepth 100000 in
theorem jwO_X11_why : Cond.code (mX11_why).1 (mX11_why).2.1 (mX11_why).2.2.1 (mX11_why).2.2.2 ∈ jT := jT_in (List.mem_append_right _ (List.mem_of_getElem? (i := 1577) rfl)) rfl
theorem jwM_X11_308 : Cond.methodLink RX11 308 yX11_orNone ∈ jT := jT_in (List.mem_append_right _ (List.mem_of_getElem? (i := 1578) (by decide +kernel))) rfl
theorem jwS_X11_orNone : Cond.static yX11_orNone ∈ jT := jT_in (List.mem_append_right _ (List.mem_of_getElem? (i := 1579) (by decide +kernel))) rfl
set_option maxRecDepth 100000 in
theorem jwO_X11_orNone : Cond.code (mX11_orNone).1 (mX11_orNone).2.1 (mX11_orNone).2.2.1 (mX11_orNone).2.2.2 ∈ jT := jT_in (List.mem_append_right _ (List.mem_of_getElem? (i := 1580) rfl)) rfl
theorem jwM_L_161 : Cond.methodLink RL 161 yX11_sheet ∈ jT := jT_in (List.mem_append_right _ (List.mem_of_getElem? (i := 1581) (by decide +kernel))) rfl
theorem jwN_X11_sheet : Cond.instanceMethod yX11_sheet ∈ jT := jT_in (List.mem_append_right _ (List.mem_of_getElem? (i := 1582) (by decide +kernel))) rfl
theorem jwX_X11_sheet : Cond.selects RX11 yX11_sheet yX11_sheet ∈ jT := jT_in (List.mem_append_right _ (List.mem_of_getElem? (i := 1583) (by decide +kernel))) rfl
set_option maxRecDepth 100000 in
theorem jwO_X11_sheet : Cond.code (mX11_sheet).1 (mX11_sheet).2.1 (mX11_sheet).2.2.1 (mX11_sheet).2.2.2 ∈ jT := jT_in (List.mem_append_right _ (List.mem_of_getElem? (i := 1584) rfl)) rfl
theorem jwM_X11_314 : Cond.methodLink RX11 314 yX11_isSheet ∈ jT := jT_in (List.mem_append_right _ (List.mem_of_getElem? (i := 1585) (by decide +kernel))) rfl
theorem jwS_X11_isSheet : Cond.static yX11_isSheet ∈ jT := jT_in (List.mem_append_right _ (List.mem_of_getElem? (i := 1586) (by decide +kernel))) rfl
set_option maxRecDepth 100000 in
theorem jwO_X11_isSheet : Cond.code (mX11_isSheet).1 (mX11_isSheet).2.1 (mX11_isSheet).2.2.1 (mX11_isSheet).2.2.2 ∈ jT := jT_in (List.mem_append_right _ (List.mem_of_getElem? (i := 1587) rfl)) rfl
theorem jwL_X11_317 : Cond.constantLong RX11 317 (-1) ∈ jT := jT_in (List.mem_append_right _ (List.mem_of_getElem? (i := 1588) (by decide +kernel))) rfl
theorem jwC_X11_319 : Cond.constant RX11 319 (-1000000014) ∈ jT := jT_in (List.mem_append_right _ (List.mem_of_getElem? (i := 1589) (by decide +kernel))) rfl
theorem jwM_L_165 : Cond.methodLink RL 165 yX11_mark ∈ jT := jT_in (List.mem_append_right _ (List.mem_of_getElem? (i := 1590) (by decide +kernel))) rfl
theorem jwN_X11_mark : Cond.instanceMethod yX11_mark ∈ jT := jT_in (List.mem_append_right _ (List.mem_of_getElem? (i := 1591) (by decide +kernel))) rfl
theorem jwX_X11_mark : Cond.selects RX11 yX11_mark yX11_mark ∈ jT := jT_in (List.mem_append_right _ (List.mem_of_getElem? (i := 1592) (by decide +kernel))) rfl
set_option maxRecDepth 100000 in
theorem jwO_X11_mark : Cond.code (mX11_mark).1 (mX11_mark).2.1 (mX11_mark).2.2.1 (mX11_mark).2.2.2 ∈ jT := jT_in (List.mem_append_right _ (List.mem_of_getElem? (i := 1593) rfl)) rfl
theorem jwC_X11_320 : Cond.constant RX11 320 (-1000000011) ∈ jT := jT_in (List.mem_append_right _ (List.mem_of_getElem? (i := 1594) (by decide +kernel))) rfl
theorem jwC_X11_321 : Cond.constant RX11 321 (-1000000013) ∈ jT := jT_in (List.mem_append_right _ (List.mem_of_getElem? (i := 1595) (by decide +kernel))) rfl
theorem jwL_X11_322 : Cond.constantLong RX11 322 (-99999) ∈ jT := jT_in (List.mem_append_right _ (List.mem_of_getElem? (i := 1596) (by decide +kernel))) rfl
theorem jwL_X11_324 : Cond.constantLong RX11 324 99999 ∈ jT := jT_in (List.mem_append_right _ (List.mem_of_getElem? (i := 1597) (by decide +kernel))) rfl
theorem jwM_L_169 : Cond.methodLink RL 169 yX11_pour ∈ jT := jT_in (List.mem_append_right _ (List.mem_of_getElem? (i := 1598) (by decide +kernel))) rfl
theorem jwN_X11_pour : Cond.instanceMethod yX11_pour ∈ jT := jT_in (List.mem_append_right _ (List.mem_of_getElem? (i := 1599) (by decide +kernel))) rfl
theorem jwX_X11_pour : Cond.selects RX11 yX11_pour yX11_pour ∈ jT := jT_in (List.mem_append_right _ (List.mem_of_getElem? (i := 1600) (by decide +kernel))) rfl
set_option maxRecDepth 100000 in
theorem jwO_X11_pour : Cond.code (mX11_pour).1 (mX11_pour).2.1 (mX11_pour).2.2.1 (mX11_pour).2.2.2 ∈ jT := jT_in (List.mem_append_right _ (List.mem_of_getElem? (i := 1601) rfl)) rfl
theorem jwM_L_173 : Cond.methodLink RL 173 yX11_reads ∈ jT := jT_in (List.mem_append_right _ (List.mem_of_getElem? (i := 1602) (by decide +kernel))) rfl
theorem jwN_X11_reads : Cond.instanceMethod yX11_reads ∈ jT := jT_in (List.mem_append_right _ (List.mem_of_getElem? (i := 1603) (by decide +kernel))) rfl
theorem jwX_X11_reads : Cond.selects RX11 yX11_reads yX11_reads ∈ jT := jT_in (List.mem_append_right _ (List.mem_of_getElem? (i := 1604) (by decide +kernel))) rfl
set_option maxRecDepth 100000 in
theorem jwO_X11_reads : Cond.code (mX11_reads).1 (mX11_reads).2.1 (mX11_reads).2.2.1 (mX11_reads).2.2.2 ∈ jT := jT_in (List.mem_append_right _ (List.mem_of_getElem? (i := 1605) rfl)) rfl
theorem jwM_L_129 : Cond.methodLink RL 129 yX11_cut ∈ jT := jT_in (List.mem_append_right _ (List.mem_of_getElem? (i := 1606) (by decide +kernel))) rfl
theorem jwN_X11_cut : Cond.instanceMethod yX11_cut ∈ jT := jT_in (List.mem_append_right _ (List.mem_of_getElem? (i := 1607) (by decide +kernel))) rfl
theorem jwX_X11_cut : Cond.selects RX11 yX11_cut yX11_cut ∈ jT := jT_in (List.mem_append_right _ (List.mem_of_getElem? (i := 1608) (by decide +kernel))) rfl
set_option maxRecDepth 100000 in
theorem jwO_X11_cut : Cond.code (mX11_cut).1 (mX11_cut).2.1 (mX11_cut).2.2.1 (mX11_cut).2.2.2 ∈ jT := jT_in (List.mem_append_right _ (List.mem_of_getElem? (i := 1609) rfl)) rfl
theorem jwM_X11_326 : Cond.methodLink RX11 326 yX11_off ∈ jT := jT_in (List.mem_append_right _ (List.mem_of_getElem? (i := 1610) (by decide +kernel))) rfl
theorem jwS_X11_off : Cond.static yX11_off ∈ jT := jT_in (List.mem_append_right _ (List.mem_of_getElem? (i := 1611) (by decide +kernel))) rfl
set_option maxRecDepth 100000 in
theorem jwO_X11_off : Cond.code (mX11_off).1 (mX11_off).2.1 (mX11_off).2.2.1 (mX11_off).2.2.2 ∈ jT := jT_in (List.mem_append_right _ (List.mem_of_getElem? (i := 1612) rfl)) rfl
theorem jwM_L_178 : Cond.methodLink RL 178 yX11_copy ∈ jT := jT_in (List.mem_append_right _ (List.mem_of_getElem? (i := 1613) (by decide +kernel))) rfl
theorem jwN_X11_copy : Cond.instanceMethod yX11_copy ∈ jT := jT_in (List.mem_append_right _ (List.mem_of_getElem? (i := 1614) (by decide +kernel))) rfl
theorem jwX_X11_copy : Cond.selects RX11 yX11_copy yX11_copy ∈ jT := jT_in (List.mem_append_right _ (List.mem_of_getElem? (i := 1615) (by decide +kernel))) rfl
set_option maxRecDepth 100000 in
theorem jwO_X11_copy : Cond.code (mX11_copy).1 (mX11_copy).2.1 (mX11_copy).2.2.1 (mX11_copy).2.2.2 ∈ jT := jT_in (List.mem_append_right _ (List.mem_of_getElem? (i := 1616) rfl)) rfl
theorem jwM_L_182 : Cond.methodLink RL 182 yX11_lay ∈ jT := jT_in (List.mem_append_right _ (List.mem_of_getElem? (i := 1617) (by decide +kernel))) rfl
theorem jwN_X11_lay : Cond.instanceMethod yX11_lay ∈ jT := jT_in (List.mem_append_right _ (List.mem_of_getElem? (i := 1618) (by decide +kernel))) rfl
theorem jwX_X11_lay : Cond.selects RX11 yX11_lay yX11_lay ∈ jT := jT_in (List.mem_append_right _ (List.mem_of_getElem? (i := 1619) (by decide +kernel))) rfl
set_option maxRecDepth 100000 in
theorem jwO_X11_lay : Cond.code (mX11_lay).1 (mX11_lay).2.1 (mX11_lay).2.2.1 (mX11_lay).2.2.2 ∈ jT := jT_in (List.mem_append_right _ (List.mem_of_getElem? (i := 1620) rfl)) rfl
theorem jwM_X11_329 : Cond.methodLink RX11 329 yX11_isSlot ∈ jT := jT_in (List.mem_append_right _ (List.mem_of_getElem? (i := 1621) (by decide +kernel))) rfl
theorem jwS_X11_isSlot : Cond.static yX11_isSlot ∈ jT := jT_in (List.mem_append_right _ (List.mem_of_getElem? (i := 1622) (by decide +kernel))) rfl
set_option maxRecDepth 100000 in
theorem jwO_X11_isSlot : Cond.code (mX11_isSlot).1 (mX11_isSlot).2.1 (mX11_isSlot).2.2.1 (mX11_isSlot).2.2.2 ∈ jT := jT_in (List.mem_append_right _ (List.mem_of_getElem? (i := 1623) rfl)) rfl
theorem jwM_L_186 : Cond.methodLink RL 186 yX11_ask ∈ jT := jT_in (List.mem_append_right _ (List.mem_of_getElem? (i := 1624) (by decide +kernel))) rfl
theorem jwN_X11_ask : Cond.instanceMethod yX11_ask ∈ jT := jT_in (List.mem_append_right _ (List.mem_of_getElem? (i := 1625) (by decide +kernel))) rfl
theorem jwX_X11_ask : Cond.selects RX11 yX11_ask yX11_ask ∈ jT := jT_in (List.mem_append_right _ (List.mem_of_getElem? (i := 1626) (by decide +kernel))) rfl
set_option maxRecDepth 100000 in
theorem jwO_X11_ask : Cond.code (mX11_ask).1 (mX11_ask).2.1 (mX11_ask).2.2.1 (mX11_ask).2.2.2 ∈ jT := jT_in (List.mem_append_right _ (List.mem_of_getElem? (i := 1627) rfl)) rfl
theorem jwM_L_190 : Cond.methodLink RL 190 yX11_item ∈ jT := jT_in (List.mem_append_right _ (List.mem_of_getElem? (i := 1628) (by decide +kernel))) rfl
theorem jwN_X11_item : Cond.instanceMethod yX11_item ∈ jT := jT_in (List.mem_append_right _ (List.mem_of_getElem? (i := 1629) (by decide +kernel))) rfl
theorem jwX_X11_item : Cond.selects RX11 yX11_item yX11_item ∈ jT := jT_in (List.mem_append_right _ (List.mem_of_getElem? (i := 1630) (by decide +kernel))) rfl
set_option maxRecDepth 100000 in
theorem jwO_X11_item : Cond.code (mX11_item).1 (mX11_item).2.1 (mX11_item).2.2.1 (mX11_item).2.2.2 ∈ jT := jT_in (List.mem_append_right _ (List.mem_of_getElem? (i := 1631) rfl)) rfl
theorem jwM_L_194 : Cond.methodLink RL 194 yX11_rest ∈ jT := jT_in (List.mem_append_right _ (List.mem_of_getElem? (i := 1632) (by decide +kernel))) rfl
theorem jwN_X11_rest : Cond.instanceMethod yX11_rest ∈ jT := jT_in (List.mem_append_right _ (List.mem_of_getElem? (i := 1633) (by decide +kernel))) rfl
theorem jwX_X11_rest : Cond.selects RX11 yX11_rest yX11_rest ∈ jT := jT_in (List.mem_append_right _ (List.mem_of_getElem? (i := 1634) (by decide +kernel))) rfl
set_option maxRecDepth 100000 in
theorem jwO_X11_rest : Cond.code (mX11_rest).1 (mX11_rest).2.1 (mX11_rest).2.2.1 (mX11_rest).2.2.2 ∈ jT := jT_in (List.mem_append_right _ (List.mem_of_getElem? (i := 1635) rfl)) rfl
theorem jwM_L_198 : Cond.methodLink RL 198 yX11_tell ∈ jT := jT_in (List.mem_append_right _ (List.mem_of_getElem? (i := 1636) (by decide +kernel))) rfl
theorem jwN_X11_tell : Cond.instanceMethod yX11_tell ∈ jT := jT_in (List.mem_append_right _ (List.mem_of_getElem? (i := 1637) (by decide +kernel))) rfl
theorem jwX_X11_tell : Cond.selects RX11 yX11_tell yX11_tell ∈ jT := jT_in (List.mem_append_right _ (List.mem_of_getElem? (i := 1638) (by decide +kernel))) rfl
set_option maxRecDepth 100000 in
theorem jwO_X11_tell : Cond.code (mX11_tell).1 (mX11_tell).2.1 (mX11_tell).2.2.1 (mX11_tell).2.2.2 ∈ jT := jT_in (List.mem_append_right _ (List.mem_of_getElem? (i := 1639) rfl)) rfl
theorem jwM_L_202 : Cond.methodLink RL 202 yX11_check ∈ jT := jT_in (List.mem_append_right _ (List.mem_of_getElem? (i := 1640) (by decide +kernel))) rfl
theorem jwN_X11_check : Cond.instanceMethod yX11_check ∈ jT := jT_in (List.mem_append_right _ (List.mem_of_getElem? (i := 1641) (by decide +kernel))) rfl
theorem jwX_X11_check : Cond.selects RX11 yX11_check yX11_check ∈ jT := jT_in (List.mem_append_right _ (List.mem_of_getElem? (i := 1642) (by decide +kernel))) rfl
set_option maxRecDepth 100000 in
theorem jwO_X11_check : Cond.code (mX11_check).1 (mX11_check).2.1 (mX11_check).2.2.1 (mX11_check).2.2.2 ∈ jT := jT_in (List.mem_append_right _ (List.mem_of_getElem? (i := 1643) rfl)) rfl
theorem jwL_X11_335 : Cond.constantLong RX11 335 30 ∈ jT := jT_in (List.mem_append_right _ (List.mem_of_getElem? (i := 1644) (by decide +kernel))) rfl
theorem jwM_X11_341 : Cond.methodLink RX11 341 yX11_setAside ∈ jT := jT_in (List.mem_append_right _ (List.mem_of_getElem? (i := 1645) (by decide +kernel))) rfl
theorem jwN_X11_setAside : Cond.instanceMethod yX11_setAside ∈ jT := jT_in (List.mem_append_right _ (List.mem_of_getElem? (i := 1647) (by decide +kernel))) rfl
set_option maxRecDepth 100000 in
theorem jwO_X11_setAside : Cond.code (mX11_setAside).1 (mX11_setAside).2.1 (mX11_setAside).2.2.1 (mX11_setAside).2.2.2 ∈ jT := jT_in (List.mem_append_right _ (List.mem_of_getElem? (i := 1648) rfl)) rfl
theorem jwM_X11_345 : Cond.methodLink RX11 345 yX11_allOf ∈ jT := jT_in (List.mem_append_right _ (List.mem_of_getElem? (i := 1649) (by decide +kernel))) rfl
theorem jwN_X11_allOf : Cond.instanceMethod yX11_allOf ∈ jT := jT_in (List.mem_append_right _ (List.mem_of_getElem? (i := 1651) (by decide +kernel))) rfl
set_option maxRecDepth 100000 in
theorem jwO_X11_allOf : Cond.code (mX11_allOf).1 (mX11_allOf).2.1 (mX11_allOf).2.2.1 (mX11_allOf).2.2.2 ∈ jT := jT_in (List.mem_append_right _ (List.mem_of_getElem? (i := 1652) rfl)) rfl
theorem jwM_L_206 : Cond.methodLink RL 206 yX11_keep ∈ jT := jT_in (List.mem_append_right _ (List.mem_of_getElem? (i := 1653) (by decide +kernel))) rfl
theorem jwN_X11_keep : Cond.instanceMethod yX11_keep ∈ jT := jT_in (List.mem_append_right _ (List.mem_of_getElem? (i := 1654) (by decide +kernel))) rfl
theorem jwX_X11_keep : Cond.selects RX11 yX11_keep yX11_keep ∈ jT := jT_in (List.mem_append_right _ (List.mem_of_getElem? (i := 1655) (by decide +kernel))) rfl
set_option maxRecDepth 100000 in
theorem jwO_X11_keep : Cond.code (mX11_keep).1 (mX11_keep).2.1 (mX11_keep).2.2.1 (mX11_keep).2.2.2 ∈ jT := jT_in (List.mem_append_right _ (List.mem_of_getElem? (i := 1656) rfl)) rfl
theorem jwM_L_210 : Cond.methodLink RL 210 yX11_back ∈ jT := jT_in (List.mem_append_right _ (List.mem_of_getElem? (i := 1657) (by decide +kernel))) rfl
theorem jwN_X11_back : Cond.instanceMethod yX11_back ∈ jT := jT_in (List.mem_append_right _ (List.mem_of_getElem? (i := 1658) (by decide +kernel))) rfl
theorem jwX_X11_back : Cond.selects RX11 yX11_back yX11_back ∈ jT := jT_in (List.mem_append_right _ (List.mem_of_getElem? (i := 1659) (by decide +kernel))) rfl
set_option maxRecDepth 100000 in
theorem jwO_X11_back : Cond.code (mX11_back).1 (mX11_back).2.1 (mX11_back).2.2.1 (mX11_back).2.2.2 ∈ jT := jT_in (List.mem_append_right _ (List.mem_of_getElem? (i := 1660) rfl)) rfl
theorem jwM_L_214 : Cond.methodLink RL 214 yX11_count ∈ jT := jT_in (List.mem_append_right _ (List.mem_of_getElem? (i := 1661) (by decide +kernel))) rfl
theorem jwN_X11_count : Cond.instanceMethod yX11_count ∈ jT := jT_in (List.mem_append_right _ (List.mem_of_getElem? (i := 1662) (by decide +kernel))) rfl
theorem jwX_X11_count : Cond.selects RX11 yX11_count yX11_count ∈ jT := jT_in (List.mem_append_right _ (List.mem_of_getElem? (i := 1663) (by decide +kernel))) rfl
set_option maxRecDepth 100000 in
theorem jwO_X11_count : Cond.code (mX11_count).1 (mX11_count).2.1 (mX11_count).2.2.1 (mX11_count).2.2.2 ∈ jT := jT_in (List.mem_append_right _ (List.mem_of_getElem? (i := 1664) rfl)) rfl
theorem jwF_J0_9 : Cond.fieldLink RJ0 9 RJ0 "value" "[B" ∈ jT := jT_in (List.mem_append_right _ (List.mem_of_getElem? (i := 1665) (by decide +kernel))) rfl
theorem jwF_J0_15 : Cond.fieldLink RJ0 15 RJ0 "coder" "B" ∈ jT := jT_in (List.mem_append_right _ (List.mem_of_getElem? (i := 1666) (by decide +kernel))) rfl
theorem jwX_X4_measure : Cond.selects RX4 yX4_measure yX4_measure ∈ jT := jT_in (List.mem_append_left _ (List.mem_of_getElem? (i := 0) (by decide +kernel))) rfl
theorem jwX_X0_draw : Cond.selects RX0 yX0_draw yX0_draw ∈ jT := jT_in (List.mem_append_left _ (List.mem_of_getElem? (i := 1) (by decide +kernel))) rfl
theorem jwX_X5_goOn : Cond.selects RX5 yX5_goOn yX5_goOn ∈ jT := jT_in (List.mem_append_left _ (List.mem_of_getElem? (i := 2) (by decide +kernel))) rfl
theorem jwX_X5_offer : Cond.selects RX5 yX5_offer yX5_offer ∈ jT := jT_in (List.mem_append_left _ (List.mem_of_getElem? (i := 3) (by decide +kernel))) rfl
theorem jwX_X5_isBetter : Cond.selects RX5 yX5_isBetter yX5_isBetter ∈ jT := jT_in (List.mem_append_left _ (List.mem_of_getElem? (i := 4) (by decide +kernel))) rfl
theorem jwX_X5_tryMaster : Cond.selects RX5 yX5_tryMaster yX5_tryMaster ∈ jT := jT_in (List.mem_append_left _ (List.mem_of_getElem? (i := 5) (by decide +kernel))) rfl
theorem jwX_X5_keptOf : Cond.selects RX5 yX5_keptOf yX5_keptOf ∈ jT := jT_in (List.mem_append_left _ (List.mem_of_getElem? (i := 6) (by decide +kernel))) rfl
theorem jwX_X5_daysTaken : Cond.selects RX5 yX5_daysTaken yX5_daysTaken ∈ jT := jT_in (List.mem_append_left _ (List.mem_of_getElem? (i := 7) (by decide +kernel))) rfl
theorem jwX_X10_findSheet : Cond.selects RX10 yX10_findSheet yX10_findSheet ∈ jT := jT_in (List.mem_append_left _ (List.mem_of_getElem? (i := 8) (by decide +kernel))) rfl
theorem jwX_X8_step : Cond.selects RX8 yX8_step yX8_step ∈ jT := jT_in (List.mem_append_left _ (List.mem_of_getElem? (i := 9) (by decide +kernel))) rfl
theorem jwX_X8_byteAt : Cond.selects RX8 yX8_byteAt yX8_byteAt ∈ jT := jT_in (List.mem_append_left _ (List.mem_of_getElem? (i := 10) (by decide +kernel))) rfl
theorem jwX_X8_sortAt : Cond.selects RX8 yX8_sortAt yX8_sortAt ∈ jT := jT_in (List.mem_append_left _ (List.mem_of_getElem? (i := 11) (by decide +kernel))) rfl
theorem jwX_X8_keyInHand : Cond.selects RX8 yX8_keyInHand yX8_keyInHand ∈ jT := jT_in (List.mem_append_left _ (List.mem_of_getElem? (i := 12) (by decide +kernel))) rfl
theorem jwX_X8_isWordInHand : Cond.selects RX8 yX8_isWordInHand yX8_isWordInHand ∈ jT := jT_in (List.mem_append_left _ (List.mem_of_getElem? (i := 13) (by decide +kernel))) rfl
theorem jwX_X8_readsChain : Cond.selects RX8 yX8_readsChain yX8_readsChain ∈ jT := jT_in (List.mem_append_left _ (List.mem_of_getElem? (i := 14) (by decide +kernel))) rfl
theorem jwX_X8_readsPiece : Cond.selects RX8 yX8_readsPiece yX8_readsPiece ∈ jT := jT_in (List.mem_append_left _ (List.mem_of_getElem? (i := 15) (by decide +kernel))) rfl
theorem jwX_X8_readsOperand : Cond.selects RX8 yX8_readsOperand yX8_readsOperand ∈ jT := jT_in (List.mem_append_left _ (List.mem_of_getElem? (i := 16) (by decide +kernel))) rfl
theorem jwX_X8_numberInHand : Cond.selects RX8 yX8_numberInHand yX8_numberInHand ∈ jT := jT_in (List.mem_append_left _ (List.mem_of_getElem? (i := 17) (by decide +kernel))) rfl
theorem jwX_X8_nameInHand : Cond.selects RX8 yX8_nameInHand yX8_nameInHand ∈ jT := jT_in (List.mem_append_left _ (List.mem_of_getElem? (i := 18) (by decide +kernel))) rfl
theorem jwX_X8_write : Cond.selects RX8 yX8_write yX8_write ∈ jT := jT_in (List.mem_append_left _ (List.mem_of_getElem? (i := 19) (by decide +kernel))) rfl
theorem jwX_X8_isInHand : Cond.selects RX8 yX8_isInHand yX8_isInHand ∈ jT := jT_in (List.mem_append_left _ (List.mem_of_getElem? (i := 20) (by decide +kernel))) rfl
theorem jwX_X8_levelInHand : Cond.selects RX8 yX8_levelInHand yX8_levelInHand ∈ jT := jT_in (List.mem_append_left _ (List.mem_of_getElem? (i := 21) (by decide +kernel))) rfl
theorem jwX_X10_findSlot : Cond.selects RX10 yX10_findSlot yX10_findSlot ∈ jT := jT_in (List.mem_append_left _ (List.mem_of_getElem? (i := 22) (by decide +kernel))) rfl
theorem jwX_X10_layMaster : Cond.selects RX10 yX10_layMaster yX10_layMaster ∈ jT := jT_in (List.mem_append_left _ (List.mem_of_getElem? (i := 23) (by decide +kernel))) rfl
theorem jwX_X10_laySheet : Cond.selects RX10 yX10_laySheet yX10_laySheet ∈ jT := jT_in (List.mem_append_left _ (List.mem_of_getElem? (i := 24) (by decide +kernel))) rfl
theorem jwX_X10_isWaiting : Cond.selects RX10 yX10_isWaiting yX10_isWaiting ∈ jT := jT_in (List.mem_append_left _ (List.mem_of_getElem? (i := 25) (by decide +kernel))) rfl
theorem jwX_X11_comes : Cond.selects RX11 yX11_comes yX11_comes ∈ jT := jT_in (List.mem_append_left _ (List.mem_of_getElem? (i := 26) (by decide +kernel))) rfl
theorem jwX_X11_isMaster : Cond.selects RX11 yX11_isMaster yX11_isMaster ∈ jT := jT_in (List.mem_append_left _ (List.mem_of_getElem? (i := 27) (by decide +kernel))) rfl
theorem jwX_X11_of : Cond.selects RX11 yX11_of yX11_of ∈ jT := jT_in (List.mem_append_left _ (List.mem_of_getElem? (i := 28) (by decide +kernel))) rfl
theorem jwX_X11_takes : Cond.selects RX11 yX11_takes yX11_takes ∈ jT := jT_in (List.mem_append_left _ (List.mem_of_getElem? (i := 29) (by decide +kernel))) rfl
theorem jwX_X11_counts : Cond.selects RX11 yX11_counts yX11_counts ∈ jT := jT_in (List.mem_append_left _ (List.mem_of_getElem? (i := 30) (by decide +kernel))) rfl
theorem jwX_X11_textAt : Cond.selects RX11 yX11_textAt yX11_textAt ∈ jT := jT_in (List.mem_append_left _ (List.mem_of_getElem? (i := 31) (by decide +kernel))) rfl
theorem jwX_X11_worked : Cond.selects RX11 yX11_worked yX11_worked ∈ jT := jT_in (List.mem_append_left _ (List.mem_of_getElem? (i := 32) (by decide +kernel))) rfl
theorem jwX_X11_worth : Cond.selects RX11 yX11_worth yX11_worth ∈ jT := jT_in (List.mem_append_left _ (List.mem_of_getElem? (i := 33) (by decide +kernel))) rfl
theorem jwX_X11_teaches : Cond.selects RX11 yX11_teaches yX11_teaches ∈ jT := jT_in (List.mem_append_left _ (List.mem_of_getElem? (i := 34) (by decide +kernel))) rfl
theorem jwX_X11_becomes : Cond.selects RX11 yX11_becomes yX11_becomes ∈ jT := jT_in (List.mem_append_left _ (List.mem_of_getElem? (i := 35) (by decide +kernel))) rfl
theorem jwX_X11_findFar : Cond.selects RX11 yX11_findFar yX11_findFar ∈ jT := jT_in (List.mem_append_left _ (List.mem_of_getElem? (i := 36) (by decide +kernel))) rfl
theorem jwX_X11_drawn : Cond.selects RX11 yX11_drawn yX11_drawn ∈ jT := jT_in (List.mem_append_left _ (List.mem_of_getElem? (i := 37) (by decide +kernel))) rfl
theorem jwX_X11_doesKnow : Cond.selects RX11 yX11_doesKnow yX11_doesKnow ∈ jT := jT_in (List.mem_append_left _ (List.mem_of_getElem? (i := 38) (by decide +kernel))) rfl
theorem jwX_X11_goesBy : Cond.selects RX11 yX11_goesBy yX11_goesBy ∈ jT := jT_in (List.mem_append_left _ (List.mem_of_getElem? (i := 39) (by decide +kernel))) rfl
theorem jwX_X11_canLearn : Cond.selects RX11 yX11_canLearn yX11_canLearn ∈ jT := jT_in (List.mem_append_left _ (List.mem_of_getElem? (i := 40) (by decide +kernel))) rfl
theorem jwX_X11_learns : Cond.selects RX11 yX11_learns yX11_learns ∈ jT := jT_in (List.mem_append_left _ (List.mem_of_getElem? (i := 41) (by decide +kernel))) rfl
theorem jwX_X11_behindLesson : Cond.selects RX11 yX11_behindLesson yX11_behindLesson ∈ jT := jT_in (List.mem_append_left _ (List.mem_of_getElem? (i := 42) (by decide +kernel))) rfl
theorem jwX_X11_uses : Cond.selects RX11 yX11_uses yX11_uses ∈ jT := jT_in (List.mem_append_left _ (List.mem_of_getElem? (i := 43) (by decide +kernel))) rfl
theorem jwX_X11_can : Cond.selects RX11 yX11_can yX11_can ∈ jT := jT_in (List.mem_append_left _ (List.mem_of_getElem? (i := 44) (by decide +kernel))) rfl
theorem jwX_X11_findSoonest : Cond.selects RX11 yX11_findSoonest yX11_findSoonest ∈ jT := jT_in (List.mem_append_left _ (List.mem_of_getElem? (i := 45) (by decide +kernel))) rfl
theorem jwX_X11_laysBy : Cond.selects RX11 yX11_laysBy yX11_laysBy ∈ jT := jT_in (List.mem_append_left _ (List.mem_of_getElem? (i := 46) (by decide +kernel))) rfl
theorem jwX_X11_goesWay : Cond.selects RX11 yX11_goesWay yX11_goesWay ∈ jT := jT_in (List.mem_append_left _ (List.mem_of_getElem? (i := 47) (by decide +kernel))) rfl
theorem jwX_X11_laysBack : Cond.selects RX11 yX11_laysBack yX11_laysBack ∈ jT := jT_in (List.mem_append_left _ (List.mem_of_getElem? (i := 48) (by decide +kernel))) rfl
theorem jwX_X11_areTogether : Cond.selects RX11 yX11_areTogether yX11_areTogether ∈ jT := jT_in (List.mem_append_left _ (List.mem_of_getElem? (i := 49) (by decide +kernel))) rfl
theorem jwX_X11_taughtNow : Cond.selects RX11 yX11_taughtNow yX11_taughtNow ∈ jT := jT_in (List.mem_append_left _ (List.mem_of_getElem? (i := 50) (by decide +kernel))) rfl
theorem jwX_X11_year : Cond.selects RX11 yX11_year yX11_year ∈ jT := jT_in (List.mem_append_left _ (List.mem_of_getElem? (i := 51) (by decide +kernel))) rfl
theorem jwX_X11_farFrom : Cond.selects RX11 yX11_farFrom yX11_farFrom ∈ jT := jT_in (List.mem_append_left _ (List.mem_of_getElem? (i := 52) (by decide +kernel))) rfl
theorem jwX_X11_parse : Cond.selects RX11 yX11_parse yX11_parse ∈ jT := jT_in (List.mem_append_left _ (List.mem_of_getElem? (i := 53) (by decide +kernel))) rfl
theorem jwX_X11_nextToken : Cond.selects RX11 yX11_nextToken yX11_nextToken ∈ jT := jT_in (List.mem_append_left _ (List.mem_of_getElem? (i := 54) (by decide +kernel))) rfl
theorem jwX_X11_isLetter : Cond.selects RX11 yX11_isLetter yX11_isLetter ∈ jT := jT_in (List.mem_append_left _ (List.mem_of_getElem? (i := 55) (by decide +kernel))) rfl
theorem jwX_X11_isDigit : Cond.selects RX11 yX11_isDigit yX11_isDigit ∈ jT := jT_in (List.mem_append_left _ (List.mem_of_getElem? (i := 56) (by decide +kernel))) rfl
theorem jwX_X11_key : Cond.selects RX11 yX11_key yX11_key ∈ jT := jT_in (List.mem_append_left _ (List.mem_of_getElem? (i := 57) (by decide +kernel))) rfl
theorem jwX_X11_isWordAt : Cond.selects RX11 yX11_isWordAt yX11_isWordAt ∈ jT := jT_in (List.mem_append_left _ (List.mem_of_getElem? (i := 58) (by decide +kernel))) rfl
theorem jwX_X11_either : Cond.selects RX11 yX11_either yX11_either ∈ jT := jT_in (List.mem_append_left _ (List.mem_of_getElem? (i := 59) (by decide +kernel))) rfl
theorem jwX_X11_both : Cond.selects RX11 yX11_both yX11_both ∈ jT := jT_in (List.mem_append_left _ (List.mem_of_getElem? (i := 60) (by decide +kernel))) rfl
theorem jwX_X11_test : Cond.selects RX11 yX11_test yX11_test ∈ jT := jT_in (List.mem_append_left _ (List.mem_of_getElem? (i := 61) (by decide +kernel))) rfl
theorem jwX_X11_sum : Cond.selects RX11 yX11_sum yX11_sum ∈ jT := jT_in (List.mem_append_left _ (List.mem_of_getElem? (i := 62) (by decide +kernel))) rfl
theorem jwX_X11_term : Cond.selects RX11 yX11_term yX11_term ∈ jT := jT_in (List.mem_append_left _ (List.mem_of_getElem? (i := 63) (by decide +kernel))) rfl
theorem jwX_X11_part0 : Cond.selects RX11 yX11_part0 yX11_part0 ∈ jT := jT_in (List.mem_append_left _ (List.mem_of_getElem? (i := 64) (by decide +kernel))) rfl
theorem jwX_X11_step : Cond.selects RX11 yX11_step yX11_step ∈ jT := jT_in (List.mem_append_left _ (List.mem_of_getElem? (i := 65) (by decide +kernel))) rfl
theorem jwX_X11_isSign : Cond.selects RX11 yX11_isSign yX11_isSign ∈ jT := jT_in (List.mem_append_left _ (List.mem_of_getElem? (i := 66) (by decide +kernel))) rfl
theorem jwX_X11_isText : Cond.selects RX11 yX11_isText yX11_isText ∈ jT := jT_in (List.mem_append_left _ (List.mem_of_getElem? (i := 67) (by decide +kernel))) rfl
theorem jwX_X11_setAside : Cond.selects RX11 yX11_setAside yX11_setAside ∈ jT := jT_in (List.mem_append_left _ (List.mem_of_getElem? (i := 68) (by decide +kernel))) rfl
theorem jwX_X11_allOf : Cond.selects RX11 yX11_allOf yX11_allOf ∈ jT := jT_in (List.mem_append_left _ (List.mem_of_getElem? (i := 69) (by decide +kernel))) rfl
