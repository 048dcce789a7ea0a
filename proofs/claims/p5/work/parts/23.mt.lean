/-! the methods by their numbers -/
set_option maxRecDepth 100000 in
theorem mt_X2_size : am_tab[am_i_X2_size]? = some am_m_X2_size := rfl
set_option maxRecDepth 100000 in
theorem mt_X6_tell : am_tab[am_i_X6_tell]? = some am_m_X6_tell := rfl
set_option maxRecDepth 100000 in
theorem mt_X0_reaches : am_tab[am_i_X0_reaches]? = some am_m_X0_reaches := rfl
set_option maxRecDepth 100000 in
theorem mt_X2_get : am_tab[am_i_X2_get]? = some am_m_X2_get := rfl
set_option maxRecDepth 100000 in
theorem mt_X0_isMarked : am_tab[am_i_X0_isMarked]? = some am_m_X0_isMarked := rfl
set_option maxRecDepth 100000 in
theorem mt_X0_isZeroFrom : am_tab[am_i_X0_isZeroFrom]? = some am_m_X0_isZeroFrom := rfl
set_option maxRecDepth 100000 in
theorem mt_X11_isPart : am_tab[am_i_X11_isPart]? = some am_m_X11_isPart := rfl
set_option maxRecDepth 100000 in
theorem mt_X11_isName : am_tab[am_i_X11_isName]? = some am_m_X11_isName := rfl
set_option maxRecDepth 100000 in
theorem mt_X0_isNamed : am_tab[am_i_X0_isNamed]? = some am_m_X0_isNamed := rfl
set_option maxRecDepth 100000 in
theorem mt_X2_beginsWith : am_tab[am_i_X2_beginsWith]? = some am_m_X2_beginsWith := rfl
set_option maxRecDepth 100000 in
theorem mt_X9_member : am_tab[am_i_X9_member]? = some am_m_X9_member := rfl
set_option maxRecDepth 100000 in
theorem mt_X9_find : am_tab[am_i_X9_find]? = some am_m_X9_find := rfl
set_option maxRecDepth 100000 in
theorem mt_X9_hasRoomFor : am_tab[am_i_X9_hasRoomFor]? = some am_m_X9_hasRoomFor := rfl
set_option maxRecDepth 100000 in
theorem mt_X2_liesUnder : am_tab[am_i_X2_liesUnder]? = some am_m_X2_liesUnder := rfl
set_option maxRecDepth 100000 in
theorem mt_X9_isInTheWay : am_tab[am_i_X9_isInTheWay]? = some am_m_X9_isInTheWay := rfl
set_option maxRecDepth 100000 in
theorem mt_X2_add : am_tab[am_i_X2_add]? = some am_m_X2_add := rfl
set_option maxRecDepth 100000 in
theorem mt_X2_addRow : am_tab[am_i_X2_addRow]? = some am_m_X2_addRow := rfl
set_option maxRecDepth 100000 in
theorem mt_X2_cutTo : am_tab[am_i_X2_cutTo]? = some am_m_X2_cutTo := rfl
set_option maxRecDepth 100000 in
theorem mt_X9_drop : am_tab[am_i_X9_drop]? = some am_m_X9_drop := rfl
set_option maxRecDepth 100000 in
theorem mt_X9_take : am_tab[am_i_X9_take]? = some am_m_X9_take := rfl
set_option maxRecDepth 100000 in
theorem mt_X0_arrives : am_tab[am_i_X0_arrives]? = some am_m_X0_arrives := rfl
set_option maxRecDepth 100000 in
theorem mt_X0_addTitle : am_tab[am_i_X0_addTitle]? = some am_m_X0_addTitle := rfl
set_option maxRecDepth 100000 in
theorem mt_X11_roundedUp : am_tab[am_i_X11_roundedUp]? = some am_m_X11_roundedUp := rfl
set_option maxRecDepth 100000 in
theorem mt_X1_isEmptyBlock : am_tab[am_i_X1_isEmptyBlock]? = some am_m_X1_isEmptyBlock := rfl
set_option maxRecDepth 100000 in
theorem mt_X1_areDigits : am_tab[am_i_X1_areDigits]? = some am_m_X1_areDigits := rfl
set_option maxRecDepth 100000 in
theorem mt_X1_isOctal : am_tab[am_i_X1_isOctal]? = some am_m_X1_isOctal := rfl
set_option maxRecDepth 100000 in
theorem mt_X1_octal : am_tab[am_i_X1_octal]? = some am_m_X1_octal := rfl
set_option maxRecDepth 100000 in
theorem mt_X1_isSorted : am_tab[am_i_X1_isSorted]? = some am_m_X1_isSorted := rfl
set_option maxRecDepth 100000 in
theorem mt_X1_sumOf : am_tab[am_i_X1_sumOf]? = some am_m_X1_sumOf := rfl
set_option maxRecDepth 100000 in
theorem mt_X1_isSummed : am_tab[am_i_X1_isSummed]? = some am_m_X1_isSummed := rfl
set_option maxRecDepth 100000 in
theorem mt_X1_isHead : am_tab[am_i_X1_isHead]? = some am_m_X1_isHead := rfl
set_option maxRecDepth 100000 in
theorem mt_X1_addToPath : am_tab[am_i_X1_addToPath]? = some am_m_X1_addToPath := rfl
set_option maxRecDepth 100000 in
theorem mt_X1_spell : am_tab[am_i_X1_spell]? = some am_m_X1_spell := rfl
set_option maxRecDepth 100000 in
theorem mt_X1_takeIn : am_tab[am_i_X1_takeIn]? = some am_m_X1_takeIn := rfl
set_option maxRecDepth 100000 in
theorem mt_X1_addOctal : am_tab[am_i_X1_addOctal]? = some am_m_X1_addOctal := rfl
set_option maxRecDepth 100000 in
theorem mt_X2_set : am_tab[am_i_X2_set]? = some am_m_X2_set := rfl
set_option maxRecDepth 100000 in
theorem mt_X1_setSum : am_tab[am_i_X1_setSum]? = some am_m_X1_setSum := rfl
set_option maxRecDepth 100000 in
theorem mt_X2_addMark : am_tab[am_i_X2_addMark]? = some am_m_X2_addMark := rfl
set_option maxRecDepth 100000 in
theorem mt_X2_addText : am_tab[am_i_X2_addText]? = some am_m_X2_addText := rfl
set_option maxRecDepth 100000 in
theorem mt_X2_addZeros : am_tab[am_i_X2_addZeros]? = some am_m_X2_addZeros := rfl
set_option maxRecDepth 100000 in
theorem mt_X1_addHead : am_tab[am_i_X1_addHead]? = some am_m_X1_addHead := rfl
set_option maxRecDepth 100000 in
theorem mt_X9_size : am_tab[am_i_X9_size]? = some am_m_X9_size := rfl
set_option maxRecDepth 100000 in
theorem mt_X1_layOut : am_tab[am_i_X1_layOut]? = some am_m_X1_layOut := rfl
set_option maxRecDepth 100000 in
theorem mt_X2_has : am_tab[am_i_X2_has]? = some am_m_X2_has := rfl
set_option maxRecDepth 100000 in
theorem mt_X2_addBig : am_tab[am_i_X2_addBig]? = some am_m_X2_addBig := rfl
set_option maxRecDepth 100000 in
theorem mt_X2_addLittle : am_tab[am_i_X2_addLittle]? = some am_m_X2_addLittle := rfl
set_option maxRecDepth 100000 in
theorem mt_X2_little : am_tab[am_i_X2_little]? = some am_m_X2_little := rfl
set_option maxRecDepth 100000 in
theorem mt_X2_isText : am_tab[am_i_X2_isText]? = some am_m_X2_isText := rfl
set_option maxRecDepth 100000 in
theorem mt_X3_longest : am_tab[am_i_X3_longest]? = some am_m_X3_longest := rfl
set_option maxRecDepth 100000 in
theorem mt_X3_amount : am_tab[am_i_X3_amount]? = some am_m_X3_amount := rfl
set_option maxRecDepth 100000 in
theorem mt_X3_symbol : am_tab[am_i_X3_symbol]? = some am_m_X3_symbol := rfl
set_option maxRecDepth 100000 in
theorem mt_X3_placeLengths : am_tab[am_i_X3_placeLengths]? = some am_m_X3_placeLengths := rfl
set_option maxRecDepth 100000 in
theorem mt_X3_placeSymbol : am_tab[am_i_X3_placeSymbol]? = some am_m_X3_placeSymbol := rfl
set_option maxRecDepth 100000 in
theorem mt_X3_order : am_tab[am_i_X3_order]? = some am_m_X3_order := rfl
set_option maxRecDepth 100000 in
theorem mt_X3_areComplete : am_tab[am_i_X3_areComplete]? = some am_m_X3_areComplete := rfl
set_option maxRecDepth 100000 in
theorem mt_X3_areNoneOrOneBit : am_tab[am_i_X3_areNoneOrOneBit]? = some am_m_X3_areNoneOrOneBit := rfl
set_option maxRecDepth 100000 in
theorem mt_X4_sortBits : am_tab[am_i_X4_sortBits]? = some am_m_X4_sortBits := rfl
set_option maxRecDepth 100000 in
theorem mt_X4_digit : am_tab[am_i_X4_digit]? = some am_m_X4_digit := rfl
set_option maxRecDepth 100000 in
theorem mt_X4_number : am_tab[am_i_X4_number]? = some am_m_X4_number := rfl
set_option maxRecDepth 100000 in
theorem mt_X4_sortOf : am_tab[am_i_X4_sortOf]? = some am_m_X4_sortOf := rfl
set_option maxRecDepth 100000 in
theorem mt_X4_isDirectory : am_tab[am_i_X4_isDirectory]? = some am_m_X4_isDirectory := rfl
set_option maxRecDepth 100000 in
theorem mt_X4_isHead : am_tab[am_i_X4_isHead]? = some am_m_X4_isHead := rfl
set_option maxRecDepth 100000 in
theorem mt_X4_isSized : am_tab[am_i_X4_isSized]? = some am_m_X4_isSized := rfl
set_option maxRecDepth 100000 in
theorem mt_X4_isMember : am_tab[am_i_X4_isMember]? = some am_m_X4_isMember := rfl
set_option maxRecDepth 100000 in
theorem mt_X4_isSpelt : am_tab[am_i_X4_isSpelt]? = some am_m_X4_isSpelt := rfl
set_option maxRecDepth 100000 in
theorem mt_X4_takeIn : am_tab[am_i_X4_takeIn]? = some am_m_X4_takeIn := rfl
set_option maxRecDepth 100000 in
theorem mt_X4_addNumber : am_tab[am_i_X4_addNumber]? = some am_m_X4_addNumber := rfl
set_option maxRecDepth 100000 in
theorem mt_X4_addHead : am_tab[am_i_X4_addHead]? = some am_m_X4_addHead := rfl
set_option maxRecDepth 100000 in
theorem mt_X4_addRest : am_tab[am_i_X4_addRest]? = some am_m_X4_addRest := rfl
set_option maxRecDepth 100000 in
theorem mt_X4_layOut : am_tab[am_i_X4_layOut]? = some am_m_X4_layOut := rfl
set_option maxRecDepth 100000 in
theorem mt_X10_fillLengths : am_tab[am_i_X10_fillLengths]? = some am_m_X10_fillLengths := rfl
set_option maxRecDepth 100000 in
theorem mt_X10_takeBits : am_tab[am_i_X10_takeBits]? = some am_m_X10_takeBits := rfl
set_option maxRecDepth 100000 in
theorem mt_X10_areLengthCodes : am_tab[am_i_X10_areLengthCodes]? = some am_m_X10_areLengthCodes := rfl
set_option maxRecDepth 100000 in
theorem mt_X10_lengthAt : am_tab[am_i_X10_lengthAt]? = some am_m_X10_lengthAt := rfl
set_option maxRecDepth 100000 in
theorem mt_X10_areSymbolLengths : am_tab[am_i_X10_areSymbolLengths]? = some am_m_X10_areSymbolLengths := rfl
set_option maxRecDepth 100000 in
theorem mt_X10_isRepeated : am_tab[am_i_X10_isRepeated]? = some am_m_X10_isRepeated := rfl
set_option maxRecDepth 100000 in
theorem mt_X10_takeSymbol : am_tab[am_i_X10_takeSymbol]? = some am_m_X10_takeSymbol := rfl
set_option maxRecDepth 100000 in
theorem mt_X10_areLengths : am_tab[am_i_X10_areLengths]? = some am_m_X10_areLengths := rfl
set_option maxRecDepth 100000 in
theorem mt_X11_distanceBits : am_tab[am_i_X11_distanceBits]? = some am_m_X11_distanceBits := rfl
set_option maxRecDepth 100000 in
theorem mt_X11_distanceBase : am_tab[am_i_X11_distanceBase]? = some am_m_X11_distanceBase := rfl
set_option maxRecDepth 100000 in
theorem mt_X11_lengthBits : am_tab[am_i_X11_lengthBits]? = some am_m_X11_lengthBits := rfl
set_option maxRecDepth 100000 in
theorem mt_X11_lengthBase : am_tab[am_i_X11_lengthBase]? = some am_m_X11_lengthBase := rfl
set_option maxRecDepth 100000 in
theorem mt_X10_isCopied : am_tab[am_i_X10_isCopied]? = some am_m_X10_isCopied := rfl
set_option maxRecDepth 100000 in
theorem mt_X10_areSymbols : am_tab[am_i_X10_areSymbols]? = some am_m_X10_areSymbols := rfl
set_option maxRecDepth 100000 in
theorem mt_X10_isStored : am_tab[am_i_X10_isStored]? = some am_m_X10_isStored := rfl
set_option maxRecDepth 100000 in
theorem mt_X10_open : am_tab[am_i_X10_open]? = some am_m_X10_open := rfl
set_option maxRecDepth 100000 in
theorem mt_X11_checkOf : am_tab[am_i_X11_checkOf]? = some am_m_X11_checkOf := rfl
set_option maxRecDepth 100000 in
theorem mt_X5_isBody : am_tab[am_i_X5_isBody]? = some am_m_X5_isBody := rfl
set_option maxRecDepth 100000 in
theorem mt_X5_isZero : am_tab[am_i_X5_isZero]? = some am_m_X5_isZero := rfl
set_option maxRecDepth 100000 in
theorem mt_X5_isClosing : am_tab[am_i_X5_isClosing]? = some am_m_X5_isClosing := rfl
set_option maxRecDepth 100000 in
theorem mt_X5_isEntry : am_tab[am_i_X5_isEntry]? = some am_m_X5_isEntry := rfl
set_option maxRecDepth 100000 in
theorem mt_X5_isSame : am_tab[am_i_X5_isSame]? = some am_m_X5_isSame := rfl
set_option maxRecDepth 100000 in
theorem mt_X5_isLocal : am_tab[am_i_X5_isLocal]? = some am_m_X5_isLocal := rfl
set_option maxRecDepth 100000 in
theorem mt_X5_isMember : am_tab[am_i_X5_isMember]? = some am_m_X5_isMember := rfl
set_option maxRecDepth 100000 in
theorem mt_X5_takeIn : am_tab[am_i_X5_takeIn]? = some am_m_X5_takeIn := rfl
set_option maxRecDepth 100000 in
theorem mt_X5_titleBytes : am_tab[am_i_X5_titleBytes]? = some am_m_X5_titleBytes := rfl
set_option maxRecDepth 100000 in
theorem mt_X5_addEntries : am_tab[am_i_X5_addEntries]? = some am_m_X5_addEntries := rfl
set_option maxRecDepth 100000 in
theorem mt_X5_addLocal : am_tab[am_i_X5_addLocal]? = some am_m_X5_addLocal := rfl
set_option maxRecDepth 100000 in
theorem mt_X5_setSize : am_tab[am_i_X5_setSize]? = some am_m_X5_setSize := rfl
set_option maxRecDepth 100000 in
theorem mt_X8_addBits : am_tab[am_i_X8_addBits]? = some am_m_X8_addBits := rfl
set_option maxRecDepth 100000 in
theorem mt_X8_addCode : am_tab[am_i_X8_addCode]? = some am_m_X8_addCode := rfl
set_option maxRecDepth 100000 in
theorem mt_X8_addSymbol : am_tab[am_i_X8_addSymbol]? = some am_m_X8_addSymbol := rfl
set_option maxRecDepth 100000 in
theorem mt_X8_distanceSymbol : am_tab[am_i_X8_distanceSymbol]? = some am_m_X8_distanceSymbol := rfl
set_option maxRecDepth 100000 in
theorem mt_X8_lengthStep : am_tab[am_i_X8_lengthStep]? = some am_m_X8_lengthStep := rfl
set_option maxRecDepth 100000 in
theorem mt_X8_longestBefore : am_tab[am_i_X8_longestBefore]? = some am_m_X8_longestBefore := rfl
set_option maxRecDepth 100000 in
theorem mt_X8_addPacked : am_tab[am_i_X8_addPacked]? = some am_m_X8_addPacked := rfl
set_option maxRecDepth 100000 in
theorem mt_X5_layOut : am_tab[am_i_X5_layOut]? = some am_m_X5_layOut := rfl
set_option maxRecDepth 100000 in
theorem mt_X6_number : am_tab[am_i_X6_number]? = some am_m_X6_number := rfl
set_option maxRecDepth 100000 in
theorem mt_X6_place : am_tab[am_i_X6_place]? = some am_m_X6_place := rfl
set_option maxRecDepth 100000 in
theorem mt_X6_clear : am_tab[am_i_X6_clear]? = some am_m_X6_clear := rfl
set_option maxRecDepth 100000 in
theorem mt_X9_clear : am_tab[am_i_X9_clear]? = some am_m_X9_clear := rfl
set_option maxRecDepth 100000 in
theorem mt_X9_hasUnder : am_tab[am_i_X9_hasUnder]? = some am_m_X9_hasUnder := rfl
set_option maxRecDepth 100000 in
theorem mt_X11_partBehind : am_tab[am_i_X11_partBehind]? = some am_m_X11_partBehind := rfl
set_option maxRecDepth 100000 in
theorem mt_X11_partLength : am_tab[am_i_X11_partLength]? = some am_m_X11_partLength := rfl
set_option maxRecDepth 100000 in
theorem mt_X9_isSamePart : am_tab[am_i_X9_isSamePart]? = some am_m_X9_isSamePart := rfl
set_option maxRecDepth 100000 in
theorem mt_X9_isFirstOfChild : am_tab[am_i_X9_isFirstOfChild]? = some am_m_X9_isFirstOfChild := rfl
set_option maxRecDepth 100000 in
theorem mt_X9_children : am_tab[am_i_X9_children]? = some am_m_X9_children := rfl
set_option maxRecDepth 100000 in
theorem mt_X9_firstOfChild : am_tab[am_i_X9_firstOfChild]? = some am_m_X9_firstOfChild := rfl
set_option maxRecDepth 100000 in
theorem mt_X10_orderFixed : am_tab[am_i_X10_orderFixed]? = some am_m_X10_orderFixed := rfl
set_option maxRecDepth 100000 in
theorem mt_X11_type : am_tab[am_i_X11_type]? = some am_m_X11_type := rfl
set_option maxRecDepth 100000 in
theorem mt_X11_keep : am_tab[am_i_X11_keep]? = some am_m_X11_keep := rfl
set_option maxRecDepth 100000 in
theorem mt_X11_typed : am_tab[am_i_X11_typed]? = some am_m_X11_typed := rfl
set_option maxRecDepth 100000 in
theorem mt_X11_come : am_tab[am_i_X11_come]? = some am_m_X11_come := rfl
set_option maxRecDepth 100000 in
theorem mt_X11_go : am_tab[am_i_X11_go]? = some am_m_X11_go := rfl
set_option maxRecDepth 100000 in
theorem mt_X11_name : am_tab[am_i_X11_name]? = some am_m_X11_name := rfl
set_option maxRecDepth 100000 in
theorem mt_X11_byteAt : am_tab[am_i_X11_byteAt]? = some am_m_X11_byteAt := rfl
set_option maxRecDepth 100000 in
theorem mt_X11_kind : am_tab[am_i_X11_kind]? = some am_m_X11_kind := rfl
set_option maxRecDepth 100000 in
theorem mt_X11_child : am_tab[am_i_X11_child]? = some am_m_X11_child := rfl
set_option maxRecDepth 100000 in
theorem mt_X11_archiveOf : am_tab[am_i_X11_archiveOf]? = some am_m_X11_archiveOf := rfl
set_option maxRecDepth 100000 in
theorem mt_X11_write : am_tab[am_i_X11_write]? = some am_m_X11_write := rfl
set_option maxRecDepth 100000 in
theorem mt_X11_read : am_tab[am_i_X11_read]? = some am_m_X11_read := rfl
set_option maxRecDepth 100000 in
theorem mt_X11_fault : am_tab[am_i_X11_fault]? = some am_m_X11_fault := rfl
set_option maxRecDepth 100000 in
theorem mt_X11_pack : am_tab[am_i_X11_pack]? = some am_m_X11_pack := rfl
set_option maxRecDepth 100000 in
theorem mt_X11_unpack : am_tab[am_i_X11_unpack]? = some am_m_X11_unpack := rfl
set_option maxRecDepth 100000 in
theorem mt_X11_check : am_tab[am_i_X11_check]? = some am_m_X11_check := rfl
set_option maxRecDepth 100000 in
theorem mt_X11_feed : am_tab[am_i_X11_feed]? = some am_m_X11_feed := rfl
set_option maxRecDepth 100000 in
theorem mt_X11_end : am_tab[am_i_X11_end]? = some am_m_X11_end := rfl
set_option maxRecDepth 100000 in
theorem mt_X11_poke : am_tab[am_i_X11_poke]? = some am_m_X11_poke := rfl
set_option maxRecDepth 100000 in
theorem mt_X11_at : am_tab[am_i_X11_at]? = some am_m_X11_at := rfl
set_option maxRecDepth 100000 in
theorem mt_X11_count : am_tab[am_i_X11_count]? = some am_m_X11_count := rfl
set_option maxRecDepth 100000 in
theorem mt_X12_thrown : am_tab[am_i_X12_thrown]? = some am_m_X12_thrown := rfl
set_option maxRecDepth 100000 in
theorem mt_X12_in : am_tab[am_i_X12_in]? = some am_m_X12_in := rfl
set_option maxRecDepth 100000 in
theorem mt_X12_refuses : am_tab[am_i_X12_refuses]? = some am_m_X12_refuses := rfl
set_option maxRecDepth 100000 in
theorem mt_X12_fails : am_tab[am_i_X12_fails]? = some am_m_X12_fails := rfl
set_option maxRecDepth 100000 in
theorem mt_X12_type : am_tab[am_i_X12_type]? = some am_m_X12_type := rfl
set_option maxRecDepth 100000 in
theorem mt_X12_keep : am_tab[am_i_X12_keep]? = some am_m_X12_keep := rfl
set_option maxRecDepth 100000 in
theorem mt_X12_typed : am_tab[am_i_X12_typed]? = some am_m_X12_typed := rfl
set_option maxRecDepth 100000 in
theorem mt_X12_put : am_tab[am_i_X12_put]? = some am_m_X12_put := rfl
set_option maxRecDepth 100000 in
theorem mt_X12_feed : am_tab[am_i_X12_feed]? = some am_m_X12_feed := rfl
set_option maxRecDepth 100000 in
theorem mt_X12_end : am_tab[am_i_X12_end]? = some am_m_X12_end := rfl
set_option maxRecDepth 100000 in
theorem mt_X12_poke : am_tab[am_i_X12_poke]? = some am_m_X12_poke := rfl
set_option maxRecDepth 100000 in
theorem mt_X12_at : am_tab[am_i_X12_at]? = some am_m_X12_at := rfl
set_option maxRecDepth 100000 in
theorem mt_X12_count : am_tab[am_i_X12_count]? = some am_m_X12_count := rfl
set_option maxRecDepth 100000 in
theorem mt_X12_fault : am_tab[am_i_X12_fault]? = some am_m_X12_fault := rfl
set_option maxRecDepth 100000 in
theorem mt_X12_nameAt : am_tab[am_i_X12_nameAt]? = some am_m_X12_nameAt := rfl
set_option maxRecDepth 100000 in
theorem mt_X12_isName : am_tab[am_i_X12_isName]? = some am_m_X12_isName := rfl
set_option maxRecDepth 100000 in
theorem mt_X12_isNamed : am_tab[am_i_X12_isNamed]? = some am_m_X12_isNamed := rfl
set_option maxRecDepth 100000 in
theorem mt_X12_isUnderNew : am_tab[am_i_X12_isUnderNew]? = some am_m_X12_isUnderNew := rfl
set_option maxRecDepth 100000 in
theorem mt_X12_isNewUnder : am_tab[am_i_X12_isNewUnder]? = some am_m_X12_isNewUnder := rfl
set_option maxRecDepth 100000 in
theorem mt_X12_seek : am_tab[am_i_X12_seek]? = some am_m_X12_seek := rfl
set_option maxRecDepth 100000 in
theorem mt_X12_isInTheWay : am_tab[am_i_X12_isInTheWay]? = some am_m_X12_isInTheWay := rfl
set_option maxRecDepth 100000 in
theorem mt_X12_move : am_tab[am_i_X12_move]? = some am_m_X12_move := rfl
set_option maxRecDepth 100000 in
theorem mt_X12_stand : am_tab[am_i_X12_stand]? = some am_m_X12_stand := rfl
set_option maxRecDepth 100000 in
theorem mt_X12_come : am_tab[am_i_X12_come]? = some am_m_X12_come := rfl
set_option maxRecDepth 100000 in
theorem mt_X12_go : am_tab[am_i_X12_go]? = some am_m_X12_go := rfl
set_option maxRecDepth 100000 in
theorem mt_X12_name : am_tab[am_i_X12_name]? = some am_m_X12_name := rfl
set_option maxRecDepth 100000 in
theorem mt_X12_byteAt : am_tab[am_i_X12_byteAt]? = some am_m_X12_byteAt := rfl
set_option maxRecDepth 100000 in
theorem mt_X12_takePath : am_tab[am_i_X12_takePath]? = some am_m_X12_takePath := rfl
set_option maxRecDepth 100000 in
theorem mt_X12_kind : am_tab[am_i_X12_kind]? = some am_m_X12_kind := rfl
set_option maxRecDepth 100000 in
theorem mt_X12_findPart : am_tab[am_i_X12_findPart]? = some am_m_X12_findPart := rfl
set_option maxRecDepth 100000 in
theorem mt_X12_isSamePart : am_tab[am_i_X12_isSamePart]? = some am_m_X12_isSamePart := rfl
set_option maxRecDepth 100000 in
theorem mt_X12_isFresh : am_tab[am_i_X12_isFresh]? = some am_m_X12_isFresh := rfl
set_option maxRecDepth 100000 in
theorem mt_X12_child : am_tab[am_i_X12_child]? = some am_m_X12_child := rfl
set_option maxRecDepth 100000 in
theorem mt_X12_isRow : am_tab[am_i_X12_isRow]? = some am_m_X12_isRow := rfl
set_option maxRecDepth 100000 in
theorem mt_X12_reaches : am_tab[am_i_X12_reaches]? = some am_m_X12_reaches := rfl
set_option maxRecDepth 100000 in
theorem mt_X12_areZeros : am_tab[am_i_X12_areZeros]? = some am_m_X12_areZeros := rfl
set_option maxRecDepth 100000 in
theorem mt_X12_comes : am_tab[am_i_X12_comes]? = some am_m_X12_comes := rfl
set_option maxRecDepth 100000 in
theorem mt_X12_takeBytes : am_tab[am_i_X12_takeBytes]? = some am_m_X12_takeBytes := rfl
set_option maxRecDepth 100000 in
theorem mt_X12_readOctal : am_tab[am_i_X12_readOctal]? = some am_m_X12_readOctal := rfl
set_option maxRecDepth 100000 in
theorem mt_X12_readSum : am_tab[am_i_X12_readSum]? = some am_m_X12_readSum := rfl
set_option maxRecDepth 100000 in
theorem mt_X12_readMark : am_tab[am_i_X12_readMark]? = some am_m_X12_readMark := rfl
set_option maxRecDepth 100000 in
theorem mt_X12_addName : am_tab[am_i_X12_addName]? = some am_m_X12_addName := rfl
set_option maxRecDepth 100000 in
theorem mt_X12_readBlockHead : am_tab[am_i_X12_readBlockHead]? = some am_m_X12_readBlockHead := rfl
set_option maxRecDepth 100000 in
theorem mt_X12_isBlank : am_tab[am_i_X12_isBlank]? = some am_m_X12_isBlank := rfl
set_option maxRecDepth 100000 in
theorem mt_X12_readBlocks : am_tab[am_i_X12_readBlocks]? = some am_m_X12_readBlocks := rfl
set_option maxRecDepth 100000 in
theorem mt_X12_digitOf : am_tab[am_i_X12_digitOf]? = some am_m_X12_digitOf := rfl
set_option maxRecDepth 100000 in
theorem mt_X12_hexAt : am_tab[am_i_X12_hexAt]? = some am_m_X12_hexAt := rfl
set_option maxRecDepth 100000 in
theorem mt_X12_readDigitsHead : am_tab[am_i_X12_readDigitsHead]? = some am_m_X12_readDigitsHead := rfl
set_option maxRecDepth 100000 in
theorem mt_X12_trailerAt : am_tab[am_i_X12_trailerAt]? = some am_m_X12_trailerAt := rfl
set_option maxRecDepth 100000 in
theorem mt_X12_isTrailer : am_tab[am_i_X12_isTrailer]? = some am_m_X12_isTrailer := rfl
set_option maxRecDepth 100000 in
theorem mt_X12_upToFour : am_tab[am_i_X12_upToFour]? = some am_m_X12_upToFour := rfl
set_option maxRecDepth 100000 in
theorem mt_X12_readDigits : am_tab[am_i_X12_readDigits]? = some am_m_X12_readDigits := rfl
set_option maxRecDepth 100000 in
theorem mt_X12_twoAt : am_tab[am_i_X12_twoAt]? = some am_m_X12_twoAt := rfl
set_option maxRecDepth 100000 in
theorem mt_X12_fourAt : am_tab[am_i_X12_fourAt]? = some am_m_X12_fourAt := rfl
set_option maxRecDepth 100000 in
theorem mt_X12_isZeroAt : am_tab[am_i_X12_isZeroAt]? = some am_m_X12_isZeroAt := rfl
set_option maxRecDepth 100000 in
theorem mt_X12_readEnd : am_tab[am_i_X12_readEnd]? = some am_m_X12_readEnd := rfl
set_option maxRecDepth 100000 in
theorem mt_X12_readEntryHead : am_tab[am_i_X12_readEntryHead]? = some am_m_X12_readEntryHead := rfl
set_option maxRecDepth 100000 in
theorem mt_X12_isAsThere : am_tab[am_i_X12_isAsThere]? = some am_m_X12_isAsThere := rfl
set_option maxRecDepth 100000 in
theorem mt_X12_checkMore : am_tab[am_i_X12_checkMore]? = some am_m_X12_checkMore := rfl
set_option maxRecDepth 100000 in
theorem mt_X12_bit : am_tab[am_i_X12_bit]? = some am_m_X12_bit := rfl
set_option maxRecDepth 100000 in
theorem mt_X12_bits : am_tab[am_i_X12_bits]? = some am_m_X12_bits := rfl
set_option maxRecDepth 100000 in
theorem mt_X12_layCodes : am_tab[am_i_X12_layCodes]? = some am_m_X12_layCodes := rfl
set_option maxRecDepth 100000 in
theorem mt_X12_layFixed : am_tab[am_i_X12_layFixed]? = some am_m_X12_layFixed := rfl
set_option maxRecDepth 100000 in
theorem mt_X12_add : am_tab[am_i_X12_add]? = some am_m_X12_add := rfl
set_option maxRecDepth 100000 in
theorem mt_X12_plain : am_tab[am_i_X12_plain]? = some am_m_X12_plain := rfl
set_option maxRecDepth 100000 in
theorem mt_X12_fullness : am_tab[am_i_X12_fullness]? = some am_m_X12_fullness := rfl
set_option maxRecDepth 100000 in
theorem mt_X12_order : am_tab[am_i_X12_order]? = some am_m_X12_order := rfl
set_option maxRecDepth 100000 in
theorem mt_X12_symbol : am_tab[am_i_X12_symbol]? = some am_m_X12_symbol := rfl
set_option maxRecDepth 100000 in
theorem mt_X12_readRow : am_tab[am_i_X12_readRow]? = some am_m_X12_readRow := rfl
set_option maxRecDepth 100000 in
theorem mt_X12_readCodes : am_tab[am_i_X12_readCodes]? = some am_m_X12_readCodes := rfl
set_option maxRecDepth 100000 in
theorem mt_X12_distanceOf : am_tab[am_i_X12_distanceOf]? = some am_m_X12_distanceOf := rfl
set_option maxRecDepth 100000 in
theorem mt_X12_lengthOf : am_tab[am_i_X12_lengthOf]? = some am_m_X12_lengthOf := rfl
set_option maxRecDepth 100000 in
theorem mt_X12_readSymbols : am_tab[am_i_X12_readSymbols]? = some am_m_X12_readSymbols := rfl
set_option maxRecDepth 100000 in
theorem mt_X12_unpackFrom : am_tab[am_i_X12_unpackFrom]? = some am_m_X12_unpackFrom := rfl
set_option maxRecDepth 100000 in
theorem mt_X12_readContent : am_tab[am_i_X12_readContent]? = some am_m_X12_readContent := rfl
set_option maxRecDepth 100000 in
theorem mt_X12_readLocal : am_tab[am_i_X12_readLocal]? = some am_m_X12_readLocal := rfl
set_option maxRecDepth 100000 in
theorem mt_X12_readDirectory : am_tab[am_i_X12_readDirectory]? = some am_m_X12_readDirectory := rfl
set_option maxRecDepth 100000 in
theorem mt_X12_read : am_tab[am_i_X12_read]? = some am_m_X12_read := rfl
set_option maxRecDepth 100000 in
theorem mt_X12_unpack : am_tab[am_i_X12_unpack]? = some am_m_X12_unpack := rfl
set_option maxRecDepth 100000 in
theorem mt_X12_check : am_tab[am_i_X12_check]? = some am_m_X12_check := rfl
set_option maxRecDepth 100000 in
theorem mt_X12_putBit : am_tab[am_i_X12_putBit]? = some am_m_X12_putBit := rfl
set_option maxRecDepth 100000 in
theorem mt_X12_putBits : am_tab[am_i_X12_putBits]? = some am_m_X12_putBits := rfl
set_option maxRecDepth 100000 in
theorem mt_X12_putCode : am_tab[am_i_X12_putCode]? = some am_m_X12_putCode := rfl
set_option maxRecDepth 100000 in
theorem mt_X12_match : am_tab[am_i_X12_match]? = some am_m_X12_match := rfl
set_option maxRecDepth 100000 in
theorem mt_X12_putMatch : am_tab[am_i_X12_putMatch]? = some am_m_X12_putMatch := rfl
set_option maxRecDepth 100000 in
theorem mt_X12_putPacked : am_tab[am_i_X12_putPacked]? = some am_m_X12_putPacked := rfl
set_option maxRecDepth 100000 in
theorem mt_X12_pack : am_tab[am_i_X12_pack]? = some am_m_X12_pack := rfl
set_option maxRecDepth 100000 in
theorem mt_X12_putZeros : am_tab[am_i_X12_putZeros]? = some am_m_X12_putZeros := rfl
set_option maxRecDepth 100000 in
theorem mt_X12_putName : am_tab[am_i_X12_putName]? = some am_m_X12_putName := rfl
set_option maxRecDepth 100000 in
theorem mt_X12_putBytes : am_tab[am_i_X12_putBytes]? = some am_m_X12_putBytes := rfl
set_option maxRecDepth 100000 in
theorem mt_X12_octalAt : am_tab[am_i_X12_octalAt]? = some am_m_X12_octalAt := rfl
set_option maxRecDepth 100000 in
theorem mt_X12_writeBlock : am_tab[am_i_X12_writeBlock]? = some am_m_X12_writeBlock := rfl
set_option maxRecDepth 100000 in
theorem mt_X12_putHex : am_tab[am_i_X12_putHex]? = some am_m_X12_putHex := rfl
set_option maxRecDepth 100000 in
theorem mt_X12_putDigitsHead : am_tab[am_i_X12_putDigitsHead]? = some am_m_X12_putDigitsHead := rfl
set_option maxRecDepth 100000 in
theorem mt_X12_writeDigits : am_tab[am_i_X12_writeDigits]? = some am_m_X12_writeDigits := rfl
set_option maxRecDepth 100000 in
theorem mt_X12_putTwo : am_tab[am_i_X12_putTwo]? = some am_m_X12_putTwo := rfl
set_option maxRecDepth 100000 in
theorem mt_X12_putFour : am_tab[am_i_X12_putFour]? = some am_m_X12_putFour := rfl
set_option maxRecDepth 100000 in
theorem mt_X12_checkOf : am_tab[am_i_X12_checkOf]? = some am_m_X12_checkOf := rfl
set_option maxRecDepth 100000 in
theorem mt_X12_namedSize : am_tab[am_i_X12_namedSize]? = some am_m_X12_namedSize := rfl
set_option maxRecDepth 100000 in
theorem mt_X12_fourInto : am_tab[am_i_X12_fourInto]? = some am_m_X12_fourInto := rfl
set_option maxRecDepth 100000 in
theorem mt_X12_writeLocal : am_tab[am_i_X12_writeLocal]? = some am_m_X12_writeLocal := rfl
set_option maxRecDepth 100000 in
theorem mt_X12_writeEntry : am_tab[am_i_X12_writeEntry]? = some am_m_X12_writeEntry := rfl
set_option maxRecDepth 100000 in
theorem mt_X12_writeDirectory : am_tab[am_i_X12_writeDirectory]? = some am_m_X12_writeDirectory := rfl
set_option maxRecDepth 100000 in
theorem mt_X12_write : am_tab[am_i_X12_write]? = some am_m_X12_write := rfl
