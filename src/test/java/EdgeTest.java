/** The document's Terms, sentence by sentence: each edge that it names, from both sides. */
public final class EdgeTest {
    private static final Check C = new Check();

    public static void main(String[] args) {
        points();
        arrows();
        waysRound();
        sinksAndSources();
        rowInHand();
        lettersOfText();
        clausesOfText();
        quiverClause();
        arrowClause();
        rowClause();
        tokens();
        blanks();
        faultsInOrder();
        whatTextsLeave();
        forms();
        turningAbout();
        roots();
        numbersOfRoots();
        paths();
        rightOrder();
        shifting();
        network();
        sums();
        foretold();
        shelves();
        lastCall();
        C.end();
    }

    private static void edge(String sentence, String lines) {
        Scene.play(C, sentence, lines);
    }

    private static void points() {
        edge("POINTS 3 at first", """
            count 0 = 3 | point 0 0 = 0 | point 2 0 = 0 | point 3 0 = UNKNOWN | point -1 0 = UNKNOWN
            set 2 1 = 0 | set 3 1 = UNKNOWN
            """);
        edge("POINTS 1 at least", """
            tell "quiver 1" | quiver = 1 | count 0 = 1
            point 0 0 = 0 | point 1 0 = UNKNOWN
            count 6 = 1 | count 7 = 1 | count 8 = 1 | count 9 = 1 | count 4 = 1 | count 5 = 0
            put 0 0 = UNKNOWN | put 0 1 = UNKNOWN | put 1 0 = UNKNOWN
            reads "quiver 0" = 7
            """);
        edge("POINTS 6 at most", """
            tell "quiver 6" | quiver = 1 | count 0 = 6
            set 5 99 = 0 | point 5 0 = 99 | set 6 1 = UNKNOWN | point 6 0 = UNKNOWN
            put 5 4 = 0 | put 4 6 = UNKNOWN | put 6 4 = UNKNOWN | paths 5 4 = 1 | paths 5 6 = UNKNOWN
            count 6 = 31 | count 7 = 47 | count 8 = 7 | count 4 = 7
            reads "quiver 7" = 7
            """);
        edge("a POINT's number wraps nowhere", """
            put 32 1 = UNKNOWN | put 1 32 = UNKNOWN | put 0 33 = UNKNOWN | set 32 1 = UNKNOWN | turn 32 = UNKNOWN
            point 64 0 = UNKNOWN | turned 32 = UNKNOWN | paths 32 32 = UNKNOWN | paths 256 0 = UNKNOWN
            root 0 32 = UNKNOWN | root 32 0 = UNKNOWN | place 32 0 = UNKNOWN | count 32 = OUTSIDE | count 16 = OUTSIDE
            shelf 4 = UNKNOWN | shelf 8 = UNKNOWN | keep 4 = UNKNOWN | back 2 = UNKNOWN | shift 4 = OUTSIDE
            set LEAST 0 = UNKNOWN | set MOST 0 = UNKNOWN | shelf LEAST = UNKNOWN | keep MOST = UNKNOWN
            """);
    }

    private static void arrows() {
        edge("no ARROWS at first", "count 1 = 0 | arrow 0 0 = UNKNOWN | cut 0 = UNKNOWN | count 6 = 7 | count 7 = 7");
        edge("10 ARROWS at most, by put()", """
            put 0 1 = 0 | put 0 1 = 1 | put 0 1 = 2 | put 0 1 = 3 | put 0 1 = 4
            put 0 1 = 5 | put 0 1 = 6 | put 0 1 = 7 | put 0 1 = 8 | put 0 1 = 9
            put 0 1 = FULL | put 1 2 = FULL | count 1 = 10 | arrow 9 0 = 0 | arrow 9 1 = 1 | arrow 10 0 = UNKNOWN
            cut 10 = UNKNOWN | cut 9 = 9 | put 1 2 = 9 | put 1 2 = FULL
            arrows = 01 01 01 01 01 01 01 01 01 12
            """);
        edge("10 ARROWS at most, by the text", """
            tell "arrow0 1;" * 9 | tell "arrow0 2" | fault = -1 | quiver = 10 | count 1 = 10
            arrows = 01 01 01 01 01 01 01 01 01 02
            reads "arrow 0 1" = 0 | reads "row 1 2 3;arrow 1 2" = 10 | reads "quiver 3;arrow 0 1" = -1
            """);
        edge("10 ARROWS at most, put() behind a text and a text behind put()", """
            put 0 1 = 0 | tell "arrow 0 1;" * 7 | tell "arrow 0 1" | quiver = 8
            put 0 2 = 9 | put 0 2 = FULL | cut 0 = 9
            reads "arrow 1 2;arrow 1 2" = 10 | reads "arrow 1 2" = -1 | quiver = 1 | count 1 = 10
            """);
        edge("each from one POINT to another one", """
            put 0 0 = UNKNOWN | put 1 1 = UNKNOWN | put 2 2 = UNKNOWN | count 1 = 0
            reads "arrow 0 0" = 8 | reads "arrow 2 2" = 8 | reads "arrow 2 1" = -1
            """);
    }

    private static void waysRound() {
        edge("no way leads round: of two ARROWS", """
            put 0 1 = 0 | put 1 0 = NOT | put 0 1 = 1 | cut 0 = 1 | put 1 0 = NOT | cut 0 = 0 | put 1 0 = 0
            """);
        edge("no way leads round: of three ARROWS", """
            put 0 1 = 0 | put 1 2 = 1 | put 2 0 = NOT | put 0 2 = 2 | put 2 0 = NOT | arrows = 01 12 02
            """);
        edge("no way leads round: of six ARROWS, whatever their order", """
            tell "quiver 6" | quiver = 1
            put 4 5 = 0 | put 2 3 = 1 | put 0 1 = 2 | put 3 4 = 3 | put 1 2 = 4
            put 5 0 = NOT | put 5 1 = NOT | put 5 4 = NOT | put 3 1 = NOT | put 0 5 = 5 | put 5 0 = NOT
            reads "arrow 5 0" = 8 | reads "arrow 4 0" = 8 | reads "arrow 0 4" = -1
            """);
        edge("no way leads round: the ARROW before last closes it", """
            tell "quiver 6;arrow 1 0;arrow 2 1;arrow 3 2;arrow 4 3;arrow 5 4" | quiver = 6
            put 0 5 = NOT | put 5 0 = 5 | cut 2 = 5 | put 0 5 = NOT | cut 4 = 4 | put 0 5 = 4 | put 3 2 = NOT | put 2 3 = 5
            """);
        edge("ARROWS that stand beside one another lead nowhere round", """
            tell "quiver 4;arrow 0 1;arrow 2 1;arrow 2 3" | quiver = 4 | put 3 0 = 3 | put 0 3 = NOT | put 1 3 = NOT
            put 0 2 = NOT | put 3 1 = 4
            """);
        edge("a turned QUIVER leads nowhere round, and is looked at anew", """
            put 0 1 = 0 | put 1 2 = 1 | put 0 2 = 2 | turn 2 = 0 | arrows = 01 21 20 | put 1 2 = NOT | put 2 1 = 3
            """);
    }

    private static void sinksAndSources() {
        edge("a POINT without ARROWS is SINK and SOURCE", """
            put 0 1 = 0 | point 2 1 = 1 | point 2 2 = 1 | point 2 4 = 0 | point 2 5 = 0 | count 6 = 6 | count 7 = 5
            set 2 99 = 0 | turn 2 = -99 | turn 2 = 99 | arrows = 01
            """);
        edge("SINK: none goes; SOURCE: none comes; one between is neither", """
            put 0 1 = 0 | put 1 2 = 1
            point 0 1 = 0 | point 0 2 = 1 | point 1 1 = 0 | point 1 2 = 0 | point 2 1 = 1 | point 2 2 = 0
            turn 1 = NOT | turn 0 = 0 | point 1 1 = 0 | turn 2 = 0
            """);
        edge("ARROWS that come, that go: none, one, ten", """
            put 0 1 = 0 | point 0 4 = 0 | point 0 5 = 1 | point 1 4 = 1 | point 1 5 = 0
            tell "arrow0 1;" * 8 | tell "arrow0 1" | quiver = 9 | point 0 4 = 0 | point 0 5 = 10 | point 1 4 = 10 | point 1 5 = 0
            cut 0 = 9 | put 1 2 = 9 | point 0 5 = 9 | point 1 4 = 9 | point 1 5 = 1 | point 2 4 = 1
            """);
        edge("all POINTS are SINKS: bits", "count 6 = 7 | tell \"quiver 6\" | quiver = 1 | count 6 = 63 | count 7 = 63");
    }

    private static void rowInHand() {
        edge("x 0 at first each", "x = 0 0 0 | count 2 = 0 | count 3 = -1");
        edge("each 99 at most", "set 0 99 = 0 | set 0 100 = OUTSIDE | set 2 99 = 0 | set 2 100 = OUTSIDE | x = 99 0 99");
        edge("each -99 at least", "set 0 -99 = 0 | set 0 -100 = OUTSIDE | set 2 -99 = 0 | set 2 -100 = OUTSIDE | x = -99 0 -99");
        edge("no v wraps", """
            set 0 256 = OUTSIDE | set 0 65536 = OUTSIDE | set 0 65535 = OUTSIDE | set 0 255 = OUTSIDE
            set 0 LEAST = OUTSIDE | set 0 MOST = OUTSIDE | x = 0 0 0
            """);
    }

    private static void lettersOfText() {
        edge("a letter is 0 .. 255", """
            write -1 = OUTSIDE | write 256 = OUTSIDE | write 353 = OUTSIDE | write LEAST = OUTSIDE | write MOST = OUTSIDE
            count 12 = 0 | write 0 = 1 | write 255 = 2 | count 12 = 2 | fault = 0
            """);
        edge("200 letters at most", """
            tell " " * 191 | tell "row 1 2 " | count 12 = 199 | write 57 = 200 | write 57 = FULL | write 32 = FULL
            count 12 = 200 | fault = -1 | quiver = 1 | x = 1 2 9 | count 12 = 0 | write 57 = 1
            """);
        edge("a full TEXT ends at 200", """
            tell "row 1 2 3" | tell " " * 190 | tell ";" | fault = 200 | quiver = NOT | count 12 = 200
            erase = 200 | erase = 0 | count 12 = 0 | fault = 0
            """);
        edge("a full TEXT: a fault at its last letter", "tell \" \" * 199 | tell \"a\" | fault = 199 | write 32 = FULL | fault = 199");
        edge("what was erased is not read", """
            tell "row 1 2 3 4 5 6 7" | erase = 17 | tell "row 7 8 9" | fault = -1 | quiver = 1 | x = 7 8 9
            tell "row 1 2 " | fault = 8 | erase = 8 | tell "row 1 2" | fault = 7
            """);
    }

    private static void clausesOfText() {
        edge("an empty TEXT ends too soon", "fault = 0 | quiver = NOT | reads \" \" = 1 | reads \"   \" = 3 | quiver = NOT");
        edge("1 CLAUSE", "tell \"row 1 2 3\" | fault = -1 | quiver = 1");
        edge("an empty CLAUSE cannot stand", """
            reads ";" = 0 | reads " ;" = 1 | reads "row 1 2 3;" = 10 | reads "row 1 2 3; " = 11
            reads "row 1 2 3;;row 1 2 3" = 10 | reads ";row 1 2 3" = 0 | reads "row 1 2 3 ; ; " = 12
            """);
        edge("24 CLAUSES, the last taken", "tell \"quiver2;\" * 23 | tell \"quiver5\" | fault = -1 | quiver = 24 | count 0 = 5");
        edge("behind the 24th no ; can stand", """
            tell "quiver2;" * 23 | tell "quiver5 " | fault = -1 | tell ";" | fault = 192 | quiver = NOT | count 0 = 3
            """);
        edge("behind the 24th no ; can stand, with a CLAUSE behind it", """
            tell "quiver2;" * 24 | tell "quiver2" | fault = 191 | quiver = NOT
            """);
        edge("behind the 24th another TOKEN cannot stand either", "tell \"quiver2;\" * 23 | tell \"quiver2 7\" | fault = 192");
        edge("23 CLAUSES may be followed", "tell \"quiver2;\" * 23 | fault = 184 | tell \"row 1 2\" | fault = -1");
        edge("CLAUSES need a ; between", """
            reads "row 1 2 3 row 1 2 3" = 10 | reads "row 1 2 3,row 1 2 3" = 9 | reads "row 1 2 3:row 1 2 3" = 9
            reads "row 1 2 3;row 1 2 3" = -1 | reads "quiver 2 quiver 3" = 9 | reads "arrow 0 1 arrow 0 1" = 10
            """);
        edge("each is one of three", """
            reads "quive 3" = 0 | reads "quivers 3" = 0 | reads "quivr 3" = 0 | reads "arro 0 1" = 0 | reads "arrows 0 1" = 0
            reads "arrrow 0 1" = 0 | reads "ro 1 2 3" = 0 | reads "rows 1 2 3" = 0 | reads "r 1 2 3" = 0 | reads "3" = 0
            reads "quiver" = 6 | reads "arrow" = 5 | reads "row" = 3 | reads "rox 1 2 3" = 0 | reads "sow 1 2 3" = 0
            """);
    }

    private static void quiverClause() {
        edge("quiver N: 1 to 6", """
            reads "quiver 0" = 7 | reads "quiver 1" = -1 | reads "quiver 2" = -1 | reads "quiver 5" = -1
            reads "quiver 6" = -1 | reads "quiver 7" = 7 | reads "quiver 9" = 7 | reads "quiver 10" = 7
            reads "quiver 00" = 7 | reads "quiver 01" = -1 | reads "quiver 06" = -1 | reads "quiver 07" = 7
            reads "quiver 99" = 7 | reads "quiver 61" = 7 | reads "quiver 16" = 7
            """);
        edge("quiver N: of more digits", """
            reads "quiver 001" = 7 | reads "quiver 100" = 7 | reads "quiver 4294967297" = 7 | reads "quiver 65537" = 7
            reads "quiver 257" = 7 | reads "quiver 18446744073709551617" = 7
            """);
        edge("quiver N: one number", "reads \"quiver\" = 6 | reads \"quiver \" = 7 | reads \"quiver ;\" = 7 | reads \"quiver 3 3\" = 9 | reads \"quiver row\" = 7");
        edge("quiver: no ARROWS, x 0", """
            put 0 1 = 0 | set 0 5 = 0 | set 2 -5 = 0 | tell "quiver 3" | quiver = 1 | count 1 = 0 | x = 0 0 0
            tell "row 1 2 3;quiver 6" | quiver = 2 | x = 0 0 0 0 0 0
            tell "row 1 2 3 4 5 6;quiver 2;quiver 6" | quiver = 3 | x = 0 0 0 0 0 0
            tell "quiver 6;row 1 2 3 4 5 6;quiver 1;row 9" | quiver = 4 | x = 9 | count 2 = 81 | count 4 = 1 | sums = 1
            """);
    }

    private static void arrowClause() {
        edge("arrow: U and V are POINTS", """
            reads "arrow 2 0" = -1 | reads "arrow 3 0" = 6 | reads "arrow 0 2" = -1 | reads "arrow 0 3" = 8
            reads "arrow 00 02" = -1 | reads "arrow 0 03" = 8 | reads "arrow 10 0" = 6 | reads "arrow 0 10" = 8
            reads "arrow 002 0" = 6 | reads "arrow 0 002" = 8 | reads "arrow 3 3" = 6 | reads "arrow 99 99" = 6
            """);
        edge("arrow: U and V are POINTS of the QUIVER that was told ahead", """
            reads "quiver 6;arrow 5 0" = -1 | reads "quiver 6;arrow 6 0" = 15 | reads "quiver 2;arrow 2 0" = 15
            reads "quiver 2;arrow 0 2" = 17 | reads "quiver 1;arrow 0 0" = 17 | reads "quiver 1;arrow 1 0" = 15
            reads "arrow 5 0;quiver 6" = 6 | reads "quiver 6;quiver 2;arrow 5 0" = 24
            """);
        edge("arrow: unlike", "reads \"arrow 1 1\" = 8 | reads \"arrow 01 1\" = 9 | reads \"arrow 1 2\" = -1 | reads \"arrow 2 1\" = -1");
        edge("arrow: two numbers", """
            reads "arrow" = 5 | reads "arrow 0" = 7 | reads "arrow 0 " = 8 | reads "arrow 0;" = 7 | reads "arrow ;" = 6
            reads "arrow 01" = 8 | reads "arrow 0 1 2" = 10 | reads "arrow 0 row" = 8 | reads "arrow 0,1" = 7 | reads "arrow 0>1" = 7
            """);
        edge("an eleventh cannot stand there (at its word arrow)", """
            tell "arrow0 1;" * 10 | fault = 90 | tell "arrow 0 1" | fault = 90 | quiver = NOT | count 1 = 0
            """);
        edge("an eleventh, ahead of its own numbers' faults", "tell \"arrow0 1;\" * 10 | tell \" arrow 1 0\" | fault = 91");
        edge("an eleventh, ahead of the end that comes too soon", "tell \"arrow0 1;\" * 10 | tell \"arrow\" | fault = 90");
        edge("a tenth can stand", "tell \"arrow0 1;\" * 9 | tell \"arrow 0 1\" | fault = -1 | tell \"1\" | fault = 89 | erase = 91 | fault = 0");
        edge("another word can stand behind ten", """
            tell "arrow0 1;" * 10 | tell "row 1 2 3;quiver 3;arrow 0 1" | fault = -1 | quiver = 13 | count 1 = 1
            """);
        edge("nor one by which a way would lead round (at V)", """
            reads "arrow 0 1;arrow 1 0" = 18 | reads "arrow 0 1;arrow 1  0 " = 19 | reads "arrow 0 1;arrow 1 2;arrow 2 0" = 28
            reads "arrow 0 1;arrow 1 2;arrow 0 2" = -1 | reads "arrow 0 1;quiver 3;arrow 1 0" = -1 | reads "arrow 0 1;arrow 0 1" = -1
            reads "arrow 0 1;arrow 1 00" = 18
            """);
    }

    private static void rowClause() {
        edge("row: 0 to 99", """
            reads "row 0 0 0" = -1 | reads "row 99 99 99" = -1 | reads "row 00 01 09" = -1 | reads "row 100 0 0" = 4
            reads "row 0 0 100" = 8 | reads "row 000 0 0" = 4 | reads "row 0 0 099" = 8 | reads "row -1 0 0" = 4
            reads "row 0 0 -1" = 8 | reads "row +1 0 0" = 4 | reads "row 1.5 0 0" = 5 | reads "row 4294967297 0 0" = 4
            """);
        edge("row: 0 to 99, as told", "tell \"row 00 99 09\" | quiver = 1 | x = 0 99 9");
        edge("row: a number for each POINT", """
            reads "row" = 3 | reads "row 1 2" = 7 | reads "row 1 2;" = 7 | reads "row 1 2 3 4" = 10 | reads "row 12 3" = 8
            reads "row 1 2;row 1 2 3" = 7
            """);
        edge("row: a number for each POINT of the QUIVER that was told ahead", """
            reads "quiver 1;row 1" = -1 | reads "quiver 1;row 1 2" = 15 | reads "quiver 1;row" = 12
            reads "quiver 6;row 1 2 3 4 5 6" = -1 | reads "quiver 6;row 1 2 3 4 5" = 22 | reads "quiver 6;row 1 2 3 4 5 6 7" = 25
            reads "row 1 2 3;quiver 2;row 1 2" = -1 | reads "row 1 2;quiver 2" = 7 | reads "quiver 2;row 1 2 3" = 17
            """);
    }

    private static void tokens() {
        edge("small letters a .. z", """
            reads "Row 1 2 3" = 0 | reads "rOw 1 2 3" = 0 | reads "ROW 1 2 3" = 0 | reads "row 1 2 3;Row 1 2 3" = 10
            reads "rowa 1 2 3" = 0 | reads "rowz 1 2 3" = 0 | reads "row{1 2 3" = 3 | reads "row`1 2 3" = 3 | reads "row 1 2 3 a" = 10
            reads "arow 1 2 3" = 0 | reads "zrow 1 2 3" = 0 | reads "{row 1 2 3" = 0 | reads "`row 1 2 3" = 0
            """);
        edge("a row of digits", """
            reads "row 1 2 3/" = 9 | reads "row 1 2 3:" = 9 | reads "row 1 2 30" = -1 | reads "row 1 2 39" = -1
            reads "row 1 2 /3" = 8 | reads "row 1 2 :3" = 8 | reads "row 1 2 333" = 8 | reads "row 1 2 3 33" = 10
            """);
        edge("any other letter is a TOKEN by itself", """
            reads "row 1 2 3;;;" = 10 | reads "row 1 2 3.." = 9 | reads "!!" = 0 | reads " !row" = 1 | reads "row 1 2 3;!" = 10
            """);
        edge("letters above 127 are letters like others", """
            tell "row 1 2 3" | write 233 = 10 | fault = 9 | erase = 10 | write 128 = 1 | fault = 0 | erase = 1
            tell "row 1 2 3" | write 160 = 10 | fault = 9 | erase = 10 | tell "row" | write 160 = 4 | tell "1 2 3" | fault = 3
            erase = 9 | write 255 = 1 | fault = 0
            """);
        edge("letters below 32 are no blanks", """
            tell "row 1 2 3" | write 9 = 10 | fault = 9 | erase = 10 | tell "row 1 2 3" | write 10 = 10 | fault = 9
            erase = 10 | tell "row 1 2 3" | write 0 = 10 | fault = 9 | erase = 10 | tell "row 1 2 3" | write 31 = 10 | fault = 9
            erase = 10 | tell "row 1 2 3" | write 33 = 10 | fault = 9 | erase = 10 | write 13 = 1 | fault = 0
            """);
        edge("a letter just beside the ;", """
            tell "row 1 2 3" | write 58 = 10 | fault = 9 | erase = 10 | tell "row 1 2 3" | write 60 = 10 | fault = 9
            erase = 10 | tell "row 1 2 3" | write 59 = 10 | fault = 10
            """);
    }

    private static void blanks() {
        edge("blanks ahead of, between and behind", """
            reads " row 1 2 3" = -1 | reads "row   1   2   3" = -1 | reads "row 1 2 3   " = -1
            reads "  row 1 2 3  ;  arrow  0  1  " = -1 | quiver = 2 | x = 1 2 3 | arrows = 01
            """);
        edge("none is needed but between two words, two numbers", """
            reads "row1 2 3;arrow0 1;quiver2" = -1 | reads "row12 3" = 7 | reads "row1 2 3arrow0 1" = 8 | reads "rowrow" = 0
            reads "row1 23" = 7 | reads "quiver2row 1 2" = 7 | reads "quiver 2quiver 3" = 8
            """);
        edge("a blank parts a word, a number", "reads \"ro w 1 2 3\" = 0 | reads \"row 1 2 3 0\" = 10 | reads \"quiver 0 6\" = 7");
    }

    private static void faultsInOrder() {
        edge("the first TOKEN that cannot stand", """
            reads "row 1 2 100;row 1 2 100" = 8 | reads "row 1 2 3;row 1 2 100;!" = 18 | reads "arrow 1 1;row 1" = 8
            reads "row 1 2 3;arrow 0 1;arrow 1 0;quiver 7" = 28
            """);
        edge("at the end, if it comes too soon: its place is the length", """
            reads "row 1 2 " = 8 | reads "row 1 2" = 7 | reads "row 1 2 3;  " = 12 | reads "quiver    " = 10 | reads "arrow 0    " = 11
            """);
        edge("fault() changes nothing", """
            tell "quiver 2;arrow 0 1;row 5 6" | fault = -1 | fault = -1 | count 12 = 26 | count 0 = 3 | count 1 = 0 | x = 0 0 0
            quiver = 3 | fault = 0
            """);
        edge("a TEXT with a FAULT does nothing of what stands ahead of it", """
            put 0 1 = 0 | set 0 4 = 0 | tell "row 1 2 3;arrow 1 2;quiver 5;row 1" | quiver = NOT | count 12 = 34
            x = 4 0 0 | arrows = 01 | count 11 = 2 | fault = 34
            """);
    }

    private static void whatTextsLeave() {
        edge("what there was stays: a row leaves ARROWS, an arrow leaves x", """
            put 0 1 = 0 | set 0 -4 = 0 | tell "arrow 1 2" | quiver = 1 | x = -4 0 0 | arrows = 01 12
            tell "row 7 8 9" | quiver = 1 | x = 7 8 9 | arrows = 01 12 | count 0 = 3
            """);
        edge("CLAUSES are done in their order", """
            tell "row 1 2 3;row 4 5 6" | quiver = 2 | x = 4 5 6 | tell "arrow 2 1;arrow 1 0;arrow 2 0" | quiver = 3 | arrows = 21 10 20
            tell "arrow 2 0;quiver 2;row 7 8" | quiver = 3 | arrows = | x = 7 8
            """);
        edge("behind them nothing can be undone", """
            put 0 1 = 0 | set 0 4 = 0 | count 11 = 2 | tell "row 1 2 3" | quiver = 1 | count 11 = 0 | undo = NOT | x = 1 2 3
            set 0 9 = 1 | undo = 0 | undo = NOT | x = 1 2 3 | arrows = 01
            """);
        edge("behind them nothing is kept", """
            keep 0 = 0 | keep 1 = 0 | tell "row 1 2 3" | quiver = 1 | back 0 = NOT | back 1 = NOT | x = 1 2 3
            keep 1 = 0 | back 0 = NOT | set 0 5 = 1 | back 1 = 0 | x = 1 2 3
            """);
        edge("a refused TEXT leaves what is kept, what can be undone", """
            keep 0 = 0 | set 0 4 = 0 | tell "row 1 2" | quiver = NOT | count 11 = 1 | undo = 0 | set 1 1 = 0 | back 0 = 0 | x = 0 0 0
            """);
        edge("SHELVES stay, missing ones too", """
            set 0 4 = 0 | shelf 0 = 0 | lay 0 = 1 | shelf 1 = 0 | tell "quiver 2;quiver 3" | quiver = 2 | count 10 = 1
            draw 1 = EMPTY | draw 2 = NULL | draw 0 = 0 | x = 4 0 0
            """);
    }

    private static void forms() {
        edge("EULER of the greatest: ten ARROWS, x 99", """
            tell "quiver 6;row 99 99 99 99 99 99" | quiver = 2 | count 2 = 58806 | count 3 = 58805
            tell "arrow0 1;" * 9 | tell "arrow0 1" | quiver = 10 | count 2 = -39204 | count 3 = -39205
            shelf 2 = 0 | lay 2 = 1 | set 0 -99 = 99 | count 2 = 156816 | euler 2 0 = 137214 | euler 2 1 = -58806 | euler 2 2 = 78408
            """);
        edge("EULER goes one way: y where it goes from, z where it comes to", """
            put 0 1 = 0 | set 0 1 = 0 | shelf 0 = 0 | lay 0 = 1 | set 0 0 = 1 | set 1 1 = 0
            euler 0 0 = 0 | euler 0 1 = -1 | euler 0 2 = -1 | turn 0 = 1 | set 0 0 = 1 | euler 0 0 = -1 | euler 0 1 = 0
            """);
        edge("TITS of 0 is 0, DEFECT -1", "count 2 = 0 | count 3 = -1 | put 0 1 = 0 | count 2 = 0 | count 3 = -1");
        edge("TITS is EULER of x, x", "tell \"arrow 0 1;arrow 0 1;row 3 4 5\" | quiver = 3 | count 2 = 26 | count 3 = 25 | shelf 0 | lay 0 = 1 | euler 0 0 = 26 | euler 0 1 = 26 | euler 0 2 = 52");
    }

    private static void turningAbout() {
        edge("TURNED ABOUT: at any POINT, x there alone, however far", """
            tell "arrow 0 1;arrow 0 1;arrow 1 2;row 99 0 99" | quiver = 4 | turned 1 = 297 | turned 0 = -99 | turned 2 = -99 | x = 99 0 99
            set 0 -99 = 99 | set 2 -99 = 99 | set 1 99 = 0 | turned 1 = -396
            """);
        edge("turned() of the greatest: ten ARROWS", """
            tell "arrow0 1;" * 9 | tell "arrow0 1" | quiver = 10 | set 0 99 = 0 | set 1 -99 = 0 | turned 1 = 1089 | turned 0 = -1089
            turn 1 = NOT | turn 0 = NOT | arrow 0 0 = 0
            """);
        edge("TURNED at a SINK, at a SOURCE: all its ARROWS, no other", """
            tell "quiver 4;arrow 0 1;arrow 0 1;arrow 2 1;arrow 2 3;row 1 2 3 4" | quiver = 6
            turn 1 = 3 | arrows = 10 10 12 23 | x = 1 3 3 4 | turn 1 = 2 | arrows = 01 01 21 23 | turn 2 = 3 | arrows = 01 01 12 32
            """);
        edge("TURNED: all of ten ARROWS", """
            tell "arrow0 1;" * 9 | tell "arrow0 1;row 9 0 5" | quiver = 11 | turn 1 = 90 | arrows = 10 10 10 10 10 10 10 10 10 10
            x = 9 90 5 | turn 1 = 0 | turn 2 = -5 | arrows = 01 01 01 01 01 01 01 01 01 01
            """);
        edge("x 99 and 100 there by turn()", """
            put 0 1 = 0 | put 2 1 = 1 | set 0 99 = 0 | set 2 1 = 0 | set 1 1 = 0 | turn 1 = 99 | undo = 5 | set 1 0 = 1 | turn 1 = NOT
            arrows = 01 21 | x = 99 0 1 | count 11 = 6
            """);
        edge("x -99 and -100 there by turn()", """
            put 1 0 = 0 | put 1 2 = 1 | set 0 -99 = 0 | set 2 -1 = 0 | set 1 -1 = 0 | turn 1 = -99 | undo = 5 | set 1 0 = -1 | turn 1 = NOT
            arrows = 10 12 | x = -99 0 -1 | count 11 = 6
            """);
        edge("turn() at one that is neither, where x would be within", "put 0 1 = 0 | put 1 2 = 1 | turned 1 = 0 | turn 1 = NOT | count 11 = 2");
    }

    private static void roots() {
        edge("FINITE: no ARROWS at all, one POINT", "count 4 = 3 | tell \"quiver 1\" | quiver = 1 | count 4 = 1 | root 0 0 = 1 | root 1 0 = UNKNOWN");
        edge("FINITE: 36 of them", """
            tell "quiver 6;arrow 0 1;arrow 1 2;arrow 2 3;arrow 3 4;arrow 2 5" | quiver = 6 | count 4 = 36
            root 35 2 = 3 | root 36 0 = UNKNOWN | take 35 = 11 | x = 1 2 3 2 1 2 | take 36 = UNKNOWN | place 35 0 = 11 | place 36 0 = UNKNOWN
            between 35 35 0 = 1 | between 35 36 0 = UNKNOWN | between 36 35 0 = UNKNOWN | find = 35
            """);
        edge("FINITE: 30 and 21 of them", """
            tell "quiver 6;arrow 0 1;arrow 1 2;arrow 2 3;arrow 3 4;arrow 3 5" | quiver = 6 | count 4 = 30 | root 30 0 = UNKNOWN
            tell "quiver 6;arrow 0 1;arrow 1 2;arrow 2 3;arrow 3 4;arrow 4 5" | quiver = 6 | count 4 = 21 | root 20 5 = 1 | root 21 5 = UNKNOWN
            """);
        edge("not FINITE: two ARROWS between two POINTS", """
            put 0 1 = 0 | count 4 = 4 | put 0 1 = 1 | count 4 = NONE | count 5 = NONE | find = NOT | sums = NOT | take 0 = NOT
            root 0 0 = NOT | place 0 0 = NOT | between 0 0 0 = NOT | cut 1 = 1 | count 4 = 4 | find = NONE | sums = 1 | take 0 = 1
            """);
        edge("not FINITE: a ring, whatever its ARROWS' ways", """
            put 0 1 = 0 | put 1 2 = 1 | count 4 = 6 | put 0 2 = 2 | count 4 = NONE | cut 2 = 2 | count 4 = 6
            tell "quiver 4;arrow 0 1;arrow 2 1;arrow 2 3;arrow 0 3" | quiver = 5 | count 4 = NONE
            """);
        edge("not FINITE: a star of four", """
            tell "quiver 5;arrow 1 0;arrow 2 0;arrow 3 0" | quiver = 4 | count 4 = 13 | put 0 4 = 3 | count 4 = NONE | undo = 0 | count 4 = 13
            """);
        edge("not FINITE: two forks of six POINTS", "tell \"quiver 6;arrow 0 2;arrow 1 2;arrow 2 3;arrow 3 4;arrow 3 5\" | quiver = 6 | count 4 = NONE");
        edge("not FINITE: ten ARROWS, one is above 9 at once", """
            tell "arrow0 1;" * 9 | tell "arrow0 1" | quiver = 10 | count 4 = NONE | count 5 = NONE | sums = NOT
            """);
        edge("not FINITE in one piece alone", "tell \"quiver 6;arrow 0 1;arrow 2 3;arrow 4 5\" | quiver = 4 | count 4 = 9 | put 4 5 = 3 | count 4 = NONE | find = NOT");
    }

    private static void numbersOfRoots() {
        edge("the least sum first; of like ones the one that is greater at the first POINT where they differ", """
            put 0 2 = 0 | put 2 1 = 1
            root 0 0 = 1 | root 1 1 = 1 | root 2 2 = 1
            root 3 0 = 1 | root 3 1 = 0 | root 3 2 = 1 | root 4 0 = 0 | root 4 1 = 1 | root 4 2 = 1 | root 5 0 = 1 | root 5 1 = 1 | root 5 2 = 1
            """);
        edge("a greater number at a later POINT comes behind", """
            tell "quiver 4;arrow 0 3;arrow 1 3;arrow 2 3" | quiver = 4 | count 4 = 12
            root 7 0 = 1 | root 7 1 = 1 | root 7 2 = 0 | root 8 0 = 1 | root 8 1 = 0 | root 9 0 = 0 | root 10 3 = 1 | root 11 3 = 2
            """);
        edge("find(): the first, the last, none", """
            put 0 1 = 0 | put 1 2 = 1 | find = NONE | set 0 1 = 0 | find = 0 | set 2 1 = 0 | find = NONE | set 1 1 = 0 | find = 5
            set 1 2 = 1 | find = NONE | set 1 -1 = 2 | find = NONE
            """);
    }

    private static void paths() {
        edge("PATHS from one to itself 1", "paths 0 0 = 1 | put 0 1 = 0 | paths 0 0 = 1 | paths 1 1 = 1 | paths 2 2 = 1 | paths 0 2 = 0 | paths 1 0 = 0");
        edge("PATHS by unlike ARROWS, too", "put 0 1 = 0 | put 0 1 = 1 | paths 0 1 = 2 | put 1 2 = 2 | put 1 2 = 3 | paths 0 2 = 4 | put 0 2 = 4 | paths 0 2 = 5 | count 8 = 12");
        edge("PATHS: the most that ten ARROWS give", """
            tell "arrow0 1;" * 5 | tell "arrow1 2;" * 4 | tell "arrow1 2" | quiver = 10 | paths 0 2 = 25 | count 8 = 38
            tell "quiver 6" | tell ";arrow0 1;arrow0 1;arrow1 2;arrow1 2;arrow2 3;arrow2 3;arrow3 4;arrow3 4;arrow4 5;arrow4 5" | quiver = 11
            paths 0 5 = 32 | paths 5 0 = 0 | count 8 = 120
            """);
        edge("PATHS behind cut(), turn(), undo(), back()", """
            put 0 1 = 0 | put 1 2 = 1 | keep 0 = 2 | paths 0 2 = 1 | cut 0 = 1 | paths 0 2 = 0 | undo = 2 | paths 0 2 = 1
            turn 2 = 0 | paths 0 2 = 0 | paths 2 1 = 1 | back 0 = 2 | paths 0 2 = 1
            """);
    }

    private static void rightOrder() {
        edge("RIGHT ORDER: the least one, without ARROWS", "point 0 3 = 0 | point 1 3 = 1 | point 2 3 = 2");
        edge("RIGHT ORDER: the least from which none goes to one that is left", """
            put 0 2 = 0 | point 0 3 = 2 | point 1 3 = 0 | point 2 3 = 1 | cut 0 = 0 | put 0 1 = 0 | point 0 3 = 1 | point 1 3 = 0 | point 2 3 = 2
            """);
        edge("RIGHT ORDER: the least one again as soon as it can", """
            tell "quiver 6;arrow 0 4;arrow 1 5;arrow 3 2" | quiver = 4
            point 2 3 = 0 | point 3 3 = 1 | point 4 3 = 2 | point 0 3 = 3 | point 5 3 = 4 | point 1 3 = 5
            """);
        edge("RIGHT ORDER: of a long way, from its end", """
            tell "quiver 6;arrow 0 1;arrow 1 2;arrow 2 3;arrow 3 4;arrow 4 5" | quiver = 6
            point 5 3 = 0 | point 4 3 = 1 | point 3 3 = 2 | point 2 3 = 3 | point 1 3 = 4 | point 0 3 = 5
            """);
    }

    private static void shifting() {
        edge("SHIFTED BACK, at the bounds of the one that is turned first", """
            put 0 1 = 0 | set 0 60 = 0 | set 1 -40 = 0 | shift 0 = NOT | set 1 -39 = -40 | shift 0 = 7461 | x = 39 99 0
            undo = 4 | set 0 -60 = 60 | set 1 40 = -39 | shift 0 = NOT | x = -60 40 0 | set 1 39 = 40 | shift 0 = 7461 | x = -39 -99 0
            """);
        edge("SHIFTED ON, at the bounds of the one that is turned first", """
            put 0 1 = 0 | set 1 60 = 0 | set 0 -40 = 0 | shift 1 = NOT | set 0 -39 = -40 | shift 1 = 7461 | x = 99 39 0
            undo = 4 | set 1 -60 = 60 | set 0 40 = -39 | shift 1 = NOT | x = 40 -60 0 | set 0 39 = 40 | shift 1 = 7461 | x = -99 -39 0
            """);
        edge("SHIFTED, at the bounds of the one that is turned last", """
            put 0 1 = 0 | put 0 1 = 1 | set 0 1 = 0 | set 1 -48 = 0 | shift 0 = 2401 | x = 99 50 0 | undo = 4
            set 0 0 = 1 | set 1 -50 = -48 | shift 0 = NOT | x = 0 -50 0 | count 11 = 6
            set 0 -1 = 0 | set 1 48 = -50 | shift 0 = 2401 | x = -99 -50 0 | set 0 0 = -99 | set 1 50 = -50 | shift 0 = NOT
            """);
        edge("SHIFTED BACK, beyond at the sixth POINT alone", """
            tell "quiver 6;arrow 4 5;row 0 0 0 0 50 0" | quiver = 3 | set 5 -50 = 0 | shift 0 = NOT | set 5 -49 = -50 | shift 0 = 7351
            x = 0 0 0 0 49 99
            """);
        edge("SHIFTED ON: of five POINTS, of six, all of them", """
            tell "quiver 6;arrow 0 1;arrow 1 2;arrow 2 3;arrow 3 4;arrow 4 5;row 0 0 0 0 0 1" | quiver = 7 | shift 1 = 1 | x = 0 0 0 0 1 0
            shift 1 = 1 | shift 1 = 1 | shift 1 = 1 | shift 1 = 1 | x = 1 0 0 0 0 0 | shift 1 = 1 | x = -1 -1 -1 -1 -1 -1 | shift 0 = 1 | x = 1 0 0 0 0 0
            tell "quiver 5;arrow 4 3;arrow 3 2;arrow 2 1;arrow 1 0;row 1 0 0 0 0" | quiver = 6 | shift 1 = 1 | x = 0 1 0 0 0
            shift 1 = 1 | shift 1 = 1 | shift 1 = 1 | x = 0 0 0 0 1 | shift 1 = 1 | x = -1 -1 -1 -1 -1
            """);
        edge("SHIFTED ON, beyond at the sixth POINT alone", """
            tell "quiver 6;arrow 5 4;row 0 0 0 0 50 0" | quiver = 3 | set 5 -50 = 0 | shift 1 = NOT | set 5 -49 = -50 | shift 1 = 7351
            x = 0 0 0 0 49 99
            """);
        edge("SHIFTED: one POINT by itself", "tell \"quiver 1;row 99\" | quiver = 2 | shift 0 = 9801 | x = -99 | shift 1 = 9801 | x = 99");
        edge("SHIFTED BACK then ON is nothing, by RIGHT ORDER behind a turn", """
            put 0 1 = 0 | put 1 2 = 1 | set 0 1 = 0 | turn 2 = 0 | shift 0 = 1 | x = 0 1 1 | shift 1 = 1 | x = 1 0 0
            """);
    }

    private static void network() {
        edge("TAU: none, if it is PROJECTIVE; STEPS 0; FOOT that POINT; no MESH", """
            put 0 1 = 0 | place 1 1 = NONE | place 1 2 = 0 | place 1 3 = 1 | place 1 4 = NONE | place 3 1 = NONE | place 3 2 = 0 | place 3 3 = 0
            place 3 4 = NONE | place 0 1 = 1 | place 0 2 = 1 | place 0 3 = 1 | place 0 4 = 2 | place 0 5 = 0 | place 1 5 = NONE | place 3 5 = 1
            """);
        edge("TAU may be the first ROOT, number 0", """
            put 1 0 = 0 | place 1 1 = 0 | place 1 2 = 1 | place 1 3 = 0 | place 1 4 = 2 | place 0 1 = NONE | place 0 4 = NONE | place 0 3 = 0
            """);
        edge("a POINT by itself: PROJECTIVE and INJECTIVE of itself", "place 2 0 = 1 | place 2 1 = NONE | place 2 2 = 0 | place 2 3 = 2 | place 2 4 = NONE | place 2 5 = 2 | count 5 = 0");
        edge("DEEPEST: the most STEPS of all", """
            tell "quiver 6;arrow 0 1;arrow 1 2;arrow 2 3;arrow 3 4;arrow 4 5" | quiver = 6 | count 5 = 5 | place 0 2 = 5 | place 5 2 = 0
            tell "quiver 6;arrow 1 0" | quiver = 2 | count 5 = 1
            """);
        edge("HOM and EXT 0 at least", """
            put 0 1 = 0 | between 0 1 2 = -1 | between 0 1 0 = 0 | between 0 1 1 = 1 | between 1 3 2 = 1 | between 1 3 0 = 1 | between 1 3 1 = 0
            between 0 2 2 = 0 | between 0 2 0 = 0 | between 0 2 1 = 0 | between 3 3 0 = 1 | between 3 3 1 = 0 | between 3 3 2 = 1
            """);
        edge("HOM and EXT of two and more", """
            tell "quiver 4;arrow 1 0;arrow 2 0;arrow 3 0" | quiver = 4 | between 0 11 0 = 2 | between 0 11 2 = 2 | between 11 0 2 = -1
            between 11 0 0 = 0 | between 11 0 1 = 1
            """);
        edge("what: the last and the first beyond", """
            place 0 5 = 0 | place 0 6 = OUTSIDE | place 0 -1 = OUTSIDE | between 0 0 2 = 1 | between 0 0 3 = OUTSIDE | between 0 0 -1 = OUTSIDE
            point 0 5 = 0 | point 0 6 = OUTSIDE | point 0 -1 = OUTSIDE | put 0 1 = 0 | arrow 0 1 = 1 | arrow 0 2 = OUTSIDE | arrow 0 -1 = OUTSIDE
            count 12 = 0 | count 13 = OUTSIDE | count -1 = OUTSIDE | shift 1 = 0 | shift 2 = OUTSIDE | shift -1 = OUTSIDE
            shelf 0 = 0 | lay 0 = 1 | euler 0 2 = 0 | euler 0 3 = OUTSIDE | euler 0 -1 = OUTSIDE
            """);
    }

    private static void sums() {
        String three = "tell \"quiver 3;arrow 0 1;arrow 1 2;row ";
        edge("SUMS: x 0 in one way", "sums = 1 | put 0 1 = 0 | sums = 1 | tell \"quiver 1\" | quiver = 1 | sums = 1");
        edge("SUMS: below 0 somewhere: in none", """
            set 0 -1 = 0 | sums = 0 | set 0 0 = -1 | set 2 -1 = 0 | sums = 0 | set 0 99 = 0 | sums = 0 | set 2 0 = -1 | sums = 1
            put 0 1 = 0 | set 1 -99 = 0 | sums = 0 | set 1 99 = -99 | sums = 100
            """);
        edge("SUMS: 9997", three + "32 39 34\" | quiver = 4 | sums = 9997");
        edge("SUMS: 9999", three + "23 62 40\" | quiver = 4 | sums = 9999");
        edge("SUMS: 10000 ways are answered as 9999", three + "23 63 40\" | quiver = 4 | sums = 9999");
        edge("SUMS: 10001 ways are answered as 9999", three + "24 46 44\" | quiver = 4 | sums = 9999");
        edge("SUMS: as many as there can be", "tell \"quiver 6;arrow 0 1;arrow 1 2;arrow 2 3;arrow 3 4;arrow 2 5;row 99 99 99 99 99 99\" | quiver = 7 | sums = 9999");
        edge("SUMS: not FINITE, even if x is 0 or below", "put 0 1 = 0 | put 0 1 = 1 | sums = NOT | set 0 -1 = 0 | sums = NOT");
        edge("SUMS: what is once there, and each as often as one likes", """
            put 0 1 = 0 | set 0 1 = 0 | sums = 1 | set 1 1 = 0 | sums = 2 | set 0 2 = 1 | sums = 2 | set 1 2 = 1 | sums = 3 | set 2 99 = 0 | sums = 3
            """);
    }

    private static void foretold() {
        edge("what is foretold changes nothing", """
            tell "arrow 0 1;arrow 1 2;row 2 3 2" | quiver = 3 | set 0 3 = 2
            sums = 16 | find = NONE | turned 1 = 2 | count 2 = 7 | count 4 = 6 | place 5 4 = NONE | between 0 5 0 = 0 | root 5 1 = 1 | paths 0 2 = 1
            x = 3 3 2 | arrows = 01 12 | count 11 = 1 | undo = 0 | x = 2 3 2
            """);
    }

    private static void shelves() {
        edge("SHELVES 0 .. 2 are missing at first", """
            lay 0 = NULL | lay 1 = NULL | lay 2 = NULL | draw 2 = NULL | add 2 = NULL | euler 2 0 = NULL | drop 2 = NULL | count 10 = 0
            shelf -1 = UNKNOWN | shelf 3 = UNKNOWN | lay 3 = UNKNOWN | lay -1 = UNKNOWN | draw 3 = UNKNOWN | draw -1 = UNKNOWN
            add 3 = UNKNOWN | add -1 = UNKNOWN | euler 3 0 = UNKNOWN | euler -1 0 = UNKNOWN | drop 3 = UNKNOWN | drop -1 = UNKNOWN
            """);
        edge("a SHELF has 0 ROWS", "shelf 0 = 0 | shelf 2 = 0 | draw 0 = EMPTY | add 2 = EMPTY | euler 2 2 = EMPTY | draw 1 = NULL | drop 0 = 0 | drop 0 = NULL");
        edge("a SHELF has 4 ROWS", """
            shelf 2 = 0 | set 0 1 | lay 2 = 1 | set 0 2 | lay 2 = 2 | set 0 3 | lay 2 = 3 | set 0 4 | lay 2 = 4 | set 0 5 | lay 2 = ROOM
            count 10 = 4 | draw 2 = 3 | x = 4 0 0 | lay 2 = 4 | lay 2 = ROOM | draw 2 = 3 | draw 2 = 2 | x = 3 0 0 | draw 2 = 1 | draw 2 = 0
            x = 1 0 0 | draw 2 = EMPTY | x = 1 0 0 | lay 2 = 1
            """);
        edge("ROOM is by SHELF", """
            shelf 0 | shelf 1 | shelf 2 | lay 0 | lay 0 | lay 0 | lay 0 = 4 | lay 0 = ROOM | lay 1 = 1 | lay 2 = 1 | lay 1 | lay 1 | lay 1 = 4
            lay 2 | lay 2 | lay 2 = 4 | lay 2 = ROOM | count 10 = 12 | drop 1 = 4 | count 10 = 8 | lay 1 = NULL | shelf 0 = 0 | count 10 = 4 | lay 0 = 1
            """);
        edge("SIZE: one POINT fewer, one more", """
            tell "quiver 5;row 1 2 3 4 5" | quiver = 2 | shelf 0 = 0 | lay 0 = 1 | tell "quiver 4" | quiver = 1
            draw 0 = SIZE | add 0 = SIZE | euler 0 0 = SIZE | x = 0 0 0 0 | count 10 = 1
            tell "quiver 6" | quiver = 1 | draw 0 = SIZE | add 0 = SIZE | euler 0 0 = SIZE | x = 0 0 0 0 0 0
            tell "quiver 5" | quiver = 1 | add 0 = 1 | euler 0 0 = 55 | draw 0 = 0 | x = 1 2 3 4 5
            """);
        edge("SIZE is of the last ROW alone", """
            shelf 0 | lay 0 = 1 | tell "quiver 2;row 8 9" | quiver = 2 | draw 0 = SIZE | lay 0 = 2 | set 0 0 = 8 | draw 0 = 1 | x = 8 9 | draw 0 = SIZE
            """);
        edge("SIZE: a ROW of one POINT, of six", """
            tell "quiver 6;row 1 2 3 4 5 6" | quiver = 2 | shelf 0 | lay 0 = 1 | tell "quiver 1;row 7" | quiver = 2 | draw 0 = SIZE | lay 0 = 2
            tell "quiver 6" | quiver = 1 | draw 0 = SIZE | tell "quiver 1" | quiver = 1 | draw 0 = 1 | x = 7
            tell "quiver 6" | quiver = 1 | draw 0 = 0 | x = 1 2 3 4 5 6
            """);
        edge("a ROW on a SHELF is another one than x", """
            set 0 5 | shelf 0 | lay 0 = 1 | set 0 6 | lay 0 = 2 | set 0 7 | draw 0 = 1 | x = 6 0 0 | set 0 8 | draw 0 = 0 | x = 5 0 0
            """);
    }

    private static void lastCall() {
        C.part("512 calls");
        Scene scene = new Scene();
        for (int i = 1; i < 512; i++) {
            int v = i % 199 - 99;
            scene.call("set", 0, v);
        }
        C.due("the 512th", scene.call("undo"), 7);
    }
}
