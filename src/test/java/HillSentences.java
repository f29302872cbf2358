/** Promises 1 to 8: a new object, THE TEXT, what is laid, and what can be asked of it. */
final class HillSentences extends Sentences {

    // ---- 1, a new object

    static void promise01TextIsEmpty() {
        says("As told; THE TEXT is empty.");
        anew().due("count 10", 0).due("fault", NONE).due("wipe", 0).due("write 114", 1);
        anew().counts(6, 7, 3, 6, 0, 0, 0, 0, 0, 0, 0);
        anew().refuses(NO, "undo", "back", "lay");
    }

    static void promise01FirstHill() {
        String text = "rynpybn;s2,5,1;h6;w0,0,1,3;w1,1,2,4;w2,2,3,2;w3,0,3,6;w0,3,4,5;w1,4,5,2;w3,5,0,9;a4,0;a3,1;a5,2;";
        says("at first " + text);
        anew().sameAs(laid(text).run("wipe"));
        anew().uppers("ypbypnn");
        // the lees can be begun at hour 0, and the goats at hour 1
        Oracle x = anew();
        int[][] ways = {{0, 0, 1, 3}, {1, 1, 2, 4}, {2, 2, 3, NONE}, {3, 0, 3, 6}, {0, 3, 4, 5}, {1, 4, 5, 2}, {3, 5, 0, 9}};
        for (int w = 0; w < ways.length; w++) for (int what = 0; what < 4; what++) x.due("way " + w + " " + what, ways[w][what]);
        x.run("pass 1").due("way 1 3", 8).due("way 2 3", 2).due("way 3 3", NONE).due("way 5 3", 4).due("way 6 3", NONE);
    }

    static void promise01HourAndWord() {
        says("At first it is hour 0, and the first WORD of the RING is UPPERMOST");
        anew().due("count 4", 0).due("upper 0", Y).due("word 0", Y);
        for (int w = Y; w <= B; w++) {
            laid("r" + "ynpb".charAt(w) + "ynpb;a0,0;").due("count 4", 0).due("upper 0", w).due("asker 0 3", w);
        }
    }

    static void promise01Calls() {
        says("An object is used for at most 512 calls after it has been made; what later calls answer is free.");
        Oracle x = anew();
        for (int i = 0; i < 511; i++) x.run("graze");
        // 512 is 85 times 6 and 2
        x.due("graze", P);
        Oracle y = anew();
        for (int i = 0; i < 511; i++) y.run("pass 48");
        // in 24576 hours 2 each, and 4915 more: 54067, which is 9011 times 6 and 1
        y.due("pass 48", N);
        for (int i = 0; i < 9; i++) behindTheEnd(y);
    }

    static void behindTheEnd(Oracle x) {
        String[] calls = {"write 114", "fault", "lay", "word 0", "way 2 3", "asker 0 3", "pass 48", "setOut 0 4",
            "foot 3", "graze",
            "undo", "upper 200", "round", "top 0", "read 0 0", "both 0 1 0", "hold 0", "first 0", "see 0 99",
                "laws 1", "from 0 99",
            "grazing 0 8 5 0", "year 5 60 1", "keep", "back", "count 4", "forget", "wipe"};
        for (String call : calls) x.askBehindTheEnd(call);
    }

    // ---- 2, write

    static void promise02Letter() {
        says("A letter (32 to 126, as in ASCII)");
        Oracle x = anew().refuses(BAD, "write 31", "write 127", "write 0", "write -1", "write " + MIN, "write " + MAX);
        // signs that would be an r if they were cut
        x.refuses(BAD, "write 370", "write 65650", "write -142");
        x.due("write 32", 1).due("write 33", 2).due("write 125", 3).due("write 126", 4);
        x.refuses(BAD, "write 31", "write 127").due("count 10", 4);
    }

    static void promise02Behind() {
        says("comes behind THE TEXT: how long it is");
        anew().due("write 104", 1).due("write 49", 2).due("fault", 0).due("write 59", 3).due("fault", NONE)
            .due("count 10", 3);
        written("h1;a0,1;").due("lay", 1).due("asker 0 0", 0).due("asker 0 1", N);
        written("h1;r").due("fault", 3).write("yn;").due("fault", NONE).due("count 10", 7);
        written("ryn;").due("wipe", 4).due("write 114", 1).due("fault", 0);
    }

    static void promise02Most() {
        says("A TEXT is letters (200 at most)");
        Oracle x = written("h1;".repeat(65) + "a0,0");
        x.due("count 10", 199).due("fault", 195).due("write 59", 200).due("fault", NONE);
        x.refuses(FULL, "write 32", "write 59", "write 126").due("count 10", 200).due("lay", 1);
        Oracle y = written("h1;".repeat(66) + "h1").due("count 10", 200).refuses(FULL, "write 59").due("fault", 198);
        y.due("wipe", 200).due("write 59", 1);
    }

    static void promise02Refused() {
        says("BAD; FULL.");
        Oracle x = written("~".repeat(199)).refuses(BAD, "write 31").due("write 126", 200);
        x.refuses(BAD, "write 31", "write 127").refuses(FULL, "write 126", "write 32");
    }

    // ---- 3, wipe

    static void promise03Wipe() {
        says("THE TEXT is empty: how long it was.");
        anew().due("wipe", 0).due("wipe", 0).due("count 10", 0);
        written("r").due("wipe", 1).due("wipe", 0);
        written("~".repeat(200)).due("wipe", 200).due("count 10", 0).due("write 126", 1).due("wipe", 1);
        written("x;").due("fault", 0).due("wipe", 2).due("fault", NONE);
        written("a0,0;").due("wipe", 5).due("lay", NO);
        // what was wiped does not close an ITEM that is written over it
        written("ryn;").due("wipe", 4).write("ryn").due("fault", 0);
    }

    static void promise03NothingElse() {
        says("THE TEXT is empty");
        busy(anew()).write("ryn;").due("wipe", 4).sameAs(busy(anew()));
        laid("h1;a0,0;").due("wipe", 8).due("count 0", 1).due("undo", NO).due("count 10", 0);
    }

    // ---- 4, fault

    static void promise04None() {
        says("FAULT. NONE.");
        anew().refuses(NONE, "fault");
        sound("", "ryn;s1,24,0;h4;w0,0,1,1;a0,0;");
        busy(anew()).write("x").onlyAsks("fault");
        busy(anew()).write("ryn;").refuses(NONE, "fault");
    }

    static void promise04Place() {
        says("FAULT: the place (from 0 on) of the first letter of the first ITEM that is not so.");
        faulty(0, "x;", "s1,25,0;", "w0,0,1,13;", "ryn");
        faulty(3, "h1;h9;", "h1;w0,0,1,1;", "h1;a1,0;", "h1;ryb,;");
        faulty(4, "ryn;h9;w9,9,9,9;", "rbb;x;y;", "rpp;s12,1,1;ryn;");
        faulty(7, "h1;ryb;h9;a9,9;");
        Oracle last = written("h1;".repeat(65) + "ryn;").due("fault", NONE).write("r");
        last.due("count 10", 200).due("fault", 199);
    }

    static void promise04Items() {
        says("ITEMS one behind the other, each a letter, then what it tells, and a ; behind it");
        sound("ryn;", "h1;h2;h3;", "ryn;s1,1,1;h4;w0,0,1,1;a0,0;", "s1,1,1;ryn;", "a0,0;w0,0,1,1;ryn;s1,1,1;");
        faulty(0, ";", " ", "0", "x;", "R;", "Ryn;", "H1;", "q1;", "i1;", "t1,1,1;", "b0,0;", "v0,0,1,1;",
            "x0,0,1,1;", "g1;");
        faulty(0, "r", "s", "h", "w", "a", "r;", "s;", "h;", "w;", "a;", "ryn", "s1,1,1", "h1", "w0,0,1,1", "a0,0");
        faulty(0, "ryn:", "h1,", "h1 ;", " h1;", "h 1;", "h1h2;", "ryn,;", "rynh1;", "a0,0a0,0;", "s1,1,1s1,1,1;",
            "w0,0,1,1w0,0,1,1;");
        faulty(4, "ryn;;", "ryn; ", "ryn; h1;", "ryn;ryn", "ryn;h1");
    }

    static void promise04Numbers() {
        says("(numbers: one or two figures, parted by ,)");
        sound("h8;", "h08;", "h01;", "s0,1,0;", "s00,01,00;", "s09,09,09;", "s9,9,9;", "s11,24,11;", "s10,10,10;");
        sound("w00,00,01,01;", "w3,3,2,12;", "a00,00;", "a03,03;");
        faulty(0, "h;", "h008;", "h000;", "h-1;", "h+1;", "h1.;", "hx;", "h/;", "h:;", "h1/;", "h1:;");
        faulty(0, "s,1,1;", "s1,,1;", "s1,1,;", "s1,1;", "s1;", "s1,1,1,1;", "s1.1.1;", "s1;1;1;", "s1 1 1;",
            "s1, 1,1;", "s111;");
        faulty(0, "s001,1,1;", "s1,001,1;", "s1,1,001;", "s-1,1,1;", "s/,1,1;", "s1,:,1;");
        faulty(0, "w0,0,1;", "w0,0,1,1,1;", "w,0,1,1;", "w0,,1,1;", "w0,0,,1;", "w0,0,1,;", "w000,0,1,1;",
            "w0,0,1,001;", "w0011;");
        faulty(0, "a0;", "a,0;", "a0,;", "a0,0,0;", "a000,0;", "a0,000;", "a00;", "a0-0;");
    }

    static void promise04Ring() {
        says("rAB.. the WHEEL is a RING of 2 to 12 WORDS, by letters y (YES), n (NO), p (PERHAPS), b (the BLANK)");
        sound("ryn;", "ryy;", "rbb;", "rynp;", "rynpbynpbynp;", "rynpbynpbynpb;", "rbbbbbbbbbbbb;");
        faulty(0, "r;", "ry;", "rb;", "rynpbynpbynpby;", "ryyyyyyyyyyyyyyy;");
        faulty(0, "rYn;", "ryN;", "rynx;", "rxyn;", "ryn1;", "r0,1;", "ryno;", "ra;", "rnm;", "ryz;", "rpq;", "rcb;",
            "ryn ;");
    }

    static void promise04Law() {
        says("sS,E,X it turns S (0 to 11) places in an hour, X (0 to 11) more, if the hour is 0 modulo E (1 to 24) behind it");
        sound("s0,1,0;", "s0,24,0;", "s11,1,11;", "s11,24,11;", "s0,1,11;", "s11,1,0;");
        faulty(0, "s12,1,0;", "s99,1,0;", "s0,0,0;", "s0,00,0;", "s0,25,0;", "s0,99,0;", "s0,1,12;", "s0,1,99;");
    }

    static void promise04Places() {
        says("hN there are N (1 to 8) PLACES");
        sound("h1;", "h2;", "h7;", "h8;");
        faulty(0, "h0;", "h00;", "h9;", "h10;", "h18;", "h99;");
    }

    static void promise04Top() {
        says("PLACES, 0 the top, 1, ..");
        laid("h8;a0,0;a1,0;a7,0;").due("asker 0 3", Y).due("asker 1 3", NONE).due("asker 2 3", NONE)
            .due("count 6", 1).due("top 0", 0);
        laid("h1;a0,0;").due("count 6", 1);
    }

    static void promise04PlacesFirst() {
        says("no other ITEM ahead of it but h, r, s");
        sound("h2;h3;", "ryn;h3;", "s1,1,1;h3;", "h2;ryn;s1,1,1;h3;w0,0,1,1;a0,0;");
        faulty(9, "w0,0,1,1;h4;", "w0,0,1,1;h8;");
        faulty(5, "a0,0;h4;", "a0,0;h8;a7,0;");
        faulty(9, "a0,0;ryn;h4;");
        faulty(16, "w0,0,1,1;s1,1,1;h4;");
        faulty(14, "w0,0,1,1;a0,0;h4;", "a0,0;w0,0,1,1;h4;");
    }

    static void promise04PlacesWithout() {
        says("4 without");
        sound("w0,3,0,1;", "w0,0,3,1;", "a3,0;");
        faulty(0, "w0,4,0,1;", "w0,0,4,1;", "a4,0;");
    }

    static void promise04LastPlaces() {
        says("of several the last one counts");
        sound("h2;h8;w0,7,0,1;", "h2;h8;a7,0;", "h8;h2;w0,1,0,1;");
        faulty(6, "h8;h2;w0,2,0,1;", "h8;h2;w0,0,2,1;", "h8;h2;a2,0;", "h2;h8;a8,0;");
    }

    static void promise04Way() {
        says("wK,A,B,D a WAY of KIND K (0 STEPS, 1 STAIR, 2 GOATS, 3 LEE) between PLACES A and B (unlike) of D (1 to 12) hours");
        sound("w0,0,1,1;", "w1,0,1,1;", "w2,0,1,1;", "w3,0,1,1;", "w0,1,0,12;", "w0,0,3,1;", "w0,3,0,1;", "w0,2,3,6;");
        faulty(0, "w4,0,1,1;", "w5,0,1,1;", "w9,0,1,1;", "w99,0,1,1;");
        faulty(0, "w0,0,0,1;", "w0,3,3,1;", "w0,01,1,1;", "w0,4,1,1;", "w0,1,4,1;", "w0,4,5,1;", "w0,99,1,1;",
            "w0,1,99,1;");
        faulty(0, "w0,0,1,0;", "w0,0,1,00;", "w0,0,1,13;", "w0,0,1,99;");
        sound("h8;w0,7,0,1;", "h8;w0,0,7,1;", "h2;w0,1,0,1;");
        faulty(3, "h8;w0,8,0,1;", "h8;w0,0,8,1;", "h2;w0,2,0,1;", "h1;w0,0,0,1;", "h1;w0,0,1,1;", "h8;w0,7,7,1;");
    }

    static void promise04MostWays() {
        says("hours; 10 at most, 0, 1, ..");
        String way = "w0,0,1,1;";
        sound(way.repeat(9), way.repeat(10), way.repeat(10) + "ryn;a0,0;");
        faulty(90, way.repeat(11), way.repeat(12), way.repeat(11) + "x;");
        faulty(95, way.repeat(5) + "a0,0;" + way.repeat(6));
        Oracle x = laid("h8;" + way.repeat(9) + "w3,7,6,12;a0,0;").due("count 1", 10);
        x.due("way 9 0", 3).due("way 9 1", 7).due("way 9 2", 6).due("way 8 2", 1);
    }

    static void promise04Asker() {
        says("aP,W an ASKER in PLACE P who wants WORD W (0 YES, 1 NO, 2 PERHAPS, 3 the BLANK)");
        sound("a0,0;", "a3,3;", "a0,3;", "a3,0;", "h8;a7,3;", "h1;a0,0;");
        faulty(0, "a4,0;", "a99,0;", "a0,4;", "a0,9;", "a0,99;");
        faulty(3, "h8;a8,0;", "h1;a1,0;", "h3;a3,0;");
    }

    static void promise04MostAskers() {
        says("; 4 at most, 0, 1, ..");
        sound("a0,0;".repeat(3), "a0,0;".repeat(4), "a0,0;".repeat(4) + "w0,0,1,1;ryn;");
        faulty(20, "a0,0;".repeat(5), "a0,0;".repeat(6), "a0,0;".repeat(5) + "x;");
        Oracle x = laid("a0,0;a1,1;a2,2;a3,3;").due("count 2", 4);
        for (int a = 0; a < 4; a++) x.due("asker " + a + " 0", a).due("asker " + a + " 1", a);
    }

    // ---- 5, lay

    static void promise05HowMany() {
        says("LAID: how many PLACES");
        written("a0,0;").due("lay", 4).due("count 0", 4);
        for (int n = 1; n <= 8; n++) written("h" + n + ";a0,0;").due("lay", n).due("count 0", n);
        written("h8;h1;a0,0;").due("lay", 1);
        written("a0,0;").due("lay", 4).due("lay", 4);
    }

    static void promise05Refused() {
        says("THE TEXT stays. NO.");
        busy(anew()).refuses(NO, "lay", "lay");
        full().refuses(NO, "lay");
    }

    static void promise05NotLaid() {
        says("LAID is a TEXT without FAULT, of an ASKER at least (NO else");
        busy(written("ryn;s1,1,1;h8;w0,0,7,1;")).refuses(NO, "lay");
        busy(written("h8;a7,0;x")).refuses(NO, "lay");
        busy(written("rb;a0,0;")).refuses(NO, "lay");
        busy(written("h2;a0,0;a1,1")).refuses(NO, "lay").write(";").due("lay", 2).counts(2, 0, 2, 2, 0, 0, 1);
        busy(written("a0,0;".repeat(5))).refuses(NO, "lay");
        written("h8;w0,0,7,1;").due("lay", NO).write("a7,0;").due("lay", 8).counts(8, 1, 1, 2);
        laid("h3;rbpn;a2,1;").write("h").refuses(NO, "lay").counts(3, 0, 1, 3).uppers("bpn");
        // what a faulty text told is not laid by the next one
        written("rbb;s3,3,3;w0,0,1,1;a0,0;x").due("lay", NO).run("wipe").write("a1,1;").due("lay", 4)
            .counts(4, 0, 1, 2).uppers("ynyn");
    }

    static void promise05Hour() {
        says("hour 0");
        Oracle x = laid("rynpb;s1,2,0;w1,0,1,3;a0,0;").run("pass 47").due("way 0 3", 6).due("upper 0", B);
        x.due("lay", 4).due("count 4", 0).due("way 0 3", 3).uppers("ynpby");
    }

    static void promise05NoFoot() {
        says("no FOOT");
        Oracle x = laid("rynpb;s1,24,0;a0,0;").run("foot 12, pass 1").due("lay", 4).due("count 5", 0)
            .uppers("ynpb").due("round", 4);
        x.due("foot 12", Y).due("count 5", 12);
        laid("a0,0;").run("foot 1, pass 2").due("lay", 4).due("foot 1", Y);
    }

    static void promise05NothingSeen() {
        says("nothing SEEN");
        Oracle x = laid("ryn;a0,0;").run("see 1 0, see 1 0, see 1 0, see 1 0, see 1 0, see 1 0").due("laws 0", 0);
        x.due("lay", 4).due("count 7", 0).due("laws 0", 288).due("forget", 0).due("see 0 0", 1).due("laws 0", 288);
    }

    static void promise05NothingUndone() {
        says("UNDONE");
        Oracle x = laid("ryn;a0,0;").run("graze, pass 3, pass 4").due("count 8", 3).due("lay", 4).due("count 8", 0);
        x.refuses(NO, "undo").run("pass 1").due("undo", 0).refuses(NO, "undo");
    }

    static void promise05NothingKept() {
        says("KEPT; THE TEXT stays");
        Oracle x = laid("h3;a0,0;").run("keep, pass 1, keep").due("lay", 3).due("count 9", 0).refuses(NO, "back");
        x.due("keep", 1).due("keep", 2).refuses(FULL, "keep");
        Oracle y = laid("h3;a0,0;").due("count 10", 8).refuses(NONE, "fault").due("lay", 3).due("count 10", 8);
        y.write("a1,1;").due("count 10", 13).due("lay", 3).due("count 2", 2);
    }

    static void promise05Askers() {
        says("an ASKER in PLACE P");
        Oracle x = laid("w0,1,2,5;w0,1,0,2;a1,0;a1,1;").run("setOut 0 0, setOut 1 1, pass 2").due("asker 1 3", Y)
            .due("lay", 4);
        x.due("asker 0 0", 1).due("asker 0 2", 0).due("asker 1 0", 1).due("asker 1 2", 0).due("count 6", 0);
    }

    static void promise05Without() {
        says("(yn without; of several such the last one counts)");
        Oracle x = laid("rbpbpb;s3,1,2;h8;w0,7,6,1;a7,0;").run("wipe").write("a1,1;").due("lay", 4);
        x.counts(4, 0, 1, 2).due("word 0", Y).due("word 1", N).refuses(NONE, "word 2");
        laid("rbbbb;rpn;a0,0;").due("count 3", 2).due("word 0", P).due("word 1", N).due("word 2", NONE);
        laid("rpn;rbbbb;a0,0;").due("count 3", 4).due("word 3", B);
        laid("rpn;a0,0;rbbb;").due("count 3", 3).due("word 0", B);
    }

    static void promise05LawWithout() {
        says("(1, 24, 0 without; of several such the last one counts)");
        laid("rnyyyyyyyyyyy;a0,0;").uppers("nyyyyyyyyyyynyyyyyyyyyyyn").due("upper 36", N).due("upper 48", N)
            .due("upper 192", N);
        laid("rynpb;s3,1,1;s2,24,0;a0,0;").uppers("ypypyp");
        laid("rynpb;s2,24,0;s0,2,1;a0,0;").uppers("yynnppbbyy");
        laid("rynpb;s2,24,0;a0,0;s1,24,0;").uppers("ynpby");
        // nothing is left of the laws of the hills that were laid before
        Oracle x = laid("rynpb;s3,1,2;a0,0;");
        for (int i = 0; i < 3; i++) {
            x.run("wipe").write("rynpb;a0,0;").due("lay", 4).uppers("ynpby").due("upper 23", B).due("upper 24", Y)
                .due("upper 200", Y);
            x.run("wipe").write("rynpb;s11,1,11;a0,0;").due("lay", 4).uppers("ypypyp");
        }
    }

    static void promise05PlacesWithout() {
        says("(4 without; no other ITEM ahead of it but h, r, s; of several the last one counts)");
        laid("a3,0;").due("count 0", 4);
        laid("h8;a7,0;").run("wipe").write("a3,0;").due("lay", 4).due("count 0", 4);
        laid("h8;h1;h3;a2,0;").due("count 0", 3);
    }

    // ---- 6, word

    static void promise06Ring() {
        says("The WORD in a place of the RING (0 first).");
        Oracle x = laid("rbpny;a0,0;").due("word 0", B).due("word 1", P).due("word 2", N).due("word 3", Y);
        x.run("pass 3, graze, foot 2").due("word 0", B).due("word 3", Y);
        laid("rynpbynpbynpb;a0,0;").due("word 11", B).due("word 10", P).due("word 0", Y);
    }

    static void promise06None() {
        says("NONE: there are not so many");
        for (int many = 2; many <= 12; many++) {
            Oracle x = laid("r" + "y".repeat(many - 1) + "b;a0,0;").due("word " + (many - 1), B)
                .due("word " + many, NONE);
            x.refuses(NONE, "word " + many, "word " + (many + 1), "word 12", "word 13", "word " + MAX);
        }
        laid("rynpbynpbynpb;a0,0;").run("wipe").write("rpp;a0,0;").due("lay", 4).due("word 1", P)
            .refuses(NONE, "word 2", "word 11");
    }

    static void promise06Bad() {
        says("; BAD.");
        busy(anew()).refuses(BAD, "word -1", "word -2", "word -12", "word " + MIN).due("word 0", Y);
    }

    // ---- 7, way

    static void promise07Told() {
        says("Of a WAY: KIND (what = 0), A (1), B (2)");
        Oracle x = laid("h8;w0,7,6,5;w1,6,7,12;w2,0,1,1;w3,5,2,9;a0,0;");
        int[][] want = {{0, 7, 6}, {1, 6, 7}, {2, 0, 1}, {3, 5, 2}};
        for (int w = 0; w < 4; w++) for (int what = 0; what < 3; what++) x.due("way " + w + " " + what, want[w][what]);
        x.onlyAsks("way 0 0", "way 1 1", "way 2 2", "way 0 3");
    }

    static void promise07Hours() {
        says("hours, if begun now (3; NONE: it can not be)");
        laid("w0,0,1,1;w0,0,1,12;a0,0;").due("way 0 3", 1).due("way 1 3", 12).run("pass 1").due("way 0 3", 1)
            .due("way 1 3", 12);
        laid("w2,0,1,1;a0,0;").refuses(NONE, "way 0 3").due("way 0 0", 2);
        laid("rny;w3,0,1,1;a0,0;").refuses(NONE, "way 0 3").due("way 0 0", 3);
    }

    static void promise07Stair() {
        says("a STAIR twice as many, if it is an odd hour when it is begun");
        Oracle x = laid("w1,0,1,1;w1,0,1,12;a0,0;");
        for (int hour = 0; hour < 5; hour++) {
            x.due("way 0 3", hour % 2 == 0 ? 1 : 2).due("way 1 3", hour % 2 == 0 ? 12 : 24).run("pass 1");
        }
    }

    static void promise07Goats() {
        says("one of GOATS can not be begun, if the hour is 0 modulo 3");
        Oracle x = laid("w2,0,1,12;a0,0;");
        for (int want : new int[] {NONE, 12, 12, NONE, 12, 12, NONE}) x.due("way 0 3", want).run("pass 1");
        laid("w2,0,1,12;a0,0;").run("pass 48").due("way 0 3", NONE).run("pass 1").due("way 0 3", 12);
    }

    static void promise07Lee() {
        says("a LEE, if another WORD than YES is UPPERMOST");
        for (int w = Y; w <= B; w++) {
            Oracle x = laid("r" + "ynpb".charAt(w) + "yn;s1,24,0;w3,0,1,12;a0,0;").due("way 0 3", w == Y ? 12 : NONE);
            x.run("pass 1").due("way 0 3", 12).run("graze").due("way 0 3", NONE);
        }
    }

    static void promise07Bad() {
        says("hours, if begun now (3; NONE: it can not be). BAD.");
        busy(anew()).refuses(BAD, "way -1 0", "way 7 0", "way 8 3", "way 10 0", "way 0 -1", "way 0 4", "way 6 4",
            "way 6 -1")
            .due("way 6 0", 3);
        anew().refuses(BAD, "way " + MIN + " 0", "way " + MAX + " 0",
            "way 0 " + MIN, "way 0 " + MAX, "way " + MAX + " " + MIN);
        laid("a0,0;").refuses(BAD, "way 0 0", "way 0 3", "way -1 0");
        laid("w0,0,1,1;a0,0;").due("way 0 0", 0).refuses(BAD, "way 1 0");
        laid("w0,0,1,1;".repeat(10) + "a0,0;").due("way 9 0", 0).due("way 9 3", 1)
            .refuses(BAD, "way 10 0", "way 10 3", "way -1 3");
    }

    // ---- 8, asker

    static void promise08Place() {
        says("Of an ASKER: PLACE (what = 0; that to which he is under way)");
        Oracle x = laid("h8;w0,7,0,2;a7,0;a0,0;").due("asker 0 0", 7).due("asker 1 0", 0).run("setOut 0 0, setOut 1 0");
        x.due("asker 0 0", 0).due("asker 1 0", 7).run("pass 1").due("asker 0 0", 0).run("pass 1")
            .due("asker 0 0", 0).due("asker 1 0", 7);
        x.onlyAsks("asker 0 0", "asker 0 1", "asker 0 2", "asker 0 3");
    }

    static void promise08Wish() {
        says("what he wants (1)");
        Oracle x = laid("w0,0,1,1;a0,3;a1,2;a2,1;a3,0;").run("setOut 0 0, pass 2");
        for (int a = 0; a < 4; a++) x.due("asker " + a + " 1", 3 - a);
    }

    static void promise08Left() {
        says("hours till he is there (2)");
        Oracle x = laid("w1,0,1,12;a0,0;").due("asker 0 2", 0).run("pass 1, setOut 0 0");
        for (int left = 24; left >= 1; left--) x.due("asker 0 2", left).run("pass 1");
        x.due("asker 0 2", 0).run("pass 48").due("asker 0 2", 0);
        laid("w0,0,1,12;a0,0;").run("setOut 0 0, pass 48").due("asker 0 2", 0);
    }

    static void promise08Reads() {
        says("Who is on top, not under way, READS what is UPPERMOST.");
        Oracle x = laid("rbpny;s1,24,0;a0,0;");
        for (int want : new int[] {B, P, N, Y, B}) x.due("asker 0 3", want).run("pass 1");
        x.run("graze").due("asker 0 3", N).run("foot 3, pass 3").due("asker 0 3", N);
    }

    static void promise08NotOnTop() {
        says("what he READS now (3; NONE: he is not on top)");
        Oracle x = laid("w0,1,0,2;w0,1,2,1;a1,0;a0,0;a2,0;").refuses(NONE, "asker 0 3", "asker 2 3")
            .due("asker 1 3", Y);
        x.run("setOut 0 0, setOut 1 0, pass 1").refuses(NONE, "asker 0 3", "asker 1 3");
        x.run("pass 1").due("asker 0 3", Y).refuses(NONE, "asker 1 3");
    }

    static void promise08Bad() {
        says("(3; NONE: he is not on top). BAD.");
        busy(anew()).refuses(BAD, "asker -1 0", "asker 3 0", "asker 4 0", "asker 0 -1", "asker 0 4", "asker 2 4",
            "asker 3 4")
            .due("asker 2 1", P);
        anew().refuses(BAD, "asker " + MIN + " 0", "asker " + MAX + " 3", "asker 0 " + MIN, "asker 0 " + MAX);
        laid("a0,0;").due("asker 0 0", 0).refuses(BAD, "asker 1 0", "asker 1 3");
        laid("a0,0;".repeat(4)).due("asker 3 3", Y).refuses(BAD, "asker 4 0", "asker 4 3", "asker -1 3");
    }
}
