/** Promises 21 to 24: what was seen, by which laws it could be, and from where one came. */
final class SeenSentences extends Sentences {

    // ---- 21, see

    static void promise21HowMany() {
        says("SEEN: how many. BAD; FULL.");
        Oracle x = anew().due("see 0 0", 1).due("count 7", 1).due("see 3 99", 2).due("see 3 99", 3)
            .due("see 3 99", 4).due("see 1 1", 5);
        x.due("see 2 50", 6).due("count 7", 6).refuses(FULL, "see 0 0", "see 3 99", "see 2 50").due("count 7", 6);
        x.due("forget", 6).due("see 0 0", 1);
    }

    static void promise21Bounds() {
        says("SEEN (6 at most) is that W was UPPERMOST t (0 to 99) hours from how it stands when that is asked.");
        busy(anew()).refuses(BAD, "see -1 0", "see 4 0", "see 0 -1", "see 0 100", "see 4 100", "see " + MIN + " 0",
            "see 0 " + MAX);
        anew().refuses(BAD, "see " + MAX + " 0", "see 0 " + MIN).due("see 0 0", 1).due("see 3 0", 2)
            .due("see 0 99", 3).due("see 3 99", 4);
        full().refuses(BAD, "see 4 0", "see 0 100").refuses(FULL, "see 0 0");
    }

    static void promise21Each() {
        says("SEEN (6 at most)");
        // each of the six counts, the last one too
        for (int odd = 0; odd < 6; odd++) {
            Oracle x = laid("ryn;a0,0;");
            for (int i = 0; i < 6; i++) x.run(i == odd ? "see 1 0" : "see 0 0");
            x.due("laws 0", 0);
        }
        laid("ryn;a0,0;").run("see 0 0, see 0 0, see 0 0, see 0 0, see 0 0, see 0 0").due("see 1 0", FULL)
            .due("laws 0", 288);
    }

    static void promise21WhenAsked() {
        says("hours from how it stands when that is asked");
        Oracle x = laid("ryn;s1,24,0;a0,0;").run("see 0 0").due("laws 0", 288).run("pass 1").due("laws 0", 0)
            .run("graze").due("laws 0", 288);
        x.run("undo").due("laws 0", 0).run("undo").due("laws 0", 288);
    }

    // ---- 22, forget

    static void promise22Forget() {
        says("Nothing is SEEN: how many were.");
        anew().due("forget", 0).due("forget", 0);
        anew().run("see 0 0").due("forget", 1).due("count 7", 0).due("forget", 0);
        Oracle x = laid("ryn;a0,0;").run("see 1 0, see 1 0, see 1 0, see 1 0, see 1 0, see 1 0").due("laws 0", 0)
            .due("forget", 6);
        x.due("count 7", 0).due("laws 0", 288).due("see 0 0", 1).due("laws 0", 288).due("forget", 1);
    }

    static void promise22NothingElse() {
        says("Nothing is SEEN");
        String calls = "setOut 2 6, pass 2, foot 6, keep, pass 1, graze";
        anew().run(calls).run("see 0 0, see 3 99").due("forget", 2).sameAs(anew().run(calls));
    }

    // ---- 23, laws

    static void promise23HowMany() {
        says("all that is SEEN would be so: how many; the first (by S, then E), as 100 S and E together; none");
        anew().due("laws 0", 288).due("laws 1", 1).onlyAsks("laws 0", "laws 1");
        Oracle x = laid("ryn;s1,24,0;a0,0;").run("see 1 1").due("laws 0", 144).due("laws 1", 101).run("see 0 2")
            .due("laws 0", 144);
        x.run("see 0 1").due("laws 0", 0).refuses(NONE, "laws 1").due("laws 0", 0);
        busy(anew()).refuses(NONE, "laws 1");
    }

    static void promise23EachLaw() {
        says("LAWS: of all S (0 to 11), E (1 to 24) those by which");
        onlyLaw("bpnypyyyybnb", 1, 1124, "see 0 68, see 0 29, see 1 98, see 0 57, see 1 64, see 0 71");
        onlyLaw("npnnbpybynpy", 6, 1, "see 0 93, see 1 92, see 0 65, see 0 55, see 1 86, see 0 25");
        onlyLaw("ppbbybnbbnpp", 2, 1101, "see 1 57, see 2 85, see 1 66, see 3 14, see 1 21, see 3 67");
        onlyLaw("bpbybypbnnny", 4, 24, "see 1 70, see 1 71, see 3 30, see 1 52, see 1 66, see 3 45");
    }

    private static void onlyLaw(String ring, int x, int law, String seen) {
        laid("r" + ring + ";s5,5," + x + ";a0,0;").run(seen).due("laws 0", 1).due("laws 1", law);
    }

    static void promise23AsTold() {
        says("turned the WHEEL by these and X as told from now on (the hour, what is UPPERMOST, a FOOT being as they are)");
        // X: no, 1 or 2 places more in hour 1 by E of 1
        laid("rynpb;s0,24,0;a0,0;").run("see 1 1").due("laws 0", 72).due("laws 1", 101);
        laid("rynpb;s0,24,1;a0,0;").run("see 1 1").due("laws 0", 72).due("laws 1", 1).run("see 2 2")
            .due("laws 0", 3 + 3 * 22);
        laid("rynpb;s0,24,2;a0,0;").run("see 1 1").due("laws 1", 102);
        // by the hour 24 behind it: 1, 2, 3, 4, 6, 8, 12, 24
        Oracle hour = laid("ryn;s0,24,1;a0,0;").run("pass 23, see 1 1").due("laws 0", 6 * 8 + 6 * 16).due("laws 1", 1);
        hour.run("see 1 2").due("laws 0", 6 * 7 + 6).due("laws 1", 2);
        laid("ryn;s1,24,0;a0,0;").run("see 1 0").due("laws 0", 0).run("graze").due("laws 0", 288).due("laws 1", 1);
        Oracle foot = laid("rynpb;s1,24,0;a0,0;").run("foot 3, see 0 3").due("laws 0", 288).run("see 1 4")
            .due("laws 0", 72);
        foot.due("laws 1", 101).run("pass 2, forget, see 0 1, see 1 2").due("laws 0", 72);
        laid("rynpb;s1,24,1;a0,0;").run("foot 1, see 1 2").due("laws 0", 3 * 2 + 3 * 22).due("laws 1", 1);
    }

    static void promise23Bad() {
        says("LAWS: how many (what = 0), the first (1; NONE). BAD.");
        busy(anew()).refuses(BAD, "laws -1", "laws 2", "laws " + MIN, "laws " + MAX);
        anew().refuses(BAD, "laws -1", "laws 2");
    }

    // ---- 24, from

    static void promise24Places() {
        says("FROM: PLACES (bits) from which, not under way, one can be on top behind t hours (0 to 99)");
        Oracle x = laid("ryy;h8;w0,7,0,12;w0,0,6,11;w0,5,6,1;w0,3,4,1;a3,0;").onlyAsks("from 0 12");
        x.due("from 0 0", 1).due("from 0 10", 1).due("from 0 11", 65).due("from 0 12", 65 + 32 + 128)
            .due("from 0 99", 65 + 32 + 128);
        laid("ryy;h1;a0,0;").due("from 0 0", 1).due("from 0 99", 1);
        // it is no matter where askers are, or that they are under way
        laid("ryy;w0,0,1,3;a0,0;").run("setOut 0 0").due("from 0 0", 1).due("from 0 2", 1).due("from 0 3", 3);
    }

    static void promise24Then() {
        says("if W is UPPERMOST then (none else)");
        Oracle x = laid("rynpb;s1,24,0;w0,0,1,2;w0,2,0,3;a3,0;").due("from 0 0", 1).due("from 1 0", 0)
            .due("from 2 0", 0).due("from 3 0", 0);
        x.due("from 1 1", 1).due("from 2 2", 3).due("from 1 2", 0).due("from 3 2", 0).due("from 3 3", 7)
            .due("from 2 3", 0).due("from 3 99", 7);
        x.due("from 0 99", 0).run("foot 12").due("from 0 12", 7).due("from 0 13", 0).due("from 1 13", 7);
    }

    static void promise24Ways() {
        says("one of GOATS can not be begun, if the hour is 0 modulo 3; a LEE, if another WORD than YES is UPPERMOST");
        Oracle x = laid("ryy;h3;w2,0,1,1;w1,2,0,2;a0,0;").due("from 0 1", 1).due("from 0 2", 7).run("pass 1")
            .due("from 0 1", 3);
        x.due("from 0 2", 3).due("from 0 3", 7);
        laid("ryn;s1,24,0;w3,1,0,1;w3,2,1,1;a0,0;").due("from 1 1", 3).due("from 0 2", 3).due("from 1 3", 7)
            .run("pass 1")
            .due("from 0 1", 1).due("from 1 2", 3).due("from 0 3", 3).due("from 1 4", 7);
    }

    static void promise24HourWhenBegun() {
        says("A WAY takes D hours either way, a STAIR twice as many, if it is an odd hour when it is begun");
        Oracle x = laid("ryy;s0,24,0;w2,1,0,1;w1,2,0,1;w0,3,2,2;a0,0;");
        for (int hour = 0; hour <= 6; hour++) {
            int now = 1 + (hour % 3 == 0 ? 0 : 2) + (hour % 2 == 0 ? 4 : 0);
            x.due("from 0 1", now).due("from 0 2", 7).due("from 0 3", hour % 2 == 0 ? 15 : 7).due("from 0 4", 15).run("pass 1");
        }
    }

    static void promise24LastHour() {
        says("one can be on top behind t hours (0 to 99)");
        laid("rnnnnnnny;s0,14,1;w3,1,0,1;w3,2,0,2;a1,0;").due("from 0 99", 3).due("from 0 98", 1).due("from 1 97", 1);
        laid("rynpb;s1,24,0;w0,1,0,1;a1,0;").due("from 3 99", 3).refuses(BAD, "from 3 100").due("from 2 98", 3);
    }

    static void promise24Bad() {
        says("FROM, as bits. BAD.");
        busy(anew()).refuses(BAD, "from -1 0", "from 4 0", "from 0 -1", "from 0 100", "from 4 100",
            "from " + MIN + " 0", "from 0 " + MAX);
        anew().refuses(BAD, "from " + MAX + " 0", "from 0 " + MIN).onlyAsks("from 3 0", "from 0 99");
    }
}
