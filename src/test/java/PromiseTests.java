// For each promise of the document ordinary calls, the edges that it names, and wrong
// calls. The answers that are due are reckoned by hand; the texts are small for that.
public final class PromiseTests {
    static final int BAD = -1, NO = -2, FULL = -3, NONE = -4;
    static final int Y = 0, N = 1, P = 2, B = 3;
    static final int MIN = Integer.MIN_VALUE, MAX = Integer.MAX_VALUE;

    static int wrong = 0, asked = 0, promise = 0;

    static void due(String call, int got, int want) {
        asked++;
        if (got != want) {
            wrong++;
            System.out.println("promise " + promise + ": " + call + " answered " + got + ", due is " + want);
        }
    }

    static OracleWheel written(String text) {
        OracleWheel x = new OracleWheel();
        for (char c : text.toCharArray()) x.write(c);
        return x;
    }

    static OracleWheel laid(String text) {
        OracleWheel x = written(text);
        if (x.lay() < 1) {
            wrong++;
            System.out.println("promise " + promise + ": not laid: " + text);
        }
        return x;
    }

    static void counts(OracleWheel x, int... want) {
        for (int what = 0; what < want.length; what++) due("count(" + what + ")", x.count(what), want[what]);
    }

    static void bad(int... got) {
        for (int i = 0; i < got.length; i++) due("wrong call " + i, got[i], BAD);
    }

    static void words(OracleWheel x, String want) {
        for (int t = 0; t < want.length(); t++) due("upper(" + t + ")", x.upper(t), "ynpb".indexOf(want.charAt(t)));
    }

    static void constants() {
        due("BAD", OracleWheel.BAD, -1);
        due("NO", OracleWheel.NO, -2);
        due("FULL", OracleWheel.FULL, -3);
        due("NONE", OracleWheel.NONE, -4);
    }

    static void newObject() {
        OracleWheel x = new OracleWheel();
        counts(x, 6, 7, 3, 6, 0, 0, 0, 0, 0, 0, 0);
        int[][] ways = {{0, 0, 1, 3}, {1, 1, 2, 4}, {2, 2, 3, NONE}, {3, 0, 3, 6}, {0, 3, 4, 5}, {1, 4, 5, 2}, {3, 5, 0, 9}};
        for (int w = 0; w < 7; w++) for (int i = 0; i < 4; i++) due("way " + w + " " + i, x.way(w, i), ways[w][i]);
        int[][] askers = {{4, 0}, {3, 1}, {5, 2}};
        for (int a = 0; a < 3; a++) for (int i = 0; i < 2; i++) due("asker " + a + " " + i, x.asker(a, i), askers[a][i]);
        int[] ring = {Y, N, P, Y, B, N};
        for (int k = 0; k < 6; k++) due("word " + k, x.word(k), ring[k]);
        words(x, "ypbypnn");
        due("undo", x.undo(), NO);
        due("back", x.back(), NO);
        due("lay", x.lay(), NO);
        due("fault", x.fault(), NONE);
        // two objects have nothing in common
        OracleWheel other = new OracleWheel();
        x.pass(5);
        x.write('r');
        counts(other, 6, 7, 3, 6, 0, 0, 0, 0, 0, 0, 0);
    }

    static void write() {
        OracleWheel x = new OracleWheel();
        bad(x.write(31), x.write(127), x.write(-1), x.write(MIN), x.write(MAX));
        due("nothing came", x.count(10), 0);
        for (int i = 1; i <= 200; i++) due("write", x.write(i % 2 == 0 ? 32 : 126), i);
        due("full", x.write(65), FULL);
        due("BAD ahead of FULL", x.write(31), BAD);
        due("still", x.count(10), 200);
    }

    static void wipe() {
        OracleWheel x = written("rny;a0,0;");
        due("wipe", x.wipe(), 9);
        due("wipe again", x.wipe(), 0);
        due("count", x.count(10), 0);
        due("write", x.write('q'), 1);
        due("fault", x.fault(), 0);
        due("wipe one", x.wipe(), 1);
        for (int i = 0; i < 200; i++) x.write('r');
        due("wipe all", x.wipe(), 200);
        due("write anew", x.write('r'), 1);
        due("what is laid stays", x.count(0), 6);
    }

    static void fault() {
        String[] sound = {"", "ryn;", "rynpbynpbynpb;", "rbb;ryn;", "s0,1,0;", "s11,24,11;", "s00,01,09;", "h1;", "h8;",
            "h08;", "h2;ryn;s1,1,1;h3;", "w0,0,1,1;", "w3,3,2,12;", "h8;w0,7,0,1;", "a0,0;", "a3,3;", "a0,0;a0,0;a0,0;a0,0;",
            "a0,0;ryn;s1,1,1;w0,0,1,1;", "h1;a0,3;"};
        for (String text : sound) due("sound " + text, written(text).fault(), NONE);
        String[] faulty = {"r;", "ry;", "rynpbynpbynpby;", "rynx;", "rYn;", "ryn", "ryn ;", "s12,1,0;", "s1,0,0;", "s1,25,0;",
            "s1,1,12;", "s1,1;", "s1,1,1,1;", "s,1,1;", "s001,1,1;", "s1,,1;", "s1,1,1", "s-1,1,1;", "h0;", "h9;", "h10;", "h;",
            "h4", "h4,4;", "w4,0,1,1;", "w0,0,0,1;", "w0,4,1,1;", "w0,1,4,1;", "w0,0,1,0;", "w0,0,1,13;", "w0,0,1;",
            "w0,0,1,1,1;", "a4,0;", "a0,4;", "a0;", "a0,0,0;", "a0,0", ";", " ", "x;", "R;", "r", "s", "h", "w", "a", "a0 ,0;"};
        for (String text : faulty) {
            due("faulty " + text, written(text).fault(), 0);
            due("faulty ryn;" + text, written("ryn;" + text).fault(), 4);
        }
        due("h behind w", written("w0,0,1,1;h4;").fault(), 9);
        due("h behind a", written("h2;a0,0;s1,1,1;h2;").fault(), 15);
        due("by the last h", written("h8;h2;w0,1,2,1;").fault(), 6);
        due("by the last h, asker", written("h2;h8;a7,0;h8;").fault(), 11);
        String way = "w0,0,1,1;";
        StringBuilder ways = new StringBuilder();
        for (int i = 0; i < 10; i++) ways.append(way);
        due("ten ways", written(ways.toString()).fault(), NONE);
        due("eleven ways", written(ways + way).fault(), 90);
        due("five askers", written("a0,0;a0,1;a0,2;a0,3;a0,0;").fault(), 20);
        due("the first of two", written("ryn;h9;w9,9,9,9;").fault(), 4);
        OracleWheel x = written("ryn;a0,0;");
        x.wipe();
        for (char c : "ryn".toCharArray()) x.write(c);
        due("what was wiped closes nothing", x.fault(), 0);
        x = written("h1;r");
        due("open item", x.fault(), 3);
        x.write('y');
        x.write('n');
        x.write(';');
        due("now it is so", x.fault(), NONE);
        counts(x, 6, 7, 3, 6);
        for (int i = 0; i < 65; i++) for (char c : "h1;".toCharArray()) x.write(c);
        due("full and open", x.count(10), 200);
        due("cut off by the end", written(text(66, "h1;") + "ry").fault(), 198);
    }

    static String text(int many, String item) {
        StringBuilder text = new StringBuilder();
        for (int i = 0; i < many; i++) text.append(item);
        return text.toString();
    }

    static void lay() {
        OracleWheel x = written("a2,3;");
        due("lay", x.lay(), 4);
        counts(x, 4, 0, 1, 2, 0, 0, 0, 0, 0, 0, 5);
        due("first word", x.word(0), Y);
        due("second word", x.word(1), N);
        words(x, "ynynynynynynynynynynynynynyn");
        due("wish", x.asker(0, 1), B);
        x = laid("rbp;rpbn;s1,2,0;s3,1,11;h3;h8;h2;w3,0,1,12;a1,1;");
        counts(x, 2, 1, 1, 3, 0, 0, 0, 0, 0, 0, 48);
        words(x, "pnbpnb");
        // all begins anew
        x.pass(3);
        x.graze();
        x.foot(5);
        x.see(0, 0);
        x.keep();
        due("lay again", x.lay(), 2);
        counts(x, 2, 1, 1, 3, 0, 0, 0, 0, 0, 0, 48);
        words(x, "pnbpnb");
        due("a foot again", x.foot(2), P);
        due("nothing kept", x.lay() + x.back(), 2 + NO);
        due("nothing undone", x.undo(), NO);
        // NO, and nothing changes
        x.pass(1);
        x.keep();
        x.see(1, 1);
        x.write('r');
        due("faulty", x.lay(), NO);
        counts(x, 2, 1, 1, 3, 1, 0, 0, 1, 1, 1, 49);
        due("still uppermost", x.upper(0), N);
        x.wipe();
        due("no asker", x.lay(), NO);
        for (char c : "ryn;h8;w0,1,2,3;".toCharArray()) x.write(c);
        due("no asker yet", x.lay(), NO);
        counts(x, 2, 1, 1, 3, 1, 0, 0, 1, 1, 1, 16);
        x.write('a');
        due("open", x.lay(), NO);
        for (char c : "7,0;".toCharArray()) x.write(c);
        due("now", x.lay(), 8);
        due("faulty text, way stays", x.way(0, 3), 3);
        // what a text does not tell is as without, whatever was laid before
        for (int i = 0; i < 3; i++) {
            x.wipe();
            for (char c : (i < 2 ? "rbbb;s2,2,1;h2;w0,0,1,1;a1,1;a1,2;" : "a1,1;").toCharArray()) x.write(c);
            due("lay anew", x.lay(), i < 2 ? 2 : 4);
        }
        counts(x, 4, 0, 1, 2);
        words(x, "ynynynynynynynynynynynynynyn");
    }

    static void word() {
        OracleWheel x = laid("rbpny;a0,0;");
        int[] want = {B, P, N, Y, NONE, NONE, NONE, NONE, NONE, NONE, NONE, NONE};
        for (int k = 0; k < 12; k++) due("word(" + k + ")", x.word(k), want[k]);
        x.pass(3);
        due("the ring stays", x.word(0), B);
        for (int k : new int[] {12, 13, 199, 627202352, MAX}) due("word(" + k + ")", x.word(k), NONE);
        bad(x.word(-1), x.word(-2), x.word(MIN));
        for (int k : new int[] {6, 11, 12, MAX}) due("at first word(" + k + ")", new OracleWheel().word(k), NONE);
        OracleWheel twelve = laid("ryyyyyyyyyyyb;a0,0;");
        due("the twelfth", twelve.word(11), B);
        due("behind the twelfth", twelve.word(12), NONE);
    }

    static void way() {
        OracleWheel x = laid("ryn;s1,24,0;h4;w0,2,1,5;w1,1,0,12;w2,3,0,7;w3,0,3,9;a3,0;");
        int[][] told = {{0, 2, 1}, {1, 1, 0}, {2, 3, 0}, {3, 0, 3}};
        // hours from 0 on: a stair is twice as long if it is odd, goats have none at 0, 3, 6, a lee stands by YES
        int[][] hours = {{5, 12, NONE, 9}, {5, 24, 7, NONE}, {5, 12, 7, 9}, {5, 24, NONE, NONE}, {5, 12, 7, 9},
            {5, 24, 7, NONE}, {5, 12, NONE, 9}};
        for (int h = 0; h < hours.length; h++) {
            for (int w = 0; w < 4; w++) {
                for (int i = 0; i < 3; i++) due("way " + w + " " + i, x.way(w, i), told[w][i]);
                due("way " + w + " at hour " + h, x.way(w, 3), hours[h][w]);
            }
            x.pass(1);
        }
        bad(x.way(-1, 0), x.way(4, 0), x.way(0, -1), x.way(0, 4), x.way(MAX, 0), x.way(MIN, 3), x.way(0, MAX), x.way(0, MIN));
        bad(laid("a0,0;").way(0, 0));
        for (int word = 1; word < 4; word++) {
            OracleWheel other = laid("r" + "ynpb".charAt(word) + "y;w3,0,1,2;a0,0;");
            due("lee by another word", other.way(0, 3), NONE);
            other.graze();
            due("lee by YES", other.way(0, 3), 2);
        }
    }

    static void asker() {
        OracleWheel x = laid("rpb;s1,24,0;h3;w0,1,0,2;a1,3;a0,2;a2,0;");
        int[][] want = {{1, B, 0, NONE}, {0, P, 0, P}, {2, Y, 0, NONE}};
        for (int a = 0; a < 3; a++) for (int i = 0; i < 4; i++) due("asker " + a + " " + i, x.asker(a, i), want[a][i]);
        x.setOut(0, 0);
        int[] under = {0, B, 2, NONE};
        for (int i = 0; i < 4; i++) due("under way " + i, x.asker(0, i), under[i]);
        x.pass(1);
        due("an hour is left", x.asker(0, 2), 1);
        due("not there yet", x.asker(0, 3), NONE);
        due("who is there reads", x.asker(1, 3), B);
        x.pass(1);
        due("there", x.asker(0, 2), 0);
        due("reads", x.asker(0, 3), P);
        x.pass(9);
        due("no less than none", x.asker(0, 2), 0);
        due("reads on", x.asker(0, 3), B);
        bad(x.asker(-1, 0), x.asker(3, 0), x.asker(0, -1), x.asker(0, 4), x.asker(MAX, 0), x.asker(0, MIN));
    }

    static void pass() {
        OracleWheel x = laid("rynpb;s1,3,2;w0,1,2,5;a1,0;");
        // by hours 1 to 6 it stands on 1, 2, 5, 6, 7, 10
        due("1", x.pass(1), N);
        due("2", x.pass(1), P);
        due("3", x.pass(1), N);
        due("4 to 6", x.pass(3), P);
        due("hour", x.count(4), 6);
        // sixteen times 3 in 48 hours
        due("48", x.pass(48), "ynpb".indexOf("ynpb".charAt((10 + 48 + 16 * 2) % 4)));
        due("hour", x.count(4), 54);
        bad(x.pass(0), x.pass(49), x.pass(-1), x.pass(MIN), x.pass(MAX));
        counts(x, 4, 1, 1, 4, 54, 0, 0, 0, 5);
        OracleWheel y = laid("rynpb;s0,24,1;a0,0;");
        due("23", y.pass(23), Y);
        due("24", y.pass(1), N);
        due("47", y.pass(23), N);
        due("48", y.pass(1), P);
    }

    static void setOut() {
        OracleWheel x = laid("ryn;s1,24,0;h4;w0,2,1,5;w1,1,0,3;w2,1,0,7;w3,1,3,9;a1,0;a2,0;");
        due("goats", x.setOut(0, 2), NO);
        due("not from there", x.setOut(1, 1), NO);
        due("backwards", x.setOut(0, 0), 5);
        due("to", x.asker(0, 0), 2);
        due("under way", x.setOut(0, 0), NO);
        due("under way to its other end", x.setOut(0, 1), NO);
        due("the other", x.setOut(1, 0), 5);
        due("to", x.asker(1, 0), 1);
        due("undone can be", x.count(8), 2);
        x.pass(5);
        due("lee", x.setOut(1, 3), NO);
        due("stair at an odd hour", x.setOut(1, 1), 6);
        x.undo();
        due("goats", x.setOut(1, 2), 7);
        x.undo();
        x.pass(1);
        due("goats at six", x.setOut(1, 2), NO);
        due("stair at an even hour", x.setOut(1, 1), 3);
        x.undo();
        due("lee by YES", x.setOut(1, 3), 9);
        bad(x.setOut(-1, 0), x.setOut(2, 0), x.setOut(0, -1), x.setOut(0, 4), x.setOut(1, 4), x.setOut(MAX, MIN));
        bad(laid("a0,0;").setOut(0, 0));
    }

    static void foot() {
        OracleWheel x = laid("rynpb;s1,2,0;a0,0;");
        bad(x.foot(0), x.foot(13), x.foot(-1), x.foot(MIN), x.foot(MAX));
        x.pass(1);
        due("foot", x.foot(3), N);
        due("on", x.count(5), 3);
        words(x, "nnnnpb");
        due("twice", x.foot(1), NO);
        due("BAD ahead of NO", x.foot(13), BAD);
        due("still", x.pass(2), N);
        due("left", x.count(5), 1);
        due("turns again", x.pass(2), P);
        due("off", x.count(5), 0);
        due("once", x.foot(1), NO);
        OracleWheel y = laid("rynpb;s1,2,1;a0,0;");
        due("foot", y.foot(12), Y);
        // of hours 13 to 16 two are even ones
        due("X under a foot is none", y.pass(12), Y);
        due("behind it", y.pass(4), P);
    }

    static void graze() {
        OracleWheel x = laid("rynpb;s1,24,0;a0,0;");
        due("graze", x.graze(), N);
        due("graze", x.graze(), P);
        due("hour", x.count(4), 0);
        x.foot(2);
        due("under a foot", x.graze(), B);
        due("around", x.graze(), Y);
        due("foot", x.pass(1), Y);
        due("undone can be", x.count(8), 6);
        due("undo", x.undo(), 5);
        due("undo", x.undo(), 4);
        due("back to b", x.upper(0), B);
    }

    static void undo() {
        OracleWheel x = laid("rynpb;s1,24,0;w0,0,1,5;a0,0;");
        due("nothing yet", x.undo(), NO);
        x.pass(3);
        x.setOut(0, 0);
        x.foot(4);
        x.graze();
        x.pass(2);
        due("two hours", x.undo(), 4);
        counts(x, 4, 1, 1, 4, 3, 4, 0, 0, 4);
        due("under way", x.asker(0, 2), 5);
        due("goats", x.undo(), 3);
        due("uppermost", x.upper(0), B);
        due("foot", x.undo(), 2);
        due("off", x.count(5), 0);
        due("and free again", x.foot(1), B);
        due("foot", x.undo(), 2);
        due("setting out", x.undo(), 1);
        due("on top", x.asker(0, 3), B);
        due("three hours are one", x.undo(), 0);
        counts(x, 4, 1, 1, 4, 0, 0, 1, 0, 0);
        due("no more", x.undo(), NO);
        for (int i = 0; i < 10; i++) x.pass(1);
        due("eight", x.count(8), 8);
        for (int i = 7; i >= 0; i--) due("undo", x.undo(), i);
        due("the last eight", x.count(4), 2);
        due("no more", x.undo(), NO);
        // what is refused, asked or seen is none of them
        x.foot(13);
        x.setOut(0, 1);
        x.see(0, 1);
        x.keep();
        x.year(1, 60, 0);
        x.hold(0);
        x.grazing(0, 8, 5, 0);
        due("none", x.undo(), NO);
        due("seen stays", x.count(7), 1);
    }

    static void upper() {
        OracleWheel x = laid("rynpb;s1,3,2;a0,0;");
        words(x, "ynpnpbpbyby");
        // 200 and 2 times 66
        due("200", x.upper(200), Y);
        due("199", x.upper(199), B);
        x.foot(3);
        words(x, "yyyynpnpb");
        x.pass(2);
        words(x, "yynpnpb");
        bad(x.upper(-1), x.upper(201), x.upper(MIN), x.upper(MAX));
        due("nothing changes", x.count(4), 2);
    }

    static void round() {
        due("two words", laid("ryn;a0,0;").round(), 2);
        due("all alike", laid("rnnn;s1,24,0;a0,0;").round(), 1);
        due("it stands", laid("rynp;s0,24,0;a0,0;").round(), 1);
        due("a whole turn", laid("rynp;s3,24,0;a0,0;").round(), 1);
        due("twice the same", laid("rynyn;s1,24,0;a0,0;").round(), 2);
        due("a word an E", laid("ryn;s0,24,1;a0,0;").round(), 48);
        due("the longest", laid("ryyyyyyyyyyyn;s0,24,1;a0,0;").round(), 288);
        due("back again", laid("rynpb;s2,1,2;a0,0;").round(), 1);
        OracleWheel x = laid("rynp;s1,24,0;a0,0;");
        due("three", x.round(), 3);
        x.foot(1);
        due("a foot is on", x.round(), NONE);
        x.pass(1);
        due("no more", x.round(), 3);
        x = laid("rnn;a0,0;");
        x.foot(1);
        due("a foot is on, whatever it changes", x.round(), NONE);
        due("at first", new OracleWheel().round(), 30);
    }

    static void top() {
        OracleWheel x = laid("ryn;s1,24,0;h5;w0,1,0,12;w0,2,1,5;w1,2,0,9;w3,3,0,2;w2,1,0,10;a1,0;a2,0;a3,0;a4,0;");
        due("goats an hour later", x.top(0), 11);
        due("stair by day", x.top(1), 9);
        due("lee", x.top(2), 2);
        due("no way", x.top(3), NONE);
        x.pass(1);
        due("goats at once", x.top(0), 10);
        due("wait for the stair", x.top(1), 10);
        due("wait for YES", x.top(2), 3);
        x.setOut(1, 1);
        due("on to where he is going, and the steps from there", x.top(1), 16);
        x.setOut(0, 0);
        due("under way to the top", x.top(0), 12);
        x.pass(12);
        due("there", x.top(0), 0);
        bad(x.top(-1), x.top(4), x.top(MIN), x.top(MAX));
        // YES comes but at hour 96, and with a foot of an hour at 120
        OracleWheel y = laid("rnnnny;s0,24,1;w3,1,0,3;w3,2,0,4;a1,0;a2,0;");
        due("99", y.top(0), 99);
        due("100", y.top(1), NONE);
        y.graze();
        y.pass(1);
        due("sooner", y.top(1), 71 + 4);
    }

    static void read() {
        OracleWheel x = laid("rynpy;s1,24,0;h3;w0,0,1,2;a1,0;a0,0;a2,0;");
        due("p at once", x.read(0, P), 2);
        due("y", x.read(0, Y), 3);
        due("n behind a turn", x.read(0, N), 5);
        due("no such word", x.read(0, B), NONE);
        due("there", x.read(1, Y), 0);
        due("there, n", x.read(1, N), 1);
        due("no way", x.read(2, Y), NONE);
        bad(x.read(-1, 0), x.read(3, 0), x.read(0, -1), x.read(0, 4), x.read(2, 4), x.read(MAX, MIN));
        x.setOut(0, 0);
        x.foot(6);
        due("under a foot", x.read(0, Y), 2);
        due("behind it", x.read(0, N), 7);
        OracleWheel y = laid("rnnnny;s0,24,1;w0,1,0,12;a1,0;");
        due("96", y.read(0, Y), 96);
        y = laid("rnnnnny;s0,24,1;w0,1,0,12;a1,0;");
        due("120", y.read(0, Y), NONE);
        // 99 hours and no more: the YES at hour 100 comes too late, an hour on it does not
        y = laid("rnnnnny;s0,20,1;w0,1,0,12;a1,0;");
        due("100", y.read(0, Y), NONE);
        y.pass(1);
        due("99", y.read(0, Y), 99);
    }

    static void both() {
        OracleWheel x = laid("rynpy;s1,24,0;h4;w0,0,1,2;w0,2,1,3;a1,0;a0,0;a2,0;a3,0;");
        due("one waits", x.both(0, 1, P), 2);
        due("the other way about", x.both(1, 0, P), 2);
        due("the later one", x.both(0, 2, N), 5);
        due("y", x.both(2, 1, Y), 7);
        due("no such word", x.both(0, 1, B), NONE);
        due("one has no way", x.both(0, 3, Y), NONE);
        due("nor has the other", x.both(3, 0, Y), NONE);
        bad(x.both(0, 0, Y), x.both(3, 3, Y), x.both(-1, 0, Y), x.both(0, 4, Y), x.both(4, 0, Y), x.both(0, -1, Y));
        bad(x.both(0, 1, -1), x.both(0, 1, 4), x.both(0, 3, 4), x.both(MIN, MAX, 0));
        x.pass(1);
        x.setOut(0, 0);
        due("under way", x.both(0, 1, B), NONE);
        due("under way", x.both(0, 1, Y), 2);
    }

    static void hold() {
        OracleWheel x = laid("rynpb;s1,24,0;h3;w0,0,1,5;a1,1;a1,0;a1,3;a2,0;");
        due("he gets it", x.hold(0), 0);
        due("an hour", x.hold(1), 1);
        due("two hours", x.hold(2), 2);
        due("no way", x.hold(3), NONE);
        due("nothing changes", x.count(5), 0);
        x.foot(1);
        due("it was put on, and is so", x.hold(1), 0);
        due("it was put on, and is not so", x.hold(0), NONE);
        x.pass(1);
        due("off again, but once", x.hold(1), NONE);
        due("off again, and so", x.hold(0), 0);
        bad(x.hold(-1), x.hold(4), x.hold(MIN), x.hold(MAX));
        OracleWheel y = laid("ryn;s1,1,1;h2;w0,0,1,12;a1,1;a0,0;a0,1;");
        // the ring stands by the law, and a foot does not help
        due("never", y.hold(0), NONE);
        due("on top", y.hold(1), 0);
        due("on top, another", y.hold(2), NONE);
        y = laid("ryn;s0,12,1;h2;w0,1,0,12;a1,0;a1,1;");
        due("all twelve hours, to hold off the one more", y.hold(0), 12);
        due("the one more is for him", y.hold(1), 0);
        y = laid("rppppppppppyn;s11,24,0;h2;w0,1,0,12;a1,1;");
        due("eleven", y.hold(0), 11);
        y = laid("rbyn;s1,24,0;h2;w3,1,0,1;a1,3;a1,1;");
        // he has to wait for YES for as long as the foot is on: he reads n whatever it is
        due("the foot moves TOP", y.hold(0), NONE);
        due("n", y.hold(1), 0);
        y = laid("rypn;s1,24,0;h3;w0,2,1,1;w3,1,0,1;a2,0;a2,2;a2,1;");
        // by no foot he waits for the lee and reads p in hour 4, by one hour in hour 2
        due("two hours, to read y in hour 2", y.hold(0), 2);
        due("p", y.hold(1), 0);
        due("never n", y.hold(2), NONE);
    }

    static void first() {
        OracleWheel x = laid("ryn;s1,24,0;h5;w0,1,2,9;w0,1,0,9;w1,1,0,9;w3,4,0,4;w2,3,0,3;a1,0;a3,0;a0,0;a4,0;");
        due("the lowest of two", x.first(0), 1);
        due("goats have to be waited for", x.first(1), 10);
        due("on top", x.first(2), NONE);
        due("the lee", x.first(3), 3);
        x.pass(1);
        due("steps still", x.first(0), 1);
        due("goats now", x.first(1), 4);
        due("the lee has to be waited for", x.first(3), 10);
        x.setOut(1, 4);
        due("under way", x.first(1), NONE);
        x = laid("h3;w0,1,2,2;w0,1,0,5;a2,0;");
        x.setOut(0, 0);
        x.pass(1);
        due("under way yet", x.first(0), NONE);
        x.pass(1);
        due("there", x.first(0), 1);
        bad(x.first(-1), x.first(4), x.first(MIN), x.first(MAX));
        OracleWheel y = laid("h3;w0,0,1,5;a2,0;a1,0;");
        due("no way", y.first(0), NONE);
        y.setOut(1, 0);
        due("under way to the top", y.first(1), NONE);
        // by way 0 there and back is in time for the goats of hour 4
        y = laid("h3;w0,1,2,2;w2,1,0,3;a1,0;");
        y.pass(3);
        due("away and back is too late", y.first(0), 10);
        // YES but at hour 0 and 8: there is time to go by way 0 and back
        y = laid("rynnnnnnn;s1,24,0;h3;w0,1,2,2;w3,1,0,3;a1,0;");
        y.pass(1);
        due("away and back in time", y.first(0), 0);
        due("at once", new OracleWheel().first(0), 5);
    }

    static void see() {
        OracleWheel x = new OracleWheel();
        bad(x.see(-1, 0), x.see(4, 0), x.see(0, -1), x.see(0, 100), x.see(MIN, MAX));
        for (int i = 1; i <= 6; i++) due("see", x.see(i % 4, i == 6 ? 99 : 0), i);
        due("full", x.see(0, 0), FULL);
        due("BAD ahead of FULL", x.see(4, 0), BAD);
        due("count", x.count(7), 6);
        due("no undoing", x.undo(), NO);
    }

    static void forget() {
        OracleWheel x = laid("ryn;a0,0;");
        due("nothing", x.forget(), 0);
        x.see(1, 0);
        x.see(1, 0);
        due("laws", x.laws(0), 0);
        due("two", x.forget(), 2);
        due("none left", x.count(7), 0);
        due("laws", x.laws(0), 288);
        due("see", x.see(0, 0), 1);
    }

    static void laws() {
        OracleWheel x = laid("ryn;s1,24,0;a0,0;");
        due("all", x.laws(0), 288);
        due("first", x.laws(1), 1);
        x.see(N, 1);
        // the odd ones, by every E, as X is 0
        due("odd", x.laws(0), 6 * 24);
        due("first odd", x.laws(1), 101);
        x.pass(1);
        // from now on, whatever was when it was SEEN: one hour on it is to be n, and it is n now
        due("even", x.laws(0), 6 * 24);
        due("first even", x.laws(1), 1);
        x.see(Y, 1);
        due("against each other", x.laws(0), 0);
        due("none", x.laws(1), NONE);
        bad(x.laws(-1), x.laws(2), x.laws(MIN), x.laws(MAX));
        OracleWheel y = laid("rynpb;s3,7,1;a0,0;");
        y.see(N, 1);
        // hour 1: S of 1 and 1 more by E 1 is 2, so S 0, 4, 8 with E 1, S 1, 5, 9 with the others
        due("X as told", y.laws(0), 3 + 3 * 23);
        due("first", y.laws(1), 1);
        y.see(N, 2);
        // hour 2: S 0: by E 1 it is 2; S 1: p by E 3 on, b by E 2
        due("none", y.laws(0), 0);
        y.forget();
        y.see(B, 2);
        y.see(N, 1);
        due("first by E", y.laws(1), 102);
        due("S 1, 5, 9 by E 2", y.laws(0), 3);
        OracleWheel z = laid("rynpb;s3,7,1;a0,0;");
        z.foot(1);
        z.see(N, 2);
        // hour 2 alone turns it: E 1 and 2 give one more
        due("under a foot", z.laws(0), 3 * 2 + 3 * 22);
        due("first", z.laws(1), 1);
        z.pass(1);
        z.forget();
        z.see(Y, 99);
        // by S 0 hours 2 to 100 turn it 99, 50, 33, 25, 20 times by E 1 to 5
        due("the hour as it is", z.laws(1), 5);
    }

    static void from() {
        OracleWheel x = laid("rynpb;s1,24,0;h6;w0,0,1,2;w0,1,2,3;w3,3,0,4;w2,4,0,1;a5,0;");
        due("the top", x.from(Y, 0), 1);
        due("another word", x.from(N, 0), 0);
        due("n", x.from(N, 1), 1);
        due("goats by hour 2", x.from(P, 2), 1 + 2 + 16);
        due("lee", x.from(Y, 4), 1 + 2 + 8 + 16);
        due("all that can", x.from(N, 5), 1 + 2 + 4 + 8 + 16);
        due("99", x.from(B, 99), 31);
        due("99, other", x.from(Y, 99), 0);
        x.foot(12);
        due("under a foot", x.from(Y, 1), 1);
        x.pass(1);
        due("goats", x.from(Y, 1), 1 + 16);
        bad(x.from(-1, 0), x.from(4, 0), x.from(0, -1), x.from(0, 100), x.from(MIN, MAX));
        OracleWheel z = laid("ryn;s1,24,0;h3;w3,1,0,1;w3,2,0,1;a1,0;");
        due("by the lee now", z.from(N, 1), 7);
        z.pass(1);
        due("by the lee an hour on", z.from(Y, 1), 1);
        OracleWheel y = laid("h8;w0,7,0,1;a0,0;");
        due("the last place", y.from(N, 1), 129);
    }

    static void grazing() {
        OracleWheel x = laid("ryn;s1,24,0;a0,0;");
        chance(x, Y, 0, 5, 1, 1);
        chance(x, N, 0, 5, 0, 1);
        chance(x, Y, 1, 3, 3, 10);
        chance(x, N, 1, 3, 7, 10);
        chance(x, N, 1, 5, 1, 2);
        chance(x, Y, 2, 3, 58, 100);
        chance(x, N, 2, 4, 12, 25);
        chance(x, Y, 8, 0, 1, 1);
        chance(x, N, 8, 0, 0, 1);
        chance(x, Y, 7, 10, 1, 1);
        chance(x, B, 8, 1, 0, 1);
        chance(x, Y, 8, 5, 1, 2);
        // (1 + 8 tenths by the power of 8) by 2
        chance(x, Y, 8, 1, (100000000 + 16777216) / 2, 100000000);
        OracleWheel y = laid("rynpb;s2,24,0;a0,0;");
        chance(y, P, 1, 3, 7, 10);
        chance(y, B, 1, 3, 3, 10);
        chance(y, Y, 1, 3, 0, 1);
        chance(y, P, 3, 2, 512, 1000);
        chance(y, B, 3, 2, 3 * 64 * 2, 1000);
        chance(y, Y, 3, 2, 3 * 8 * 4, 1000);
        chance(y, N, 3, 2, 8, 1000);
        x.foot(12);
        due("goats under a foot", x.grazing(N, 1, 3, 0), 3);
        due("all by goats", x.grazing(Y, 2, 10, 0), 1);
        bad(x.grazing(-1, 0, 0, 0), x.grazing(4, 0, 0, 0), x.grazing(0, -1, 0, 0), x.grazing(0, 9, 0, 0));
        bad(x.grazing(0, 0, -1, 0), x.grazing(0, 0, 11, 0), x.grazing(0, 0, 0, -1), x.grazing(0, 0, 0, 2));
        due("nothing changes", x.count(4) + x.upper(0) + x.count(8), 1);
    }

    static int divisor(int a, int b) {
        return b == 0 ? a : divisor(b, a % b);
    }

    static void chance(OracleWheel x, int w, int n, int tenths, int above, int below) {
        int by = divisor(below, above);
        due("above " + w + " " + n + " " + tenths, x.grazing(w, n, tenths, 0), above / by);
        due("below " + w + " " + n + " " + tenths, x.grazing(w, n, tenths, 1), below / by);
    }

    static void year() {
        OracleWheel x = laid("ryn;s1,24,0;h2;w0,1,0,3;a1,0;");
        // the only asker sets out at once by the only way, is on top behind 3 hours, and
        // sets out again: away by hour 6, on top by 9, 15, 21, .., each time for no hour more
        due("under way", x.year(0, 2, 0), 0);
        due("on top", x.year(0, 3, 0), 1);
        due("n is not what he wants", x.year(0, 3, 1), 0);
        due("away again", x.year(0, 4, 0), 0);
        due("below", x.year(0, 6, 0), 0);
        due("on top again", x.year(0, 9, 0), 1);
        due("57", x.year(9999, 57, 0), 1);
        due("60", x.year(9999, 60, 0), 0);
        x.graze();
        due("each third and its like reads y", x.year(7, 60, 1), 10);
        due("a year of 9", x.year(7, 9, 1), 2);
        due("a year of 8", x.year(7, 8, 1), 1);
        x.foot(1);
        due("a foot of an hour", x.year(7, 60, 1), 0);
        due("nothing changes", x.asker(0, 0) + x.count(4), 1);
        due("a foot is on still", x.count(5), 1);
        due("nothing is undone by it", x.count(8), 2);
        bad(x.year(-1, 1, 0), x.year(10000, 1, 0), x.year(0, 0, 0), x.year(0, 61, 0), x.year(0, 1, -1), x.year(0, 1, 2));
        OracleWheel y = laid("ryn;s0,24,0;a0,0;a0,0;a0,1;");
        due("no ways, all stay", y.year(5, 10, 0), 3);
        due("two read y each hour", y.year(5, 10, 1), 20);
        due("at first", new OracleWheel().year(5, 60, 1), 4);
        draws();
    }

    // Four are on top, and the first alone gets what he wants; of five ways but two begin there.
    static void draws() {
        for (int z = 0; z <= 9999; z += 101) {
            OracleWheel x = laid("ryn;s0,24,0;w0,0,1,12;w0,1,2,1;w0,3,1,1;w0,2,0,12;w0,3,2,1;a0,0;a0,1;a0,1;a0,1;");
            java.util.Set<Integer> away = new java.util.HashSet<>();
            int often = 0;
            for (int k = 0; k < 12; k++) {
                int way = draw(z, k) / 4 % 5;
                if (way == 0 || way == 3) away.add(draw(z, k) % 4);
                often += away.contains(0) ? 0 : 1;
                due("year of " + z, x.year(z, k + 1, 1), often);
                due("on top, year of " + z, x.year(z, k + 1, 0), 4 - away.size());
            }
        }
    }

    static int draw(int z, int k) {
        java.math.BigInteger x = java.math.BigInteger.valueOf(7919L * z + 6151L * k + 1);
        return x.multiply(x).mod(java.math.BigInteger.valueOf(65521)).intValue();
    }

    static void keep() {
        OracleWheel x = new OracleWheel();
        due("keep", x.keep(), 1);
        due("keep", x.keep(), 2);
        due("full", x.keep(), FULL);
        due("kept", x.count(9), 2);
        due("none undone by it", x.undo(), NO);
        x.pass(1);
        x.undo();
        due("undoing leaves it", x.count(9), 2);
        x.back();
        due("room again", x.keep(), 2);
        due("full", x.keep(), FULL);
    }

    static void back() {
        OracleWheel x = laid("rynpb;s1,24,0;w0,1,0,5;a1,0;");
        due("nothing kept", x.back(), NO);
        x.pass(1);
        x.keep();
        x.setOut(0, 0);
        x.foot(4);
        x.pass(2);
        x.keep();
        x.graze();
        x.pass(10);
        x.see(1, 2);
        x.write('q');
        due("the last one", x.back(), 1);
        counts(x, 4, 1, 1, 4, 3, 2, 0, 1, 0, 1, 29);
        due("uppermost", x.upper(0), N);
        due("under way", x.asker(0, 2), 3);
        due("nothing undone", x.undo(), NO);
        due("the foot was put on", x.foot(1), NO);
        x.pass(7);
        due("the first one", x.back(), 0);
        counts(x, 4, 1, 1, 4, 1, 0, 0, 1, 0, 0, 29);
        due("not under way", x.asker(0, 2), 0);
        due("at his place", x.asker(0, 0), 1);
        due("the foot was not put on", x.foot(1), N);
        due("no more", x.back(), NO);
    }

    static void count() {
        OracleWheel x = laid("rynp;h5;w0,1,0,3;w0,2,0,1;a1,0;a0,0;a0,1;");
        counts(x, 5, 2, 3, 3, 0, 0, 2, 0, 0, 0, 41);
        x.setOut(1, 0);
        due("one has left", x.count(6), 1);
        x.undo();
        x.setOut(0, 0);
        due("under way to the top", x.count(6), 2);
        x.foot(7);
        x.pass(3);
        x.see(0, 0);
        x.keep();
        x.keep();
        x.write('a');
        counts(x, 5, 2, 3, 3, 3, 4, 3, 1, 3, 2, 42);
        bad(x.count(-1), x.count(11), x.count(MIN), x.count(MAX));
    }

    static void askPromises() {
        promise = 0; constants();
        promise = 1; newObject();
        promise = 2; write();
        promise = 3; wipe();
        promise = 4; fault();
        promise = 5; lay();
        promise = 6; word();
        promise = 7; way();
        promise = 8; asker();
        promise = 9; pass();
        promise = 10; setOut();
        promise = 11; foot();
        promise = 12; graze();
        promise = 13; undo();
        promise = 14; upper();
        promise = 15; round();
        promise = 16; top();
        promise = 17; read();
        promise = 18; both();
        promise = 19; hold();
        promise = 20; first();
        promise = 21; see();
        promise = 22; forget();
        promise = 23; laws();
        promise = 24; from();
        promise = 25; grazing();
        promise = 26; year();
        promise = 27; keep();
        promise = 28; back();
        promise = 29; count();
    }

    public static void main(String[] args) {
        askPromises();
        System.out.println("PromiseTests: " + asked + " answers, " + wrong + " not as due");
        if (wrong != 0) System.exit(1);
    }
}
