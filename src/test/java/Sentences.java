/** What the tests of single sentences have in common. */
abstract class Sentences {
    static final int BAD = -1, NO = -2, FULL = -3, NONE = -4;
    static final int Y = 0, N = 1, P = 2, B = 3;
    static final int MIN = Integer.MIN_VALUE, MAX = Integer.MAX_VALUE;

    static Document document;

    /** Called first in each test: the words of the document to which it holds the class. */
    static void says(String sentence) {
        Report.sentence = sentence;
        if (!document.name(Report.promise, sentence)) Report.say("the document does not say so");
    }

    static Oracle anew() { return Oracle.anew(); }

    static Oracle written(String text) { return Oracle.written(text); }

    static Oracle laid(String text) { return Oracle.laid(text); }

    /** Each of these texts is without FAULT, alone and behind another ITEM. */
    static void sound(String... texts) {
        for (String text : texts) {
            Report.due("fault of " + text, written(text).ask("fault"), NONE);
            Report.due("fault of ryn;" + text, written("ryn;" + text).ask("fault"), NONE);
        }
    }

    /** Each of these texts has its FAULT there, alone and behind another ITEM. */
    static void faulty(int place, String... texts) {
        for (String text : texts) {
            Report.due("fault of " + text, written(text).ask("fault"), place);
            Report.due("fault of ryn;" + text, written("ryn;" + text).ask("fault"), place + 4);
        }
    }

    /** The hill that is laid at first, with nearly all that can be going on. */
    static Oracle busy(Oracle x) {
        return x.run("see 0 0, see 1 5, keep, setOut 2 6, pass 2, setOut 0 5, foot 6, keep, pass 1, graze, pass 1");
    }

    /** The same, with as much as there is room for. */
    static Oracle full() {
        Oracle x = written("w0,0,1,1;".repeat(22) + "~~");
        return busy(x).run("see 2 2, see 3 3, see 0 4, see 1 99, graze, pass 1, graze");
    }

    static int word(char letter) { return "ynpb".indexOf(letter); }

    /** What is UPPERMOST in hours 0, 1, .. of a new hill, turned place by place. */
    static String turned(String ring, int s, int e, int x, int hours) {
        StringBuilder words = new StringBuilder();
        int place = 0;
        for (int hour = 0; hour <= hours; hour++) {
            int turns = hour == 0 ? 0 : hour % e == 0 ? s + x : s;
            for (int i = 0; i < turns; i++) place = place == ring.length() - 1 ? 0 : place + 1;
            words.append(ring.charAt(place));
        }
        return words.toString();
    }
}
