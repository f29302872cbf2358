import java.util.List;

/** Which sentence of which promise is looked at, and what was not as it is due. */
final class Report {
    static int promise = 0, asked = 0, wrong = 0;
    static String sentence = "";

    static void due(String call, int got, int want) {
        asked++;
        if (got != want) say(call + " answered " + got + ", due is " + want);
    }

    static void same(String when, List<String> now, List<String> before) {
        asked++;
        for (int i = 0; i < Math.max(now.size(), before.size()); i++) {
            String one = i < now.size() ? now.get(i) : "nothing";
            String other = i < before.size() ? before.get(i) : "nothing";
            if (!one.equals(other)) {
                say(when + ": " + one + ", due is as without these calls: " + other);
                return;
            }
        }
    }

    static void say(String what) {
        wrong++;
        String where = promise > 0 ? "promise " + promise + ", " : "";
        System.out.println(where + "\"" + sentence + "\": " + what);
    }
}
