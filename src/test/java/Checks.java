/** What the tests of the promises share: answers that are due, and desks that are told by texts. */
abstract class Checks {
    static final int NONE = HiddenDrawers.NONE;
    static final int SPENT = HiddenDrawers.SPENT;
    static int wrong = 0;
    static int asked = 0;
    private static String heading = "";

    /** What is asked from now on is told under this name. */
    static void under(String name) {
        heading = name + ": ";
    }

    static void due(String what, int got, int want) {
        due(what, String.valueOf(got), String.valueOf(want));
    }

    static void due(String what, boolean got, boolean want) {
        due(what, got ? 1 : 0, want ? 1 : 0);
    }

    static void due(String what, String got, String want) {
        asked++;
        if (!got.equals(want)) {
            wrong++;
            System.out.println(heading + what + ": answered " + got + ", due is " + want);
        }
    }

    static void fill(HiddenDrawers x, String tape) {
        x.end(0);
        for (int from = 0; from < tape.length(); from += 20) {
            int[] words = new int[5];
            for (int i = 0; i < 20 && from + i < tape.length(); i++) {
                words[i / 4] |= tape.charAt(from + i) << 24 - 8 * (i % 4);
            }
            x.feed(words[0], words[1], words[2], words[3], words[4]);
        }
        x.end(tape.length());
    }

    static int tell(HiddenDrawers x, String text) {
        fill(x, text);
        return x.text();
    }

    /** A desk with a PART for each digit (its PLACES), ruled by the text. */
    static HiddenDrawers desk(String places, String text) {
        HiddenDrawers x = new HiddenDrawers();
        for (int i = 0; i < places.length(); i++) x.part(places.charAt(i) - '0');
        due("text: " + text, tell(x, text), 0);
        x.by(0);
        return x;
    }

    static void act(HiddenDrawers x, int... acts) {
        for (int act : acts) x.act(act);
    }

    static String times(int n, String text) {
        StringBuilder all = new StringBuilder();
        for (int i = 0; i < n; i++) all.append(text);
        return all.toString();
    }

    static void faulty(String text, int kind, int place) {
        HiddenDrawers x = new HiddenDrawers();
        due("text of " + text, tell(x, text), NONE);
        due("fault of " + text, x.fault(0), kind);
        due("its place in " + text, x.fault(1), place);
    }

    static void lawful(String text) {
        HiddenDrawers x = new HiddenDrawers();
        due("text of " + text, tell(x, text), 0);
        due("fault of " + text, x.fault(0), 0);
        due("its place in " + text, x.fault(1), NONE);
    }

    /** What a SUM comes to: heard digit by digit, so it is asked by comparisons. */
    static void comesTo(String sum, int value) {
        String literal = value < 0 ? "-(" + literal(-value) + ")" : literal(value);
        HiddenDrawers x = desk("3", "open " + sum + "=" + literal + ";");
        due(sum + " is " + value, x.now(2), 1);
    }

    private static String literal(int value) {
        return value <= 9999 ? String.valueOf(value) : value / 1000 + "*1000+" + value % 1000;
    }

    static void holds(String either, int value) {
        due(either, desk("3", "open " + either + ";").now(2), value);
    }

    static void end() {
        System.out.println(wrong == 0 ? asked + " answers are as due" : wrong + " answers are not as due");
        if (wrong != 0) System.exit(1);
    }
}
