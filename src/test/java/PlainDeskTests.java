import java.util.ArrayList;
import java.util.List;
import java.util.Random;

/** Runs of drawn calls (the draws are the same each time) on HiddenDrawers and on PlainDesk. */
public final class PlainDeskTests {
    private static final String[] WORDS = {
        "when", "with", "to", "set", "tilt", "sound", "open", "stops", "do", "or", "and", "not", "a", "b", "c",
        "d", "e", "f", "on", "part", "at", "<=", ">=", "<", ">", "=", "#", "+", "-", "*", "/", "(", ")", ";",
        "0", "1", "2", "5", "14", "9999", "10000", "99999999999", "g", "A", "aa", "!", "\u00e9", "\t", "000"};

    private final Random draws;
    private final HiddenDrawers asked = new HiddenDrawers();
    private final PlainDesk plain = new PlainDesk();
    private final List<String> log = new ArrayList<>();
    private int calls;
    private boolean wrong;

    private PlainDeskTests(long seed) {
        draws = new Random(seed);
    }

    public static void main(String[] args) {
        int runs = args.length > 0 ? Integer.parseInt(args[0]) : 800;
        long seed = args.length > 1 ? Long.parseLong(args[1]) : 1;
        int wrongRuns = 0;
        for (int run = 0; run < runs && wrongRuns < 3; run++) {
            PlainDeskTests test = new PlainDeskTests(seed * 1000003 + run);
            test.run();
            if (test.wrong) {
                wrongRuns++;
                System.out.println("run " + run + ":");
                for (String line : test.log) System.out.println("  " + line);
            }
        }
        System.out.println(wrongRuns == 0 ? "drawn runs answer alike" : "drawn runs differ");
        if (wrongRuns != 0) System.exit(1);
    }

    private void due(String call, int got, int want) {
        calls++;
        log.add(call + " -> " + got + (got == want ? "" : ", PLAIN: " + want));
        wrong |= got != want;
    }

    private int upTo(int n) {
        return draws.nextInt(n);
    }

    private boolean once(int n) {
        return draws.nextInt(n) == 0;
    }

    private void run() {
        int parts = once(9) ? upTo(7) : 2 + upTo(5);
        int most = once(2) ? 2 : 3;
        for (int i = 0; i < parts; i++) {
            int places = most == 3 ? 2 + upTo(2) : 2;
            due("part(" + places + ")", asked.part(places), plain.part(places));
        }
        int texts = upTo(4);
        for (int i = 0; i < texts; i++) tell(lawful());
        if (once(8)) tell("");
        int ruling = texts == 0 ? -1 : upTo(texts);
        due("by(" + ruling + ")", asked.by(ruling) ? 1 : 0, plain.by(ruling) ? 1 : 0);
        if (!once(6)) due("image()", asked.image(), plain.image());
        int planned = once(3) ? 490 : 20 + upTo(160);
        while (calls < planned && !wrong) oneCall();
        if (calls < 400) extremes();
    }

    private void extremes() {
        for (int far : new int[] {Integer.MIN_VALUE, Integer.MIN_VALUE + 1, -1000000, 1000000, Integer.MAX_VALUE}) {
            String of = "(" + far + ")";
            due("part" + of, asked.part(far), plain.part(far));
            due("end" + of, asked.end(far), plain.end(far));
            due("fault" + of, asked.fault(far), plain.fault(far));
            due("by" + of, asked.by(far) ? 1 : 0, plain.by(far) ? 1 : 0);
            due("can" + of, asked.can(far) ? 1 : 0, plain.can(far) ? 1 : 0);
            due("act" + of, asked.act(far), plain.act(far));
            due("played" + of, asked.played(far), plain.played(far));
            due("carts seed" + of, asked.carts(far, 5), plain.carts(far, 5));
            due("carts n" + of, asked.carts(5, far), plain.carts(5, far));
            due("place" + of, asked.place(far), plain.place(far));
            due("now" + of, asked.now(far), plain.now(far));
            due("fewest" + of, asked.fewest(far), plain.fewest(far));
            due("tried act" + of, asked.tried(far, 0), plain.tried(far, 0));
            due("tried heard" + of, asked.tried(0, far), plain.tried(0, far));
            due("whatever texts" + of, asked.whatever(far, -1), plain.whatever(far, -1));
            due("whatever i" + of, asked.whatever(1, far), plain.whatever(1, far));
            due("hollow" + of, asked.hollow(far), plain.hollow(far));
            due("measure all" + of, asked.measure(far, 0), plain.measure(far, 0));
            due("measure i" + of, asked.measure(9, far), plain.measure(9, far));
            due("about" + of, asked.about(far), plain.about(far));
        }
    }

    private void tell(String text) {
        if (plain.about(6) > 0 || once(6)) due("end(0)", asked.end(0), plain.end(0));
        log.add("TAPE " + text);
        for (int from = 0; from < text.length(); from += 20) {
            int[] words = new int[5];
            for (int i = 0; i < 20; i++) {
                int sign = from + i < text.length() ? text.charAt(from + i) & 255 : 0;
                words[i / 4] |= sign << 24 - 8 * (i % 4);
            }
            due("feed(..)", asked.feed(words[0], words[1], words[2], words[3], words[4]),
                plain.feed(words[0], words[1], words[2], words[3], words[4]));
        }
        due("end(" + text.length() + ")", asked.end(text.length()), plain.end(text.length()));
        due("text()", asked.text(), plain.text());
        due("fault(0)", asked.fault(0), plain.fault(0));
        due("fault(1)", asked.fault(1), plain.fault(1));
    }

    private void oneCall() {
        int kind = upTo(40);
        if (kind < 11) hand();
        else if (kind < 13) played();
        else if (kind < 19) searches();
        else if (kind < 24) trials();
        else if (kind < 28) looks();
        else if (kind < 31) hollows();
        else if (kind < 33) images();
        else if (kind < 36) texts();
        else if (kind < 38) tape();
        else if (kind == 38) part();
        else rules();
    }

    private void hand() {
        int act = once(20) ? -3 + upTo(25) : upTo(15);
        for (int i = 0; i < 9 && !plain.can(act) && !once(4); i++) act = upTo(15);
        if (once(3)) due("can(" + act + ")", asked.can(act) ? 1 : 0, plain.can(act) ? 1 : 0);
        due("act(" + act + ")", asked.act(act), plain.act(act));
        if (once(5)) due("undo()", asked.undo(), plain.undo());
        if (once(4)) due("now(1)", asked.now(1), plain.now(1));
    }

    private void played() {
        int text = upTo(6) - 1;
        int seed = once(9) ? -2 + upTo(12000) : upTo(10000);
        int n = once(4) ? upTo(103) - 1 : 1 + upTo(6);
        if (once(2)) due("played(" + text + ")", asked.played(text), plain.played(text));
        else due("carts(" + seed + ", " + n + ")", asked.carts(seed, n), plain.carts(seed, n));
        due("about(3)", asked.about(3), plain.about(3));
        due("now(1)", asked.now(1), plain.now(1));
    }

    private void searches() {
        int texts = once(9) ? -1 + upTo(20) : 1 + upTo(15);
        int which = upTo(3);
        for (int i = -1; i < 4 && which < 2; i++) {
            int index = once(12) ? -3 + upTo(30) : i;
            if (which == 0) due("fewest(" + index + ")", asked.fewest(index), plain.fewest(index));
            else due("whatever(" + texts + ", " + index + ")", asked.whatever(texts, index), plain.whatever(texts, index));
            if (once(3)) return;
        }
        if (which == 2) due("forever()", asked.forever(), plain.forever());
    }

    private void trials() {
        int act = once(12) ? -2 + upTo(20) : upTo(15);
        int heard = once(12) ? -3 + upTo(15) : once(2) ? -1 : upTo(4);
        if (once(6)) due("forget()", asked.forget(), plain.forget());
        if (!once(3)) heard = plain.answerBehindTried(upTo(4), act);
        if (once(2)) due("tried(" + act + ", " + heard + ")", asked.tried(act, heard), plain.tried(act, heard));
        due("fits()", asked.fits(), plain.fits());
        due("next()", asked.next(), plain.next());
    }

    private void looks() {
        int what = upTo(34) - 2;
        due("about(" + what + ")", asked.about(what), plain.about(what));
        int part = upTo(9) - 1;
        due("place(" + part + ")", asked.place(part), plain.place(part));
        int now = upTo(6) - 1;
        due("now(" + now + ")", asked.now(now), plain.now(now));
        due("now(2)", asked.now(2), plain.now(2));
        int fault = upTo(5) - 1;
        due("fault(" + fault + ")", asked.fault(fault), plain.fault(fault));
    }

    private void hollows() {
        int size = once(9) ? -2 + upTo(110) : 1 + upTo(9);
        due("hollow(" + size + ")", asked.hollow(size), plain.hollow(size));
        int all = once(9) ? -2 + upTo(1100) : 1 + upTo(40);
        int i = upTo(6) - 2;
        due("measure(" + all + ", " + i + ")", asked.measure(all, i), plain.measure(all, i));
        due("measure(" + all + ", -1)", asked.measure(all, -1), plain.measure(all, -1));
    }

    private void images() {
        if (once(3)) due("image()", asked.image(), plain.image());
        else if (once(2)) due("back()", asked.back(), plain.back());
    }

    private void texts() {
        int kind = upTo(5);
        if (kind == 0) tell(lawful());
        else if (kind == 1) tell(nested());
        else if (kind == 2) tell(manyClauses());
        else tell(spoilt(once(3) ? manyClauses() : once(2) ? nested() : lawful()));
    }

    private void tape() {
        int n = upTo(40) - 3;
        if (once(2)) due("end(" + n + ")", asked.end(n), plain.end(n));
        else due("feed(1, -2, 3, -4, 5)", asked.feed(1, -2, 3, -4, 5), plain.feed(1, -2, 3, -4, 5));
        due("about(6)", asked.about(6), plain.about(6));
        if (once(3)) due("text()", asked.text(), plain.text());
    }

    private void part() {
        int places = upTo(6);
        due("part(" + places + ")", asked.part(places), plain.part(places));
    }

    private void rules() {
        int text = upTo(7) - 2;
        due("by(" + text + ")", asked.by(text) ? 1 : 0, plain.by(text) ? 1 : 0);
        due("about(2)", asked.about(2), plain.about(2));
    }

    private String lawful() {
        StringBuilder text = new StringBuilder();
        boolean[] had = new boolean[9];
        if (!once(4)) {
            text.append("open ").append(goal()).append(';');
            had[7] = true;
        }
        int clauses = upTo(13);
        for (int i = 0; i < clauses; i++) {
            String clause = clause(had);
            if (text.length() + clause.length() <= 300) text.append(clause).append(once(6) && text.length() + clause.length() < 299 ? "\n" : "");
        }
        return text.toString();
    }

    private String goal() {
        StringBuilder goal = new StringBuilder();
        int terms = 1 + upTo(4);
        for (int i = 0; i < terms; i++) {
            int part = plain.about(0) < 1 ? 0 : upTo(plain.about(0));
            int places = Math.max(2, plain.about(10 + part));
            if (i > 0) goal.append(once(6) ? " or " : " and ");
            goal.append((char) ('a' + part)).append('=').append(once(3) ? upTo(3) : places - 1);
        }
        if (once(3)) goal.append(" and tilt=").append(upTo(3));
        return goal.toString();
    }

    private String clause(boolean[] had) {
        int kind = upTo(11);
        int part = upTo(6);
        if (kind < 3 && !had[part]) {
            had[part] = true;
            return "when " + part + " " + either("on") + ";";
        }
        if (kind < 6) return "with " + part + " to " + upTo(3) + " set " + upTo(6) + " to " + upTo(3) + ";";
        if (kind == 6) return "tilt " + upTo(3) + " set " + part + " to " + upTo(3) + ";";
        if (kind == 7 && !had[6]) {
            had[6] = true;
            return "sound " + sum(once(2) ? "on" : "part", 2) + ";";
        }
        if (kind == 8 && !had[7]) {
            had[7] = true;
            return "open " + either("tilt") + ";";
        }
        if (kind == 9 && !had[8]) {
            had[8] = true;
            return "stops " + (once(2) ? stop() + (once(2) ? " or " + stop() : "") : either("at")) + ";";
        }
        return "do " + upTo(15) + ";";
    }

    private String stop() {
        return "at" + (once(2) ? "=" : once(2) ? "<" : ">") + (once(2) ? "" : "a+") + upTo(10);
    }

    private String either(String name) {
        String all = ask(name);
        while (once(3)) all += (once(2) ? " or " : " and ") + ask(name);
        return all;
    }

    private String ask(String name) {
        if (once(3)) return (char) ('a' + upTo(6)) + (once(2) ? "<" : "#") + (1 + upTo(2));
        String[] signs = {"<", "<=", ">", ">=", "=", "#"};
        return (once(5) ? "not " : "") + sum(name, 1) + signs[upTo(6)] + sum(name, 1);
    }

    private String sum(String name, int depth) {
        String[] signs = {"+", "-", "*", "/", " - ", "*"};
        String all = one(name, depth);
        while (once(3)) all += signs[upTo(6)] + one(name, depth);
        return all;
    }

    private String one(String name, int depth) {
        int kind = upTo(depth > 0 ? 12 : 10);
        if (kind < 4) return String.valueOf((char) ('a' + upTo(6)));
        if (kind < 8) return once(9) ? String.valueOf(upTo(10000)) : String.valueOf(upTo(4));
        if (kind == 8) return "tilt";
        if (kind == 9) return name;
        return kind == 10 ? "(" + sum(name, depth - 1) + ")" : "-" + one(name, depth - 1);
    }

    private String nested() {
        StringBuilder text = new StringBuilder(once(2) ? "sound " : "open ");
        boolean sound = text.charAt(0) == 's';
        int nots = sound ? 0 : upTo(5);
        for (int i = 0; i < nots; i++) text.append("not ");
        int open = 0;
        int deep = upTo(10);
        for (int i = 0; i < deep; i++) {
            if (once(2)) {
                text.append('(');
                open++;
            } else {
                text.append('-');
            }
            if (once(6)) text.append("a*");
        }
        text.append("b");
        for (int i = 0; i < open; i++) text.append(once(5) ? "+2)" : ")");
        text.append(sound ? ";" : once(2) ? "<9999*9999*a;" : "= - - (c) and not not a=1;");
        return text.toString();
    }

    private String manyClauses() {
        StringBuilder text = new StringBuilder();
        int clauses = 22 + upTo(5);
        for (int i = 0; i < clauses; i++) text.append(once(20) ? "sound 1;" : "do " + upTo(15) + ";");
        return text.toString();
    }

    private static boolean isLoneSign(StringBuilder text, int at) {
        if (at >= text.length() || !Character.isLetterOrDigit(text.charAt(at))) return false;
        boolean before = at > 0 && Character.isLetterOrDigit(text.charAt(at - 1));
        return !before && (at + 1 == text.length() || !Character.isLetterOrDigit(text.charAt(at + 1)));
    }

    private String loneInstead(char sign) {
        String[] names = {"on", "part", "at", "tilt", "g"};
        String[] numbers = {"3", "6", "15", "9999", "10000", "002", "4294967296"};
        return Character.isDigit(sign) ? numbers[upTo(numbers.length)] : names[upTo(names.length)];
    }

    private String spoilt(String text) {
        StringBuilder all = new StringBuilder(text);
        int times = 1 + upTo(6);
        for (int i = 0; i < times; i++) {
            int at = upTo(all.length() + 1);
            String word = WORDS[upTo(WORDS.length)];
            if (once(3) && isLoneSign(all, at)) all.replace(at, at + 1, loneInstead(all.charAt(at)));
            else if (once(3) && at < all.length()) all.deleteCharAt(at);
            else if (once(2) && at < all.length()) all.replace(at, at + 1, word);
            else all.insert(at, once(2) ? " " + word + " " : word);
        }
        if (all.length() > 300) all.setLength(300);
        return all.toString();
    }
}
