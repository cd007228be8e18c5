import java.util.ArrayDeque;
import java.util.ArrayList;
import java.util.HashMap;
import java.util.HashSet;
import java.util.List;
import java.util.Map;
import java.util.Set;

/**
 * The document once more, written another way and with the whole Java library: places as rows,
 * texts as trees, searches over keyed maps. The tests ask it and HiddenDrawers the same.
 */
final class PlainDesk {
    private static final int NONE = -1;
    private static final int SPENT = -2;

    /** What names mean where an expression is asked. */
    private static final class Room {
        int[] places = new int[6];
        int tilt;
        int on;
        int part = -1;
        int at;

        int nameOf(String name) {
            switch (name) {
                case "tilt": return tilt;
                case "on": return on;
                case "part": return part;
                case "at": return at;
                default: return places[name.charAt(0) - 'a'];
            }
        }
    }

    private interface Expression {
        long in(Room room);
    }

    private static final class Set4 {
        final boolean tilt;
        final int cause;
        final int causePlace;
        final int part;
        final int place;

        Set4(boolean tilt, int cause, int causePlace, int part, int place) {
            this.tilt = tilt;
            this.cause = cause;
            this.causePlace = causePlace;
            this.part = part;
            this.place = place;
        }
    }

    private static final class Text {
        final Map<Integer, Expression> whens = new HashMap<>();
        final List<Set4> sets = new ArrayList<>();
        Expression sound;
        Expression open;
        Expression stops;
        final List<int[]> dos = new ArrayList<>();
    }

    private static final class Wrong extends Exception {
        private static final long serialVersionUID = 1L;
        final int kind;
        final int place;

        Wrong(int kind, int place) {
            this.kind = kind;
            this.place = place;
        }
    }

    private static final class Parser {
        private final List<String> tokens = new ArrayList<>();
        private final List<Integer> starts = new ArrayList<>();
        private int at;

        Parser(String tape) {
            int i = 0;
            while (i < tape.length()) {
                char c = tape.charAt(i);
                if (c == ' ' || c == '\n') {
                    i++;
                    continue;
                }
                int from = i;
                if (letter(c)) {
                    while (i < tape.length() && letter(tape.charAt(i))) i++;
                } else if (digit(c)) {
                    while (i < tape.length() && digit(tape.charAt(i))) i++;
                } else {
                    i += tape.startsWith("<=", i) || tape.startsWith(">=", i) ? 2 : 1;
                }
                tokens.add(tape.substring(from, i));
                starts.add(from);
            }
            tokens.add("");
            starts.add(tape.length());
        }

        private static boolean letter(char c) {
            return c >= 'a' && c <= 'z' || c >= 'A' && c <= 'Z';
        }

        private static boolean digit(char c) {
            return c >= '0' && c <= '9';
        }

        private String look() {
            return tokens.get(at);
        }

        private Wrong wrong(int kind) {
            return new Wrong(kind, starts.get(at));
        }

        private boolean takeIf(String token) {
            if (!look().equals(token)) return false;
            at++;
            return true;
        }

        private void take(String token) throws Wrong {
            if (!takeIf(token)) throw wrong(1);
        }

        private int number(int most) throws Wrong {
            String token = look();
            if (token.isEmpty() || !digit(token.charAt(0))) throw wrong(1);
            java.math.BigInteger value = new java.math.BigInteger(token);
            if (value.compareTo(java.math.BigInteger.valueOf(most)) > 0) throw wrong(2);
            at++;
            return value.intValue();
        }

        Text text() throws Wrong {
            Text text = new Text();
            for (int clause = 0; !look().isEmpty(); clause++) {
                clause(text, clause);
            }
            return text;
        }

        private void clause(Text text, int clause) throws Wrong {
            String word = look();
            if (!List.of("when", "with", "tilt", "sound", "open", "stops", "do").contains(word)) throw wrong(1);
            if (word.equals("sound") && text.sound != null) throw wrong(4);
            if (word.equals("open") && text.open != null) throw wrong(4);
            if (word.equals("stops") && text.stops != null) throw wrong(4);
            if (clause == 24) throw wrong(6);
            at++;
            if (word.equals("when")) {
                int part = number(5);
                if (text.whens.containsKey(part)) {
                    at--;
                    throw wrong(4);
                }
                text.whens.put(part, either("on", 0));
            } else if (word.equals("with")) {
                int cause = number(5);
                take("to");
                int place = number(2);
                take("set");
                int part = number(5);
                take("to");
                text.sets.add(new Set4(false, cause, place, part, number(2)));
            } else if (word.equals("tilt")) {
                int cause = number(2);
                take("set");
                int part = number(5);
                take("to");
                text.sets.add(new Set4(true, cause, 0, part, number(2)));
            } else if (word.equals("sound")) {
                text.sound = sum("on part", 0);
            } else if (word.equals("open")) {
                text.open = either("", 0);
            } else if (word.equals("stops")) {
                text.stops = either("at", 0);
            } else {
                text.dos.add(new int[] {number(14), clause});
            }
            take(";");
        }

        private Expression either(String names, int depth) throws Wrong {
            Expression all = both(names, depth);
            while (takeIf("or")) {
                Expression left = all;
                Expression right = both(names, depth);
                all = room -> left.in(room) + right.in(room) > 0 ? 1 : 0;
            }
            return all;
        }

        private Expression both(String names, int depth) throws Wrong {
            Expression all = ask(names, depth);
            while (takeIf("and")) {
                Expression left = all;
                Expression right = ask(names, depth);
                all = room -> left.in(room) * right.in(room);
            }
            return all;
        }

        private int deeper(int depth) throws Wrong {
            if (depth == 8) throw wrong(3);
            return depth + 1;
        }

        private Expression ask(String names, int depth) throws Wrong {
            if (look().equals("not")) {
                int inner = deeper(depth);
                at++;
                Expression asked = ask(names, inner);
                return room -> asked.in(room) == 0 ? 1 : 0;
            }
            Expression left = sum(names, depth);
            String sign = look();
            if (!List.of("<", "<=", ">", ">=", "=", "#").contains(sign)) throw wrong(1);
            at++;
            Expression right = sum(names, depth);
            return room -> holds(sign, Long.compare(left.in(room), right.in(room))) ? 1 : 0;
        }

        private static boolean holds(String sign, int order) {
            switch (sign) {
                case "<": return order < 0;
                case "<=": return order <= 0;
                case ">": return order > 0;
                case ">=": return order >= 0;
                case "=": return order == 0;
                default: return order != 0;
            }
        }

        private static long cut(long value) {
            return value > 1000000 ? 1000000 : value < -1000000 ? -1000000 : value;
        }

        private Expression sum(String names, int depth) throws Wrong {
            Expression all = product(names, depth);
            while (look().equals("+") || look().equals("-")) {
                int way = look().equals("+") ? 1 : -1;
                at++;
                Expression left = all;
                Expression right = product(names, depth);
                all = room -> cut(left.in(room) + way * right.in(room));
            }
            return all;
        }

        private Expression product(String names, int depth) throws Wrong {
            Expression all = one(names, depth);
            while (look().equals("*") || look().equals("/")) {
                boolean times = look().equals("*");
                at++;
                Expression left = all;
                Expression right = one(names, depth);
                all = room -> {
                    long divisor = right.in(room);
                    if (times) return cut(left.in(room) * divisor);
                    return divisor == 0 ? 0 : left.in(room) / divisor;
                };
            }
            return all;
        }

        private Expression one(String names, int depth) throws Wrong {
            String token = look();
            if (token.equals("(")) {
                int inner = deeper(depth);
                at++;
                Expression all = sum(names, inner);
                take(")");
                return all;
            }
            if (token.equals("-")) {
                int inner = deeper(depth);
                at++;
                Expression all = one(names, inner);
                return room -> -all.in(room);
            }
            if (!token.isEmpty() && digit(token.charAt(0))) {
                int value = number(9999);
                return room -> value;
            }
            if (!List.of("a", "b", "c", "d", "e", "f", "tilt", "on", "part", "at").contains(token)) throw wrong(1);
            boolean everywhere = token.length() == 1 || token.equals("tilt");
            if (!everywhere && !List.of(names.split(" ")).contains(token)) throw wrong(5);
            at++;
            return room -> room.nameOf(token);
        }
    }

    /** A standing, and where the ball is. */
    private static final class Stand {
        final int[] places = new int[6];
        int tilt;
        int ball;

        Stand copy() {
            Stand other = new Stand();
            System.arraycopy(places, 0, other.places, 0, 6);
            other.tilt = tilt;
            other.ball = ball;
            return other;
        }

        String key() {
            StringBuilder key = new StringBuilder();
            for (int place : places) key.append(place);
            return key.append(tilt).toString();
        }
    }

    private static final class All {
        List<Integer> sizes = new ArrayList<>();
        Stand stand = new Stand();
        List<Text> texts = new ArrayList<>();
        int ruling = NONE;
        List<Stand> steps = new ArrayList<>();
        List<int[]> tried = new ArrayList<>();
        List<Integer> hollows = new ArrayList<>();

        All copy() {
            All other = new All();
            other.sizes.addAll(sizes);
            other.stand = stand.copy();
            other.texts.addAll(texts);
            other.ruling = ruling;
            other.steps.addAll(steps);
            other.tried.addAll(tried);
            other.hollows.addAll(hollows);
            return other;
        }
    }

    private All all = new All();
    private All kept = new All();
    private final StringBuilder tape = new StringBuilder();
    private int fault = NONE;
    private int faultPlace = NONE;

    int part(int places) {
        if (places != 2 && places != 3 || all.sizes.size() == 6) return NONE;
        all.sizes.add(places);
        return all.sizes.size() - 1;
    }

    int feed(int a, int b, int c, int d, int e) {
        if (tape.length() > 280) return NONE;
        for (int word : new int[] {a, b, c, d, e}) {
            for (int i = 3; i >= 0; i--) tape.append((char) (word >>> 8 * i & 255));
        }
        return tape.length();
    }

    int end(int n) {
        if (n < 0 || n > tape.length()) return NONE;
        tape.setLength(n);
        return n;
    }

    int text() {
        if (all.texts.size() == 4) return NONE;
        String read = tape.toString();
        tape.setLength(0);
        try {
            all.texts.add(new Parser(read).text());
            fault = 0;
            faultPlace = NONE;
            return all.texts.size() - 1;
        } catch (Wrong wrong) {
            fault = wrong.kind;
            faultPlace = wrong.place;
            return NONE;
        }
    }

    int fault(int what) {
        return what == 0 ? fault : what == 1 ? faultPlace : NONE;
    }

    boolean by(int text) {
        if (text < NONE || text >= all.texts.size()) return false;
        all.ruling = text;
        return true;
    }

    private Text ruling() {
        return all.ruling == NONE ? new Text() : all.texts.get(all.ruling);
    }

    private Room room(Stand stand) {
        Room room = new Room();
        room.places = stand.places.clone();
        room.tilt = stand.tilt;
        return room;
    }

    private boolean exists(int part, int place) {
        return part < all.sizes.size() && place >= 0 && place < all.sizes.get(part);
    }

    /** The stand behind an act, ball and all; null if it can't be. */
    private Stand behind(Text text, Stand stand, int act) {
        if (act < 0 || act > 14) return null;
        Stand next = stand.copy();
        int part = act / 2;
        int way = act % 2 == 1 ? 1 : -1;
        if (act >= 12) {
            if (stand.tilt == act - 12) return null;
            next.tilt = act - 12;
        } else {
            if (!exists(part, stand.places[part] + way)) return null;
            Room room = room(stand);
            room.on = act % 2;
            if (text.whens.containsKey(part) && text.whens.get(part).in(room) == 0) return null;
            next.places[part] += way;
        }
        int reached = act >= 12 ? 0 : next.places[part];
        for (Set4 set : text.sets) {
            boolean caused = act >= 12 ? set.tilt && set.cause == act - 12
                : !set.tilt && set.cause == part && set.causePlace == reached;
            if (caused && exists(set.part, set.place)) next.places[set.part] = set.place;
        }
        roll(text, next);
        return next;
    }

    private void roll(Text text, Stand stand) {
        int way = stand.tilt == 1 ? -1 : stand.tilt == 2 ? 1 : 0;
        while (way != 0 && stand.ball + way >= 0 && stand.ball + way <= 9) {
            Room room = room(stand);
            room.at = stand.ball + way;
            if (text.stops != null && text.stops.in(room) != 0) return;
            stand.ball += way;
        }
    }

    private int heard(Text text, Stand before, Stand after, int act) {
        if (text.sound == null) {
            int count = 0;
            for (int i = 0; i < 6; i++) count += before.places[i] == after.places[i] ? 0 : 1;
            return count;
        }
        Room room = room(after);
        room.on = act < 12 ? act % 2 : 0;
        room.part = act < 12 ? act / 2 : -1;
        return (int) Math.max(0, Math.min(9, text.sound.in(room)));
    }

    private int answer(Text text, Stand stand, int act) {
        Stand after = behind(text, stand, act);
        return after == null ? NONE : heard(text, stand, after, act);
    }

    private boolean open(Text text, Stand stand) {
        return text.open != null && text.open.in(room(stand)) != 0;
    }

    boolean can(int act) {
        return behind(ruling(), all.stand, act) != null;
    }

    private void step(Stand before) {
        all.steps.add(before);
        if (all.steps.size() > 30) all.steps.remove(0);
    }

    int act(int act) {
        int heard = answer(ruling(), all.stand, act);
        if (heard == NONE) return NONE;
        step(all.stand);
        all.stand = behind(ruling(), all.stand, act);
        return heard;
    }

    int played(int text) {
        if (text < 0 || text >= all.texts.size()) return -2;
        for (int[] one : all.texts.get(text).dos) {
            if (act(one[0]) == NONE) return one[1];
        }
        return NONE;
    }

    int carts(int seed, int n) {
        if (seed < 0 || seed > 9999 || n < 1 || n > 99) return NONE;
        step(all.stand);
        long x = seed * 9L + 4;
        int done = 0;
        for (int i = 0; i < n; i++) {
            Stand after = behind(ruling(), all.stand, 12 + (int) (x % 3));
            if (after != null) {
                all.stand = after;
                done++;
            }
            x = (x * 211 + 91) % 30137;
        }
        return done;
    }

    int undo() {
        if (all.steps.isEmpty()) return NONE;
        all.stand = all.steps.remove(all.steps.size() - 1);
        return all.steps.size();
    }

    int place(int part) {
        return part >= 0 && part < all.sizes.size() ? all.stand.places[part] : NONE;
    }

    int now(int what) {
        switch (what) {
            case 0: return all.stand.tilt;
            case 1: return all.stand.ball;
            case 2: return open(ruling(), all.stand) ? 1 : 0;
            default: return NONE;
        }
    }

    private static String key(List<Stand> stands) {
        StringBuilder key = new StringBuilder();
        for (Stand stand : stands) key.append(stand.key()).append(' ');
        return key.toString();
    }

    private boolean open(List<Text> texts, List<Stand> stands) {
        for (int i = 0; i < texts.size(); i++) {
            if (!open(texts.get(i), stands.get(i))) return false;
        }
        return true;
    }

    /** The row of acts; null for none; a row of SPENT alone for too many. */
    private List<Integer> search(List<Text> texts, Stand start, int most) {
        List<Stand> first = new ArrayList<>();
        for (int i = 0; i < texts.size(); i++) first.add(start);
        Map<String, List<Integer>> rows = new HashMap<>();
        ArrayDeque<List<Stand>> queue = new ArrayDeque<>();
        rows.put(key(first), List.of());
        queue.add(first);
        if (open(texts, first)) return List.of();
        while (!queue.isEmpty()) {
            List<Stand> from = queue.remove();
            for (int act = 0; act < 15; act++) {
                List<Stand> to = new ArrayList<>();
                for (int i = 0; i < texts.size(); i++) {
                    Stand behind = behind(texts.get(i), from.get(i), act);
                    to.add(behind == null ? from.get(i) : behind);
                }
                if (rows.containsKey(key(to))) continue;
                List<Integer> row = new ArrayList<>(rows.get(key(from)));
                row.add(act);
                if (rows.size() == most) return List.of(SPENT);
                if (open(texts, to)) return row;
                rows.put(key(to), row);
                queue.add(to);
            }
        }
        return null;
    }

    private static int told(List<Integer> row, int i) {
        if (row == null) return NONE;
        if (row.equals(List.of(SPENT))) return SPENT;
        if (i == NONE) return row.size();
        return i < row.size() ? row.get(i) : NONE;
    }

    int fewest(int i) {
        return i < NONE ? NONE : told(search(List.of(ruling()), all.stand, 1000), i);
    }

    int forever() {
        int bits = 0;
        for (int act = 0; act < 15; act++) {
            Stand after = behind(ruling(), all.stand, act);
            if (after != null && !canCome(after)) bits |= 1 << act;
        }
        return bits;
    }

    private boolean canCome(Stand start) {
        Set<String> seen = new HashSet<>();
        ArrayDeque<Stand> queue = new ArrayDeque<>();
        queue.add(start);
        seen.add(start.key());
        while (!queue.isEmpty()) {
            Stand from = queue.remove();
            if (open(ruling(), from)) return true;
            for (int act = 0; act < 15; act++) {
                Stand to = behind(ruling(), from, act);
                if (to != null && seen.add(to.key())) queue.add(to);
            }
        }
        return false;
    }

    int tried(int act, int heard) {
        if (act < 0 || act > 14 || heard < NONE || heard > 9 || all.tried.size() == 12) return NONE;
        all.tried.add(new int[] {act, heard});
        return all.tried.size();
    }

    int forget() {
        int count = all.tried.size();
        all.tried.clear();
        return count;
    }

    private Stand behindTried(Text text) {
        Stand stand = new Stand();
        for (int[] one : all.tried) {
            if (answer(text, stand, one[0]) != one[1]) return null;
            if (one[1] != NONE) stand = behind(text, stand, one[0]);
        }
        return stand;
    }

    /** No call of the face: lets the tests draw trials that fit. */
    int answerBehindTried(int text, int act) {
        if (text < 0 || text >= all.texts.size()) return NONE;
        Stand stand = behindTried(all.texts.get(text));
        return stand == null ? NONE : answer(all.texts.get(text), stand, act);
    }

    int fits() {
        int bits = 0;
        for (int i = 0; i < all.texts.size(); i++) {
            if (behindTried(all.texts.get(i)) != null) bits |= 1 << i;
        }
        return bits;
    }

    int next() {
        int best = NONE;
        int least = 99;
        for (int act = 0; act < 15; act++) {
            Map<Integer, Integer> answers = new HashMap<>();
            for (Text text : all.texts) {
                Stand stand = behindTried(text);
                if (stand != null) answers.merge(answer(text, stand, act), 1, Integer::sum);
            }
            int most = 0;
            for (int count : answers.values()) most = Math.max(most, count);
            if (most > 0 && most < least) {
                least = most;
                best = act;
            }
        }
        return best;
    }

    int whatever(int texts, int i) {
        if (texts <= 0 || i < NONE) return NONE;
        List<Text> chosen = new ArrayList<>();
        for (int t = 0; t < 31; t++) {
            if ((texts >> t & 1) == 1) {
                if (t >= all.texts.size()) return NONE;
                chosen.add(all.texts.get(t));
            }
        }
        return chosen.size() > 2 ? NONE : told(search(chosen, new Stand(), 3000), i);
    }

    int hollow(int size) {
        if (size < 1 || size > 99 || all.hollows.size() == 10) return NONE;
        all.hollows.add(size);
        return all.hollows.size();
    }

    int measure(int measure, int i) {
        if (measure < 1 || measure > 999 || i < NONE) return NONE;
        List<Integer> sets = new ArrayList<>();
        for (int set = 0; set < 1024; set++) {
            int size = 0;
            boolean told = set < 1 << all.hollows.size();
            for (int h = 0; h < all.hollows.size(); h++) size += (set & 1 << h) != 0 ? all.hollows.get(h) : 0;
            if (told && size == measure) sets.add(set);
        }
        if (i == NONE) return sets.size();
        return i < sets.size() ? sets.get(i) : NONE;
    }

    int image() {
        kept = all.copy();
        return all.sizes.size();
    }

    int back() {
        all = kept.copy();
        return all.sizes.size();
    }

    int about(int what) {
        switch (what) {
            case 0: return all.sizes.size();
            case 1: return all.texts.size();
            case 2: return all.ruling;
            case 3: return all.steps.size();
            case 4: return all.tried.size();
            case 5: return all.hollows.size();
            case 6: return tape.length();
            default: break;
        }
        if (what >= 10 && what - 10 < all.sizes.size()) return all.sizes.get(what - 10);
        if (what >= 20 && what - 20 < all.hollows.size()) return all.hollows.get(what - 20);
        return -2;
    }
}
