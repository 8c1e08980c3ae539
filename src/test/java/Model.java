import java.math.BigInteger;
import java.util.ArrayDeque;
import java.util.ArrayList;
import java.util.HashMap;
import java.util.HashSet;
import java.util.List;
import java.util.Map;
import java.util.Set;
import java.util.TreeMap;
import java.util.TreeSet;
import java.util.regex.Matcher;
import java.util.regex.Pattern;

/**
 * The document told a second time, by other means than the program: texts by patterns, the country by maps of
 * names, the rest by trying everything. Slow on purpose; it shares no code with the program.
 */
final class Model {
    static final int UNKNOWN = -1, OUTSIDE = -2, STATE = -3, FULL = -4, NO = -5, NONE = -6;
    private static final Pattern ACT =
        Pattern.compile("[wx][a-h][a-h]|t[0-7][a-h]|p|\\.|[A-F](?:[()!a-h]|\\$[0-7])");
    private static final Pattern TEXT = Pattern.compile("(?:" + ACT.pattern() + ")*");

    /** Where all is, by letters and figures. */
    static final class Land {
        Set<String> ways = new TreeSet<>();
        Map<Character, Character> things = new TreeMap<>();
        Map<Character, Character> people = new TreeMap<>();
        Map<Character, Integer> faint = new TreeMap<>();
        Set<Character> sitting = new TreeSet<>();
        boolean up = true;
        int hour = 0;

        Land copy() {
            Land land = new Land();
            land.ways.addAll(ways);
            land.things.putAll(things);
            land.people.putAll(people);
            land.faint.putAll(faint);
            land.sitting.addAll(sitting);
            land.up = up;
            land.hour = hour;
            return land;
        }

        boolean leads(char a, char b) {
            return ways.contains("" + (char) Math.min(a, b) + (char) Math.max(a, b));
        }

        void leaveAlone(char person) {
            things.values().removeIf(holder -> holder == person);
            people.remove(person);
            faint.remove(person);
            sitting.remove(person);
        }
    }

    private static final class Kept {
        final Land land;
        final List<int[]> rules;
        final List<int[]> sights;

        Kept(Land land, List<int[]> rules, List<int[]> sights) {
            this.land = land.copy();
            this.rules = new ArrayList<>(rules);
            this.sights = new ArrayList<>(sights);
        }
    }

    private Land land = new Land();
    private String text = "";
    private List<int[]> rules = new ArrayList<>();
    private List<int[]> sights = new ArrayList<>();
    private final Map<Integer, Kept> images = new HashMap<>();

    // ---- letters

    private static char corner(int number) {
        return (char) ('a' + number);
    }

    private static char person(int number) {
        return (char) ('A' + number);
    }

    private static char figure(int number) {
        return (char) ('0' + number);
    }

    private static boolean in(int number, int least, int most) {
        return least <= number && number <= most;
    }

    // ---- 1

    int way(int a, int b, boolean is) {
        if (!in(a, 0, 7) || !in(b, 0, 7)) {
            return UNKNOWN;
        }
        if (a == b) {
            return OUTSIDE;
        }
        String name = "" + corner(Math.min(a, b)) + corner(Math.max(a, b));
        if (is) {
            land.ways.add(name);
        } else {
            land.ways.remove(name);
        }
        return land.ways.size();
    }

    private static int lay(Land land, int thing) {
        Character at = land.things.get(figure(thing));
        return at != null && at >= 'a' ? at - 'a' : NONE;
    }

    private static int carrier(Land land, int thing) {
        Character at = land.things.get(figure(thing));
        return at != null && at < 'a' ? at - 'A' : NONE;
    }

    private static int where(Land land, int person) {
        Character at = land.people.get(person(person));
        return at == null ? NONE : at - 'a';
    }

    int thing(int thing, int corner) {
        if (!in(thing, 0, 7) || !in(corner, -1, 7)) {
            return UNKNOWN;
        }
        int lay = lay(land, thing);
        land.things.remove(figure(thing));
        if (corner >= 0) {
            land.things.put(figure(thing), corner(corner));
        }
        return lay;
    }

    int person(int person, int corner, int faint) {
        if (!in(person, 0, 5) || !in(corner, -1, 7)) {
            return UNKNOWN;
        }
        if (!in(faint, 0, 9) || corner == -1 && faint != 0) {
            return OUTSIDE;
        }
        int was = where(land, person);
        land.leaveAlone(person(person));
        if (corner >= 0) {
            land.people.put(person(person), corner(corner));
            land.faint.put(person(person), faint);
        }
        return was;
    }

    int pole(boolean up) {
        int was = land.up ? 1 : 0;
        land.up = up;
        return was;
    }

    int say(int sign) {
        if (!in(sign, 33, 126)) {
            return OUTSIDE;
        }
        if (text.length() == 60) {
            return FULL;
        }
        text += (char) sign;
        return text.length();
    }

    int wipe() {
        int were = text.length();
        text = "";
        return were;
    }

    /** The longest beginning that some text begins with is where the fault lies. */
    int fault() {
        if (TEXT.matcher(text).matches()) {
            return NONE;
        }
        for (int length = 1; length <= text.length(); length++) {
            Matcher matcher = TEXT.matcher(text.substring(0, length));
            if (!matcher.matches() && !matcher.hitEnd()) {
                return length - 1;
            }
        }
        return text.length();
    }

    // ---- acts

    static int why(Land land, String act) {
        char first = act.charAt(0);
        if (first == 'w' || first == 'x') {
            if (act.charAt(1) == act.charAt(2)) {
                return 1;
            }
            return land.leads(act.charAt(1), act.charAt(2)) == (first == 'w') ? 2 : 0;
        }
        if (first == 't') {
            return land.things.containsKey(act.charAt(1)) ? 3 : 0;
        }
        if (first == 'p') {
            return 0;
        }
        if (first == '.') {
            return land.hour == 99 ? 10 : 0;
        }
        char deed = act.charAt(1);
        Character at = land.people.get(first);
        if ((at != null) == (deed == '(')) {
            return 4;
        }
        if (deed != '(' && land.sitting.contains(first)) {
            return 5;
        }
        if ((deed == '(' || deed == ')') && !land.up) {
            return 6;
        }
        if (deed == ')' && at != 'a') {
            return 7;
        }
        if (Character.isLetter(deed) && !land.leads(at, deed)) {
            return 8;
        }
        if (deed == '$' && !at.equals(land.things.get(act.charAt(2)))) {
            return 9;
        }
        return 0;
    }

    static void perform(Land land, String act) {
        char first = act.charAt(0);
        if (first == 'w' || first == 'x') {
            char a = act.charAt(1);
            char b = act.charAt(2);
            String name = "" + (char) Math.min(a, b) + (char) Math.max(a, b);
            if (first == 'w') {
                land.ways.add(name);
            } else {
                land.ways.remove(name);
            }
        } else if (first == 't') {
            land.things.put(act.charAt(1), act.charAt(2));
        } else if (first == 'p') {
            land.up = !land.up;
        } else if (first == '.') {
            land.hour++;
            for (char person : land.people.keySet()) {
                if (!land.sitting.contains(person)) {
                    int faint = land.faint.get(person);
                    land.faint.put(person, faint == 9 ? 9 : faint + 1);
                    if (faint >= 8) {
                        land.sitting.add(person);
                    }
                }
            }
        } else {
            deed(land, first, act);
        }
    }

    private static void deed(Land land, char person, String act) {
        switch (act.charAt(1)) {
            case '(':
                land.people.put(person, 'a');
                land.faint.put(person, 0);
                break;
            case ')':
                land.leaveAlone(person);
                break;
            case '$':
                land.things.put(act.charAt(2), person);
                break;
            case '!':
                land.sitting.add(person);
                break;
            default:
                land.people.put(person, act.charAt(1));
                break;
        }
    }

    // ---- 2

    private static final class Played {
        int refusal = 0;
        int act = NONE;
        int why = NONE;
        int sat = 0;
        int firstAct = NONE;
        int firstWho = NONE;
        int acts = 0;
        Land after;
    }

    private Played play() {
        Played played = new Played();
        played.after = land.copy();
        if (fault() != NONE) {
            played.refusal = NO;
            return played;
        }
        Matcher matcher = ACT.matcher(text);
        while (matcher.find()) {
            String act = matcher.group();
            int why = why(played.after, act);
            if (why != 0) {
                played.refusal = STATE;
                played.act = played.acts;
                played.why = why;
                return played;
            }
            Set<Character> before = new TreeSet<>(played.after.sitting);
            perform(played.after, act);
            for (char person : played.after.sitting) {
                if (!before.contains(person)) {
                    if (played.sat == 0) {
                        played.firstAct = played.acts;
                        played.firstWho = person - 'A';
                    }
                    played.sat++;
                }
            }
            played.acts++;
        }
        return played;
    }

    int judge(int what) {
        if (!in(what, 0, 2)) {
            return OUTSIDE;
        }
        Played played = play();
        if (played.refusal == NO || what == 2 && played.refusal == STATE) {
            return played.refusal;
        }
        return what == 0 ? played.act : what == 1 ? played.why : played.sat;
    }

    private static int carried(Land land, int person) {
        int bits = 0;
        for (int thing = 0; thing < 8; thing++) {
            bits += carrier(land, thing) == person ? 1 << thing : 0;
        }
        return bits;
    }

    int behind(int person, int what) {
        if (!in(person, 0, 5)) {
            return UNKNOWN;
        }
        if (!in(what, 0, 3)) {
            return OUTSIDE;
        }
        Played played = play();
        if (played.refusal != 0) {
            return played.refusal;
        }
        Land after = played.after;
        int[] answers = {where(after, person), after.faint.getOrDefault(person(person), 0),
            after.sitting.contains(person(person)) ? 1 : 0, carried(after, person)};
        return answers[what];
    }

    int lies(int thing, int what) {
        if (!in(thing, 0, 7)) {
            return UNKNOWN;
        }
        if (!in(what, 0, 1)) {
            return OUTSIDE;
        }
        Played played = play();
        if (played.refusal != 0) {
            return played.refusal;
        }
        return what == 0 ? lay(played.after, thing) : carrier(played.after, thing);
    }

    private static int bits(Set<Character> people) {
        int bits = 0;
        for (char person : people) {
            bits += 1 << person - 'A';
        }
        return bits;
    }

    int there(int what) {
        if (!in(what, 0, 4)) {
            return OUTSIDE;
        }
        Played played = play();
        if (played.refusal != 0) {
            return played.refusal;
        }
        Land after = played.after;
        int[] answers = {after.ways.size(), bits(after.people.keySet()), bits(after.sitting),
            after.up ? 1 : 0, after.hour};
        return answers[what];
    }

    int first(int what) {
        if (!in(what, 0, 1)) {
            return OUTSIDE;
        }
        Played played = play();
        if (played.refusal != 0) {
            return played.refusal;
        }
        return what == 0 ? played.firstAct : played.firstWho;
    }

    int done() {
        Played played = play();
        if (played.refusal != 0) {
            return played.refusal;
        }
        land = played.after;
        text = "";
        return played.acts;
    }

    // ---- 3

    int join(int a, int b) {
        if (!in(a, 0, 7) || !in(b, 0, 7)) {
            return UNKNOWN;
        }
        Map<Integer, Integer> far = new HashMap<>();
        ArrayDeque<Integer> queue = new ArrayDeque<>();
        far.put(a, 0);
        queue.add(a);
        while (!queue.isEmpty()) {
            int at = queue.remove();
            for (int next = 0; next < 8; next++) {
                if (land.leads(corner(at), corner(next)) && !far.containsKey(next)) {
                    far.put(next, far.get(at) + 1);
                    queue.add(next);
                }
            }
        }
        return far.getOrDefault(b, NONE);
    }

    /** How many by paths that share no way, as many as there are; which by trying all sets for that many. */
    int cut(int a, int b, int what) {
        if (!in(a, 0, 7) || !in(b, 0, 7)) {
            return UNKNOWN;
        }
        if (a == b || !in(what, 0, 1)) {
            return OUTSIDE;
        }
        int fewest = disjointPaths(a, b);
        if (what == 0) {
            return fewest;
        }
        for (int set = 0; set < 256; set++) {
            if ((set & 1 << a) != 0 && (set & 1 << b) == 0) {
                int out = 0;
                for (String way : land.ways) {
                    boolean one = (set & 1 << way.charAt(0) - 'a') != 0;
                    boolean other = (set & 1 << way.charAt(1) - 'a') != 0;
                    out += one != other ? 1 : 0;
                }
                if (out == fewest) {
                    return set;
                }
            }
        }
        throw new IllegalStateException("no set cuts by as few as there are paths");
    }

    private int disjointPaths(int a, int b) {
        int[][] room = new int[8][8];
        for (String way : land.ways) {
            room[way.charAt(0) - 'a'][way.charAt(1) - 'a'] = 1;
            room[way.charAt(1) - 'a'][way.charAt(0) - 'a'] = 1;
        }
        int paths = 0;
        while (push(room, a, b, new HashSet<>())) {
            paths++;
        }
        return paths;
    }

    private static boolean push(int[][] room, int at, int to, Set<Integer> seen) {
        if (at == to) {
            return true;
        }
        seen.add(at);
        for (int next = 0; next < 8; next++) {
            if (room[at][next] > 0 && !seen.contains(next) && push(room, next, to, seen)) {
                room[at][next]--;
                room[next][at]++;
                return true;
            }
        }
        return false;
    }

    int rule(int i, int j, int k) {
        if (!in(i, 0, 9) || !in(j, 0, 9) || !in(k, 0, 9)) {
            return OUTSIDE;
        }
        if (rules.size() == 12) {
            return FULL;
        }
        rules.add(new int[] {i, j, k});
        return rules.size();
    }

    int unrule() {
        int were = rules.size();
        rules = new ArrayList<>();
        return were;
    }

    private Set<Integer> follow(Set<Integer> set) {
        Set<Integer> all = new TreeSet<>(set);
        boolean grown = true;
        while (grown) {
            grown = false;
            for (int[] rule : rules) {
                if (all.contains(rule[0]) && all.contains(rule[1]) && all.add(rule[2])) {
                    grown = true;
                }
            }
        }
        return all;
    }

    private static Set<Integer> members(int bits) {
        Set<Integer> set = new TreeSet<>();
        for (int i = 0; i < 10; i++) {
            if ((bits & 1 << i) != 0) {
                set.add(i);
            }
        }
        return set;
    }

    int close(int set) {
        if (!in(set, 0, 1023)) {
            return OUTSIDE;
        }
        int bits = 0;
        for (int claim : follow(members(set))) {
            bits += 1 << claim;
        }
        return bits;
    }

    int least(int k, int what) {
        if (!in(k, 0, 9) || !in(what, 0, 1)) {
            return OUTSIDE;
        }
        for (int size = 0; size <= 9; size++) {
            for (int set = 0; set < 1024; set++) {
                Set<Integer> members = members(set);
                if (members.size() == size && !members.contains(k) && follow(members).contains(k)) {
                    return what == 0 ? size : set;
                }
            }
        }
        return NONE;
    }

    // ---- 4

    int swore(int x, int what, int y, boolean yes) {
        if (!in(x, 0, 4) || !in(what, 0, 2) || !in(y, 0, what == 2 ? 5 : 4)) {
            return OUTSIDE;
        }
        if (sights.size() == 8) {
            return FULL;
        }
        sights.add(new int[] {x, what, y, yes ? 1 : 0});
        return sights.size();
    }

    int forget() {
        int were = sights.size();
        sights = new ArrayList<>();
        return were;
    }

    private static boolean saysYes(Set<Integer> liars, int x, int what, int y) {
        boolean so = what == 0 ? !liars.contains(y) : what == 1 ? liars.contains(y) : liars.size() == y;
        return liars.contains(x) ? !so : so;
    }

    private List<Integer> fitting() {
        List<Integer> fitting = new ArrayList<>();
        for (int set = 0; set < 32; set++) {
            boolean fits = true;
            for (int[] sight : sights) {
                fits &= saysYes(members(set), sight[0], sight[1], sight[2]) == (sight[3] == 1);
            }
            if (fits) {
                fitting.add(set);
            }
        }
        return fitting;
    }

    int liars(int i) {
        List<Integer> fitting = fitting();
        return i == -1 ? fitting.size() : in(i, 0, fitting.size() - 1) ? fitting.get(i) : NONE;
    }

    int ask(int what) {
        if (!in(what, 0, 1)) {
            return OUTSIDE;
        }
        List<Integer> fitting = fitting();
        if (fitting.isEmpty()) {
            return NONE;
        }
        TreeMap<Integer, Integer> leastByLeft = new TreeMap<>();
        for (int x = 4; x >= 0; x--) {
            for (int asked = 2; asked >= 0; asked--) {
                for (int y = asked == 2 ? 5 : 4; y >= 0; y--) {
                    int yes = 0;
                    for (int set : fitting) {
                        yes += saysYes(members(set), x, asked, y) ? 1 : 0;
                    }
                    leastByLeft.put(Math.max(yes, fitting.size() - yes), 100 * x + 10 * asked + y);
                }
            }
        }
        return what == 0 ? leastByLeft.firstEntry().getValue() : leastByLeft.firstKey();
    }

    private boolean wins(int at, Set<Integer> been) {
        return step(at, been) != NONE;
    }

    private int step(int at, Set<Integer> been) {
        for (int next = 0; next < 8; next++) {
            if (land.leads(corner(at), corner(next)) && !been.contains(next)) {
                Set<Integer> then = new HashSet<>(been);
                then.add(next);
                if (!wins(next, then)) {
                    return next;
                }
            }
        }
        return NONE;
    }

    int walk(int corner, int what) {
        if (!in(corner, 0, 7)) {
            return UNKNOWN;
        }
        if (!in(what, 0, 1)) {
            return OUTSIDE;
        }
        int step = step(corner, new HashSet<>(Set.of(corner)));
        return what == 1 ? step : step == NONE ? 0 : 1;
    }

    long hang(int n, int t, int what, int part) {
        if (!in(n, 1, 5) || !in(t, 0, 10) || !in(what, 0, 1) || !in(part, 0, 1)) {
            return -1000000000000000002L;
        }
        int pairs = n * (n - 1) / 2;
        BigInteger upper = BigInteger.ZERO;
        for (int graph = 0; graph < 1 << pairs; graph++) {
            int ways = Integer.bitCount(graph);
            BigInteger cases = BigInteger.valueOf(t).pow(ways).multiply(BigInteger.valueOf(10 - t).pow(pairs - ways));
            int times = what == 1 ? ways : hangs(n, graph) ? 1 : 0;
            upper = upper.add(cases.multiply(BigInteger.valueOf(times)));
        }
        BigInteger lower = BigInteger.TEN.pow(pairs);
        BigInteger common = upper.gcd(lower);
        return (part == 0 ? upper : lower).divide(common).longValueExact();
    }

    private static boolean hangs(int n, int graph) {
        int[] group = new int[n];
        for (int i = 0; i < n; i++) {
            group[i] = i;
        }
        int pair = 0;
        for (int a = 0; a < n; a++) {
            for (int b = a + 1; b < n; b++) {
                if ((graph & 1 << pair++) != 0) {
                    int from = group[b];
                    int to = group[a];
                    for (int i = 0; i < n; i++) {
                        group[i] = group[i] == from ? to : group[i];
                    }
                }
            }
        }
        for (int i = 0; i < n; i++) {
            if (group[i] != group[0]) {
                return false;
            }
        }
        return true;
    }

    private static String drawn(int x) {
        int y = x / 8;
        char who = person(y % 6);
        int then = y / 6;
        switch (x % 8) {
            case 0:
                return "w" + corner(y % 8) + corner(y / 8 % 8);
            case 1:
                return "x" + corner(y % 8) + corner(y / 8 % 8);
            case 2:
                return "t" + figure(y % 8) + corner(y / 8 % 8);
            case 3:
                return who + "(";
            case 4:
                return "" + who + corner(then % 8);
            case 5:
                return who + "$" + figure(then % 8);
            case 6:
                return who + (then % 4 != 0 ? ")" : "!");
            default:
                return y % 4 != 0 ? "." : "p";
        }
    }

    int year(int seed, int m, int what) {
        if (!in(seed, 0, 9999) || !in(m, 1, 99) || !in(what, 0, 2)) {
            return OUTSIDE;
        }
        Land then = land.copy();
        int satBefore = then.sitting.size();
        int x = seed;
        for (int i = 0; i < m; i++) {
            x = (75 * x + 74) % 65537;
            String act = drawn(x);
            if (why(then, act) == 0) {
                perform(then, act);
            }
        }
        return what == 0 ? bits(then.people.keySet()) : what == 1 ? then.sitting.size() - satBefore : then.ways.size();
    }

    int image(int k) {
        if (!in(k, 0, 1)) {
            return OUTSIDE;
        }
        images.put(k, new Kept(land, rules, sights));
        return 1;
    }

    int restore(int k) {
        if (!in(k, 0, 1)) {
            return OUTSIDE;
        }
        Kept kept = images.get(k);
        if (kept == null) {
            return STATE;
        }
        land = kept.land.copy();
        rules = new ArrayList<>(kept.rules);
        sights = new ArrayList<>(kept.sights);
        return 1;
    }

    int told(int what) {
        int[] counts = {text.length(), land.ways.size(), land.up ? 1 : 0, land.hour, rules.size(), sights.size()};
        if (in(what, 0, 5)) {
            return counts[what];
        }
        if (in(what, 10, 15)) {
            return where(land, what - 10);
        }
        if (in(what, 20, 25)) {
            return land.faint.getOrDefault(person(what - 20), 0);
        }
        if (in(what, 30, 35)) {
            return land.sitting.contains(person(what - 30)) ? 1 : 0;
        }
        if (in(what, 40, 47)) {
            return lay(land, what - 40);
        }
        if (in(what, 50, 57)) {
            return carrier(land, what - 50);
        }
        if (!in(what, 60, 67)) {
            return OUTSIDE;
        }
        int bits = 0;
        for (int next = 0; next < 8; next++) {
            bits += land.leads(corner(what - 60), corner(next)) ? 1 << next : 0;
        }
        return bits;
    }
}
