import java.lang.reflect.InvocationTargetException;
import java.lang.reflect.Method;
import java.lang.reflect.Modifier;
import java.util.ArrayList;
import java.util.HashMap;
import java.util.List;
import java.util.Map;
import java.util.Set;

/**
 * Runs rows of calls on a new object under the promise and the sentence that they test. A row is one of
 *
 *   way(0, 7, true) 1          a call and its answer, a number or a constant's name
 *   told(10..15) NONE          a call for each number of a row
 *   way(-1|8, 0, true) UNKNOWN a call for each of these; MIN and MAX are the least and the greatest int
 *   liars(0..31) 0..31         rising answers, one for each call
 *   say(112) 1..60             rising answers of one call, done so often
 *   say: wab                   signs more, none of them refused
 *   pad: wab                   the pad wiped, and these signs said
 *   do: wab                    the same, and done
 *   fault of: wa 2             the same, not done, and its fault
 *   judged: waa 0 1            the same, not done, and judge(0), judge(1)
 *
 * Behind each refused call an object that did it and one that did not are asked all that can be asked: they must
 * answer alike. Behind the rows the same is done with all refused and all asking calls left out.
 */
final class Edges {
    private static final int MOST_CALLS = 512;
    private static final Map<String, Method> METHODS = publicMethods();
    private static final Map<String, Long> NAMES = Map.of("UNKNOWN", -1L, "OUTSIDE", -2L, "STATE", -3L, "FULL", -4L,
        "NO", -5L, "NONE", -6L, "GONE+OUTSIDE", -1000000000000000002L,
        "MIN", (long) Integer.MIN_VALUE, "MAX", (long) Integer.MAX_VALUE);
    private static final Set<Long> REFUSALS = Set.of(-1L, -2L, -3L, -4L, -5L, -1000000000000000002L);
    private static final Set<String> ASKING = Set.of("fault", "judge", "behind", "lies", "there", "first", "join",
        "cut", "close", "least", "liars", "ask", "walk", "hang", "year", "told");
    /** Each asks another side of all that an object holds; together they would be more than 512 calls. */
    private static final List<List<Step>> PROBES = List.of(
        expandAll("told(-1..70) ?", "fault() ?", "judge(0..2) ?", "behind(0..5, 0..3) ?", "lies(0..7, 0..1) ?",
            "there(0..4) ?", "first(0..1) ?"),
        expandAll("join(0..7, 0..7) ?", "cut(0..7, 0..7, 0..1) ?", "walk(0..7, 0..1) ?"),
        expandAll("close(1|2|3|4|5|6|8|9|10|12|16|17|18|20|24|32|33|34|36|40|48|64|65|66|68|72|80|96) ?",
            "close(128|129|130|132|136|144|160|192|256|257|258|260|264|272|288|320|384) ?",
            "close(512|513|514|516|520|528|544|576|640|768|1023) ?", "least(0..9, 0..1) ?", "liars(-1..31) ?",
            "ask(0..1) ?", "hang(5, 3, 0..1, 0..1) ?", "year(0|3|28|55|95|5616, 1|2|99, 0..2) ?"),
        expandAll("done() ?", "told(0..67) ?", "pole(true) ?", "say(46) ?", "done() ?", "told(0..67) ?"),
        expandAll("say(97) ?", "fault() ?", "judge(0..1) ?", "say(98) ?", "fault() ?", "judge(0..1) ?", "done() ?",
            "told(0..67) ?", "wipe() ?", "unrule() ?", "forget() ?", "liars(-1) ?", "close(1..30) ?"),
        expandAll("restore(0) ?", "told(0..67) ?", "close(1|2|3|4|5|6|8|16|32|64|128|256|512|1023) ?",
            "least(0..9, 0..1) ?", "liars(-1..31) ?"),
        expandAll("restore(1) ?", "told(0..67) ?", "close(1|2|3|4|5|6|8|16|32|64|128|256|512|1023) ?",
            "least(0..9, 0..1) ?", "liars(-1..31) ?"));

    private final Check check;
    private final List<Quote> quotes = new ArrayList<>();

    Edges(Check check) {
        this.check = check;
    }

    /** What a test says that it tests. */
    static final class Quote {
        final int promise;
        final String sentence;

        Quote(int promise, String sentence) {
            this.promise = promise;
            this.sentence = sentence;
        }
    }

    List<Quote> quotes() {
        return quotes;
    }

    void run(int promise, String sentence, String... rows) {
        quotes.add(new Quote(promise, sentence));
        String name = "promise " + promise + ", '" + sentence + "': ";
        List<Step> steps = expandAll(rows);
        List<Step> changing = new ArrayList<>();
        SwornLane lane = new SwornLane();
        for (Step step : steps) {
            long answer = step.call(lane);
            if (!step.expects(answer)) {
                check.due(name + step.text, answer, step.want == null ? 0 : step.want);
            } else {
                check.so(name + step.text, true);
            }
            if (step.isRefused()) {
                List<Step> withRefused = new ArrayList<>(changing);
                withRefused.add(step);
                same(name + step.text + " changes nothing", changing, withRefused);
            } else if (!ASKING.contains(step.method.getName())) {
                changing.add(step);
            }
        }
        same(name + "what is asked or refused changes nothing", changing, steps);
    }

    private void same(String name, List<Step> one, List<Step> other) {
        for (List<Step> probe : PROBES) {
            SwornLane a = played(one, probe.size());
            SwornLane b = played(other, probe.size());
            boolean same = true;
            for (Step step : probe) {
                long first = step.call(a);
                long second = step.call(b);
                if (first != second && same) {
                    same = false;
                    System.out.println(name + ": " + step.text + " answers " + first + " without, " + second + " with");
                }
            }
            check.so(name, same);
        }
    }

    private static SwornLane played(List<Step> steps, int callsToCome) {
        if (steps.size() + callsToCome > MOST_CALLS) {
            throw new IllegalStateException("a test's rows are too many for one object: " + steps.size());
        }
        SwornLane lane = new SwornLane();
        for (Step step : steps) {
            step.call(lane);
        }
        return lane;
    }

    /** One call with the answer that is due: null is any that is no refusal, or in a probe any at all. */
    private static final class Step {
        final String text;
        final Method method;
        final Object[] arguments;
        final Long want;

        Step(String name, List<String> texts, Long want) {
            method = METHODS.get(name);
            if (method == null || method.getParameterCount() != texts.size()) {
                throw new IllegalStateException("no such call: " + name + texts);
            }
            arguments = new Object[texts.size()];
            for (int i = 0; i < arguments.length; i++) {
                boolean isBoolean = method.getParameterTypes()[i] == boolean.class;
                arguments[i] = isBoolean ? (Object) truth(texts.get(i)) : (Object) (int) number(texts.get(i));
            }
            text = name + "(" + String.join(", ", texts) + ")";
            this.want = want;
        }

        private static boolean truth(String text) {
            if (!text.equals("true") && !text.equals("false")) {
                throw new IllegalStateException("neither true nor false: " + text);
            }
            return text.equals("true");
        }

        boolean isRefused() {
            return want != null && REFUSALS.contains(want);
        }

        boolean expects(long answer) {
            return want == null ? !REFUSALS.contains(answer) : want == answer;
        }

        long call(SwornLane lane) {
            try {
                return ((Number) method.invoke(lane, arguments)).longValue();
            } catch (InvocationTargetException thrown) {
                throw new IllegalStateException(text + " threw", thrown.getCause());
            } catch (IllegalAccessException shut) {
                throw new IllegalStateException(text + " is not public", shut);
            }
        }
    }

    private static Map<String, Method> publicMethods() {
        Map<String, Method> methods = new HashMap<>();
        for (Method method : SwornLane.class.getDeclaredMethods()) {
            if (Modifier.isPublic(method.getModifiers())) {
                methods.put(method.getName(), method);
            }
        }
        return methods;
    }

    private static long number(String text) {
        Long named = NAMES.get(text);
        return named != null ? named : Long.parseLong(text);
    }

    private static List<Step> expandAll(String... rows) {
        List<Step> steps = new ArrayList<>();
        for (String row : rows) {
            expand(row, steps);
        }
        return steps;
    }

    private static void expand(String row, List<Step> steps) {
        if (row.matches("(say|pad|do|fault of|judged): .*")) {
            int colon = row.indexOf(": ");
            expandText(row.substring(0, colon), row.substring(colon + 2), steps);
            return;
        }
        int open = row.indexOf('(');
        int shut = row.lastIndexOf(") ");
        if (open < 1 || shut < open) {
            throw new IllegalStateException("not a row: " + row);
        }
        List<List<String>> calls = List.of(List.of());
        if (shut > open + 1) {
            for (String argument : row.substring(open + 1, shut).split(", ")) {
                calls = times(calls, choices(argument));
            }
        }
        String due = row.substring(shut + 2);
        List<String> wants = choices(due);
        int many = Math.max(calls.size(), wants.size());
        if (many % calls.size() != 0 || wants.size() != 1 && wants.size() != many) {
            throw new IllegalStateException("not as many answers as calls: " + row);
        }
        for (int i = 0; i < many; i++) {
            String want = wants.get(i % wants.size());
            steps.add(new Step(row.substring(0, open), calls.get(i % calls.size()),
                want.equals("?") ? null : (Long) number(want)));
        }
    }

    private static void expandText(String kind, String rest, List<Step> steps) {
        String[] words = rest.split(" ", -1);
        if (!kind.equals("say")) {
            steps.add(new Step("wipe", List.of(), null));
        }
        for (char sign : words[0].toCharArray()) {
            steps.add(new Step("say", List.of(String.valueOf((int) sign)), null));
        }
        if (kind.equals("do")) {
            steps.add(new Step("done", List.of(), null));
        }
        if (kind.equals("fault of")) {
            steps.add(new Step("fault", List.of(), number(words[1])));
        }
        if (kind.equals("judged")) {
            steps.add(new Step("judge", List.of("0"), number(words[1])));
            steps.add(new Step("judge", List.of("1"), number(words[2])));
        }
    }

    private static List<List<String>> times(List<List<String>> calls, List<String> choices) {
        List<List<String>> longer = new ArrayList<>();
        for (List<String> call : calls) {
            for (String choice : choices) {
                List<String> one = new ArrayList<>(call);
                one.add(choice);
                longer.add(one);
            }
        }
        return longer;
    }

    private static List<String> choices(String text) {
        List<String> choices = new ArrayList<>();
        for (String part : text.split("\\|")) {
            int dots = part.indexOf("..");
            if (dots < 0) {
                choices.add(part);
                continue;
            }
            long last = number(part.substring(dots + 2));
            for (long one = number(part.substring(0, dots)); one <= last; one++) {
                choices.add(String.valueOf(one));
            }
        }
        return choices;
    }
}
