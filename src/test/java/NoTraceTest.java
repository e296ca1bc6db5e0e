import java.util.ArrayList;
import java.util.Arrays;
import java.util.List;

/**
 * Calls that leave no trace: a refused one, one that only asks, and level, which shows in no answer. Two objects are
 * brought to the same state, one of them gets such a call on top, and from then on both must answer the same to a long
 * list of calls that looks at all there is. Where a call is taken and changes something, the list must show that.
 */
public final class NoTraceTest {
    private static final int MOST_CALLS = 512;
    private static final int LEAST = Integer.MIN_VALUE;
    private static final int MOST = Integer.MAX_VALUE;
    private static final int[] QUESTIONS = {LEAST, -1, 0, 1, 2, MOST};
    private static final int[] RELATIONS = {LEAST, -1, 0, 1, 2, 3, MOST};
    private static final int[] ROWS = {LEAST, -1, 0, 6, 16, 24, 25, 124, 125, MOST};
    private static final int[] NUMBERS = {LEAST, -1, 0, 1, 2, 3, 4, 5, MOST};
    private static final int[] DIGITS = {LEAST, -1, 0, 2, 4, 5, MOST};
    private static final int[] SETS = {LEAST, -1, 0, 5, 31, 32, 33, MOST};
    private static final int[] LEVELS = {LEAST, -1, 0, 1, 2, 3, MOST};
    private static final List<String> CHANGING = List.of("add", "remove", "atom", "cut", "ask");

    private static int wrong = 0;
    private static int refused = 0;
    private static int asking = 0;
    private static int taken = 0;

    private record Call(String name, int... arguments) {
        int on(TrieJoins x) {
            int a = arguments[0];
            int b = arguments.length > 1 ? arguments[1] : 0;
            int c = arguments.length > 2 ? arguments[2] : 0;
            return switch (name) {
                case "add" -> x.add(a, b);
                case "remove" -> x.remove(a, b);
                case "rows" -> x.rows(a);
                case "atom" -> x.atom(a, b, c);
                case "cut" -> x.cut(a, b);
                case "ask" -> x.ask(a, b) ? 1 : 0;
                case "whole" -> x.whole(a) ? 1 : 0;
                case "count" -> x.count(a);
                case "answer" -> x.answer(a, b);
                case "often" -> x.often(a, b, c);
                case "within" -> x.within(a);
                case "smallest" -> x.smallest(a);
                case "treeLike" -> x.treeLike(a);
                case "idle" -> x.idle(a);
                case "level" -> x.level(a) ? 1 : 0;
                default -> throw new IllegalArgumentException(name);
            };
        }

        /** Of a call that may change something: whether its answer says that it did not. */
        boolean leftAll(int answer) {
            return switch (name) {
                case "add", "remove", "ask" -> answer != 1;
                default -> answer < 0;
            };
        }

        @Override
        public String toString() {
            return name + Arrays.toString(arguments);
        }
    }

    private static Call call(String name, int... arguments) {
        return new Call(name, arguments);
    }

    /** Each way to take one argument out of each list. */
    private static List<Call> calls(String name, int[]... lists) {
        List<Call> all = new ArrayList<>();
        int number = 1;
        for (int[] list : lists) {
            number *= list.length;
        }
        for (int n = 0; n < number; n++) {
            int[] arguments = new int[lists.length];
            int rest = n;
            for (int i = 0; i < lists.length; i++) {
                arguments[i] = lists[i][rest % lists[i].length];
                rest /= lists[i].length;
            }
            all.add(call(name, arguments));
        }
        return all;
    }

    private static List<Call> edgeCalls() {
        List<Call> all = new ArrayList<>();
        all.addAll(calls("add", RELATIONS, ROWS));
        all.addAll(calls("remove", RELATIONS, ROWS));
        all.addAll(calls("atom", QUESTIONS, RELATIONS, ROWS));
        all.addAll(calls("cut", QUESTIONS, NUMBERS));
        all.addAll(calls("ask", QUESTIONS, SETS));
        all.addAll(calls("level", LEVELS));
        all.addAll(calls("rows", RELATIONS));
        all.addAll(calls("answer", QUESTIONS, NUMBERS));
        all.addAll(calls("often", QUESTIONS, DIGITS, DIGITS));
        for (String name : List.of("whole", "count", "within", "smallest", "treeLike", "idle")) {
            all.addAll(calls(name, QUESTIONS));
        }
        return all;
    }

    /** Nothing at all. */
    private static List<Call> empty() {
        return List.of();
    }

    /** Rows in all relations, two questions with the same asked variables, both whole. */
    private static List<Call> middle() {
        List<Call> all = new ArrayList<>();
        for (int row : new int[] {1, 6, 7, 13, 24}) {
            all.add(call("add", 0, row));
        }
        for (int row : new int[] {0, 5, 8, 16}) {
            all.add(call("add", 1, row));
        }
        for (int row : new int[] {6, 32, 38, 124}) {
            all.add(call("add", 2, row));
        }
        all.add(call("atom", 0, 0, 1));
        all.add(call("atom", 0, 0, 7));
        all.add(call("atom", 0, 2, 7));
        all.add(call("atom", 1, 0, 7));
        all.add(call("atom", 1, 0, 3));
        all.add(call("ask", 0, 5));
        all.add(call("ask", 1, 5));
        return all;
    }

    /** Full relations and full questions; one asks all variables, the other one nothing. */
    private static List<Call> full() {
        List<Call> all = new ArrayList<>();
        for (int i = 0; i < 16; i++) {
            all.add(call("add", 0, i));
            all.add(call("add", 1, 24 - i));
            all.add(call("add", 2, 31 * i % 125));
        }
        for (int variables : new int[] {1, 7, 13, 19}) {
            all.add(call("atom", 0, 0, variables));
        }
        for (int variables : new int[] {7, 69, 93, 124}) {
            all.add(call("atom", 1, 2, variables));
        }
        all.add(call("ask", 0, 31));
        return all;
    }

    /** Rows, and questions that are not whole: one lacks a variable, the other one has no atom. */
    private static List<Call> notWhole() {
        List<Call> all = new ArrayList<>();
        for (int row : new int[] {0, 6, 12, 18, 24}) {
            all.add(call("add", 0, row));
            all.add(call("add", 2, 5 * row + row % 5));
        }
        all.add(call("atom", 0, 0, 6));
        all.add(call("atom", 0, 2, 38));
        all.add(call("ask", 0, 19));
        all.add(call("ask", 1, 8));
        return all;
    }

    /** Asks all there is to ask, first without changing anything, then by taking all apart. */
    private static List<Call> look() {
        List<Call> all = new ArrayList<>();
        all.addAll(calls("rows", new int[] {0, 1, 2}));
        for (int q = 0; q < 2; q++) {
            lookAt(q, all);
        }
        for (int q = 0; q < 2; q++) {
            lookAtAtoms(q, all);
            lookAtAsked(q, all);
        }
        for (int row = 0; row < 125; row++) {
            if (row < 25) {
                all.add(call("remove", 0, row));
                all.add(call("remove", 1, row));
            }
            all.add(call("remove", 2, row));
        }
        all.addAll(calls("rows", new int[] {0, 1, 2}));
        return all;
    }

    private static void lookAt(int q, List<Call> all) {
        for (String name : List.of("whole", "count", "within", "smallest", "treeLike", "idle")) {
            all.add(call(name, q));
        }
        for (int k : new int[] {0, 1, 7}) {
            all.add(call("answer", q, k));
        }
        for (int v = 0; v < 5; v++) {
            all.add(call("often", q, v, (v + 1) % 5));
        }
    }

    /** How many atoms there are and, by the rows that they leave idle, which. */
    private static void lookAtAtoms(int q, List<Call> all) {
        for (int i = 0; i < 4; i++) {
            all.add(call("idle", q));
            all.add(call("treeLike", q));
            all.add(call("cut", q, 0));
        }
    }

    /** A question of all variables but v is whole iff v is not asked. */
    private static void lookAtAsked(int q, List<Call> all) {
        for (int v = 0; v < 5; v++) {
            int w = (v + 1) % 5;
            all.add(call("atom", q, 2, 25 * w + 5 * ((w + 1) % 5) + (w + 2) % 5));
            all.add(call("atom", q, 0, 6 * ((w + 3) % 5)));
            all.add(call("whole", q));
            all.add(call("cut", q, 1));
            all.add(call("cut", q, 0));
        }
    }

    private static TrieJoins brought(List<Call> before) {
        TrieJoins x = new TrieJoins();
        for (Call c : before) {
            c.on(x);
        }
        return x;
    }

    private static int[] answers(TrieJoins x, List<Call> calls) {
        int[] all = new int[calls.size()];
        for (int i = 0; i < all.length; i++) {
            all[i] = calls.get(i).on(x);
        }
        return all;
    }

    private static void report(String text) {
        if (wrong++ < 30) {
            System.out.println(text);
        }
    }

    private static void sameAfter(String state, Call extra, List<Call> look, int[] due, int[] got) {
        for (int i = 0; i < due.length; i++) {
            if (got[i] != due[i]) {
                report(state + ": after " + extra + " " + look.get(i) + " answered " + got[i] + ", due is " + due[i]
                    + " as if it had not been made");
                return;
            }
        }
    }

    /** A set that is asked already is the one thing that can be taken and change nothing. */
    private static boolean mayStayHidden(Call extra, List<Call> before) {
        int[] asked = new int[2];
        for (Call c : before) {
            if (c.name().equals("ask")) {
                asked[c.arguments()[0]] = c.arguments()[1];
            }
        }
        return extra.name().equals("ask") && asked[extra.arguments()[0]] == extra.arguments()[1];
    }

    private static void tryState(String state, List<Call> before) {
        List<Call> look = look();
        if (before.size() + 1 + look.size() > MOST_CALLS) {
            report(state + ": too many calls for one object: " + (before.size() + 1 + look.size()));
        }
        int[] due = answers(brought(before), look);
        for (Call extra : edgeCalls()) {
            TrieJoins x = brought(before);
            int answer = extra.on(x);
            int[] got = answers(x, look);
            boolean changes = CHANGING.contains(extra.name());
            if (changes && !extra.leftAll(answer)) {
                taken++;
                if (Arrays.equals(got, due) && !mayStayHidden(extra, before)) {
                    report(state + ": " + extra + " answered " + answer + ", but nothing has changed");
                }
            } else {
                refused += changes ? 1 : 0;
                asking += changes ? 0 : 1;
                sameAfter(state, extra, look, due, got);
            }
        }
    }

    /** Many refused calls one after the other leave no more than one does. */
    private static void refusedInARow(String state, List<Call> before) {
        List<Call> look = look();
        int[] due = answers(brought(before), look);
        TrieJoins x = brought(before);
        int room = MOST_CALLS - before.size() - look.size();
        List<Call> bad = new ArrayList<>();
        bad.addAll(calls("add", new int[] {-1, 3, LEAST, MOST}, new int[] {0, 24, LEAST}));
        bad.addAll(calls("add", new int[] {0, 1}, new int[] {-1, 25, LEAST, MOST}));
        bad.addAll(calls("remove", new int[] {0, 1}, new int[] {-1, 25, LEAST, MOST}));
        bad.addAll(calls("atom", new int[] {-1, 2, LEAST, MOST}, new int[] {0, 2}, new int[] {0, 24}));
        bad.addAll(calls("cut", new int[] {-1, 0, 1, 2}, new int[] {-1, 4, LEAST, MOST}));
        bad.addAll(calls("ask", new int[] {-1, 0, 1, 2}, new int[] {-1, 32, LEAST, MOST}));
        bad.addAll(calls("level", new int[] {-1, 3, LEAST, MOST}));
        for (Call c : bad.subList(0, Math.min(room, bad.size()))) {
            int answer = c.on(x);
            if (answer > 0) {
                report(state + ": " + c + " answered " + answer + ", due is a refusal");
            }
        }
        sameAfter(state, call("refused ones", bad.size()), look, due, answers(x, look));
    }

    /** The same calls at each level, or without a word on it, answer the same. */
    private static void levelsAlike(String state, List<Call> before) {
        List<Call> look = look();
        int[] due = answers(brought(before), look);
        for (int first : LEVELS) {
            for (int then : LEVELS) {
                TrieJoins x = new TrieJoins();
                x.level(first);
                for (Call c : before) {
                    c.on(x);
                }
                x.level(then);
                sameAfter(state, call("level", first, then), look, due, answers(x, look));
            }
        }
    }

    private static void allOf(String state, List<Call> before) {
        tryState(state, before);
        refusedInARow(state, before);
        levelsAlike(state, before);
    }

    public static void main(String[] args) {
        allOf("empty", empty());
        allOf("middle", middle());
        allOf("full", full());
        allOf("not whole", notWhole());
        System.out.println(refused + " refused, " + asking + " asking, " + taken + " taken calls tried");
        System.out.println(wrong == 0 ? "no call leaves a trace that must not" : wrong + " calls are not as due");
        if (wrong != 0) {
            System.exit(1);
        }
    }
}
