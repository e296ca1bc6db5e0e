import java.util.ArrayList;
import java.util.HashMap;
import java.util.HashSet;
import java.util.List;
import java.util.Map;
import java.util.Set;
import java.util.TreeSet;

/**
 * Long runs of calls, each answer held against a model that is written from the document's words alone and works
 * out its answers in another way: choices by joining atom after atom, within by asking the other question on the
 * first one's atoms, smallest by going through the sets of atoms, treeLike by taking atoms out in every order.
 */
public final class ModelTest {
    private static final int RUNS = 400;
    private static final int CALLS = 512;

    private static final class Atom {
        final int relation;
        final List<Integer> variables;

        Atom(int relation, List<Integer> variables) {
            this.relation = relation;
            this.variables = variables;
        }
    }

    private static final class Question {
        final List<Atom> atoms = new ArrayList<>();
        Set<Integer> asked = new TreeSet<>();

        boolean whole() {
            Set<Integer> coming = new HashSet<>();
            for (Atom a : atoms) {
                coming.addAll(a.variables);
            }
            return !atoms.isEmpty() && coming.containsAll(asked);
        }
    }

    private static final class Contents {
        final List<Set<List<Integer>>> rows = List.of(new HashSet<>(), new HashSet<>(), new HashSet<>());
    }

    private static final class Model {
        final Contents contents = new Contents();
        final Question[] questions = {new Question(), new Question()};

        private static boolean isQuestion(int q) {
            return q == 0 || q == 1;
        }

        private static boolean isRow(int r, int row) {
            return r >= 0 && r <= 2 && row >= 0 && row <= (r == 2 ? 124 : 24);
        }

        private static List<Integer> digits(int r, int number) {
            return r == 2
                ? List.of(number / 25, number / 5 % 5, number % 5)
                : List.of(number / 5, number % 5);
        }

        int add(int r, int row) {
            if (!isRow(r, row)) {
                return TrieJoins.BAD;
            }
            Set<List<Integer>> relation = contents.rows.get(r);
            if (relation.contains(digits(r, row))) {
                return 0;
            }
            if (relation.size() == 16) {
                return TrieJoins.FULL;
            }
            relation.add(digits(r, row));
            return 1;
        }

        int remove(int r, int row) {
            if (!isRow(r, row)) {
                return TrieJoins.BAD;
            }
            return contents.rows.get(r).remove(digits(r, row)) ? 1 : 0;
        }

        int rows(int r) {
            return r >= 0 && r <= 2 ? contents.rows.get(r).size() : TrieJoins.BAD;
        }

        int atom(int q, int r, int variables) {
            if (!isQuestion(q) || !isRow(r, variables)) {
                return TrieJoins.BAD;
            }
            if (questions[q].atoms.size() == 4) {
                return TrieJoins.FULL;
            }
            questions[q].atoms.add(new Atom(r, digits(r, variables)));
            return questions[q].atoms.size();
        }

        int cut(int q, int i) {
            if (!isQuestion(q) || i < 0 || i >= questions[q].atoms.size()) {
                return TrieJoins.BAD;
            }
            questions[q].atoms.remove(i);
            return questions[q].atoms.size();
        }

        int ask(int q, int set) {
            if (!isQuestion(q) || set < 0 || set > 31) {
                return 0;
            }
            Set<Integer> asked = new TreeSet<>();
            for (int v = 0; v < 5; v++) {
                if ((set & (1 << v)) != 0) {
                    asked.add(v);
                }
            }
            questions[q].asked = asked;
            return 1;
        }

        int whole(int q) {
            return isQuestion(q) && questions[q].whole() ? 1 : 0;
        }

        int count(int q) {
            if (!isQuestion(q)) {
                return TrieJoins.BAD;
            }
            return questions[q].whole() ? answers(questions[q], contents).size() : TrieJoins.NONE;
        }

        int answer(int q, int k) {
            if (!isQuestion(q)) {
                return TrieJoins.BAD;
            }
            if (!questions[q].whole()) {
                return TrieJoins.NONE;
            }
            Set<Integer> numbers = new TreeSet<>();
            for (List<Integer> a : answers(questions[q], contents)) {
                int number = 0;
                for (int value : a) {
                    number = 5 * number + value;
                }
                numbers.add(number);
            }
            List<Integer> ordered = new ArrayList<>(numbers);
            return k >= 0 && k < ordered.size() ? ordered.get(k) : TrieJoins.NONE;
        }

        int often(int q, int v, int x) {
            if (!isQuestion(q) || v < 0 || v > 4 || x < 0 || x > 4) {
                return TrieJoins.BAD;
            }
            if (!questions[q].whole() || !questions[q].asked.contains(v)) {
                return TrieJoins.NONE;
            }
            int column = new ArrayList<>(questions[q].asked).indexOf(v);
            int times = 0;
            for (List<Integer> a : answers(questions[q], contents)) {
                times += a.get(column) == x ? 1 : 0;
            }
            return times;
        }

        int within(int q) {
            if (!isQuestion(q)) {
                return TrieJoins.BAD;
            }
            Question it = questions[q];
            Question other = questions[1 - q];
            if (!it.whole() || !other.whole() || !it.asked.equals(other.asked)) {
                return TrieJoins.NONE;
            }
            return isWithin(it, other) ? 1 : 0;
        }

        int smallest(int q) {
            if (!isQuestion(q)) {
                return TrieJoins.BAD;
            }
            Question it = questions[q];
            if (!it.whole()) {
                return TrieJoins.NONE;
            }
            int smallest = it.atoms.size();
            for (int set = 0; set < 1 << it.atoms.size(); set++) {
                Question part = new Question();
                part.asked = it.asked;
                for (int i = 0; i < it.atoms.size(); i++) {
                    if ((set & (1 << i)) != 0) {
                        part.atoms.add(it.atoms.get(i));
                    }
                }
                if (part.whole() && isWithin(it, part) && isWithin(part, it)) {
                    smallest = Math.min(smallest, part.atoms.size());
                }
            }
            return smallest;
        }

        int treeLike(int q) {
            if (!isQuestion(q)) {
                return TrieJoins.BAD;
            }
            return comesToAnEnd(questions[q].atoms) ? 1 : 0;
        }

        int idle(int q) {
            if (!isQuestion(q)) {
                return TrieJoins.BAD;
            }
            if (questions[q].atoms.isEmpty()) {
                return TrieJoins.NONE;
            }
            Contents matched = new Contents();
            for (Map<Integer, Integer> choice : choices(questions[q], contents)) {
                for (Atom a : questions[q].atoms) {
                    List<Integer> row = new ArrayList<>();
                    for (int v : a.variables) {
                        row.add(choice.get(v));
                    }
                    matched.rows.get(a.relation).add(row);
                }
            }
            int idle = 0;
            for (int r = 0; r < 3; r++) {
                idle += contents.rows.get(r).size() - matched.rows.get(r).size();
            }
            return idle;
        }

        int level(int k) {
            return k >= 0 && k <= 2 ? 1 : 0;
        }
    }

    private static Set<Map<Integer, Integer>> choices(Question q, Contents contents) {
        Set<Map<Integer, Integer>> partial = new HashSet<>();
        partial.add(Map.of());
        for (Atom a : q.atoms) {
            Set<Map<Integer, Integer>> longer = new HashSet<>();
            for (Map<Integer, Integer> p : partial) {
                for (List<Integer> row : contents.rows.get(a.relation)) {
                    Map<Integer, Integer> joined = new HashMap<>(p);
                    boolean fits = true;
                    for (int c = 0; c < row.size(); c++) {
                        Integer before = joined.put(a.variables.get(c), row.get(c));
                        fits &= before == null || before.equals(row.get(c));
                    }
                    if (fits) {
                        longer.add(joined);
                    }
                }
            }
            partial = longer;
        }
        return partial;
    }

    private static Set<List<Integer>> answers(Question q, Contents contents) {
        Set<List<Integer>> found = new HashSet<>();
        for (Map<Integer, Integer> choice : choices(q, contents)) {
            List<Integer> answer = new ArrayList<>();
            for (int v : q.asked) {
                answer.add(choice.get(v));
            }
            found.add(answer);
        }
        return found;
    }

    /** It is within the other one iff on its own atoms as contents the other one has the answer that it has. */
    private static boolean isWithin(Question it, Question other) {
        Contents own = new Contents();
        for (Atom a : it.atoms) {
            own.rows.get(a.relation).add(a.variables);
        }
        return answers(other, own).contains(new ArrayList<>(it.asked));
    }

    private static boolean comesToAnEnd(List<Atom> atoms) {
        if (atoms.size() <= 1) {
            return true;
        }
        for (int i = 0; i < atoms.size(); i++) {
            List<Atom> others = new ArrayList<>(atoms);
            others.remove(i);
            if (mayGo(atoms.get(i), others) && comesToAnEnd(others)) {
                return true;
            }
        }
        return false;
    }

    private static boolean mayGo(Atom atom, List<Atom> others) {
        for (Atom other : others) {
            boolean may = true;
            for (int v : atom.variables) {
                boolean elsewhere = false;
                for (Atom any : others) {
                    elsewhere |= any.variables.contains(v);
                }
                may &= other.variables.contains(v) || !elsewhere;
            }
            if (may) {
                return true;
            }
        }
        return false;
    }

    /** A fixed row of numbers, so that every run of the tests is the same. */
    private static long seed;

    private static int upTo(int bound) {
        seed = seed * 6364136223846793005L + 1442695040888963407L;
        return (int) ((seed >>> 33) % bound);
    }

    private static final int[] ODD = {-1, 2, 3, 4, 5, 16, 25, 32, 125, Integer.MIN_VALUE, Integer.MAX_VALUE, -5, 1024};

    /** Mostly a number below the bound, at times one that is likely to be out of it. */
    private static int argument(int bound) {
        return upTo(40) == 0 ? ODD[upTo(ODD.length)] : upTo(bound);
    }

    private static int wrong = 0;

    private static void due(String call, int got, int want, List<String> before) {
        before.add(call + " = " + want);
        if (got != want && wrong++ < 20) {
            System.out.println(call + " answered " + got + ", due is " + want + ", after " + before);
        }
    }

    private static int flag(boolean b) {
        return b ? 1 : 0;
    }

    /** Rows and variables from a small part of their range come in several atoms more often. */
    private static int rowOf(int r, int values) {
        int row = 0;
        for (int c = 0; c < (r == 2 ? 3 : 2); c++) {
            row = row * 5 + upTo(values);
        }
        return upTo(40) == 0 ? ODD[upTo(ODD.length)] : row;
    }

    private static void change(TrieJoins x, Model m, int values, List<String> calls) {
        int q = argument(2);
        int r = argument(3);
        int a;
        switch (upTo(16)) {
            case 0: case 1: case 2: case 3: case 4:
                a = rowOf(r, values);
                due("add(" + r + ", " + a + ")", x.add(r, a), m.add(r, a), calls);
                break;
            case 5:
                a = rowOf(r, values);
                due("remove(" + r + ", " + a + ")", x.remove(r, a), m.remove(r, a), calls);
                break;
            case 6: case 7: case 8: case 9:
                a = rowOf(r, values);
                due("atom(" + q + ", " + r + ", " + a + ")", x.atom(q, r, a), m.atom(q, r, a), calls);
                break;
            case 10: case 11:
                a = argument(4);
                due("cut(" + q + ", " + a + ")", x.cut(q, a), m.cut(q, a), calls);
                break;
            case 12: case 13: case 14:
                // One set for both questions at times, or within would seldom be more than NONE.
                a = argument(upTo(2) == 0 ? 32 : 4);
                due("ask(" + q + ", " + a + ")", flag(x.ask(q, a)), m.ask(q, a), calls);
                if (upTo(2) == 0) {
                    due("ask(" + (1 - q) + ", " + a + ")", flag(x.ask(1 - q, a)), m.ask(1 - q, a), calls);
                }
                break;
            default:
                a = argument(3);
                due("level(" + a + ")", flag(x.level(a)), m.level(a), calls);
        }
    }

    private static void look(TrieJoins x, Model m, List<String> calls) {
        int q = argument(2);
        int a = argument(5);
        int b = argument(5);
        switch (upTo(9)) {
            case 0: due("rows(" + a + ")", x.rows(a), m.rows(a), calls); break;
            case 1: due("whole(" + q + ")", flag(x.whole(q)), m.whole(q), calls); break;
            case 2: due("count(" + q + ")", x.count(q), m.count(q), calls); break;
            case 3:
                int k = upTo(2) == 0 ? a : upTo(60);
                due("answer(" + q + ", " + k + ")", x.answer(q, k), m.answer(q, k), calls);
                break;
            case 4: due("often(" + q + ", " + a + ", " + b + ")", x.often(q, a, b), m.often(q, a, b), calls); break;
            case 5: due("within(" + q + ")", x.within(q), m.within(q), calls); break;
            case 6: due("smallest(" + q + ")", x.smallest(q), m.smallest(q), calls); break;
            case 7: due("treeLike(" + q + ")", x.treeLike(q), m.treeLike(q), calls); break;
            default: due("idle(" + q + ")", x.idle(q), m.idle(q), calls);
        }
    }

    private static void run(int number) {
        seed = number;
        int values = 2 + number % 4;
        TrieJoins x = new TrieJoins();
        Model m = new Model();
        List<String> calls = new ArrayList<>();
        while (calls.size() < CALLS - 1) {
            if (upTo(2) == 0) {
                change(x, m, values, calls);
            } else {
                look(x, m, calls);
            }
        }
    }

    public static void main(String[] args) {
        for (int number = 0; number < RUNS; number++) {
            run(number);
        }
        System.out.println(wrong == 0 ? "the model answers the same" : wrong + " answers differ from the model's");
        if (wrong != 0) {
            System.exit(1);
        }
    }
}
