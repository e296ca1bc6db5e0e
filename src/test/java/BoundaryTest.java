import java.util.ArrayList;
import java.util.List;

/**
 * Each sentence of the document that names a boundary case, in a test of its own and on both sides of the boundary:
 * the last argument that is taken, the first that is refused, and the smallest and the greatest int. A message begins
 * with the promise and the sentence.
 */
public final class BoundaryTest {
    private static final int BAD = -1;
    private static final int FULL = -2;
    private static final int NONE = -3;
    private static final int LEAST = Integer.MIN_VALUE;
    private static final int MOST = Integer.MAX_VALUE;

    private static final int[] QUESTIONS = {0, 1};
    private static final int[] RELATIONS = {0, 1, 2};
    private static final int[] NOT_QUESTIONS = outside(1);
    private static final int[] NOT_RELATIONS = outside(2);
    private static final int[] NOT_DIGITS = outside(4);
    private static final int[] NOT_SETS = outside(31);
    private static final int[] NOT_LEVELS = outside(2);

    private static int wrong = 0;
    private static String sentence = "";

    /** What the calls that follow are held against. */
    private static void sentence(String words) {
        sentence = words;
    }

    private static void due(String call, int got, int want) {
        if (got != want) {
            wrong++;
            System.out.println(sentence + ": " + call + " answered " + got + ", due is " + want);
        }
    }

    private static void due(String call, boolean got, boolean want) {
        if (got != want) {
            wrong++;
            System.out.println(sentence + ": " + call + " answered " + got + ", due is " + want);
        }
    }

    /**
     * Numbers outside 0..last: the nearest ones, the ends of int, and those that a narrower type or a wrap-around
     * would turn into one that is taken.
     */
    private static int[] outside(int last) {
        int[] far = {
            -1, -2, -last, -last - 1, last + 1, last + 2, 2 * last + 1,
            LEAST, LEAST + 1, LEAST + last, LEAST + last + 1, MOST, MOST - 1,
            256, 256 + last, 65536, 65536 + last, 1 << 30, (1 << 30) + last, -256, -65536, -(1 << 30)
        };
        List<Integer> kept = new ArrayList<>();
        for (int n : far) {
            if ((n < 0 || n > last) && !kept.contains(n)) {
                kept.add(n);
            }
        }
        return kept.stream().mapToInt(Integer::intValue).toArray();
    }

    private static int lastRow(int r) {
        return r == 2 ? 124 : 24;
    }

    private static int row(int... digits) {
        int number = 0;
        for (int d : digits) {
            number = number * 5 + d;
        }
        return number;
    }

    private static String call(String name, int... arguments) {
        StringBuilder text = new StringBuilder(name).append('(');
        for (int i = 0; i < arguments.length; i++) {
            text.append(i == 0 ? "" : ", ").append(arguments[i]);
        }
        return text.append(')').toString();
    }

    private static void add(TrieJoins x, int r, int row, int want) {
        due(call("add", r, row), x.add(r, row), want);
    }

    private static void remove(TrieJoins x, int r, int row, int want) {
        due(call("remove", r, row), x.remove(r, row), want);
    }

    private static void rows(TrieJoins x, int r, int want) {
        due(call("rows", r), x.rows(r), want);
    }

    private static void atom(TrieJoins x, int q, int r, int variables, int want) {
        due(call("atom", q, r, variables), x.atom(q, r, variables), want);
    }

    private static void cut(TrieJoins x, int q, int i, int want) {
        due(call("cut", q, i), x.cut(q, i), want);
    }

    private static void ask(TrieJoins x, int q, int set, boolean want) {
        due(call("ask", q, set), x.ask(q, set), want);
    }

    private static void whole(TrieJoins x, int q, boolean want) {
        due(call("whole", q), x.whole(q), want);
    }

    private static void count(TrieJoins x, int q, int want) {
        due(call("count", q), x.count(q), want);
    }

    private static void answer(TrieJoins x, int q, int k, int want) {
        due(call("answer", q, k), x.answer(q, k), want);
    }

    private static void often(TrieJoins x, int q, int v, int value, int want) {
        due(call("often", q, v, value), x.often(q, v, value), want);
    }

    private static void within(TrieJoins x, int q, int want) {
        due(call("within", q), x.within(q), want);
    }

    private static void smallest(TrieJoins x, int q, int want) {
        due(call("smallest", q), x.smallest(q), want);
    }

    private static void treeLike(TrieJoins x, int q, int want) {
        due(call("treeLike", q), x.treeLike(q), want);
    }

    private static void idle(TrieJoins x, int q, int want) {
        due(call("idle", q), x.idle(q), want);
    }

    private static void level(TrieJoins x, int k, boolean want) {
        due(call("level", k), x.level(k), want);
    }

    /** An object whose relation r has the 16 rows from the first one on. */
    private static TrieJoins withSixteen(int r, int first) {
        TrieJoins x = new TrieJoins();
        for (int i = 0; i < 16; i++) {
            add(x, r, first + i, 1);
        }
        return x;
    }

    /** An object whose question q has the atoms 0(v, v) for v from 0 to number - 1. */
    private static TrieJoins withLoops(int q, int number) {
        TrieJoins x = new TrieJoins();
        for (int v = 0; v < number; v++) {
            atom(x, q, 0, row(v, v), v + 1);
        }
        return x;
    }

    /** Question q asks the variables 0 and 1, which stand in the first and second column of relation 0. */
    private static TrieJoins withPairs(int q) {
        TrieJoins x = new TrieJoins();
        atom(x, q, 0, row(0, 1), 1);
        ask(x, q, 3, true);
        return x;
    }

    // ---- The object

    private static void lastOfItsCalls() {
        sentence("What it is: an object is used for at most 512 calls");
        TrieJoins x = new TrieJoins();
        add(x, 2, 124, 1);
        for (int i = 0; i < 254; i++) {
            add(x, 0, 24, 1);
            remove(x, 0, 24, 1);
        }
        rows(x, 0, 0);
        add(x, 0, 3, 1);
        rows(x, 0, 1);
    }

    // ---- Terms

    private static void valuesFrom0To4() {
        sentence("Terms: values are numbers from 0 to 4");
        TrieJoins x = withPairs(0);
        for (int value = 0; value <= 4; value++) {
            add(x, 0, row(value, 4 - value), 1);
        }
        count(x, 0, 5);
        for (int value = 0; value <= 4; value++) {
            answer(x, 0, value, row(value, 4 - value));
        }
    }

    private static void firstColumnHighest() {
        sentence("Terms: the first column's digit is the highest");
        TrieJoins x = new TrieJoins();
        atom(x, 0, 2, row(0, 1, 2), 1);
        ask(x, 0, 7, true);
        add(x, 2, 4 * 25, 1);
        often(x, 0, 0, 4, 1);
        often(x, 0, 1, 0, 1);
        often(x, 0, 2, 0, 1);
        remove(x, 2, 4 * 25, 1);
        add(x, 2, 4, 1);
        often(x, 0, 0, 0, 1);
        often(x, 0, 1, 0, 1);
        often(x, 0, 2, 4, 1);
    }

    private static void smallestVariableHighest() {
        sentence("Terms: the variable with the smallest number the highest digit");
        TrieJoins x = new TrieJoins();
        atom(x, 0, 0, row(4, 0), 1);
        ask(x, 0, 17, true);
        add(x, 0, row(1, 3), 1);
        answer(x, 0, 0, row(3, 1));
    }

    private static void nothingAsked() {
        sentence("Terms: without asked variables the only possible answer is 0");
        for (int q : QUESTIONS) {
            TrieJoins x = new TrieJoins();
            atom(x, q, 0, row(3, 4), 1);
            count(x, q, 0);
            answer(x, q, 0, NONE);
            for (int i = 0; i < 16; i++) {
                add(x, 0, 24 - i, 1);
                count(x, q, 1);
                answer(x, q, 0, 0);
                answer(x, q, 1, NONE);
            }
            for (int v = 0; v < 5; v++) {
                often(x, q, v, 0, NONE);
            }
            ask(x, q, 8, true);
            count(x, q, 4);
            ask(x, q, 0, true);
            count(x, q, 1);
            for (int i = 0; i < 16; i++) {
                count(x, q, 1);
                remove(x, 0, 24 - i, 1);
            }
            count(x, q, 0);
            answer(x, q, 0, NONE);
        }
    }

    private static void numberedFrom0() {
        sentence("Terms: answers are numbered from 0 in ascending order");
        TrieJoins x = withPairs(0);
        for (int i = 0; i < 16; i++) {
            add(x, 0, (7 * i + 3) % 25, 1);
        }
        int k = 0;
        for (int a = 0; a < 25; a++) {
            for (int i = 0; i < 16; i++) {
                if (a == (7 * i + 3) % 25) {
                    answer(x, 0, k++, a);
                }
            }
        }
        answer(x, 0, 16, NONE);
    }

    private static void severalTimesInAnAtom() {
        sentence("Terms: a variable may come several times in an atom");
        for (int v = 0; v < 5; v++) {
            TrieJoins x = new TrieJoins();
            atom(x, 0, 0, row(v, v), 1);
            atom(x, 1, 2, row(v, v, v), 1);
            ask(x, 0, 1 << v, true);
            ask(x, 1, 1 << v, true);
            add(x, 0, row(0, 1), 1);
            add(x, 2, row(4, 4, 3), 1);
            add(x, 2, row(3, 4, 4), 1);
            add(x, 2, row(4, 3, 4), 1);
            count(x, 0, 0);
            count(x, 1, 0);
            add(x, 0, row(4, 4), 1);
            add(x, 2, row(0, 0, 0), 1);
            answer(x, 0, 0, 4);
            answer(x, 1, 0, 0);
            count(x, 0, 1);
            count(x, 1, 1);
        }
    }

    private static void contentsDoNotMatter() {
        sentence("Terms: within iff for all contents, with more values and any number of rows");
        TrieJoins x = new TrieJoins();
        atom(x, 0, 0, row(0, 1), 1);
        atom(x, 1, 0, row(0, 0), 1);
        within(x, 0, 0);
        within(x, 1, 1);
        // For these contents question 0 has just the answers of question 1.
        for (int value = 0; value < 5; value++) {
            add(x, 0, row(value, value), 1);
            within(x, 0, 0);
            within(x, 1, 1);
        }
        // And so it stays up to a full relation.
        for (int i = 0; i < 11; i++) {
            add(x, 0, i + 1 + i / 5, 1);
            within(x, 0, 0);
            within(x, 1, 1);
        }
        rows(x, 0, 16);
    }

    // ---- Promise 1

    private static void noRowsAtFirst() {
        sentence("1: no rows");
        TrieJoins x = new TrieJoins();
        for (int r : RELATIONS) {
            rows(x, r, 0);
            for (int row = 0; row <= lastRow(r); row++) {
                remove(x, r, row, 0);
            }
        }
    }

    private static void noAtomsAtFirst() {
        sentence("1: no atoms");
        for (int q : QUESTIONS) {
            TrieJoins x = new TrieJoins();
            for (int i = 0; i < 4; i++) {
                cut(x, q, i, BAD);
            }
            whole(x, q, false);
            count(x, q, NONE);
            answer(x, q, 0, NONE);
            often(x, q, 0, 0, NONE);
            within(x, q, NONE);
            smallest(x, q, NONE);
            treeLike(x, q, 1);
            idle(x, q, NONE);
            atom(x, q, 2, 0, 1);
        }
    }

    private static void nothingAskedAtFirst() {
        sentence("1: nothing asked");
        for (int q : QUESTIONS) {
            for (int v = 0; v < 5; v++) {
                // The question lacks four variables: each of them would spoil it if it were asked.
                TrieJoins x = new TrieJoins();
                atom(x, q, 0, row(v, v), 1);
                whole(x, q, true);
                count(x, q, 0);
                often(x, q, v, 0, NONE);
            }
        }
    }

    // ---- Promise 2

    private static void addRelationOutside() {
        sentence("2: r outside 0..2: BAD");
        TrieJoins x = new TrieJoins();
        for (int r : NOT_RELATIONS) {
            add(x, r, 0, BAD);
            add(x, r, 24, BAD);
            add(x, r, 124, BAD);
            add(x, r, -1, BAD);
            add(x, r, LEAST, BAD);
            add(x, r, MOST, BAD);
        }
        for (int r : RELATIONS) {
            rows(x, r, 0);
            add(x, r, 0, 1);
        }
    }

    private static void addRowOutside(int r) {
        sentence("2: row outside 0.." + lastRow(r) + " (relation " + r + "): BAD");
        TrieJoins x = new TrieJoins();
        for (int row : outside(lastRow(r))) {
            add(x, r, row, BAD);
        }
        rows(x, r, 0);
        add(x, r, 0, 1);
        add(x, r, lastRow(r), 1);
        rows(x, r, 2);
        for (int row : outside(lastRow(r))) {
            add(x, r, row, BAD);
        }
        rows(x, r, 2);
    }

    private static void addEachRow(int r) {
        sentence("2: each row of 0.." + lastRow(r) + " (relation " + r + ") is taken");
        TrieJoins x = new TrieJoins();
        for (int row = 0; row <= lastRow(r); row++) {
            add(x, r, row, 1);
            rows(x, r, 1);
            remove(x, r, row, 1);
        }
    }

    private static void addNarrowOnly() {
        sentence("2: 25..124 are rows of relation 2 alone");
        TrieJoins x = new TrieJoins();
        for (int row = 25; row <= 124; row++) {
            add(x, 0, row, BAD);
            add(x, 1, row, BAD);
        }
        add(x, 2, 25, 1);
        add(x, 2, 124, 1);
        rows(x, 0, 0);
        rows(x, 1, 0);
        rows(x, 2, 2);
    }

    private static void addThere(int r) {
        sentence("2: it is there: 0");
        TrieJoins x = new TrieJoins();
        for (int row : new int[] {0, 12, lastRow(r)}) {
            add(x, r, row, 1);
            add(x, r, row, 0);
            add(x, r, row, 0);
        }
        rows(x, r, 3);
        // That it was added again leaves it there once.
        remove(x, r, 12, 1);
        remove(x, r, 12, 0);
        rows(x, r, 2);
        add(x, r, 12, 1);
        // The same number in another relation is another row.
        add(x, (r + 1) % 3, 12, 1);
        add(x, (r + 2) % 3, 12, 1);
    }

    private static void addFull(int r) {
        sentence("2: 16 rows are there: FULL");
        TrieJoins x = new TrieJoins();
        for (int i = 0; i < 15; i++) {
            add(x, r, i, 1);
        }
        add(x, r, lastRow(r), 1);
        rows(x, r, 16);
        for (int row = 15; row < lastRow(r); row++) {
            add(x, r, row, FULL);
        }
        rows(x, r, 16);
        for (int row = 15; row < lastRow(r); row++) {
            remove(x, r, row, 0);
        }
        add(x, (r + 1) % 3, 15, 1);
        add(x, (r + 2) % 3, 15, 1);
        remove(x, r, 0, 1);
        add(x, r, 15, 1);
        add(x, r, 0, FULL);
        rows(x, r, 16);
    }

    private static void addBadWhenFull(int r) {
        sentence("2: BAD also where 16 rows are there");
        TrieJoins x = withSixteen(r, 0);
        for (int row : outside(lastRow(r))) {
            add(x, r, row, BAD);
        }
        for (int n : NOT_RELATIONS) {
            add(x, n, 16, BAD);
        }
        add(x, r, 16, FULL);
        rows(x, r, 16);
    }

    // ---- Promise 3

    private static void removeRelationOutside() {
        sentence("3: BAD as for add: r outside 0..2");
        TrieJoins x = new TrieJoins();
        for (int r : RELATIONS) {
            add(x, r, 0, 1);
            add(x, r, 24, 1);
        }
        for (int r : NOT_RELATIONS) {
            remove(x, r, 0, BAD);
            remove(x, r, 24, BAD);
            remove(x, r, 124, BAD);
            remove(x, r, LEAST, BAD);
            remove(x, r, MOST, BAD);
        }
        for (int r : RELATIONS) {
            rows(x, r, 2);
            remove(x, r, 0, 1);
            remove(x, r, 24, 1);
        }
    }

    private static void removeRowOutside(int r) {
        sentence("3: BAD as for add: row outside 0.." + lastRow(r) + " (relation " + r + ")");
        TrieJoins x = new TrieJoins();
        for (int row : outside(lastRow(r))) {
            remove(x, r, row, BAD);
        }
        remove(x, r, 0, 0);
        remove(x, r, lastRow(r), 0);
        add(x, r, 0, 1);
        add(x, r, lastRow(r), 1);
        add(x, (r + 1) % 3, 0, 1);
        add(x, (r + 2) % 3, 24, 1);
        for (int row : outside(lastRow(r))) {
            remove(x, r, row, BAD);
        }
        rows(x, r, 2);
        rows(x, (r + 1) % 3, 1);
        rows(x, (r + 2) % 3, 1);
        remove(x, r, 0, 1);
        remove(x, r, lastRow(r), 1);
    }

    private static void removeThereOrNot(int r) {
        sentence("3: 1 if it was there, else 0");
        TrieJoins x = new TrieJoins();
        add(x, r, 12, 1);
        remove(x, r, 11, 0);
        remove(x, r, 13, 0);
        remove(x, (r + 1) % 3, 12, 0);
        remove(x, (r + 2) % 3, 12, 0);
        rows(x, r, 1);
        remove(x, r, 12, 1);
        rows(x, r, 0);
        remove(x, r, 12, 0);
        rows(x, r, 0);
    }

    private static void removeFromFull(int r) {
        sentence("3: takes a row out, from the first of 16 to the last");
        int first = lastRow(r) - 15;
        TrieJoins x = withSixteen(r, first);
        remove(x, r, first - 1, 0);
        rows(x, r, 16);
        for (int i = 0; i < 16; i++) {
            remove(x, r, first + i, 1);
            rows(x, r, 15 - i);
        }
        remove(x, r, first, 0);
        rows(x, r, 0);
    }

    // ---- Promise 4

    private static void rowsOutside() {
        sentence("4: BAD for r outside 0..2");
        TrieJoins x = new TrieJoins();
        add(x, 0, 0, 1);
        add(x, 2, 0, 1);
        for (int r : NOT_RELATIONS) {
            rows(x, r, BAD);
        }
        rows(x, 0, 1);
        rows(x, 1, 0);
        rows(x, 2, 1);
    }

    private static void rowsFromNoneToSixteen(int r) {
        sentence("4: the number of rows, from 0 to 16");
        TrieJoins x = new TrieJoins();
        for (int number = 0; number < 16; number++) {
            rows(x, r, number);
            add(x, r, lastRow(r) - number, 1);
        }
        rows(x, r, 16);
        add(x, r, 0, FULL);
        rows(x, r, 16);
        rows(x, (r + 1) % 3, 0);
        rows(x, (r + 2) % 3, 0);
    }

    // ---- Promise 5

    private static void atomQuestionOutside() {
        sentence("5: q outside 0..1: BAD");
        TrieJoins x = new TrieJoins();
        for (int q : NOT_QUESTIONS) {
            for (int r : RELATIONS) {
                atom(x, q, r, 0, BAD);
                atom(x, q, r, lastRow(r), BAD);
            }
            atom(x, q, 3, 125, BAD);
        }
        for (int q : QUESTIONS) {
            atom(x, q, 0, 0, 1);
        }
    }

    private static void atomRelationOutside() {
        sentence("5: r outside 0..2: BAD");
        for (int q : QUESTIONS) {
            TrieJoins x = new TrieJoins();
            for (int r : NOT_RELATIONS) {
                atom(x, q, r, 0, BAD);
                atom(x, q, r, 24, BAD);
                atom(x, q, r, 124, BAD);
                atom(x, q, r, -1, BAD);
            }
            for (int r : RELATIONS) {
                atom(x, q, r, 0, r + 1);
            }
        }
    }

    private static void atomVariablesOutside(int r) {
        sentence("5: variables outside 0.." + lastRow(r) + " (relation " + r + "): BAD");
        for (int q : QUESTIONS) {
            TrieJoins x = new TrieJoins();
            for (int variables : outside(lastRow(r))) {
                atom(x, q, r, variables, BAD);
            }
            cut(x, q, 0, BAD);
            atom(x, q, r, 0, 1);
            atom(x, q, r, lastRow(r), 2);
            // Variable 0 came in the first, variable 4 in the second, and no other.
            ask(x, q, 17, true);
            whole(x, q, true);
            for (int v = 1; v < 4; v++) {
                ask(x, q, 1 << v, true);
                whole(x, q, false);
            }
        }
    }

    private static void atomNarrowOnly() {
        sentence("5: 25..124 are variables of relation 2 alone");
        TrieJoins x = new TrieJoins();
        for (int variables = 25; variables <= 124; variables++) {
            atom(x, 0, 0, variables, BAD);
            atom(x, 0, 1, variables, BAD);
        }
        atom(x, 0, 2, 25, 1);
        atom(x, 0, 2, 124, 2);
    }

    private static void atomEachRowOfVariables(int r) {
        sentence("5: the first column's variable is the highest digit");
        for (int first = 0; first < 5; first++) {
            TrieJoins x = new TrieJoins();
            for (int last = 0; last < 5; last++) {
                atom(x, 0, r, r == 2 ? row(first, first, last) : row(first, last), 1);
                add(x, r, r == 2 ? row(1, 1, 4) : row(1, 4), last == 0 ? 1 : 0);
                ask(x, 0, 1 << first, true);
                count(x, 0, first == last ? 0 : 1);
                answer(x, 0, 0, first == last ? NONE : 1);
                ask(x, 0, 1 << last, true);
                answer(x, 0, 0, first == last ? NONE : 4);
                cut(x, 0, 0, 0);
            }
        }
    }

    private static void atomFull() {
        sentence("5: the question has 4 atoms: FULL");
        for (int q : QUESTIONS) {
            TrieJoins x = withLoops(q, 4);
            for (int r : RELATIONS) {
                atom(x, q, r, lastRow(r), FULL);
                atom(x, q, r, 0, FULL);
            }
            // The one that was refused is not there, and the four are.
            ask(x, q, 16, true);
            whole(x, q, false);
            ask(x, q, 15, true);
            whole(x, q, true);
            cut(x, q, 4, BAD);
            // The other question has room for four of its own.
            for (int i = 1; i <= 4; i++) {
                atom(x, 1 - q, 0, 24, i);
            }
            atom(x, 1 - q, 0, 24, FULL);
            whole(x, q, true);
            cut(x, q, 3, 3);
            atom(x, q, 0, 24, 4);
            atom(x, q, 0, 24, FULL);
        }
    }

    private static void atomBadBeforeFull() {
        sentence("5: BAD is tested before FULL");
        for (int q : QUESTIONS) {
            TrieJoins x = withLoops(q, 4);
            for (int r : NOT_RELATIONS) {
                atom(x, q, r, 0, BAD);
            }
            for (int n : NOT_QUESTIONS) {
                atom(x, n, 0, 0, BAD);
            }
            for (int r : RELATIONS) {
                for (int variables : outside(lastRow(r))) {
                    atom(x, q, r, variables, BAD);
                }
                atom(x, q, r, 0, FULL);
            }
        }
    }

    private static void atomNumber() {
        sentence("5: else answers the number of atoms");
        TrieJoins x = new TrieJoins();
        for (int i = 1; i <= 4; i++) {
            // The same atom may be added again, and each counts.
            atom(x, 0, 2, 62, i);
            atom(x, 1, 0, i, i);
        }
    }

    // ---- Promise 6

    private static void cutNone() {
        sentence("6: there is none: BAD");
        for (int q : QUESTIONS) {
            for (int number = 0; number <= 4; number++) {
                TrieJoins x = withLoops(q, number);
                // Were the two questions' atoms mixed up, the other one would have what this one lacks.
                for (int i = 1; i <= 4; i++) {
                    atom(x, 1 - q, 1, 24, i);
                }
                for (int i : outside(number - 1)) {
                    cut(x, q, i, BAD);
                }
                cut(x, q, number, BAD);
                cut(x, q, number + 4, BAD);
                cut(x, q, -1, BAD);
                cut(x, q, -4, BAD);
                loopsAre(x, q, number);
                cut(x, 1 - q, 3, 3);
            }
        }
    }

    /** The question's atoms are 0(v, v) for v from 0 to number - 1, in this order; takes them out. */
    private static void loopsAre(TrieJoins x, int q, int number) {
        for (int v = 0; v < number; v++) {
            ask(x, q, 1 << v, true);
            whole(x, q, true);
            cut(x, q, 0, number - 1 - v);
            whole(x, q, false);
        }
        cut(x, q, 0, BAD);
    }

    private static void cutQuestionOutside() {
        sentence("6: q outside 0..1: BAD");
        TrieJoins x = new TrieJoins();
        for (int i = 1; i <= 4; i++) {
            atom(x, 0, 0, 0, i);
            atom(x, 1, 0, 0, i);
        }
        for (int q : NOT_QUESTIONS) {
            cut(x, q, 0, BAD);
            cut(x, q, 3, BAD);
            cut(x, q, -1, BAD);
            cut(x, q, LEAST, BAD);
            cut(x, q, MOST, BAD);
        }
        cut(x, 0, 3, 3);
        cut(x, 1, 3, 3);
    }

    private static void cutMovesDown() {
        sentence("6: later ones move one down");
        for (int q : QUESTIONS) {
            for (int number = 1; number <= 4; number++) {
                for (int i = 0; i < number; i++) {
                    TrieJoins x = withLoops(q, number);
                    atom(x, 1 - q, 0, row(i, i), 1);
                    ask(x, q, 1 << i, true);
                    ask(x, 1 - q, 1 << i, true);
                    cut(x, q, i, number - 1);
                    whole(x, q, false);
                    whole(x, 1 - q, true);
                    cut(x, q, number - 1, BAD);
                    for (int v = 0, left = number - 1; v < number; v++) {
                        if (v != i) {
                            ask(x, q, 1 << v, true);
                            whole(x, q, true);
                            cut(x, q, 0, --left);
                            whole(x, q, false);
                        }
                    }
                    cut(x, q, 0, BAD);
                }
            }
        }
    }

    private static void cutMovesRelations() {
        sentence("6: an atom that moves down keeps its relation and all its columns");
        TrieJoins x = new TrieJoins();
        atom(x, 0, 0, row(0, 0), 1);
        atom(x, 0, 2, row(1, 2, 3), 2);
        atom(x, 0, 1, row(3, 4), 3);
        add(x, 2, row(1, 0, 2), 1);
        add(x, 1, row(2, 4), 1);
        cut(x, 0, 0, 2);
        ask(x, 0, 30, true);
        count(x, 0, 1);
        answer(x, 0, 0, row(1, 0, 2, 4));
        cut(x, 0, 0, 1);
        ask(x, 0, 24, true);
        count(x, 0, 1);
        answer(x, 0, 0, row(2, 4));
        cut(x, 0, 0, 0);
    }

    private static void cutLast() {
        sentence("6: takes atom i out of a question, the last one too, and nothing else");
        for (int q : QUESTIONS) {
            TrieJoins x = withPairs(q);
            add(x, 0, row(3, 4), 1);
            answer(x, q, 0, row(3, 4));
            cut(x, q, 0, 0);
            whole(x, q, false);
            // What was asked is asked still: variable 1 is lacking now.
            atom(x, q, 0, row(0, 0), 1);
            whole(x, q, false);
            cut(x, q, 0, 0);
            atom(x, q, 0, row(1, 0), 1);
            answer(x, q, 0, row(4, 3));
        }
    }

    // ---- Promise 7

    private static void askQuestionOutside() {
        sentence("7: q outside 0..1: refused, answers false");
        TrieJoins x = new TrieJoins();
        for (int q : QUESTIONS) {
            atom(x, q, 0, row(0, 1), 1);
            ask(x, q, 1 + q, true);
        }
        add(x, 0, row(3, 4), 1);
        for (int q : NOT_QUESTIONS) {
            for (int set : new int[] {0, 3, 31, 32, -1, LEAST, MOST}) {
                ask(x, q, set, false);
            }
        }
        answer(x, 0, 0, 3);
        answer(x, 1, 0, 4);
    }

    private static void askSetOutside() {
        sentence("7: set outside 0..31: refused, answers false");
        for (int q : QUESTIONS) {
            TrieJoins x = withPairs(q);
            add(x, 0, row(3, 4), 1);
            for (int set : NOT_SETS) {
                ask(x, q, set, false);
                answer(x, q, 0, row(3, 4));
            }
            // With one bit too many, what else the set has is not taken either.
            for (int set = 32; set < 64; set++) {
                ask(x, q, set, false);
                answer(x, q, 0, row(3, 4));
            }
            for (int bit = 5; bit < 32; bit++) {
                ask(x, q, 1 << bit | 1, false);
                answer(x, q, 0, row(3, 4));
            }
            ask(x, q, 0, true);
            answer(x, q, 0, 0);
            ask(x, q, 31, true);
            whole(x, q, false);
        }
    }

    private static void askEachSet() {
        sentence("7: makes just the variables of a set asked, each set of 0..31");
        TrieJoins x = new TrieJoins();
        atom(x, 0, 2, row(0, 1, 2), 1);
        atom(x, 0, 0, row(3, 4), 2);
        add(x, 2, row(4, 3, 2), 1);
        add(x, 0, row(1, 0), 1);
        int[] value = {4, 3, 2, 1, 0};
        for (int i = 0; i < 64; i++) {
            // Upwards and downwards, so that sets come after larger and after smaller ones.
            int set = i < 32 ? i : 63 - i;
            ask(x, 0, set, true);
            int number = 0;
            for (int v = 0; v < 5; v++) {
                if ((set >> v & 1) == 1) {
                    number = number * 5 + value[v];
                }
            }
            whole(x, 0, true);
            answer(x, 0, 0, number);
        }
    }

    private static void askWithoutAtoms() {
        sentence("7: a set is taken whether or not its variables come");
        for (int q : QUESTIONS) {
            TrieJoins x = new TrieJoins();
            ask(x, q, 31, true);
            atom(x, q, 2, row(0, 1, 2), 1);
            whole(x, q, false);
            atom(x, q, 0, row(3, 4), 2);
            whole(x, q, true);
            whole(x, 1 - q, false);
            atom(x, 1 - q, 0, 0, 1);
            whole(x, 1 - q, true);
        }
    }

    // ---- Promise 8

    private static void wholeQuestionOutside() {
        sentence("8: false for q outside 0..1");
        TrieJoins x = new TrieJoins();
        for (int i = 1; i <= 4; i++) {
            atom(x, 0, 0, 0, i);
            atom(x, 1, 0, 0, i);
        }
        for (int q : NOT_QUESTIONS) {
            whole(x, q, false);
        }
        whole(x, 0, true);
        whole(x, 1, true);
    }

    private static void wholeHasAnAtom() {
        sentence("8, Terms: whole iff it has an atom");
        for (int q : QUESTIONS) {
            TrieJoins x = new TrieJoins();
            whole(x, q, false);
            ask(x, q, 0, true);
            whole(x, q, false);
            atom(x, 1 - q, 0, 0, 1);
            whole(x, q, false);
            atom(x, q, 0, 0, 1);
            whole(x, q, true);
            cut(x, q, 0, 0);
            whole(x, q, false);
        }
    }

    private static void wholeEveryAskedVariable() {
        sentence("8, Terms: whole iff every asked variable comes in some atom");
        TrieJoins x = new TrieJoins();
        atom(x, 0, 2, row(4, 0, 2), 1);
        for (int set = 0; set < 32; set++) {
            ask(x, 0, set, true);
            whole(x, 0, (set & ~21) == 0);
        }
        // The other question's atoms don't count.
        atom(x, 1, 0, row(1, 3), 1);
        ask(x, 0, 31, true);
        whole(x, 0, false);
        atom(x, 0, 1, row(3, 0), 2);
        whole(x, 0, false);
        atom(x, 0, 0, row(0, 0), 3);
        whole(x, 0, false);
        atom(x, 0, 0, row(1, 1), 4);
        whole(x, 0, true);
    }

    private static void wholeEachPlace() {
        sentence("8, Terms: an asked variable may come in any column of any atom");
        for (int place = 0; place < 4; place++) {
            for (int v = 1; v < 5; v++) {
                TrieJoins x = new TrieJoins();
                ask(x, 0, 1 << v, true);
                for (int i = 0; i < place; i++) {
                    atom(x, 0, 0, 0, i + 1);
                }
                for (int column = 1; column <= 25; column *= 5) {
                    whole(x, 0, false);
                    atom(x, 0, 2, v * column, place + 1);
                    whole(x, 0, true);
                    cut(x, 0, place, place);
                }
                for (int column = 1; column <= 5; column *= 5) {
                    whole(x, 0, false);
                    atom(x, 0, 1, v * column, place + 1);
                    whole(x, 0, true);
                    cut(x, 0, place, place);
                }
                whole(x, 0, false);
            }
        }
    }

    // ---- Promise 9

    private static void countOrder() {
        sentence("9: q outside 0..1: BAD; it is not whole: NONE");
        TrieJoins x = new TrieJoins();
        for (int q : NOT_QUESTIONS) {
            count(x, q, BAD);
        }
        for (int q : QUESTIONS) {
            count(x, q, NONE);
            ask(x, q, 16, true);
            atom(x, q, 0, row(0, 1), 1);
            count(x, q, NONE);
            ask(x, q, 2, true);
            count(x, q, 0);
            ask(x, q, 4, true);
            count(x, q, NONE);
            atom(x, q, 0, row(2, 2), 2);
            count(x, q, 0);
        }
        for (int q : NOT_QUESTIONS) {
            count(x, q, BAD);
        }
    }

    private static void countNoRows() {
        sentence("9: a whole question over an empty relation has no answers");
        for (int r : RELATIONS) {
            TrieJoins x = withSixteen((r + 1) % 3, 0);
            for (int i = 0; i < 16; i++) {
                add(x, (r + 2) % 3, i, 1);
            }
            for (int q : QUESTIONS) {
                atom(x, q, r, 0, 1);
                count(x, q, 0);
                ask(x, q, 1, true);
                count(x, q, 0);
                atom(x, q, (r + 1) % 3, 0, 2);
                count(x, q, 0);
                answer(x, q, 0, NONE);
                often(x, q, 0, 0, 0);
            }
            add(x, r, 0, 1);
            count(x, 0, 1);
            count(x, 1, 1);
        }
    }

    /** Each of three variables has all five values, and the other two have 16 pairs: more answers there can't be. */
    private static TrieJoins withMostAnswers() {
        TrieJoins x = new TrieJoins();
        for (int v = 0; v < 3; v++) {
            atom(x, 0, 2, row(v, v, v), v + 1);
        }
        atom(x, 0, 0, row(3, 4), 4);
        ask(x, 0, 31, true);
        for (int value = 0; value < 5; value++) {
            add(x, 2, row(value, value, value), 1);
        }
        for (int i = 0; i < 15; i++) {
            add(x, 0, i, 1);
        }
        add(x, 0, 24, 1);
        return x;
    }

    private static void countMost() {
        sentence("9, 10, 11: as many answers as there can be, from the lowest to the highest");
        TrieJoins x = withMostAnswers();
        count(x, 0, 2000);
        answer(x, 0, 0, 0);
        answer(x, 0, 14, 14);
        answer(x, 0, 15, 24);
        answer(x, 0, 16, 25);
        answer(x, 0, 1999, 3124);
        answer(x, 0, 2000, NONE);
        for (int value = 0; value < 5; value++) {
            often(x, 0, 0, value, 400);
            often(x, 0, 2, value, 400);
        }
        often(x, 0, 3, 0, 625);
        often(x, 0, 3, 3, 0);
        often(x, 0, 3, 4, 125);
        often(x, 0, 4, 0, 375);
        often(x, 0, 4, 4, 500);
        idle(x, 0, 0);
        ask(x, 0, 7, true);
        count(x, 0, 125);
        ask(x, 0, 24, true);
        count(x, 0, 16);
        ask(x, 0, 0, true);
        count(x, 0, 1);
    }

    // ---- Promise 10

    private static void answerOrder() {
        sentence("10: q outside 0..1: BAD, whatever k is; not whole: NONE");
        TrieJoins x = new TrieJoins();
        add(x, 0, 0, 1);
        for (int q : NOT_QUESTIONS) {
            for (int k : new int[] {0, 1, -1, LEAST, MOST}) {
                answer(x, q, k, BAD);
            }
        }
        for (int q : QUESTIONS) {
            for (int k : new int[] {0, 1, -1, LEAST, MOST}) {
                answer(x, q, k, NONE);
            }
            atom(x, q, 0, 0, 1);
            answer(x, q, 0, 0);
            ask(x, q, 2, true);
            for (int k : new int[] {0, 1, -1, LEAST, MOST}) {
                answer(x, q, k, NONE);
            }
            ask(x, q, 1, true);
            answer(x, q, 0, 0);
        }
        for (int q : NOT_QUESTIONS) {
            answer(x, q, 0, BAD);
        }
    }

    private static void answerNoSuch() {
        sentence("10: there is no answer k: NONE");
        for (int q : QUESTIONS) {
            TrieJoins x = withPairs(q);
            answer(x, q, 0, NONE);
            for (int number = 1; number <= 16; number++) {
                add(x, 0, 25 - number, 1);
                answer(x, q, 0, 25 - number);
                answer(x, q, number - 1, 24);
                answer(x, q, number, NONE);
                for (int k : outside(number - 1)) {
                    if (number % 8 == 0) {
                        answer(x, q, k, NONE);
                    }
                }
                answer(x, q, -1, NONE);
                answer(x, q, LEAST, NONE);
                answer(x, q, MOST, NONE);
            }
        }
    }

    // ---- Promise 11

    private static void oftenOutside() {
        sentence("11: q outside 0..1, v outside 0..4 or x outside 0..4: BAD");
        TrieJoins x = withMostAnswers();
        for (int q : NOT_QUESTIONS) {
            often(x, q, 0, 0, BAD);
            often(x, q, 4, 4, BAD);
            often(x, q, 5, 5, BAD);
        }
        for (int n : NOT_DIGITS) {
            often(x, 0, n, 0, BAD);
            often(x, 0, n, 4, BAD);
            often(x, 0, 0, n, BAD);
            often(x, 0, 4, n, BAD);
            often(x, 0, n, n, BAD);
        }
        often(x, 0, 0, 0, 400);
        often(x, 0, 0, 4, 400);
        often(x, 0, 4, 0, 375);
        often(x, 0, 4, 4, 500);
    }

    private static void oftenBadFirst() {
        sentence("11: BAD is tested before NONE");
        TrieJoins x = new TrieJoins();
        for (int turn = 0; turn < 2; turn++) {
            // At first the question has no atom; then it is whole, but variable 0 is not asked.
            for (int n : NOT_DIGITS) {
                often(x, 0, n, 0, BAD);
                often(x, 0, 0, n, BAD);
            }
            for (int q : NOT_QUESTIONS) {
                often(x, q, 0, 0, BAD);
            }
            for (int v = 0; v < 5; v++) {
                often(x, 0, v, 4 - v, NONE);
            }
            x.atom(0, 0, 0);
        }
    }

    private static void oftenNotWhole() {
        sentence("11: the question is not whole: NONE");
        for (int q : QUESTIONS) {
            TrieJoins x = new TrieJoins();
            add(x, 0, row(2, 3), 1);
            ask(x, q, 5, true);
            often(x, q, 0, 2, NONE);
            atom(x, q, 0, row(0, 1), 1);
            // Variable 0 is asked and comes, but variable 2, asked as well, doesn't.
            often(x, q, 0, 2, NONE);
            atom(x, q, 0, row(2, 1), 2);
            often(x, q, 0, 2, 1);
            often(x, q, 2, 2, 1);
            often(x, q, 2, 3, 0);
            cut(x, q, 0, 1);
            often(x, q, 2, 2, NONE);
        }
    }

    private static void oftenNotAsked() {
        sentence("11: v is not asked: NONE");
        TrieJoins x = withMostAnswers();
        for (int set = 0; set < 32; set++) {
            ask(x, 0, set, true);
            for (int v = 0; v < 5; v++) {
                int got = x.often(0, v, 0);
                due(call("often", 0, v, 0) + " is NONE, with asked " + set, got == NONE, (set >> v & 1) == 0);
            }
        }
    }

    private static void oftenEachValue() {
        sentence("11: how often value x is the value of variable v, from 0 to all answers");
        TrieJoins x = withPairs(0);
        for (int i = 0; i < 4; i++) {
            add(x, 0, row(4, i), 1);
            add(x, 0, row(0, i + 1), 1);
        }
        add(x, 0, row(2, 2), 1);
        count(x, 0, 9);
        int[] first = {4, 0, 1, 0, 4};
        int[] second = {1, 2, 3, 2, 1};
        for (int value = 0; value < 5; value++) {
            often(x, 0, 0, value, first[value]);
            often(x, 0, 1, value, second[value]);
        }
    }

    // ---- Promise 12

    private static void withinQuestionOutside() {
        sentence("12: q outside 0..1: BAD, also where neither is whole");
        TrieJoins x = new TrieJoins();
        for (int q : NOT_QUESTIONS) {
            within(x, q, BAD);
        }
        within(x, 0, NONE);
        within(x, 1, NONE);
        atom(x, 0, 0, 0, 1);
        atom(x, 1, 0, 0, 1);
        for (int q : NOT_QUESTIONS) {
            within(x, q, BAD);
        }
        within(x, 0, 1);
        within(x, 1, 1);
    }

    private static void withinNotWhole() {
        sentence("12: one of the two is not whole: NONE");
        for (int q : QUESTIONS) {
            TrieJoins x = new TrieJoins();
            atom(x, q, 0, row(0, 1), 1);
            within(x, 0, NONE);
            within(x, 1, NONE);
            atom(x, 1 - q, 0, row(0, 1), 1);
            within(x, 0, 1);
            within(x, 1, 1);
            // The same asked variables in both; question q lacks one, then both do.
            ask(x, 0, 4, true);
            ask(x, 1, 4, true);
            within(x, 0, NONE);
            within(x, 1, NONE);
            atom(x, 1 - q, 0, row(2, 2), 2);
            within(x, 0, NONE);
            within(x, 1, NONE);
            atom(x, q, 0, row(2, 2), 2);
            within(x, 0, 1);
            within(x, 1, 1);
            cut(x, 1 - q, 1, 1);
            cut(x, 1 - q, 0, 0);
            within(x, 0, NONE);
            within(x, 1, NONE);
        }
    }

    private static void withinDifferentAsked() {
        sentence("12: they have different asked variables: NONE");
        TrieJoins x = new TrieJoins();
        for (int q : QUESTIONS) {
            atom(x, q, 2, row(0, 1, 2), 1);
            atom(x, q, 0, row(3, 4), 2);
        }
        for (int bit = 1; bit < 32; bit *= 2) {
            for (int set = 0; set < 32; set += 5) {
                ask(x, 0, set, true);
                ask(x, 1, set ^ bit, true);
                within(x, 0, NONE);
                within(x, 1, NONE);
                ask(x, 1, set, true);
                within(x, 0, 1);
                within(x, 1, 1);
            }
        }
    }

    private static void withinOneOrNone() {
        sentence("12: whether question q is within question 1 - q: 1 or 0");
        TrieJoins x = new TrieJoins();
        atom(x, 0, 0, row(0, 1), 1);
        atom(x, 0, 0, row(1, 2), 2);
        atom(x, 0, 0, row(2, 3), 3);
        atom(x, 0, 0, row(3, 4), 4);
        atom(x, 1, 0, row(4, 3), 1);
        within(x, 0, 1);
        within(x, 1, 0);
        atom(x, 1, 0, row(3, 4), 2);
        within(x, 0, 0);
        within(x, 1, 1);
        cut(x, 0, 3, 3);
        atom(x, 0, 0, row(1, 0), 4);
        within(x, 0, 1);
        within(x, 1, 1);
        cut(x, 0, 3, 3);
        atom(x, 0, 1, row(3, 3), 4);
        within(x, 0, 0);
        within(x, 1, 0);
    }

    private static void withinAskedKeepTheirPlace() {
        sentence("12: every answer of it is an answer of the other one, variable by variable");
        for (int v = 0; v < 5; v++) {
            int w = (v + 1) % 5;
            TrieJoins x = new TrieJoins();
            atom(x, 0, 0, row(v, w), 1);
            atom(x, 1, 0, row(w, v), 1);
            within(x, 0, 1);
            within(x, 1, 1);
            ask(x, 0, 1 << v, true);
            ask(x, 1, 1 << v, true);
            within(x, 0, 0);
            within(x, 1, 0);
            atom(x, 0, 0, row(w, v), 2);
            within(x, 0, 1);
            within(x, 1, 0);
        }
    }

    // ---- Promise 13

    private static void smallestOrder() {
        sentence("13: q outside 0..1: BAD; q is not whole: NONE");
        TrieJoins x = new TrieJoins();
        for (int q : NOT_QUESTIONS) {
            smallest(x, q, BAD);
        }
        for (int q : QUESTIONS) {
            smallest(x, q, NONE);
            ask(x, q, 2, true);
            atom(x, q, 0, row(0, 0), 1);
            smallest(x, q, NONE);
            atom(x, q, 0, row(1, 1), 2);
            smallest(x, q, 1);
            ask(x, q, 18, true);
            smallest(x, q, NONE);
            ask(x, q, 3, true);
            smallest(x, q, 2);
        }
        for (int q : NOT_QUESTIONS) {
            smallest(x, q, BAD);
        }
    }

    private static void smallestFromOneToFour() {
        sentence("13: the smallest number of atoms, from 1 to 4");
        for (int q : QUESTIONS) {
            TrieJoins same = new TrieJoins();
            TrieJoins apart = new TrieJoins();
            for (int i = 1; i <= 4; i++) {
                atom(same, q, 2, row(0, 1, 2), i);
                smallest(same, q, 1);
                atom(apart, q, 1, row(i, i), i);
                smallest(apart, q, 1);
            }
            // Each asked variable keeps one atom more.
            for (int i = 1; i <= 4; i++) {
                ask(apart, q, (2 << i) - 2, true);
                smallest(apart, q, i);
            }
        }
    }

    private static void smallestStaysWhole() {
        sentence("13: of a whole question with the same asked variables");
        TrieJoins x = new TrieJoins();
        atom(x, 0, 0, row(0, 1), 1);
        atom(x, 0, 0, row(0, 2), 2);
        smallest(x, 0, 1);
        ask(x, 0, 3, true);
        smallest(x, 0, 1);
        ask(x, 0, 6, true);
        smallest(x, 0, 2);
        ask(x, 0, 7, true);
        smallest(x, 0, 2);
    }

    private static void smallestOwnAtomsOnly() {
        sentence("13: that has only atoms that q has");
        TrieJoins x = new TrieJoins();
        // The single atom 0(0, 0) would do if it were among them: it isn't equal in meaning to a path.
        atom(x, 0, 0, row(0, 1), 1);
        atom(x, 0, 0, row(1, 2), 2);
        atom(x, 1, 0, row(0, 0), 1);
        smallest(x, 0, 2);
        smallest(x, 1, 1);
        atom(x, 0, 0, row(3, 3), 3);
        smallest(x, 0, 1);
        ask(x, 0, 2, true);
        smallest(x, 0, 3);
    }

    // ---- Promise 14

    private static void treeLikeQuestionOutside() {
        sentence("14: BAD for q outside 0..1");
        TrieJoins x = new TrieJoins();
        for (int q : NOT_QUESTIONS) {
            treeLike(x, q, BAD);
        }
        atom(x, 0, 0, row(0, 1), 1);
        atom(x, 0, 0, row(1, 2), 2);
        atom(x, 0, 0, row(2, 0), 3);
        for (int q : NOT_QUESTIONS) {
            treeLike(x, q, BAD);
        }
        treeLike(x, 0, 0);
        treeLike(x, 1, 1);
    }

    private static void treeLikeWithoutAtoms() {
        sentence("14: a question without atoms is");
        for (int q : QUESTIONS) {
            TrieJoins x = new TrieJoins();
            treeLike(x, q, 1);
            ask(x, q, 31, true);
            treeLike(x, q, 1);
            atom(x, q, 0, row(0, 1), 1);
            atom(x, q, 1, row(1, 2), 2);
            atom(x, q, 0, row(2, 0), 3);
            treeLike(x, q, 0);
            for (int left = 2; left >= 0; left--) {
                cut(x, q, 0, left);
                treeLike(x, q, 1);
            }
        }
    }

    private static void treeLikeOneOrTwoAtoms() {
        sentence("14, Terms: a last single atom is taken out as well");
        for (int variables = 0; variables < 125; variables++) {
            TrieJoins x = new TrieJoins();
            atom(x, 0, 2, variables, 1);
            treeLike(x, 0, 1);
            for (int second = 0; second < 125; second += 1 + variables % 7) {
                x.atom(0, 2, second);
                treeLike(x, 0, 1);
                x.cut(0, 1);
            }
        }
    }

    private static void treeLikeRings() {
        sentence("14, Terms: with no atoms left, or else not");
        for (int q : QUESTIONS) {
            for (int first = 0; first < 4; first++) {
                // A ring of four, begun at each of its atoms, and the same ring open.
                TrieJoins x = new TrieJoins();
                for (int i = 0; i < 4; i++) {
                    int v = (first + i) % 4;
                    treeLike(x, q, 1);
                    atom(x, q, i % 2, row(v, (v + 1) % 4), i + 1);
                }
                treeLike(x, q, 0);
                cut(x, q, first, 3);
                treeLike(x, q, 1);
                atom(x, q, 2, row(4, 4, 4), 4);
                treeLike(x, q, 1);
            }
        }
    }

    private static void treeLikeTriangles() {
        sentence("14, Terms: every variable of it comes either in that other atom too, or in no other atom at all");
        for (int place = 0; place < 4; place++) {
            TrieJoins covered = new TrieJoins();
            TrieJoins open = new TrieJoins();
            for (int i = 0, side = 0; i < 4; i++) {
                int variables = row(side, (side + 1) % 3);
                atom(covered, 0, i == place ? 2 : 0, i == place ? row(1, 2, 0) : variables, i + 1);
                atom(open, 0, i == place ? 2 : 0, i == place ? row(1, 2, 3) : variables, i + 1);
                side += i == place ? 0 : 1;
            }
            treeLike(covered, 0, 1);
            treeLike(open, 0, 0);
        }
    }

    private static void treeLikeNotWhole() {
        sentence("14: asked also of a question that is not whole");
        TrieJoins x = new TrieJoins();
        atom(x, 0, 0, row(0, 1), 1);
        ask(x, 0, 16, true);
        whole(x, 0, false);
        treeLike(x, 0, 1);
        atom(x, 0, 0, row(1, 2), 2);
        atom(x, 0, 0, row(2, 0), 3);
        treeLike(x, 0, 0);
    }

    // ---- Promise 15

    private static void idleOrder() {
        sentence("15: q outside 0..1: BAD; it has no atom: NONE");
        TrieJoins x = new TrieJoins();
        for (int q : NOT_QUESTIONS) {
            idle(x, q, BAD);
        }
        idle(x, 0, NONE);
        idle(x, 1, NONE);
        add(x, 0, 0, 1);
        for (int q : QUESTIONS) {
            idle(x, q, NONE);
            atom(x, q, 0, 0, 1);
            idle(x, q, 0);
            cut(x, q, 0, 0);
            idle(x, q, NONE);
            atom(x, q, 1, 0, 1);
            idle(x, q, 1);
        }
        for (int q : NOT_QUESTIONS) {
            idle(x, q, BAD);
        }
    }

    private static void idleNotWhole() {
        sentence("15: asked also of a question that has an atom and is not whole");
        TrieJoins x = new TrieJoins();
        atom(x, 0, 0, row(1, 2), 1);
        ask(x, 0, 31, true);
        whole(x, 0, false);
        idle(x, 0, 0);
        add(x, 0, row(4, 4), 1);
        add(x, 1, row(4, 4), 1);
        idle(x, 0, 1);
    }

    private static void idleOtherRelations() {
        sentence("15: rows of relations that no atom names count as well");
        for (int r : RELATIONS) {
            TrieJoins x = new TrieJoins();
            atom(x, 0, r, r == 2 ? row(0, 1, 2) : row(0, 1), 1);
            idle(x, 0, 0);
            for (int i = 0; i < 16; i++) {
                add(x, r, lastRow(r) - i, 1);
                idle(x, 0, i);
                add(x, (r + 1) % 3, i, 1);
                idle(x, 0, i + 1);
            }
            for (int i = 0; i < 16; i++) {
                add(x, (r + 2) % 3, i, 1);
                idle(x, 0, 17 + i);
            }
        }
    }

    private static void idleNoneAndAll() {
        sentence("15: the number of rows that match no atom in any choice, from 0 to 48");
        TrieJoins x = new TrieJoins();
        for (int r : RELATIONS) {
            atom(x, 0, r, r == 2 ? row(2, 3, 4) : row(0, 1), r + 1);
            for (int i = 0; i < 16; i++) {
                add(x, r, i, 1);
            }
        }
        idle(x, 0, 0);
        // Now variable 0 has the value 0 alone: five rows each of the relations 0 and 1 are left to match.
        atom(x, 0, 2, row(0, 0, 0), 4);
        idle(x, 0, 22);
        // No choice at all, as no row has one value three times.
        remove(x, 2, 0, 1);
        idle(x, 0, 47);
        // And none now, as variable 0 would have the value 4, which the relations 0 and 1 lack.
        add(x, 2, 124, 1);
        idle(x, 0, 48);
        cut(x, 0, 3, 3);
        idle(x, 0, 0);
    }

    // ---- Promise 16

    private static void levelOutside() {
        sentence("16: k outside 0..2: refused, answers false; else true");
        TrieJoins x = new TrieJoins();
        for (int k : NOT_LEVELS) {
            level(x, k, false);
        }
        for (int k = 0; k <= 2; k++) {
            level(x, k, true);
            for (int n : NOT_LEVELS) {
                level(x, n, false);
            }
            level(x, k, true);
        }
    }

    private static void levelShowsNowhere() {
        sentence("16: it shows in no answer");
        TrieJoins x = withMostAnswers();
        for (int k : new int[] {-1, 0, 3, 1, LEAST, 2, MOST}) {
            level(x, k, k >= 0 && k <= 2);
            count(x, 0, 2000);
            answer(x, 0, 1999, 3124);
            answer(x, 0, 2000, NONE);
            often(x, 0, 4, 4, 500);
            idle(x, 0, 0);
            within(x, 0, NONE);
            smallest(x, 0, 4);
            treeLike(x, 0, 1);
            whole(x, 0, true);
        }
    }

    // ---- Promise 17

    private static void thereBeforeFull(int r) {
        sentence("17: that the row is there (0) is tested before FULL");
        for (int first : new int[] {0, lastRow(r) - 15}) {
            TrieJoins x = withSixteen(r, first);
            for (int row = 0; row <= lastRow(r); row++) {
                add(x, r, row, row >= first && row < first + 16 ? 0 : FULL);
            }
            rows(x, r, 16);
            remove(x, r, first + 15, 1);
            add(x, r, first, 0);
            rows(x, r, 15);
            add(x, r, first + 15, 1);
        }
    }

    private static void objectAndTerms() {
        lastOfItsCalls();
        valuesFrom0To4();
        firstColumnHighest();
        smallestVariableHighest();
        nothingAsked();
        numberedFrom0();
        severalTimesInAnAtom();
        contentsDoNotMatter();
        noRowsAtFirst();
        noAtomsAtFirst();
        nothingAskedAtFirst();
    }

    private static void relations() {
        addRelationOutside();
        addNarrowOnly();
        removeRelationOutside();
        rowsOutside();
        for (int r : RELATIONS) {
            addRowOutside(r);
            addEachRow(r);
            addThere(r);
            addFull(r);
            addBadWhenFull(r);
            removeRowOutside(r);
            removeThereOrNot(r);
            removeFromFull(r);
            rowsFromNoneToSixteen(r);
            thereBeforeFull(r);
        }
    }

    private static void questions() {
        atomQuestionOutside();
        atomRelationOutside();
        atomNarrowOnly();
        for (int r : RELATIONS) {
            atomVariablesOutside(r);
            atomEachRowOfVariables(r);
        }
        atomFull();
        atomBadBeforeFull();
        atomNumber();
        cutNone();
        cutQuestionOutside();
        cutMovesDown();
        cutMovesRelations();
        cutLast();
        askQuestionOutside();
        askSetOutside();
        askEachSet();
        askWithoutAtoms();
        wholeQuestionOutside();
        wholeHasAnAtom();
        wholeEveryAskedVariable();
        wholeEachPlace();
    }

    private static void answers() {
        countOrder();
        countNoRows();
        countMost();
        answerOrder();
        answerNoSuch();
        oftenOutside();
        oftenBadFirst();
        oftenNotWhole();
        oftenNotAsked();
        oftenEachValue();
    }

    private static void meanings() {
        withinQuestionOutside();
        withinNotWhole();
        withinDifferentAsked();
        withinOneOrNone();
        withinAskedKeepTheirPlace();
        smallestOrder();
        smallestFromOneToFour();
        smallestStaysWhole();
        smallestOwnAtomsOnly();
        treeLikeQuestionOutside();
        treeLikeWithoutAtoms();
        treeLikeOneOrTwoAtoms();
        treeLikeRings();
        treeLikeTriangles();
        treeLikeNotWhole();
        idleOrder();
        idleNotWhole();
        idleOtherRelations();
        idleNoneAndAll();
        levelOutside();
        levelShowsNowhere();
    }

    public static void main(String[] args) {
        objectAndTerms();
        relations();
        questions();
        answers();
        meanings();
        System.out.println(wrong == 0 ? "all boundaries hold" : wrong + " answers are not as due");
        if (wrong != 0) {
            System.exit(1);
        }
    }
}
