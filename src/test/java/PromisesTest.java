/** Each promise by itself: ordinary inputs, the edges that the document names, and wrong inputs. */
public final class PromisesTest {
    private static final int BAD = -1;
    private static final int FULL = -2;
    private static final int NONE = -3;
    private static final int LEAST = Integer.MIN_VALUE;
    private static final int MOST = Integer.MAX_VALUE;

    private static int wrong = 0;

    private static void due(String what, int got, int want) {
        if (got != want) {
            wrong++;
            System.out.println(what + " answered " + got + ", due is " + want);
        }
    }

    private static void due(String what, boolean got, boolean want) {
        due(what, got ? 1 : 0, want ? 1 : 0);
    }

    private static int row(int... digits) {
        int number = 0;
        for (int d : digits) {
            number = number * 5 + d;
        }
        return number;
    }

    private static void add(TrieJoins x, int r, int... digits) {
        due("add(" + r + ", " + row(digits) + ")", x.add(r, row(digits)), 1);
    }

    private static void atom(TrieJoins x, int q, int r, int... variables) {
        due("atom(" + q + ", " + r + ", ..) above 0", x.atom(q, r, row(variables)) > 0, true);
    }

    /** What a question answers, whole. */
    private static void answers(TrieJoins x, int q, int... want) {
        due("count(" + q + ")", x.count(q), want.length);
        for (int k = 0; k < want.length; k++) {
            due("answer(" + q + ", " + k + ")", x.answer(q, k), want[k]);
        }
        due("answer(" + q + ", past the last)", x.answer(q, want.length), NONE);
    }

    private static void newObject() {
        TrieJoins x = new TrieJoins();
        for (int r = 0; r < 3; r++) {
            due("1: rows", x.rows(r), 0);
        }
        for (int q = 0; q < 2; q++) {
            due("1: cut", x.cut(q, 0), BAD);
            due("1: whole", x.whole(q), false);
            due("1: count", x.count(q), NONE);
            atom(x, q, 0, 0, 0);
            // Nothing asked: whole with an atom alone, and no variable can be counted.
            due("1: whole with an atom", x.whole(q), true);
            due("1: often", x.often(q, 0, 0), NONE);
        }
        add(x, 0, 1, 1);
        due("1: another object keeps its own rows", new TrieJoins().rows(0), 0);
    }

    private static void addRows() {
        TrieJoins x = new TrieJoins();
        for (int r : new int[] {-1, 3, LEAST, MOST}) {
            due("2: r", x.add(r, 0), BAD);
        }
        for (int row : new int[] {-1, 25, 124, LEAST, MOST}) {
            due("2: row", x.add(0, row), BAD);
            due("2: row", x.add(1, row), BAD);
        }
        for (int row : new int[] {-1, 125, LEAST, MOST}) {
            due("2: row", x.add(2, row), BAD);
        }
        due("2: lowest", x.add(0, 0), 1);
        due("2: highest", x.add(0, 24), 1);
        due("2: highest of 1", x.add(1, 24), 1);
        due("2: highest of 2", x.add(2, 124), 1);
        due("2: 25 in 2", x.add(2, 25), 1);
        due("2: again", x.add(0, 24), 0);
        due("2: the other relation", x.add(1, 0), 1);
        due("2: rows 0", x.rows(0), 2);
        due("2: rows 1", x.rows(1), 2);
        due("2: rows 2", x.rows(2), 2);
    }

    private static void fullRelations() {
        for (int r = 0; r < 3; r++) {
            TrieJoins x = new TrieJoins();
            for (int row = 0; row < 16; row++) {
                due("2: add", x.add(r, row), 1);
                due("4: rows", x.rows(r), row + 1);
            }
            due("2: 17th", x.add(r, 16), FULL);
            due("2: a full one changes nothing", x.rows(r), 16);
            due("17: there before full", x.add(r, 7), 0);
            due("2: bad before full", x.add(r, 125), BAD);
            due("2: the others are not full", x.add((r + 1) % 3, 16), 1);
            due("3: not there", x.remove(r, 16), 0);
            due("3: there", x.remove(r, 3), 1);
            due("2: room again", x.add(r, 16), 1);
            due("2: full again", x.add(r, 3), FULL);
        }
    }

    private static void removeRows() {
        TrieJoins x = new TrieJoins();
        for (int r : new int[] {-1, 3, LEAST, MOST}) {
            due("3: r", x.remove(r, 0), BAD);
        }
        for (int row : new int[] {-1, 25, LEAST, MOST}) {
            due("3: row", x.remove(0, row), BAD);
            due("3: row", x.remove(1, row), BAD);
        }
        for (int row : new int[] {-1, 125, LEAST, MOST}) {
            due("3: row", x.remove(2, row), BAD);
        }
        due("3: none there", x.remove(0, 5), 0);
        due("3: none there, highest", x.remove(2, 124), 0);
        add(x, 0, 1, 0);
        add(x, 1, 1, 0);
        due("3: from 0", x.remove(0, 5), 1);
        due("3: gone", x.remove(0, 5), 0);
        due("3: rows of 0", x.rows(0), 0);
        due("3: rows of 1", x.rows(1), 1);
        due("3: can come back", x.add(0, 5), 1);
    }

    private static void rowNumbers() {
        TrieJoins x = new TrieJoins();
        for (int r : new int[] {-1, 3, LEAST, MOST}) {
            due("4: r", x.rows(r), BAD);
        }
        add(x, 2, 4, 4, 4);
        add(x, 2, 0, 0, 0);
        due("4: two", x.rows(2), 2);
        x.add(2, 0);
        due("4: still two", x.rows(2), 2);
        x.remove(2, 0);
        due("4: one", x.rows(2), 1);
        due("4: others", x.rows(0) + x.rows(1), 0);
    }

    private static void putAtoms() {
        TrieJoins x = new TrieJoins();
        for (int n : new int[] {-1, 2, LEAST, MOST}) {
            due("5: q", x.atom(n, 0, 0), BAD);
        }
        for (int n : new int[] {-1, 3, LEAST, MOST}) {
            due("5: r", x.atom(0, n, 0), BAD);
        }
        for (int n : new int[] {-1, 25, 124, LEAST, MOST}) {
            due("5: variables", x.atom(0, 0, n), BAD);
            due("5: variables", x.atom(0, 1, n), BAD);
        }
        for (int n : new int[] {-1, 125, LEAST, MOST}) {
            due("5: variables", x.atom(0, 2, n), BAD);
        }
        due("5: first", x.atom(0, 0, 24), 1);
        due("5: second", x.atom(0, 2, 124), 2);
        due("5: the same again", x.atom(0, 2, 124), 3);
        due("5: fourth", x.atom(0, 1, 0), 4);
        due("5: fifth", x.atom(0, 1, 0), FULL);
        due("5: bad before full", x.atom(0, 3, 0), BAD);
        due("5: bad before full", x.atom(0, 0, 25), BAD);
        due("5: bad before full", x.atom(0, 2, -1), BAD);
        due("5: the other question", x.atom(1, 1, 0), 1);
        // The first column is the highest digit.
        TrieJoins y = new TrieJoins();
        atom(y, 0, 2, 3, 1, 0);
        y.ask(0, 8);
        add(y, 2, 2, 1, 4);
        answers(y, 0, 2);
        y.ask(0, 2);
        answers(y, 0, 1);
        y.ask(0, 1);
        answers(y, 0, 4);
    }

    private static void cutAtoms() {
        TrieJoins x = new TrieJoins();
        atom(x, 0, 0, 0, 0);
        atom(x, 0, 1, 1, 1);
        atom(x, 0, 2, 2, 3, 3);
        atom(x, 0, 0, 4, 4);
        atom(x, 1, 0, 0, 0);
        for (int n : new int[] {-1, 4, LEAST, MOST}) {
            due("6: i", x.cut(0, n), BAD);
        }
        for (int n : new int[] {-1, 2, LEAST, MOST}) {
            due("6: q", x.cut(n, 0), BAD);
        }
        due("6: no second atom", x.cut(1, 1), BAD);
        due("6: second out", x.cut(0, 1), 3);
        due("6: i", x.cut(0, 3), BAD);
        x.ask(0, 2);
        due("6: variable 1 is gone", x.whole(0), false);
        x.ask(0, 29);
        due("6: the others are there", x.whole(0), true);
        due("6: the moved one out", x.cut(0, 1), 2);
        x.ask(0, 17);
        due("6: first and last are there", x.whole(0), true);
        x.ask(0, 4);
        due("6: variable 2 is gone", x.whole(0), false);
        due("6: first out", x.cut(0, 0), 1);
        x.ask(0, 16);
        due("6: last is there", x.whole(0), true);
        due("6: all out", x.cut(0, 0), 0);
        due("6: none left", x.cut(0, 0), BAD);
        due("6: the other question keeps its own", x.cut(1, 0), 0);
        due("6: room again", x.atom(0, 0, 0), 1);
    }

    private static void moveRelations() {
        TrieJoins x = new TrieJoins();
        atom(x, 0, 0, 0, 1);
        atom(x, 0, 2, 4, 3, 2);
        x.cut(0, 0);
        x.ask(0, 28);
        add(x, 2, 1, 2, 3);
        answers(x, 0, row(3, 2, 1));
    }

    private static void askVariables() {
        TrieJoins x = new TrieJoins();
        atom(x, 0, 0, 0, 1);
        atom(x, 1, 0, 0, 1);
        add(x, 0, 2, 3);
        due("7: both", x.ask(0, 3), true);
        for (int n : new int[] {-1, 2, LEAST, MOST}) {
            due("7: q", x.ask(n, 0), false);
        }
        for (int n : new int[] {-1, 32, LEAST, MOST}) {
            due("7: set", x.ask(0, n), false);
        }
        answers(x, 0, 13);
        answers(x, 1, 0);
        due("7: just the second", x.ask(0, 2), true);
        answers(x, 0, 3);
        due("7: all", x.ask(0, 31), true);
        due("7: not whole", x.whole(0), false);
        due("7: none", x.ask(0, 0), true);
        answers(x, 0, 0);
    }

    private static void wholeQuestions() {
        TrieJoins x = new TrieJoins();
        for (int n : new int[] {-1, 2, LEAST, MOST}) {
            due("8: q", x.whole(n), false);
        }
        due("8: no atom", x.whole(0), false);
        x.ask(0, 5);
        atom(x, 0, 0, 0, 1);
        due("8: 2 does not come", x.whole(0), false);
        atom(x, 0, 1, 2, 2);
        due("8: 0 and 2 come", x.whole(0), true);
        x.ask(0, 16);
        due("8: 4 does not come", x.whole(0), false);
        atom(x, 0, 2, 3, 3, 4);
        due("8: 4 comes in the third column", x.whole(0), true);
        due("8: the other question has none", x.whole(1), false);
        // An atom of three columns is cut and one of two takes its place: its third variable is gone.
        x.cut(0, 2);
        atom(x, 0, 0, 3, 3);
        due("8: 4 is gone", x.whole(0), false);
    }

    private static void countAndAnswer() {
        TrieJoins x = new TrieJoins();
        for (int n : new int[] {-1, 2, LEAST, MOST}) {
            due("9: q", x.count(n), BAD);
            due("10: q", x.answer(n, 0), BAD);
            due("10: q before k", x.answer(n, -1), BAD);
        }
        due("9: no atom", x.count(0), NONE);
        due("10: no atom", x.answer(0, 0), NONE);
        atom(x, 0, 0, 2, 0);
        answers(x, 0);
        add(x, 0, 4, 0);
        add(x, 0, 0, 4);
        add(x, 0, 1, 1);
        add(x, 0, 3, 0);
        // Digits in the order of the variables, not of the columns; without asked variables one answer at most.
        answers(x, 0, 0);
        x.ask(0, 5);
        answers(x, 0, row(0, 3), row(0, 4), row(1, 1), row(4, 0));
        x.ask(0, 1);
        answers(x, 0, 0, 1, 4);
        for (int k : new int[] {-1, 3, LEAST, MOST}) {
            due("10: k", x.answer(0, k), NONE);
        }
        x.ask(0, 3);
        due("9: not whole", x.count(0), NONE);
        due("10: not whole", x.answer(0, 0), NONE);
    }

    private static void repeatedVariables() {
        TrieJoins x = new TrieJoins();
        add(x, 2, 1, 1, 2);
        add(x, 2, 1, 2, 1);
        add(x, 2, 2, 1, 1);
        add(x, 2, 3, 3, 3);
        atom(x, 0, 2, 0, 0, 1);
        x.ask(0, 3);
        answers(x, 0, row(1, 2), row(3, 3));
        x.cut(0, 0);
        atom(x, 0, 2, 0, 1, 0);
        answers(x, 0, row(1, 2), row(3, 3));
        x.cut(0, 0);
        atom(x, 0, 2, 0, 1, 1);
        answers(x, 0, row(2, 1), row(3, 3));
        x.cut(0, 0);
        atom(x, 0, 2, 1, 1, 1);
        x.ask(0, 2);
        answers(x, 0, 3);
    }

    private static void manyAnswers() {
        TrieJoins x = new TrieJoins();
        for (int a = 0; a < 4; a++) {
            for (int b = 0; b < 4; b++) {
                add(x, 0, a + 1, b + 1);
            }
        }
        atom(x, 0, 0, 0, 1);
        atom(x, 0, 0, 2, 3);
        atom(x, 0, 0, 4, 4);
        x.ask(0, 31);
        due("9: 4 to the 5th", x.count(0), 1024);
        due("10: lowest", x.answer(0, 0), row(1, 1, 1, 1, 1));
        due("10: second", x.answer(0, 1), row(1, 1, 1, 1, 2));
        due("10: highest", x.answer(0, 1023), row(4, 4, 4, 4, 4));
        due("10: none", x.answer(0, 1024), NONE);
        due("11: a quarter", x.often(0, 2, 4), 256);
        due("11: never", x.often(0, 2, 0), 0);
        due("15: none", x.idle(0), 0);
    }

    private static void oftenCounts() {
        TrieJoins x = new TrieJoins();
        due("11: no atom", x.often(0, 0, 0), NONE);
        atom(x, 0, 2, 4, 2, 0);
        add(x, 2, 1, 2, 3);
        add(x, 2, 1, 2, 4);
        add(x, 2, 0, 2, 4);
        add(x, 2, 1, 0, 4);
        for (int n : new int[] {-1, 2, LEAST, MOST}) {
            due("11: q", x.often(n, 0, 0), BAD);
        }
        for (int n : new int[] {-1, 5, LEAST, MOST}) {
            due("11: v", x.often(0, n, 0), BAD);
            due("11: x", x.often(0, 0, n), BAD);
        }
        due("11: nothing asked", x.often(0, 0, 0), NONE);
        x.ask(0, 21);
        due("11: 1 is not asked", x.often(0, 1, 0), NONE);
        due("11: bad before none", x.often(0, 1, 5), BAD);
        due("11: variable 0", x.often(0, 0, 4), 3);
        due("11: variable 0", x.often(0, 0, 3), 1);
        due("11: variable 2", x.often(0, 2, 2), 3);
        due("11: variable 2", x.often(0, 2, 1), 0);
        due("11: variable 4", x.often(0, 4, 1), 3);
        due("11: variable 4", x.often(0, 4, 0), 1);
        // Two rows give the same answer once variable 0 is not asked: it counts once.
        x.ask(0, 20);
        due("11: answers, not choices", x.often(0, 4, 1), 2);
        x.ask(0, 23);
        due("11: not whole", x.often(0, 0, 4), NONE);
        due("11: not whole, bad first", x.often(0, 5, 4), BAD);
    }

    private static void withinWrong() {
        TrieJoins x = new TrieJoins();
        for (int n : new int[] {-1, 2, LEAST, MOST}) {
            due("12: q", x.within(n), BAD);
            due("13: q", x.smallest(n), BAD);
        }
        due("12: no atoms", x.within(0), NONE);
        atom(x, 0, 0, 0, 1);
        due("12: the other has no atom", x.within(0), NONE);
        due("12: it has no atom", x.within(1), NONE);
        atom(x, 1, 0, 0, 1);
        due("12: the same", x.within(0), 1);
        x.ask(0, 1);
        due("12: different asked", x.within(0), NONE);
        due("12: different asked", x.within(1), NONE);
        x.ask(1, 1);
        due("12: asked alike", x.within(1), 1);
        x.ask(0, 4);
        x.ask(1, 4);
        due("12: not whole", x.within(0), NONE);
        due("13: not whole", x.smallest(0), NONE);
        atom(x, 0, 0, 2, 2);
        due("12: one is not whole", x.within(0), NONE);
        due("12: one is not whole", x.within(1), NONE);
        due("13: this one is", x.smallest(0), 1);
    }

    private static void withinRight() {
        TrieJoins x = new TrieJoins();
        // 0: 0 -> 1 -> 2; 1: 0 -> 1. Paths of length two start where paths of length one do, not always the reverse.
        atom(x, 0, 0, 0, 1);
        atom(x, 0, 0, 1, 2);
        atom(x, 1, 0, 0, 1);
        due("12: nothing asked", x.within(0), 1);
        due("12: nothing asked", x.within(1), 0);
        x.ask(0, 1);
        x.ask(1, 1);
        due("12: the start asked", x.within(0), 1);
        due("12: the start asked", x.within(1), 0);
        // The contents of the object don't matter.
        add(x, 0, 3, 3);
        due("12: for all contents", x.within(1), 0);
        x.cut(1, 0);
        atom(x, 1, 1, 0, 1);
        due("12: another relation", x.within(0), 0);
        due("12: another relation", x.within(1), 0);
        x.cut(1, 0);
        atom(x, 1, 0, 0, 0);
        due("12: a loop has paths", x.within(1), 1);
        due("12: paths have no loop", x.within(0), 0);
        x.ask(0, 0);
        x.ask(1, 0);
        atom(x, 1, 2, 1, 2, 3);
        due("12: more atoms, fewer answers", x.within(1), 1);
    }

    private static void withinRenames() {
        TrieJoins x = new TrieJoins();
        // Two ways to name one thing: the asked variables keep their names, the others may not.
        atom(x, 0, 2, 0, 3, 4);
        atom(x, 1, 2, 0, 4, 3);
        x.ask(0, 1);
        x.ask(1, 1);
        due("12: others renamed", x.within(0), 1);
        due("12: others renamed", x.within(1), 1);
        x.ask(0, 24);
        x.ask(1, 24);
        due("12: asked ones keep their place", x.within(0), 0);
        due("12: asked ones keep their place", x.within(1), 0);
    }

    /** All five variables have to become one, be it the lowest or the highest. */
    private static void renameAllToOne(int v) {
        TrieJoins x = new TrieJoins();
        atom(x, 0, 2, 0, 1, 2);
        atom(x, 0, 2, 2, 3, 4);
        atom(x, 1, 2, v, v, v);
        due("12: all become " + v, x.within(1), 1);
        due("12: not the reverse", x.within(0), 0);
        due("13: two", x.smallest(0), 2);
        atom(x, 0, 2, v, v, v);
        due("12: now the reverse", x.within(0), 1);
        due("13: all become " + v, x.smallest(0), 1);
    }

    private static void smallestCores() {
        TrieJoins x = new TrieJoins();
        due("13: no atom", x.smallest(0), NONE);
        atom(x, 0, 1, 0, 1);
        due("13: one", x.smallest(0), 1);
        atom(x, 0, 1, 0, 1);
        x.ask(0, 3);
        due("13: twice the same", x.smallest(0), 1);
        atom(x, 0, 1, 2, 1);
        due("13: a copy of the first", x.smallest(0), 1);
        x.ask(0, 7);
        due("13: asked, so it stays", x.smallest(0), 2);
        atom(x, 0, 0, 2, 1);
        due("13: another relation stays", x.smallest(0), 3);
        x.ask(0, 3);
        due("13: and keeps its neighbour", x.smallest(0), 3);
        due("13: the question is as before", x.cut(0, 3), 3);
        // A square folds onto one edge and back, a triangle doesn't; with a loop all fold onto it.
        TrieJoins y = new TrieJoins();
        atom(y, 0, 0, 0, 1);
        atom(y, 0, 0, 2, 1);
        atom(y, 0, 0, 2, 3);
        atom(y, 0, 0, 0, 3);
        due("13: square", y.smallest(0), 1);
        y.ask(0, 5);
        due("13: square, corners asked", y.smallest(0), 2);
        atom(y, 1, 0, 0, 1);
        atom(y, 1, 0, 1, 2);
        atom(y, 1, 0, 2, 0);
        due("13: triangle", y.smallest(1), 3);
        atom(y, 1, 0, 3, 3);
        due("13: triangle and loop", y.smallest(1), 1);
        y.ask(1, 1);
        due("13: a corner asked", y.smallest(1), 4);
    }

    private static void treeLikeShapes() {
        TrieJoins x = new TrieJoins();
        for (int n : new int[] {-1, 2, LEAST, MOST}) {
            due("14: q", x.treeLike(n), BAD);
        }
        due("14: no atoms", x.treeLike(0), 1);
        atom(x, 0, 0, 0, 1);
        due("14: one", x.treeLike(0), 1);
        atom(x, 0, 0, 1, 2);
        due("14: path", x.treeLike(0), 1);
        atom(x, 0, 1, 0, 2);
        due("14: triangle", x.treeLike(0), 0);
        atom(x, 0, 2, 2, 0, 1);
        due("14: triangle in one atom", x.treeLike(0), 1);
        x.cut(0, 3);
        atom(x, 0, 2, 4, 0, 1);
        due("14: triangle, not in one atom", x.treeLike(0), 0);
        x.ask(0, 16);
        due("14: asked variables don't matter", x.treeLike(0), 0);
        due("14: the other question", x.treeLike(1), 1);
        atom(x, 1, 2, 0, 1, 2);
        atom(x, 1, 2, 2, 3, 4);
        due("14: two that share one", x.treeLike(1), 1);
        atom(x, 1, 2, 4, 4, 0);
        due("14: a ring of three", x.treeLike(1), 0);
        TrieJoins y = new TrieJoins();
        for (int v = 0; v < 4; v++) {
            atom(y, 0, 0, v, v);
            atom(y, 1, 1, 4, v);
        }
        due("14: four apart", y.treeLike(0), 1);
        due("14: a star", y.treeLike(1), 1);
        TrieJoins z = new TrieJoins();
        for (int v = 0; v < 4; v++) {
            atom(z, 0, 0, v, (v + 1) % 4);
            atom(z, 1, 2, 0, 1, 2);
        }
        due("14: a ring of four", z.treeLike(0), 0);
        due("14: four times the same", z.treeLike(1), 1);
    }

    private static void idleRows() {
        TrieJoins x = new TrieJoins();
        for (int n : new int[] {-1, 2, LEAST, MOST}) {
            due("15: q", x.idle(n), BAD);
        }
        due("15: no atom", x.idle(0), NONE);
        add(x, 0, 0, 1);
        add(x, 0, 1, 1);
        add(x, 0, 3, 4);
        add(x, 1, 1, 2);
        add(x, 1, 0, 0);
        add(x, 2, 0, 0, 0);
        due("15: rows, but no atom", x.idle(0), NONE);
        atom(x, 0, 0, 0, 1);
        due("15: relations that no atom names", x.idle(0), 3);
        atom(x, 0, 1, 1, 2);
        due("15: rows without a partner", x.idle(0), 3);
        x.ask(0, 31);
        due("15: not whole doesn't matter", x.idle(0), 3);
        due("15: the other question", x.idle(1), NONE);
        atom(x, 0, 0, 3, 3);
        due("15: a row may match several atoms", x.idle(0), 3);
        atom(x, 0, 1, 3, 3);
        due("15: no choice at all", x.idle(0), 6);
        x.cut(0, 3);
        due("15: as before", x.idle(0), 3);
        x.remove(0, row(3, 4));
        due("15: an idle row less", x.idle(0), 2);
        atom(x, 1, 0, 2, 2);
        due("15: only the loop matches", x.idle(1), 4);
    }

    private static void levels() {
        TrieJoins x = new TrieJoins();
        for (int n : new int[] {-1, 3, LEAST, MOST}) {
            due("16: k", x.level(n), false);
        }
        add(x, 0, 4, 0);
        add(x, 0, 1, 2);
        add(x, 0, 2, 1);
        add(x, 1, 2, 2);
        add(x, 1, 0, 3);
        add(x, 2, 2, 1, 4);
        add(x, 2, 0, 4, 4);
        add(x, 2, 0, 3, 4);
        atom(x, 0, 0, 3, 1);
        atom(x, 0, 1, 1, 4);
        atom(x, 0, 2, 1, 3, 0);
        x.ask(0, 27);
        for (int k : new int[] {2, 1, 0, 1, 2, 0, 2}) {
            due("16: level", x.level(k), true);
            due("16: refused", x.level(k + 3), false);
            answers(x, 0, row(4, 0, 4, 3), row(4, 2, 1, 2));
            due("16: often", x.often(0, 4, 3), 1);
            due("16: idle", x.idle(0), 8 - 6);
            due("16: empty", x.count(1), NONE);
        }
    }

    public static void main(String[] args) {
        newObject();
        addRows();
        fullRelations();
        removeRows();
        rowNumbers();
        putAtoms();
        cutAtoms();
        moveRelations();
        askVariables();
        wholeQuestions();
        countAndAnswer();
        repeatedVariables();
        manyAnswers();
        oftenCounts();
        withinWrong();
        withinRight();
        withinRenames();
        renameAllToOne(0);
        renameAllToOne(4);
        smallestCores();
        treeLikeShapes();
        idleRows();
        levels();
        System.out.println(wrong == 0 ? "all promises hold" : wrong + " answers are not as due");
        if (wrong != 0) {
            System.exit(1);
        }
    }
}
