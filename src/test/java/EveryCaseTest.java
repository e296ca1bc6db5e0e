import java.util.ArrayList;
import java.util.List;

/**
 * What can be gone through without a gap. For treeLike: every shape, that is, every list of up to four sets of up to
 * three variables. For within and smallest: every question with up to three different atoms of relation 0 over the
 * variables 0 to 2, held against its answers for all contents of relation 0 with the values 0 to 2; these are enough
 * to tell such questions apart, as a question's own atoms are among them.
 */
public final class EveryCaseTest {
    private static final int MOST_SHOWN = 20;

    private static int wrong = 0;
    private static int cases = 0;

    private static void due(String what, int got, int want) {
        cases++;
        if (got != want && wrong++ < MOST_SHOWN) {
            System.out.println(what + " answered " + got + ", due is " + want);
        }
    }

    private static List<List<Integer>> variableSets() {
        List<List<Integer>> sets = new ArrayList<>();
        for (int a = 0; a < 5; a++) {
            sets.add(List.of(a));
            for (int b = a + 1; b < 5; b++) {
                sets.add(List.of(a, b));
                for (int c = b + 1; c < 5; c++) {
                    sets.add(List.of(a, b, c));
                }
            }
        }
        return sets;
    }

    private static void putShape(TrieJoins x, List<Integer> set) {
        int first = set.get(0);
        int last = set.get(set.size() - 1);
        if (set.size() == 3) {
            x.atom(0, 2, 25 * last + 5 * first + set.get(1));
        } else {
            x.atom(0, set.size() - 1, 5 * first + last);
        }
    }

    private static int shared(List<Integer> one, List<Integer> other) {
        int number = 0;
        for (int v : one) {
            number += other.contains(v) ? 1 : 0;
        }
        return number;
    }

    /**
     * Tree-like by another way than taking out: the atoms can be joined to a tree in which those with the same variable
     * hang together. That is so iff the joined pairs of the tree that shares most share as many variables as the atoms
     * repeat of those before them.
     */
    private static int joinsToTree(List<List<Integer>> atoms) {
        int repeats = 0;
        List<Integer> seen = new ArrayList<>();
        for (List<Integer> atom : atoms) {
            for (int v : atom) {
                if (seen.contains(v)) {
                    repeats++;
                } else {
                    seen.add(v);
                }
            }
        }
        return heaviestTree(atoms) == repeats ? 1 : 0;
    }

    private static int heaviestTree(List<List<Integer>> atoms) {
        List<List<Integer>> in = new ArrayList<>(atoms.subList(0, 1));
        List<List<Integer>> out = new ArrayList<>(atoms.subList(1, atoms.size()));
        int weight = 0;
        while (!out.isEmpty()) {
            int best = -1;
            int next = 0;
            for (int i = 0; i < out.size(); i++) {
                for (List<Integer> other : in) {
                    int common = shared(out.get(i), other);
                    if (common > best) {
                        best = common;
                        next = i;
                    }
                }
            }
            weight += best;
            in.add(out.remove(next));
        }
        return weight;
    }

    private static void everyShape() {
        List<List<Integer>> sets = variableSets();
        for (List<Integer> a : sets) {
            for (List<Integer> b : sets) {
                for (List<Integer> c : sets) {
                    TrieJoins x = new TrieJoins();
                    oneMore(x, List.of(), a);
                    oneMore(x, List.of(a), b);
                    oneMore(x, List.of(a, b), c);
                    for (List<Integer> d : sets) {
                        oneMore(x, List.of(a, b, c), d);
                        x.cut(0, 3);
                    }
                }
            }
        }
    }

    private static void oneMore(TrieJoins x, List<List<Integer>> before, List<Integer> set) {
        List<List<Integer>> atoms = new ArrayList<>(before);
        atoms.add(set);
        putShape(x, set);
        due("14: treeLike of " + atoms, x.treeLike(0), joinsToTree(atoms));
    }

    /** Atom (or row) number 3 * a + b is that of the variables (or values) a and b; a question is a set of atoms. */
    private static final int PAIRS = 9;
    private static final int CONTENTS = 1 << PAIRS;
    private static final int ASKED_SETS = 8;
    private static final int CHOICES = 27;
    private static final int MOST_ATOMS = 3;

    private static int valueIn(int choice, int v) {
        return v == 0 ? choice / 9 : v == 1 ? choice / 3 % 3 : choice % 3;
    }

    private static boolean isChoice(int question, int contents, int choice) {
        for (int atom = 0; atom < PAIRS; atom++) {
            int row = 3 * valueIn(choice, atom / 3) + valueIn(choice, atom % 3);
            if ((question >> atom & 1) == 1 && (contents >> row & 1) == 0) {
                return false;
            }
        }
        return true;
    }

    private static int answerIn(int asked, int choice) {
        int answer = 0;
        for (int v = 0; v < 3; v++) {
            if ((asked >> v & 1) == 1) {
                answer = 3 * answer + valueIn(choice, v);
            }
        }
        return answer;
    }

    /** For all contents the set of the answers. */
    private static int[] meaning(int question, int asked) {
        int[] answers = new int[CONTENTS];
        for (int contents = 0; contents < CONTENTS; contents++) {
            for (int choice = 0; choice < CHOICES; choice++) {
                if (isChoice(question, contents, choice)) {
                    answers[contents] |= 1 << answerIn(asked, choice);
                }
            }
        }
        return answers;
    }

    private static boolean isWithin(int[] one, int[] other) {
        for (int contents = 0; contents < CONTENTS; contents++) {
            if ((one[contents] & ~other[contents]) != 0) {
                return false;
            }
        }
        return true;
    }

    private static boolean isWhole(int question, int asked) {
        int variables = 0;
        for (int atom = 0; atom < PAIRS; atom++) {
            if ((question >> atom & 1) == 1) {
                variables |= 1 << atom / 3 | 1 << atom % 3;
            }
        }
        return question != 0 && (asked & ~variables) == 0;
    }

    private static TrieJoins with(int question, int other, int asked) {
        TrieJoins x = new TrieJoins();
        for (int atom = 0; atom < PAIRS; atom++) {
            if ((question >> atom & 1) == 1) {
                x.atom(0, 0, atom / 3 * 5 + atom % 3);
            }
            if ((other >> atom & 1) == 1) {
                x.atom(1, 0, atom / 3 * 5 + atom % 3);
            }
        }
        x.ask(0, asked);
        x.ask(1, asked);
        return x;
    }

    private static String named(int question, int asked) {
        return "atoms " + Integer.toBinaryString(question) + ", asked " + asked;
    }

    private static void everyMeaning(int asked) {
        List<Integer> questions = new ArrayList<>();
        int[][] meanings = new int[CONTENTS][];
        for (int question = 1; question < CONTENTS; question++) {
            if (Integer.bitCount(question) <= MOST_ATOMS && isWhole(question, asked)) {
                questions.add(question);
                meanings[question] = meaning(question, asked);
            }
        }
        for (int question : questions) {
            everySmallest(question, asked, meanings);
            for (int other : questions) {
                due("12: within, " + named(question, asked) + ", other " + named(other, asked),
                    with(question, other, asked).within(0), isWithin(meanings[question], meanings[other]) ? 1 : 0);
            }
        }
    }

    private static void everySmallest(int question, int asked, int[][] meanings) {
        int fewest = Integer.bitCount(question);
        for (int part = question; part > 0; part = (part - 1) & question) {
            if (isWhole(part, asked) && isWithin(meanings[part], meanings[question])
                && isWithin(meanings[question], meanings[part])) {
                fewest = Math.min(fewest, Integer.bitCount(part));
            }
        }
        due("13: smallest, " + named(question, asked), with(question, 0, asked).smallest(0), fewest);
    }

    public static void main(String[] args) {
        everyShape();
        for (int asked = 0; asked < ASKED_SETS; asked++) {
            everyMeaning(asked);
        }
        System.out.println(cases + " cases, " + wrong + " answers are not as due");
        if (wrong != 0) {
            System.exit(1);
        }
    }
}
