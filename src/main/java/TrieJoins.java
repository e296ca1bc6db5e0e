/** Questions over three relations: answers, and what holds for all contents. */
public final class TrieJoins {
    public static final int BAD = -1;
    public static final int FULL = -2;
    public static final int NONE = -3;

    /** Rows, answers and rows of variables are all written to base 5. */
    private static final int BASE = 5;
    private static final int VALUES = 5;
    private static final int VARIABLES = 5;
    private static final int LAST_VARIABLE = VARIABLES - 1;
    private static final int ALL_VARIABLES = 31;
    private static final int RELATIONS = 3;
    /** The one relation with three columns. */
    private static final int WIDE = 2;
    private static final int WIDE_ROWS = 125;
    private static final int NARROW_ROWS = 25;
    private static final int MOST_COLUMNS = 3;
    private static final int MOST_ROWS = 16;
    private static final int QUESTIONS = 2;
    private static final int MOST_ATOMS = 4;
    private static final int ATOM_PLACES = QUESTIONS * MOST_ATOMS;
    private static final int VARIABLE_PLACES = ATOM_PLACES * MOST_COLUMNS;
    /** 5 to the 5th: the ways to give each variable one of five things. */
    private static final int CHOICES = 3125;
    /** 1 + 5 + 25 + 125: the nodes of a trie of three columns. */
    private static final int NODES = 156;
    private static final int NODE_PLACES = RELATIONS * NODES;
    private static final int HIGHEST_LEVEL = 2;

    /**
     * A trie for each relation: how many rows lie below each node. The root is node 0, and the child of node n
     * for value v is node 5n + 1 + v, so that the nodes of one depth stand side by side in the order of their rows.
     */
    private final int[] below = new int[NODE_PLACES];

    private final int[] atoms = new int[QUESTIONS];
    private final int[] asked = new int[QUESTIONS];
    private final int[] atomRelation = new int[ATOM_PLACES];
    private final int[] atomVariables = new int[ATOM_PLACES];
    /** The digits of atomVariables, three places an atom, kept apart because every choice reads them. */
    private final int[] variableAt = new int[VARIABLE_PLACES];
    private int level;

    /** What each variable is given at the moment: a value in a choice, or a variable in a renaming. */
    private final int[] given = new int[VARIABLES];
    private final boolean[] isAnswer = new boolean[CHOICES];
    private final boolean[] isMatched = new boolean[NODE_PLACES];

    public TrieJoins() {
        level = HIGHEST_LEVEL;
    }

    public int add(int r, int row) {
        if (!isRow(r, row)) {
            return BAD;
        }
        if (below[leaf(r, row)] > 0) {
            return 0;
        }
        if (below[r * NODES] >= MOST_ROWS) {
            return FULL;
        }
        changePath(r, row, 1);
        return 1;
    }

    public int remove(int r, int row) {
        if (!isRow(r, row)) {
            return BAD;
        }
        if (below[leaf(r, row)] == 0) {
            return 0;
        }
        changePath(r, row, -1);
        return 1;
    }

    public int rows(int r) {
        return isRelation(r) ? below[r * NODES] : BAD;
    }

    public int atom(int q, int r, int variables) {
        // There are as many variables as values, so a row of variables has the bounds of a row.
        if (!isQuestion(q) || !isRow(r, variables)) {
            return BAD;
        }
        if (atoms[q] >= MOST_ATOMS) {
            return FULL;
        }
        putAtom(q * MOST_ATOMS + atoms[q], r, variables);
        atoms[q]++;
        return atoms[q];
    }

    public int cut(int q, int i) {
        if (!isQuestion(q) || i < 0 || i >= atoms[q]) {
            return BAD;
        }
        int left = atoms[q] - 1;
        for (int k = i; k < left; k++) {
            int place = q * MOST_ATOMS + k;
            putAtom(place, atomRelation[place + 1], atomVariables[place + 1]);
        }
        atoms[q] = left;
        return left;
    }

    public boolean ask(int q, int set) {
        if (!isQuestion(q) || set < 0 || set > ALL_VARIABLES) {
            return false;
        }
        asked[q] = set;
        return true;
    }

    public boolean whole(int q) {
        return isQuestion(q) && isWhole(q);
    }

    public int count(int q) {
        if (!isQuestion(q)) {
            return BAD;
        }
        if (!isWhole(q)) {
            return NONE;
        }
        tryChoices(q);
        int number = 0;
        for (int a = 0; a < CHOICES; a++) {
            if (isAnswer[a]) {
                number++;
            }
        }
        return number;
    }

    public int answer(int q, int k) {
        if (!isQuestion(q)) {
            return BAD;
        }
        if (!isWhole(q) || k < 0) {
            return NONE;
        }
        tryChoices(q);
        int before = 0;
        for (int a = 0; a < CHOICES; a++) {
            if (isAnswer[a]) {
                if (before == k) {
                    return a;
                }
                before++;
            }
        }
        return NONE;
    }

    public int often(int q, int v, int x) {
        if (!isQuestion(q) || v < 0 || v >= VARIABLES || x < 0 || x >= VALUES) {
            return BAD;
        }
        if (!isWhole(q) || !has(asked[q], v)) {
            return NONE;
        }
        tryChoices(q);
        int place = askedAfter(q, v);
        int number = 0;
        for (int a = 0; a < CHOICES; a++) {
            if (isAnswer[a] && digit(a, place) == x) {
                number++;
            }
        }
        return number;
    }

    /**
     * A question is within another one iff the other's variables can be renamed, the asked ones to themselves, so
     * that each of its atoms becomes an atom of the first. Such a renaming turns every choice of the first into one
     * of the other with the same answer. And it must be there, as the first one's atoms, read as rows of variables,
     * are contents too: there the asked variables themselves are an answer of the first, and a choice by which they
     * are one of the other is such a renaming.
     */
    public int within(int q) {
        if (!isQuestion(q)) {
            return BAD;
        }
        int other = 1 - q;
        if (!isWhole(q) || !isWhole(other) || asked[q] != asked[other]) {
            return NONE;
        }
        for (int renaming = 0; renaming < CHOICES; renaming++) {
            if (renamedAtoms(other, q, renaming) != 0) {
                return 1;
            }
        }
        return 0;
    }

    /**
     * Some of q's atoms are equal in meaning to q iff a renaming as for within takes q into them, so the smallest
     * set of atoms that a renaming takes q onto is what is sought. It is whole, as asked variables keep their names.
     */
    public int smallest(int q) {
        if (!isQuestion(q)) {
            return BAD;
        }
        if (!isWhole(q)) {
            return NONE;
        }
        int fewest = atoms[q];
        for (int renaming = 0; renaming < CHOICES; renaming++) {
            int reached = renamedAtoms(q, q, renaming);
            int size = sizeOf(reached);
            if (reached != 0 && size < fewest) {
                fewest = size;
            }
        }
        return fewest;
    }

    public int treeLike(int q) {
        if (!isQuestion(q)) {
            return BAD;
        }
        int left = allAtoms(q);
        for (int turn = 0; turn < MOST_ATOMS; turn++) {
            left = withoutOne(q, left);
        }
        return left == 0 ? 1 : 0;
    }

    public int idle(int q) {
        if (!isQuestion(q)) {
            return BAD;
        }
        if (atoms[q] == 0) {
            return NONE;
        }
        tryChoices(q);
        int number = 0;
        for (int r = 0; r < RELATIONS; r++) {
            number += below[r * NODES];
        }
        for (int n = 0; n < NODE_PLACES; n++) {
            if (isMatched[n]) {
                number--;
            }
        }
        return number;
    }

    public boolean level(int k) {
        if (k < 0 || k > HIGHEST_LEVEL) {
            return false;
        }
        level = k;
        return true;
    }

    private static boolean isQuestion(int q) {
        return q >= 0 && q < QUESTIONS;
    }

    private static boolean isRelation(int r) {
        return r >= 0 && r < RELATIONS;
    }

    private static boolean isRow(int r, int row) {
        return isRelation(r) && row >= 0 && row < (r == WIDE ? WIDE_ROWS : NARROW_ROWS);
    }

    private static int columns(int r) {
        return r == WIDE ? 3 : 2;
    }

    /** The node of a row within the trie of its relation: the 1 + 5 or 1 + 5 + 25 shallower nodes come first. */
    private static int leafInTrie(int r, int row) {
        return (r == WIDE ? 31 : 6) + row;
    }

    private static int leaf(int r, int row) {
        return r * NODES + leafInTrie(r, row);
    }

    private static boolean has(int set, int member) {
        return (set >> member & 1) == 1;
    }

    private static int sizeOf(int set) {
        int size = 0;
        for (int member = 0; member < MOST_ATOMS; member++) {
            size += set >> member & 1;
        }
        return size;
    }

    /** A digit to base 5; place 0 is the lowest. */
    private static int digit(int number, int place) {
        int rest = number;
        for (int p = 0; p < place; p++) {
            rest /= BASE;
        }
        return rest % BASE;
    }

    private void changePath(int r, int row, int by) {
        int node = leafInTrie(r, row);
        for (int depth = columns(r); depth >= 0; depth--) {
            below[r * NODES + node] += by;
            node = (node - 1) / VALUES;
        }
    }

    private void putAtom(int place, int r, int variables) {
        atomRelation[place] = r;
        atomVariables[place] = variables;
        int width = columns(r);
        for (int c = 0; c < width; c++) {
            variableAt[place * MOST_COLUMNS + c] = digit(variables, width - 1 - c);
        }
    }

    private int allAtoms(int q) {
        return (1 << atoms[q]) - 1;
    }

    private boolean isWhole(int q) {
        int all = allAtoms(q);
        return all != 0 && (asked[q] & ~variablesOf(q, all)) == 0;
    }

    /** The set of the variables that come in a set of atoms. */
    private int variablesOf(int q, int set) {
        int variables = 0;
        for (int i = 0; i < MOST_ATOMS; i++) {
            if (has(set, i)) {
                int place = q * MOST_ATOMS + i;
                int width = columns(atomRelation[place]);
                for (int c = 0; c < width; c++) {
                    variables |= 1 << variableAt[place * MOST_COLUMNS + c];
                }
            }
        }
        return variables;
    }

    private int askedAfter(int q, int v) {
        int number = 0;
        for (int w = v + 1; w < VARIABLES; w++) {
            if (has(asked[q], w)) {
                number++;
            }
        }
        return number;
    }

    /** Marks the answers of a question and the rows that match one of its atoms in some choice. */
    private void tryChoices(int q) {
        clearMarks();
        int choice = 0;
        // The next choice is always a later one, so there are at most as many turns as choices.
        for (int turn = 0; turn < CHOICES && choice < CHOICES; turn++) {
            giveAll(choice);
            int fault = firstFault(q);
            if (fault == VARIABLES) {
                isAnswer[givenToAsked(q)] = true;
                markMatches(q);
                fault = LAST_VARIABLE;
            }
            choice = choiceAfter(fault);
        }
    }

    private void clearMarks() {
        for (int a = 0; a < CHOICES; a++) {
            isAnswer[a] = false;
        }
        for (int n = 0; n < NODE_PLACES; n++) {
            isMatched[n] = false;
        }
    }

    private void giveAll(int number) {
        int rest = number;
        for (int v = LAST_VARIABLE; v >= 0; v--) {
            given[v] = rest % BASE;
            rest /= BASE;
        }
    }

    /** The first choice after all those that give the variables 0 to v what is given now. */
    private int choiceAfter(int v) {
        int choice = 0;
        for (int w = 0; w < VARIABLES; w++) {
            choice = choice * BASE + (w <= v ? given[w] : 0);
            if (w == v) {
                choice++;
            }
        }
        return choice;
    }

    /**
     * A variable such that what the variables 0 to it are given can't be part of a choice, whatever the later ones
     * are given; VARIABLES if the given values are a choice.
     */
    private int firstFault(int q) {
        int first = VARIABLES;
        int number = atoms[q];
        for (int i = 0; i < number; i++) {
            int fault = faultOf(q * MOST_ATOMS + i);
            if (fault < first) {
                first = fault;
            }
        }
        return first;
    }

    /**
     * The same for one atom. Here lies all that the level changes: level 0 looks at every single choice, level 1
     * passes over those that keep what this atom's variables are given, and level 2 those that keep what led to
     * the first node of the trie without rows below it.
     */
    private int faultOf(int place) {
        int r = atomRelation[place];
        int row = givenRow(place);
        if (below[leaf(r, row)] > 0) {
            return VARIABLES;
        }
        if (level == 0) {
            return LAST_VARIABLE;
        }
        int latest = 0;
        int node = 0;
        int width = columns(r);
        for (int c = 0; c < width; c++) {
            int v = variableAt[place * MOST_COLUMNS + c];
            latest = v > latest ? v : latest;
            node = VALUES * node + 1 + given[v];
            if (level == HIGHEST_LEVEL && below[r * NODES + node] == 0) {
                break;
            }
        }
        return latest;
    }

    /** What an atom's variables are given, column by column, as the number of a row. */
    private int givenRow(int place) {
        int row = 0;
        int width = columns(atomRelation[place]);
        for (int c = 0; c < width; c++) {
            row = row * BASE + given[variableAt[place * MOST_COLUMNS + c]];
        }
        return row;
    }

    private int givenToAsked(int q) {
        int number = 0;
        for (int v = 0; v < VARIABLES; v++) {
            if (has(asked[q], v)) {
                number = number * BASE + given[v];
            }
        }
        return number;
    }

    private void markMatches(int q) {
        int number = atoms[q];
        for (int i = 0; i < number; i++) {
            int place = q * MOST_ATOMS + i;
            int row = givenRow(place);
            isMatched[leaf(atomRelation[place], row)] = true;
        }
    }

    /**
     * The set of the atoms of question to that the atoms of question from become under a renaming; 0 if one of
     * them becomes no atom of to, or an asked variable doesn't keep its name.
     */
    private int renamedAtoms(int from, int to, int renaming) {
        giveAll(renaming);
        for (int v = 0; v < VARIABLES; v++) {
            if (has(asked[from], v) && given[v] != v) {
                return 0;
            }
        }
        int reached = 0;
        int number = atoms[from];
        for (int i = 0; i < number; i++) {
            int place = from * MOST_ATOMS + i;
            int variables = givenRow(place);
            int found = findAtom(to, atomRelation[place], variables);
            if (found < 0) {
                return 0;
            }
            reached |= 1 << found;
        }
        return reached;
    }

    /** The first atom like this, so that atoms that are the same count once; -1 if there is none. */
    private int findAtom(int q, int r, int variables) {
        int number = atoms[q];
        for (int i = 0; i < number; i++) {
            int place = q * MOST_ATOMS + i;
            if (atomRelation[place] == r && atomVariables[place] == variables) {
                return i;
            }
        }
        return -1;
    }

    /** The set of atoms less one that a tree-like question may lose; the same set if there is none. */
    private int withoutOne(int q, int left) {
        for (int i = 0; i < MOST_ATOMS; i++) {
            if (has(left, i)) {
                int others = left & ~(1 << i);
                if (others == 0 || hangsOnOne(q, i, others)) {
                    return others;
                }
            }
        }
        return left;
    }

    /** Whether there is one among the other atoms that has every variable that atom i shares with any of them. */
    private boolean hangsOnOne(int q, int i, int others) {
        int own = variablesOf(q, 1 << i);
        int shared = own & variablesOf(q, others);
        for (int j = 0; j < MOST_ATOMS; j++) {
            if (has(others, j) && (shared & ~variablesOf(q, 1 << j)) == 0) {
                return true;
            }
        }
        return false;
    }
}
