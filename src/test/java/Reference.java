import java.util.ArrayList;
import java.util.List;
import java.util.NoSuchElementException;

/**
 * The document word by word, without a thought for speed: every question goes through all values
 * of all variables, and terms and formulas are worked out from the numbers for each of them.
 */
final class Reference {
    private record Node(boolean isTerm, int kind, int a, int b, int c, int width) {
    }

    private final List<Integer> widths = new ArrayList<>();
    private final List<Node> nodes = new ArrayList<>();
    private final List<Node> terms = new ArrayList<>();
    private final List<Node> formulas = new ArrayList<>();
    private final List<List<Integer>> levels = new ArrayList<>();
    private final List<Integer> assumptions = new ArrayList<>();

    /** What all terms and formulas are for each assignment, or null if something new was made. */
    private List<int[]> values;
    private List<int[]> termValues;
    private List<int[]> formulaValues;

    Reference() {
        levels.add(new ArrayList<>());
    }

    int variable(int width) {
        argument(width >= 1 && width <= 4);
        state(widths.size() < 6 && bits() + width <= 10);
        widths.add(width);
        values = null;
        return widths.size() - 1;
    }

    int term(int kind, int a, int b, int c) {
        int width = width(kind, a, b, c);
        state(terms.size() < 50);
        Node made = new Node(true, kind, a, b, c, width);
        terms.add(made);
        nodes.add(made);
        values = null;
        return terms.size() - 1;
    }

    private int width(int kind, int a, int b, int c) {
        argument(kind >= 0 && kind <= 14);
        if (kind == 0) {
            argument(b >= 1 && b <= 4 && a >= 0 && a < Math.pow(2, b));
            return b;
        }
        if (kind == 1) {
            argument(isIn(a, widths));
            return widths.get(a);
        }
        if (kind == 12) {
            argument(isIn(a, formulas) && isIn(b, terms) && isIn(c, terms));
            argument(terms.get(b).width() == terms.get(c).width());
            return terms.get(b).width();
        }
        argument(isIn(a, terms));
        int width = terms.get(a).width();
        if (kind <= 7) {
            argument(isIn(b, terms) && terms.get(b).width() == width);
        } else if (kind >= 9 && kind <= 11) {
            argument(b >= 0 && b <= 4);
        } else if (kind == 13) {
            argument(isIn(b, terms) && width + terms.get(b).width() <= 4);
            return width + terms.get(b).width();
        } else if (kind == 14) {
            argument(b >= 0 && c >= 0 && b < width && c < width && b <= c);
            return c - b + 1;
        }
        return width;
    }

    int formula(int kind, int a, int b) {
        argument(kind >= 0 && kind <= 10);
        if (kind <= 4) {
            argument(isIn(a, terms) && isIn(b, terms));
            argument(terms.get(a).width() == terms.get(b).width());
        } else if (kind == 5) {
            argument(isIn(a, terms) && b >= 0 && b < terms.get(a).width());
        } else {
            argument(isIn(a, formulas) && (kind == 6 || isIn(b, formulas)));
        }
        state(formulas.size() < 50);
        Node made = new Node(false, kind, a, b, 0, 0);
        formulas.add(made);
        nodes.add(made);
        values = null;
        return formulas.size() - 1;
    }

    int assertion(int formula) {
        element(isIn(formula, formulas));
        state(asserted().size() < 30);
        levels.get(levels.size() - 1).add(formula);
        return asserted().size();
    }

    int push() {
        state(levels.size() <= 5);
        levels.add(new ArrayList<>());
        return levels.size() - 1;
    }

    int pop() {
        state(levels.size() > 1);
        return levels.remove(levels.size() - 1).size();
    }

    int check() {
        return models(List.of()).isEmpty() ? 0 : 1;
    }

    int value(int variable) {
        element(isIn(variable, widths));
        int model = leastModel();
        return values.get(model)[variable];
    }

    int valueOf(int term) {
        element(isIn(term, terms));
        int model = leastModel();
        return termValues.get(model)[term];
    }

    int entailed(int formula) {
        element(isIn(formula, formulas));
        boolean inAll = true;
        boolean inNone = true;
        for (int model : someModels()) {
            boolean holds = formulaValues.get(model)[formula] == 1;
            inAll = inAll && holds;
            inNone = inNone && !holds;
        }
        return inAll ? 1 : inNone ? 0 : 2;
    }

    int fixed(int variable) {
        element(isIn(variable, widths));
        int result = 0;
        List<Integer> models = someModels();
        for (int k = 0; k < widths.get(variable); k++) {
            int ones = 0;
            for (int model : models) {
                ones += bit(values.get(model)[variable], k);
            }
            result += ones == 0 || ones == models.size() ? 1 << k : 0;
        }
        return result;
    }

    int least(int term) {
        element(isIn(term, terms));
        int result = Integer.MAX_VALUE;
        for (int model : someModels()) {
            result = Math.min(result, termValues.get(model)[term]);
        }
        return result;
    }

    int assume(int formula) {
        element(isIn(formula, formulas));
        state(assumptions.size() < 8);
        assumptions.add(formula);
        return assumptions.size();
    }

    int clear() {
        int gone = assumptions.size();
        assumptions.clear();
        return gone;
    }

    int attempt() {
        return models(assumptions).isEmpty() ? 0 : 1;
    }

    int blame() {
        state(attempt() == 0);
        List<Integer> places = new ArrayList<>();
        for (int k = 0; k < assumptions.size(); k++) {
            places.add(k);
        }
        for (int k = 0; k < assumptions.size(); k++) {
            List<Integer> others = new ArrayList<>(places);
            others.remove(Integer.valueOf(k));
            List<Integer> held = new ArrayList<>();
            for (int place : others) {
                held.add(assumptions.get(place));
            }
            if (models(held).isEmpty()) {
                places = others;
            }
        }
        int result = 0;
        for (int place : places) {
            result += 1 << place;
        }
        return result;
    }

    int count(int what) {
        argument(what >= 0 && what <= 6);
        int[] all = {
            widths.size(), terms.size(), formulas.size(), asserted().size(),
            levels.size() - 1, assumptions.size(), bits()
        };
        return all[what];
    }

    int widthOfTerm(int term) {
        return isIn(term, terms) ? terms.get(term).width() : 0;
    }

    private int bits() {
        int result = 0;
        for (int width : widths) {
            result += width;
        }
        return result;
    }

    private List<Integer> asserted() {
        List<Integer> result = new ArrayList<>();
        for (List<Integer> level : levels) {
            result.addAll(level);
        }
        return result;
    }

    private int leastModel() {
        int result = -1;
        for (int model : someModels()) {
            if (result < 0 || isLess(values.get(model), values.get(result))) {
                result = model;
            }
        }
        return result;
    }

    private static boolean isLess(int[] one, int[] other) {
        for (int v = 0; v < one.length; v++) {
            if (one[v] != other[v]) {
                return one[v] < other[v];
            }
        }
        return false;
    }

    private List<Integer> someModels() {
        List<Integer> models = models(List.of());
        if (models.isEmpty()) {
            throw new UnsupportedOperationException();
        }
        return models;
    }

    private List<Integer> models(List<Integer> more) {
        if (values == null) {
            evaluateAll();
        }
        List<Integer> needed = asserted();
        needed.addAll(more);
        List<Integer> result = new ArrayList<>();
        for (int i = 0; i < values.size(); i++) {
            boolean all = true;
            for (int formula : needed) {
                all = all && formulaValues.get(i)[formula] == 1;
            }
            if (all) {
                result.add(i);
            }
        }
        return result;
    }

    private void evaluateAll() {
        values = new ArrayList<>();
        termValues = new ArrayList<>();
        formulaValues = new ArrayList<>();
        assign(new int[widths.size()], 0);
    }

    private void assign(int[] chosen, int from) {
        if (from == chosen.length) {
            evaluate(chosen.clone());
            return;
        }
        for (int value = 0; value < 1 << widths.get(from); value++) {
            chosen[from] = value;
            assign(chosen, from + 1);
        }
    }

    private void evaluate(int[] chosen) {
        int[] ofTerms = new int[terms.size()];
        int[] ofFormulas = new int[formulas.size()];
        int termsDone = 0;
        int formulasDone = 0;
        for (Node node : nodes) {
            if (node.isTerm()) {
                ofTerms[termsDone++] = termValue(node, chosen, ofTerms, ofFormulas);
            } else {
                ofFormulas[formulasDone++] = holds(node, ofTerms, ofFormulas) ? 1 : 0;
            }
        }
        values.add(chosen);
        termValues.add(ofTerms);
        formulaValues.add(ofFormulas);
    }

    private int termValue(Node node, int[] chosen, int[] t, int[] f) {
        int a = node.a();
        int b = node.b();
        int all = 1 << node.width();
        return switch (node.kind()) {
            case 0 -> a;
            case 1 -> chosen[a];
            case 2 -> Math.floorMod(t[a] + t[b], all);
            case 3 -> Math.floorMod(t[a] - t[b], all);
            case 4 -> Math.floorMod(t[a] * t[b], all);
            case 5 -> t[a] & t[b];
            case 6 -> t[a] | t[b];
            case 7 -> t[a] ^ t[b];
            case 8 -> all - 1 - t[a];
            case 9 -> Math.floorMod(t[a] * (1 << b), all);
            case 10 -> t[a] / (1 << b);
            case 11 -> Math.floorMod(Math.floorDiv(signed(t[a], node.width()), 1 << b), all);
            case 12 -> f[a] == 1 ? t[b] : t[node.c()];
            case 13 -> t[a] + t[b] * (1 << terms.get(a).width());
            default -> Math.floorMod(t[a] / (1 << b), all);
        };
    }

    private boolean holds(Node node, int[] t, int[] f) {
        int a = node.a();
        int b = node.b();
        int width = node.kind() <= 5 ? terms.get(a).width() : 0;
        return switch (node.kind()) {
            case 0 -> t[a] == t[b];
            case 1 -> t[a] < t[b];
            case 2 -> t[a] <= t[b];
            case 3 -> signed(t[a], width) < signed(t[b], width);
            case 4 -> signed(t[a], width) <= signed(t[b], width);
            case 5 -> bit(t[a], b) == 1;
            case 6 -> f[a] == 0;
            case 7 -> f[a] == 1 && f[b] == 1;
            case 8 -> f[a] == 1 || f[b] == 1;
            case 9 -> f[a] + f[b] == 1;
            default -> f[a] == 0 || f[b] == 1;
        };
    }

    private static int bit(int value, int k) {
        return value / (1 << k) % 2;
    }

    private static int signed(int value, int width) {
        return bit(value, width - 1) == 1 ? value - (1 << width) : value;
    }

    private static boolean isIn(int number, List<?> made) {
        return number >= 0 && number < made.size();
    }

    private static void argument(boolean fits) {
        if (!fits) {
            throw new IllegalArgumentException();
        }
    }

    private static void state(boolean fits) {
        if (!fits) {
            throw new IllegalStateException();
        }
    }

    private static void element(boolean made) {
        if (!made) {
            throw new NoSuchElementException();
        }
    }
}
