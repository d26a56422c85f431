import java.util.ArrayList;
import java.util.Arrays;
import java.util.HashMap;
import java.util.HashSet;
import java.util.List;
import java.util.Map;
import java.util.Set;

/**
 * The document a second time, told as plainly as the Java library lets it: lists, trees and sets, everything
 * reckoned anew for each call. ModelTests holds CaseTables against it.
 */
final class Model {
    private static final Set<String> KEYWORDS = new HashSet<>(Arrays.asList(
            "fun", "in", "if", "then", "else", "and", "or", "not", "table", "of", "any", "error"));
    private static final Set<String> SYMBOLS = new HashSet<>(Arrays.asList(
            "(", ")", ",", ";", ":", "|", "=", "+", "-", "*", "/", "%", "<", ">", "<=", ">=", "<>", ".."));
    private static final Set<String> COMPARES = new HashSet<>(Arrays.asList("=", "<>", "<", ">", "<=", ">="));

    /** kind is "name", "number", "bad", "end", or the keyword or symbol itself. */
    private record Token(String kind, String text, int at) {
    }

    private static final class Refusal extends RuntimeException {
        final int error;
        final int at;

        Refusal(int error, int at) {
            this.error = error;
            this.at = at;
        }
    }

    private static final class Failure extends RuntimeException {
    }

    /** kind is "number", "input", "call", "neg", "not", "if" or an operator. */
    private static final class Node {
        String kind;
        String name;
        int at;
        int place = -1;
        int ifNumber = -1;
        long number;
        List<Node> parts = new ArrayList<>();
    }

    private static final class Whole {
        int value;
        int at;
    }

    private static final class Item {
        boolean isFun;
        String name;
        int at;
        int nameAt;
        // of a function
        List<String> inputs = new ArrayList<>();
        List<Integer> inputAts = new ArrayList<>();
        List<Whole> lows = new ArrayList<>();
        List<Whole> highs = new ArrayList<>();
        Node body;
        int tokens;
        int size;
        int places;
        // of a table
        String of;
        int ofAt;
        Item fun;
        List<Row> rows = new ArrayList<>();
    }

    private static final class Row {
        int at;
        List<Cell> cells = new ArrayList<>();
        String result;
        long number;
    }

    private static final class Cell {
        boolean isAll;
        Whole low;
        Whole high;
    }

    private byte[] tape = new byte[0];
    private int errorAt = -1;
    private List<Item> funs = new ArrayList<>();
    private List<Item> tables = new ArrayList<>();
    private int ifs;
    // while a program is read
    private List<Token> tokens;
    private int position;
    private int bodyStart = -1;
    private Item item;
    // while cases are run
    private Map<String, Integer> branches = new HashMap<>();

    // ---- programs

    int feed(int... numbers) {
        if (tape.length + 20 > 1500) {
            throw new IllegalStateException();
        }
        byte[] longer = Arrays.copyOf(tape, tape.length + 20);
        for (int i = 0; i < 20; i++) {
            longer[tape.length + i] = (byte) (numbers[i / 4] >>> 24 - i % 4 * 8);
        }
        tape = longer;
        return tape.length;
    }

    int trim(int n) {
        if (n < 0 || n > tape.length) {
            throw new IllegalArgumentException();
        }
        tape = Arrays.copyOf(tape, n);
        return n;
    }

    int compile() {
        funs = new ArrayList<>();
        tables = new ArrayList<>();
        ifs = 0;
        errorAt = -1;
        try {
            lex();
            List<Item> items = readProgram();
            for (Item told : items) {
                lookAt(told);
            }
            return 0;
        } catch (Refusal refusal) {
            funs = new ArrayList<>();
            tables = new ArrayList<>();
            ifs = 0;
            errorAt = refusal.at;
            return refusal.error;
        } finally {
            tape = new byte[0];
        }
    }

    int errorAt() {
        return errorAt;
    }

    int count(int what) {
        switch (what) {
            case 0: return funs.size();
            case 1: return tables.size();
            case 2: return ifs;
            case 3: return tables.stream().mapToInt(t -> cases(t).size()).sum();
            case 4: return tape.length;
            default: throw new IndexOutOfBoundsException();
        }
    }

    // ---- tokens

    private void lex() {
        String text = new String(tape, java.nio.charset.StandardCharsets.ISO_8859_1);
        tokens = new ArrayList<>();
        position = 0;
        int at = 0;
        while (at < text.length()) {
            char sign = text.charAt(at);
            if (sign == ' ' || sign == '\n') {
                at++;
                continue;
            }
            String rest = text.substring(at);
            String run;
            if (rest.matches("(?s)[a-z].*")) {
                run = rest.replaceFirst("(?s)^([a-z][a-z0-9]*).*", "$1");
                String kind = run.length() > 8 ? "bad" : KEYWORDS.contains(run) ? run : "name";
                tokens.add(new Token(kind, run, at));
            } else if (rest.matches("(?s)[0-9].*")) {
                run = rest.replaceFirst("(?s)^([0-9]+).*", "$1");
                tokens.add(new Token(run.length() > 4 ? "bad" : "number", run, at));
            } else if (rest.length() > 1 && SYMBOLS.contains(rest.substring(0, 2))) {
                run = rest.substring(0, 2);
                tokens.add(new Token(run, run, at));
            } else {
                run = rest.substring(0, 1);
                tokens.add(new Token(SYMBOLS.contains(run) ? run : "bad", run, at));
            }
            at += run.length();
        }
        tokens.add(new Token("end", "", text.length()));
    }

    private Token here() {
        return tokens.get(position);
    }

    private boolean is(String... kinds) {
        return Arrays.asList(kinds).contains(here().kind());
    }

    private Refusal misfit() {
        return new Refusal(1, here().at());
    }

    private Token take(String... kinds) {
        boolean isTooMany = bodyStart >= 0 && position - bodyStart >= 50;
        if (!is(kinds) || isTooMany) {
            throw misfit();
        }
        return tokens.get(position++);
    }

    // ---- form

    private List<Item> readProgram() {
        List<Item> items = new ArrayList<>();
        ifs = 0;
        bodyStart = -1;
        do {
            item = new Item();
            item.at = here().at();
            item.isFun = take("fun", "table").kind().equals("fun");
            item.nameAt = here().at();
            item.name = take("name").text();
            if (item.isFun) {
                readFun();
            } else {
                readTable();
            }
            take(";");
            items.add(item);
        } while (!is("end"));
        return items;
    }

    private void readFun() {
        String before = "(";
        do {
            take(before);
            before = ",";
            item.inputAts.add(here().at());
            item.inputs.add(take("name").text());
            take("in");
            item.lows.add(whole());
            take("..");
            item.highs.add(whole());
        } while (is(","));
        take(")");
        take("=");
        bodyStart = position;
        item.body = expression(0);
        item.tokens = position - bodyStart;
        bodyStart = -1;
    }

    private void readTable() {
        take("of");
        item.ofAt = here().at();
        item.of = take("name").text();
        String before = ":";
        do {
            take(before);
            before = "|";
            Row row = new Row();
            row.at = here().at();
            row.cells.add(cell());
            while (is(",")) {
                take(",");
                row.cells.add(cell());
            }
            take(":");
            Token result = take("any", "error", "=", "<>", "<", ">", "<=", ">=");
            row.result = result.kind();
            if (COMPARES.contains(row.result)) {
                row.number = whole().value;
            }
            item.rows.add(row);
        } while (is("|"));
    }

    private Whole whole() {
        int sign = 1;
        if (is("-")) {
            take("-");
            sign = -1;
        }
        Whole whole = new Whole();
        whole.at = here().at();
        whole.value = sign * Integer.parseInt(take("number").text());
        return whole;
    }

    private Cell cell() {
        Cell cell = new Cell();
        if (is("*")) {
            take("*");
            cell.isAll = true;
            return cell;
        }
        cell.low = whole();
        if (is("..")) {
            take("..");
            cell.high = whole();
        }
        return cell;
    }

    private void requireDepth(int depth) {
        if (depth > 8) {
            throw misfit();
        }
    }

    private Node node(String kind, Node... parts) {
        Node node = new Node();
        node.kind = kind;
        node.parts.addAll(Arrays.asList(parts));
        return node;
    }

    private Node expression(int depth) {
        if (!is("if")) {
            return chain(depth, 0);
        }
        requireDepth(depth + 1);
        Node node = node("if");
        node.place = item.places++;
        node.ifNumber = ifs++;
        for (String word : new String[] {"if", "then", "else"}) {
            take(word);
            node.parts.add(expression(depth + 1));
        }
        return node;
    }

    private static final String[][] LEVELS = {
        {"or"}, {"and"}, {"=", "<>", "<", ">", "<=", ">="}, {"+", "-"}, {"*", "/", "%"}
    };

    private Node chain(int depth, int level) {
        if (level == LEVELS.length) {
            return factor(depth);
        }
        Node left = chain(depth, level + 1);
        while (is(LEVELS[level])) {
            int place = item.places++;
            String operator = take(LEVELS[level]).kind();
            Node right = chain(depth, level + 1);
            left = node(operator, left, right);
            left.place = place;
            if (level == 2) {
                break;
            }
        }
        return left;
    }

    private Node factor(int depth) {
        Token token = here();
        if (is("number")) {
            Node node = node("number");
            node.place = item.places++;
            node.number = Long.parseLong(take("number").text());
            return node;
        }
        if (is("(")) {
            return bracketed(depth);
        }
        if (is("-", "not")) {
            requireDepth(depth + 1);
            take("-", "not");
            return node(token.kind().equals("-") ? "neg" : "not", factor(depth + 1));
        }
        take("name");
        Node node = node("input");
        node.name = token.text();
        node.at = token.at();
        if (is("(")) {
            node.kind = "call";
            requireDepth(depth + 1);
            String before = "(";
            do {
                take(before);
                before = ",";
                node.parts.add(expression(depth + 1));
            } while (is(","));
            take(")");
        }
        return node;
    }

    private Node bracketed(int depth) {
        requireDepth(depth + 1);
        take("(");
        Node inner = expression(depth + 1);
        take(")");
        return inner;
    }

    // ---- meaning

    private Item funNamed(String name) {
        return funs.stream().filter(f -> f.name.equals(name)).findFirst().orElse(null);
    }

    private void refuseIf(boolean isWrong, int error, int at) {
        if (isWrong) {
            throw new Refusal(error, at);
        }
    }

    private void lookAt(Item told) {
        List<Item> others = told.isFun ? funs : tables;
        refuseIf(others.size() == 6, 4, told.at);
        boolean isDouble = funNamed(told.name) != null || tables.stream().anyMatch(t -> t.name.equals(told.name));
        refuseIf(isDouble, 3, told.nameAt);
        if (told.isFun) {
            lookAtFun(told);
        } else {
            lookAtTable(told);
        }
        others.add(told);
    }

    private void lookAtFun(Item told) {
        for (int i = 0; i < told.inputs.size(); i++) {
            refuseIf(i == 3, 4, told.inputAts.get(i));
            refuseIf(told.inputs.indexOf(told.inputs.get(i)) < i, 3, told.inputAts.get(i));
            Whole low = told.lows.get(i);
            Whole high = told.highs.get(i);
            refuseIf(Math.abs(low.value) > 20, 5, low.at);
            refuseIf(Math.abs(high.value) > 20 || high.value < low.value, 5, high.at);
        }
        told.size = told.tokens;
        lookAtNode(told, told.body);
        refuseIf(told.size > 200, 4, told.nameAt);
    }

    private void lookAtNode(Item told, Node node) {
        refuseIf(node.kind.equals("input") && !told.inputs.contains(node.name), 2, node.at);
        boolean isCall = node.kind.equals("call");
        refuseIf(isCall && funNamed(node.name) == null, 2, node.at);
        for (Node part : node.parts) {
            lookAtNode(told, part);
        }
        if (isCall) {
            refuseIf(node.parts.size() != funNamed(node.name).inputs.size(), 6, node.at);
            told.size += funNamed(node.name).size;
        }
    }

    private void lookAtTable(Item told) {
        told.fun = funNamed(told.of);
        refuseIf(told.fun == null, 2, told.ofAt);
        int inputs = told.fun.inputs.size();
        List<Row> rows = told.rows;
        told.rows = new ArrayList<>();
        for (Row row : rows) {
            refuseIf(told.rows.size() == 12, 4, row.at);
            for (int i = 0; i < row.cells.size() && i < inputs; i++) {
                lookAtCell(told.fun, i, row.cells.get(i));
            }
            refuseIf(row.cells.size() != inputs, 6, row.at);
            told.rows.add(row);
            refuseIf(cases(told).size() > 100, 4, row.at);
        }
    }

    private void lookAtCell(Item fun, int input, Cell cell) {
        int low = fun.lows.get(input).value;
        int high = fun.highs.get(input).value;
        if (cell.isAll) {
            return;
        }
        refuseIf(cell.low.value < low || cell.low.value > high, 5, cell.low.at);
        if (cell.high != null) {
            refuseIf(cell.high.value < low || cell.high.value > high || cell.high.value < cell.low.value, 5,
                    cell.high.at);
        }
    }

    // ---- values

    private long value(Item fun, int changed, long... inputs) {
        return value(fun, fun.body, changed, inputs);
    }

    private long value(Item fun, Node node, int changed, long[] inputs) {
        boolean isChanged = node.place >= 0 && node.place == changed;
        switch (node.kind) {
            case "number":
                return node.number + (isChanged ? 1 : 0);
            case "input":
                return inputs[fun.inputs.indexOf(node.name)];
            case "neg":
                return -value(fun, node.parts.get(0), changed, inputs);
            case "not":
                return value(fun, node.parts.get(0), changed, inputs) == 0 ? 1 : 0;
            case "if": {
                boolean isThen = value(fun, node.parts.get(0), changed, inputs) != 0;
                isThen = isChanged ? !isThen : isThen;
                branches.merge(node.ifNumber + " " + isThen, 1, Integer::sum);
                return value(fun, node.parts.get(isThen ? 1 : 2), changed, inputs);
            }
            case "call": {
                long[] arguments = new long[node.parts.size()];
                for (int i = 0; i < arguments.length; i++) {
                    arguments[i] = value(fun, node.parts.get(i), changed, inputs);
                }
                return value(funNamed(node.name), -1, arguments);
            }
            default:
                return operated(fun, node, isChanged ? changedOperator(node.kind) : node.kind, changed, inputs);
        }
    }

    private long operated(Item fun, Node node, String operator, int changed, long[] inputs) {
        long left = value(fun, node.parts.get(0), changed, inputs);
        if (operator.equals("and") && left == 0) {
            return 0;
        }
        if (operator.equals("or") && left != 0) {
            return 1;
        }
        long right = value(fun, node.parts.get(1), changed, inputs);
        switch (operator) {
            case "and":
            case "or":
                return right != 0 ? 1 : 0;
            case "+":
                return left + right;
            case "-":
                return left - right;
            case "*":
                return left * right;
            case "/":
            case "%":
                if (right == 0) {
                    throw new Failure();
                }
                return operator.equals("/") ? left / right : left % right;
            default:
                return compares(operator, left, right) ? 1 : 0;
        }
    }

    private static boolean compares(String compare, long left, long right) {
        int order = Long.compare(left, right);
        return compare.contains("=") && order == 0
                || compare.contains("<") && order < 0
                || compare.contains(">") && order > 0;
    }

    private static String changedOperator(String operator) {
        String[] pairs = {"=", "<>", "<", "<=", ">", ">=", "+", "-", "*", "/", "and", "or"};
        int at = Arrays.asList(pairs).indexOf(operator);
        return operator.equals("%") ? "*" : pairs[at ^ 1];
    }

    private boolean holds(Item table, Row row, int[] inputs, int changed) {
        long value;
        try {
            value = value(table.fun, changed, longs(inputs));
        } catch (Failure failure) {
            return row.result.equals("error");
        }
        return row.result.equals("any") || !row.result.equals("error") && compares(row.result, value, row.number);
    }

    private static long[] longs(int[] inputs) {
        return Arrays.stream(inputs).asLongStream().toArray();
    }

    // ---- rows and cases

    private List<int[]> inputRows(Item fun) {
        Row all = new Row();
        for (int i = 0; i < fun.inputs.size(); i++) {
            Cell cell = new Cell();
            cell.isAll = true;
            all.cells.add(cell);
        }
        return rowCases(fun, all);
    }

    private List<int[]> rowCases(Item fun, Row row) {
        List<int[]> rows = new ArrayList<>();
        rows.add(new int[0]);
        for (int i = 0; i < row.cells.size(); i++) {
            Cell cell = row.cells.get(i);
            int low = cell.isAll ? fun.lows.get(i).value : cell.low.value;
            int high = cell.isAll ? fun.highs.get(i).value : cell.high == null ? low : cell.high.value;
            List<int[]> longer = new ArrayList<>();
            for (int[] begun : rows) {
                for (int value = low; value <= high; value++) {
                    int[] next = Arrays.copyOf(begun, i + 1);
                    next[i] = value;
                    longer.add(next);
                }
            }
            rows = longer;
        }
        return rows;
    }

    private List<int[]> cases(Item table) {
        List<int[]> cases = new ArrayList<>();
        for (Row row : table.rows) {
            cases.addAll(rowCases(table.fun, row));
        }
        return cases;
    }

    private List<Row> rowsOfCases(Item table) {
        List<Row> rows = new ArrayList<>();
        for (Row row : table.rows) {
            for (int i = 0; i < rowCases(table.fun, row).size(); i++) {
                rows.add(row);
            }
        }
        return rows;
    }

    private static Set<String> pairsIn(int[] inputs) {
        Set<String> pairs = new HashSet<>();
        if (inputs.length == 1) {
            pairs.add("0=" + inputs[0]);
        }
        for (int i = 0; i < inputs.length; i++) {
            for (int j = i + 1; j < inputs.length; j++) {
                pairs.add(i + "=" + inputs[i] + " " + j + "=" + inputs[j]);
            }
        }
        return pairs;
    }

    private Set<String> allPairs(Item fun) {
        Set<String> pairs = new HashSet<>();
        inputRows(fun).forEach(row -> pairs.addAll(pairsIn(row)));
        return pairs;
    }

    private Set<String> untried(Item fun) {
        Set<String> pairs = allPairs(fun);
        for (Item table : tables) {
            if (table.fun == fun) {
                cases(table).forEach(inputs -> pairs.removeAll(pairsIn(inputs)));
            }
        }
        return pairs;
    }

    private int proposed(Item fun) {
        Set<String> untried = untried(fun);
        List<int[]> rows = inputRows(fun);
        int best = -1;
        long most = 0;
        for (int i = 0; i < rows.size(); i++) {
            long pairs = pairsIn(rows.get(i)).stream().filter(untried::contains).count();
            if (pairs > most) {
                most = pairs;
                best = i;
            }
        }
        return best;
    }

    // ---- functions

    private static <T> T at(List<T> list, int index) {
        if (index < 0 || index >= list.size()) {
            throw new IndexOutOfBoundsException();
        }
        return list.get(index);
    }

    private static int below(int index, int bound) {
        if (index < 0 || index >= bound) {
            throw new IndexOutOfBoundsException();
        }
        return index;
    }

    int fun(int fun, int what) {
        Item asked = at(funs, fun);
        switch (what) {
            case 0: return asked.inputs.size();
            case 1: return asked.places;
            case 2: return (int) tables.stream().filter(t -> t.fun == asked).count();
            case 3: return inputRows(asked).size();
            case 4: return allPairs(asked).size();
            case 5: return untried(asked).size();
            default: throw new IndexOutOfBoundsException();
        }
    }

    long call(int fun, int a, int b, int c) {
        return called(at(funs, fun), -1, a, b, c);
    }

    long callChanged(int fun, int place, int a, int b, int c) {
        Item asked = at(funs, fun);
        return called(asked, below(place, asked.places), a, b, c);
    }

    private long called(Item fun, int changed, long... inputs) {
        try {
            return value(fun, changed, inputs);
        } catch (Failure failure) {
            throw new IllegalStateException();
        }
    }

    int inputOf(int fun, int index, int input) {
        int[] row = at(inputRows(at(funs, fun)), index);
        return row[below(input, row.length)];
    }

    int propose(int fun) {
        return proposed(at(funs, fun));
    }

    // ---- tables

    private List<Boolean> holding(Item table, int changed) {
        List<int[]> cases = cases(table);
        List<Row> rows = rowsOfCases(table);
        List<Boolean> holding = new ArrayList<>();
        for (int i = 0; i < cases.size(); i++) {
            holding.add(holds(table, rows.get(i), cases.get(i), changed));
        }
        return holding;
    }

    int table(int table, int what) {
        Item asked = at(tables, table);
        switch (what) {
            case 0: return funs.indexOf(asked.fun);
            case 1: return asked.rows.size();
            case 2: return cases(asked).size();
            case 3: return (int) holding(asked, -1).stream().filter(b -> b).count();
            case 4: return holding(asked, -1).indexOf(false);
            default: throw new IndexOutOfBoundsException();
        }
    }

    int caseOf(int table, int index, int input) {
        int[] inputs = at(cases(at(tables, table)), index);
        return inputs[below(input, inputs.length)];
    }

    boolean holds(int table, int index) {
        return at(holding(at(tables, table), -1), index);
    }

    int taken(int number, boolean isThen) {
        below(number, ifs);
        branches.clear();
        tables.forEach(table -> holding(table, -1));
        return branches.getOrDefault(number + " " + isThen, 0);
    }

    private boolean finds(Item table, int place) {
        List<Boolean> before = holding(table, -1);
        List<Boolean> after = holding(table, place);
        for (int i = 0; i < before.size(); i++) {
            if (before.get(i) && !after.get(i)) {
                return true;
            }
        }
        return false;
    }

    private int findsCount(Item table) {
        int found = 0;
        for (int place = 0; place < table.fun.places; place++) {
            found += finds(table, place) ? 1 : 0;
        }
        return found;
    }

    boolean finds(int table, int place) {
        Item asked = at(tables, table);
        return finds(asked, below(place, asked.fun.places));
    }

    double score(int table) {
        Item asked = at(tables, table);
        return asked.fun.places == 0 ? 1 : (double) findsCount(asked) / asked.fun.places;
    }

    int grow(int table) {
        Item grown = at(tables, table);
        int proposed = proposed(grown.fun);
        if (proposed < 0 || grown.rows.size() == 12 || cases(grown).size() == 100) {
            throw new IllegalStateException();
        }
        int[] inputs = inputRows(grown.fun).get(proposed);
        Row row = new Row();
        for (int input : inputs) {
            Cell cell = new Cell();
            cell.low = new Whole();
            cell.low.value = input;
            row.cells.add(cell);
        }
        try {
            row.number = value(grown.fun, -1, longs(inputs));
            row.result = "=";
        } catch (Failure failure) {
            row.result = "error";
        }
        grown.rows.add(row);
        return cases(grown).size();
    }

    int shorten(int table) {
        Item shortened = at(tables, table);
        for (int i = shortened.rows.size() - 1; i >= 0; i--) {
            int before = findsCount(shortened);
            Row row = shortened.rows.remove(i);
            if (shortened.rows.isEmpty() || findsCount(shortened) != before) {
                shortened.rows.add(i, row);
            }
        }
        return shortened.rows.size();
    }

    long digest() {
        List<Long> numbers = new ArrayList<>();
        for (int what = 0; what < 5; what++) {
            numbers.add((long) count(what));
        }
        for (int fun = 0; fun < funs.size(); fun++) {
            for (int what = 0; what < 6; what++) {
                numbers.add((long) fun(fun, what));
            }
        }
        for (int table = 0; table < tables.size(); table++) {
            for (int what = 0; what < 5; what++) {
                numbers.add((long) table(table, what));
            }
            for (int[] inputs : cases(tables.get(table))) {
                Arrays.stream(inputs).forEach(input -> numbers.add((long) input));
            }
        }
        for (int number = 0; number < ifs; number++) {
            numbers.add((long) taken(number, true));
            numbers.add((long) taken(number, false));
        }
        long sum = 373;
        for (long number : numbers) {
            sum = sum * 31 + number;
        }
        return sum;
    }
}
