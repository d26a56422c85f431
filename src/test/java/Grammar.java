import java.util.ArrayDeque;
import java.util.ArrayList;
import java.util.Arrays;
import java.util.Deque;
import java.util.HashMap;
import java.util.HashSet;
import java.util.List;
import java.util.Map;
import java.util.Set;
import java.util.regex.Matcher;
import java.util.regex.Pattern;

/**
 * The grammar as it is written in the document, which is read here, and the first token that does not fit it. All
 * rows of symbols that the tokens so far can be the beginning of are followed at once, so that nothing of the way in
 * which CaseTables and Model read a program is told here again.
 */
final class Grammar {
    private static final int MAX_DEPTH = 8;
    private static final int MAX_TOKENS = 50;
    private static final Pattern SIGNS = Pattern.compile("\"[^\"]+\"|[a-z]+|[=\\[\\]{}()|]");
    private static final Pattern PIECES = Pattern.compile("([a-z][a-z0-9]*)|([0-9]+)|([ \n]+)|<=|>=|<>|\\.\\.|(?s:.)");

    /** kind is "name", "number", "bad", "end", or a keyword or symbol in quotation marks, as in the grammar. */
    record Token(String kind, int at) {
    }

    /** One of the rows of symbols that can stand for a symbol. */
    private static final class Row {
        final String symbol;
        final List<String> parts = new ArrayList<>();

        Row(String symbol) {
            this.symbol = symbol;
        }
    }

    /** A row read as far as its dot; the number of its first token, the depth at this one, and that at the dot. */
    private record State(Row row, int dot, int start, int depthAtStart, int depth) {
        boolean isRead() {
            return dot == row.parts.size();
        }

        String next() {
            return row.parts.get(dot);
        }

        State passed(int depthBehind) {
            return new State(row, dot + 1, start, depthAtStart, depthBehind);
        }

        /** The depth behind the next part, if this is a token. */
        int depthBehindToken() {
            switch (next()) {
                case "\"(\"":
                case "\"if\"":
                    return depth + 1;
                case "\")\"":
                    return depth - 1;
                case "\"-\"":
                case "\"not\"":
                    // In all other rows a "-" stands between two operands, or is the sign of a number.
                    return row.symbol.equals("factor") ? depth + 1 : depth;
                default:
                    return depth;
            }
        }
    }

    private final Map<String, List<Row>> rules = new HashMap<>();
    private final Set<String> keywords;
    private final Set<String> symbols;
    // while the grammar is read
    private final List<String> signs = new ArrayList<>();
    private int position;
    // while tokens are: for each of them the states that wait behind it for a symbol at a depth
    private final List<Map<String, List<State>>> waiting = new ArrayList<>();

    /** Reads the section of the document that tells the language. */
    Grammar(String section) {
        keywords = wordsBetween(section, "The keywords are: ", ". All other words");
        symbols = wordsBetween(section, "Symbols: ", " The keywords are");
        Matcher found = SIGNS.matcher(between(section, "in quotation marks. ```text", "Operators of one level"));
        while (found.find()) {
            signs.add(found.group());
        }
        while (position < signs.size()) {
            String symbol = signs.get(position);
            position += 2;
            readRows(symbol);
        }
    }

    private static String between(String section, String before, String behind) {
        int from = section.indexOf(before) + before.length();
        return section.substring(from, section.indexOf(behind, from));
    }

    private static Set<String> wordsBetween(String section, String before, String behind) {
        return new HashSet<>(Arrays.asList(between(section, before, behind).trim().split(" ")));
    }

    // ---- the grammar

    private boolean isAt(String sign) {
        return position < signs.size() && signs.get(position).equals(sign);
    }

    /** Whether the rows of this symbol end here: at a bracket, or at the head of the next rule. */
    private boolean isAtEnd() {
        boolean isHead = position + 1 < signs.size() && signs.get(position + 1).equals("=");
        return position >= signs.size() || isHead || isAt("]") || isAt("}") || isAt(")");
    }

    private void readRows(String symbol) {
        List<Row> rows = new ArrayList<>();
        rules.put(symbol, rows);
        Row row = new Row(symbol);
        rows.add(row);
        while (!isAtEnd()) {
            if (isAt("|")) {
                row = new Row(symbol);
                rows.add(row);
                position++;
            } else {
                row.parts.add(readPart());
            }
        }
    }

    /** A symbol; what is in brackets becomes one of its own. */
    private String readPart() {
        String sign = signs.get(position);
        position++;
        if (!sign.equals("[") && !sign.equals("{") && !sign.equals("(")) {
            return sign;
        }
        String group = "group" + position;
        readRows(group);
        position++;
        if (sign.equals("{")) {
            rules.get(group).forEach(row -> row.parts.add(group));
        }
        if (!sign.equals("(")) {
            rules.get(group).add(new Row(group));
        }
        return group;
    }

    private boolean canBeNothing(String symbol) {
        return rules.get(symbol).stream().anyMatch(row -> row.parts.isEmpty());
    }

    // ---- programs

    List<Token> tokensOf(String text) {
        List<Token> tokens = new ArrayList<>();
        Matcher found = PIECES.matcher(text);
        while (found.find()) {
            boolean isBlank = found.group(3) != null;
            if (!isBlank) {
                String kind = kindOf(found.group(), found.group(1) != null, found.group(2) != null);
                tokens.add(new Token(kind, found.start()));
            }
        }
        tokens.add(new Token("end", text.length()));
        return tokens;
    }

    private String kindOf(String piece, boolean isWord, boolean isNumber) {
        if (isWord && piece.length() > 8 || isNumber && piece.length() > 4) {
            return "bad";
        }
        if (keywords.contains(piece) || symbols.contains(piece)) {
            return '"' + piece + '"';
        }
        return isWord ? "name" : isNumber ? "number" : "bad";
    }

    /** Where the first token begins with which the tokens so far are not the beginning of a program; -1 if none. */
    int misfitIn(String text) {
        List<Token> tokens = tokensOf(text);
        int misfit = firstMisfit(tokens);
        int tooMany = firstTooMany(tokens);
        if (tooMany >= 0 && (misfit < 0 || tooMany < misfit)) {
            misfit = tooMany;
        }
        return misfit < 0 ? -1 : tokens.get(misfit).at();
    }

    /** The first token that would be the 51st of an expression, if all ahead of it fit; -1 if there is none. */
    private static int firstTooMany(List<Token> tokens) {
        boolean isInFun = false;
        int expressionAt = -1;
        for (int i = 0; i < tokens.size(); i++) {
            String kind = tokens.get(i).kind();
            if (kind.equals("\";\"")) {
                isInFun = false;
                expressionAt = -1;
            }
            if (expressionAt >= 0 && i - expressionAt == MAX_TOKENS) {
                return i;
            }
            isInFun |= kind.equals("\"fun\"");
            if (isInFun && expressionAt < 0 && kind.equals("\"=\"")) {
                expressionAt = i + 1;
            }
        }
        return -1;
    }

    private int firstMisfit(List<Token> tokens) {
        Row whole = new Row("whole program");
        whole.parts.add("program");
        whole.parts.add("end");
        Set<State> states = new HashSet<>();
        states.add(new State(whole, 0, 0, 0, 0));
        waiting.clear();
        for (int i = 0; i < tokens.size(); i++) {
            follow(states, i);
            Set<State> behind = new HashSet<>();
            for (State state : states) {
                if (!state.isRead() && state.next().equals(tokens.get(i).kind())
                        && state.depthBehindToken() <= MAX_DEPTH) {
                    behind.add(state.passed(state.depthBehindToken()));
                }
            }
            if (behind.isEmpty()) {
                return i;
            }
            states = behind;
        }
        return -1;
    }

    /** Adds all states that are reached without a token. */
    private void follow(Set<State> states, int token) {
        Map<String, List<State>> waitingHere = new HashMap<>();
        waiting.add(waitingHere);
        Deque<State> left = new ArrayDeque<>(states);
        while (!left.isEmpty()) {
            State state = left.pop();
            List<State> reached = new ArrayList<>();
            if (!state.isRead() && rules.containsKey(state.next())) {
                waitingHere.computeIfAbsent(state.next() + state.depth(), key -> new ArrayList<>()).add(state);
                for (Row row : rules.get(state.next())) {
                    reached.add(new State(row, 0, token, state.depth(), state.depth()));
                }
                if (canBeNothing(state.next())) {
                    reached.add(state.passed(state.depth()));
                }
            } else if (state.isRead() && state.start() < token) {
                String symbol = state.row().symbol + state.depthAtStart();
                for (State waiter : waiting.get(state.start()).getOrDefault(symbol, List.of())) {
                    reached.add(waiter.passed(waiter.depth()));
                }
            }
            for (State found : reached) {
                if (states.add(found)) {
                    left.push(found);
                }
            }
        }
    }
}
