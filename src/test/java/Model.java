import java.util.ArrayList;
import java.util.HashMap;
import java.util.List;
import java.util.Map;
import java.util.TreeMap;
import java.util.regex.Matcher;
import java.util.regex.Pattern;

/**
 * A second program for the document, to compare the desk with: it makes trees of a text, binds names
 * with maps while it walks down the trees, and runs by walking the trees. An exception of the document
 * is told by its simple name.
 */
final class Model {
    private static final List<String> KEYWORDS = List.of("fn", "let", "if", "while", "print", "return");

    /** A token, and what became of it. */
    static final class Token {
        String word;
        int index;
        int start;
        int end;
        int kind;
        Token declaration;
        /** Of a variable: all names in force there. */
        Map<String, Token> inForce;
    }

    /** A piece of the tree: its parts are other nodes, by their places. */
    static final class Node {
        final String what;
        final Token token;
        final List<Node> nodes = new ArrayList<>();

        Node(String what, Token token) {
            this.what = what;
            this.token = token;
        }
    }

    static final class Function {
        Token name;
        final List<Token> parameters = new ArrayList<>();
        Node body;
    }

    private static final class Broken extends RuntimeException {
        private static final long serialVersionUID = 1L;
    }

    private static final class Ended extends RuntimeException {
        private static final long serialVersionUID = 1L;
        final int outcome;

        Ended(int outcome) {
            this.outcome = outcome;
        }
    }

    final String text;
    final List<Token> tokens = new ArrayList<>();
    final List<Function> functions = new ArrayList<>();
    private final TreeMap<Integer, Integer> faultAt = new TreeMap<>();

    private List<Token> part;
    private int next;

    Model(String text) {
        this.text = text;
        readTokens();
        int first = 0;
        int parts = 0;
        for (int k = 0; k < tokens.size(); k++) {
            boolean lastPart = parts == 3;
            if (k > first && tokens.get(k).word.equals("fn") && !lastPart) {
                readPart(tokens.subList(first, k));
                parts++;
                first = k;
            }
        }
        if (!tokens.isEmpty()) {
            readPart(tokens.subList(first, tokens.size()));
        }
        for (Function function : functions) {
            bindFunction(function);
        }
    }

    List<Integer> faults() {
        List<Integer> faults = new ArrayList<>();
        faultAt.forEach((place, number) -> faults.add(number + 8 * place));
        return faults;
    }

    private void readTokens() {
        Matcher matcher = Pattern.compile("[a-z]+|[0-9]+|[^ ]").matcher(text);
        while (matcher.find()) {
            Token token = new Token();
            token.word = matcher.group();
            token.index = tokens.size();
            token.start = matcher.start();
            token.end = matcher.end();
            token.kind = kindOf(token.word);
            tokens.add(token);
        }
    }

    static int kindOf(String word) {
        if (KEYWORDS.contains(word)) {
            return 1;
        }
        if (word.matches("[a-z]{1,6}")) {
            return 2;
        }
        if (word.matches("[0-9]{1,4}")) {
            return 3;
        }
        return word.matches("[-+*<=(){},;]") ? 4 : 5;
    }

    private void readPart(List<Token> tokensOfPart) {
        part = tokensOfPart;
        next = 0;
        try {
            Function function = readFunction();
            if (next < part.size()) {
                throw new Broken();
            }
            functions.add(function);
        } catch (Broken e) {
            faultAt.put(next < part.size() ? part.get(next).start : part.get(part.size() - 1).end, 1);
        }
    }

    private String peek() {
        return next < part.size() ? part.get(next).word : "";
    }

    private int peekKind() {
        return next < part.size() ? part.get(next).kind : 0;
    }

    private Token expect(String word) {
        if (!peek().equals(word)) {
            throw new Broken();
        }
        return part.get(next++);
    }

    private Token expectKind(int kind) {
        if (peekKind() != kind) {
            throw new Broken();
        }
        return part.get(next++);
    }

    private Function readFunction() {
        Function function = new Function();
        expect("fn");
        function.name = expectKind(2);
        expect("(");
        if (!peek().equals(")")) {
            function.parameters.add(expectKind(2));
            while (peek().equals(",")) {
                next++;
                function.parameters.add(expectKind(2));
            }
        }
        expect(")");
        function.body = readBlock(1);
        return function;
    }

    private Node readBlock(int open) {
        if (open > 4) {
            throw new Broken();
        }
        expect("{");
        Node block = new Node("block", null);
        while (!peek().equals("}")) {
            block.nodes.add(readStatement(open));
        }
        next++;
        return block;
    }

    private Node readStatement(int open) {
        String word = peek();
        Node node;
        switch (word) {
            case "let":
                next++;
                return readStore("let");
            case "print":
            case "return":
                node = new Node(word, part.get(next++));
                node.nodes.add(readExpression(0));
                expect(";");
                return node;
            case "if":
            case "while":
                node = new Node(word, part.get(next++));
                node.nodes.add(readExpression(0));
                node.nodes.add(readBlock(open + 1));
                return node;
            case "{":
                return readBlock(open + 1);
            default:
                return readStore("assign");
        }
    }

    private Node readStore(String what) {
        Node node = new Node(what, expectKind(2));
        expect("=");
        node.nodes.add(readExpression(0));
        expect(";");
        return node;
    }

    private Node readExpression(int open) {
        Node left = readChain(open, 1);
        return peek().equals("<") ? pair(left, part.get(next++), readChain(open, 1)) : left;
    }

    /** Level 1 a sum, level 2 a term. */
    private Node readChain(int open, int level) {
        Node left = level == 2 ? readFactor(open) : readChain(open, 2);
        while (level == 2 ? peek().equals("*") : peek().equals("+") || peek().equals("-")) {
            left = pair(left, part.get(next++), level == 2 ? readFactor(open) : readChain(open, 2));
        }
        return left;
    }

    private static Node pair(Node left, Token sign, Node right) {
        Node node = new Node(sign.word, sign);
        node.nodes.add(left);
        node.nodes.add(right);
        return node;
    }

    private Node readFactor(int open) {
        if (peekKind() == 3) {
            return new Node("number", part.get(next++));
        }
        if (peek().equals("(")) {
            openBracket(open);
            Node inner = readExpression(open + 1);
            expect(")");
            return inner;
        }
        Token name = expectKind(2);
        if (!peek().equals("(")) {
            return new Node("variable", name);
        }
        openBracket(open);
        Node call = new Node("call", name);
        if (!peek().equals(")")) {
            call.nodes.add(readExpression(open + 1));
            while (peek().equals(",")) {
                next++;
                call.nodes.add(readExpression(open + 1));
            }
        }
        expect(")");
        return call;
    }

    private void openBracket(int open) {
        if (open == 4) {
            throw new Broken();
        }
        next++;
    }

    private Function functionOf(String name) {
        for (Function function : functions) {
            if (function.name.word.equals(name)) {
                return function;
            }
        }
        return null;
    }

    private void bindFunction(Function function) {
        if (functionOf(function.name.word) == function) {
            function.name.declaration = function.name;
        } else {
            faultAt.put(function.name.start, 6);
        }
        Map<String, Token> parameters = new HashMap<>();
        for (Token parameter : function.parameters) {
            declare(parameter, parameters);
        }
        bindBlock(function.body, parameters);
    }

    private void declare(Token name, Map<String, Token> scope) {
        if (scope.containsKey(name.word)) {
            faultAt.put(name.start, 2);
        } else {
            name.declaration = name;
            scope.put(name.word, name);
        }
    }

    private void bindBlock(Node block, Map<String, Token> around) {
        Map<String, Token> own = new HashMap<>();
        for (Node statement : block.nodes) {
            Map<String, Token> inForce = new HashMap<>(around);
            inForce.putAll(own);
            bindNode(statement, inForce);
            if (statement.what.equals("let")) {
                declare(statement.token, own);
            }
        }
    }

    private void bindNode(Node node, Map<String, Token> inForce) {
        if (node.what.equals("block")) {
            bindBlock(node, inForce);
            return;
        }
        if (node.what.equals("variable") || node.what.equals("assign")) {
            node.token.inForce = inForce;
            node.token.declaration = inForce.get(node.token.word);
            if (node.token.declaration == null) {
                faultAt.put(node.token.start, 3);
            }
        }
        if (node.what.equals("call")) {
            Function function = functionOf(node.token.word);
            if (function == null) {
                faultAt.put(node.token.start, 4);
            } else {
                node.token.declaration = function.name;
                if (function.parameters.size() != node.nodes.size()) {
                    faultAt.put(node.token.start, 5);
                }
            }
        }
        for (Node inner : node.nodes) {
            bindNode(inner, inForce);
        }
    }

    Token tokenAt(int place) {
        for (Token token : tokens) {
            if (token.start <= place && place < token.end) {
                return token;
            }
        }
        return null;
    }

    List<Token> references(Token declaration) {
        List<Token> references = new ArrayList<>();
        for (Token token : tokens) {
            if (token.declaration == declaration) {
                references.add(token);
            }
        }
        return references;
    }

    private Token boundAt(int place) {
        Token token = tokenAt(place);
        return token == null ? null : token.declaration;
    }

    /** The answer of reference(). */
    String reference(int place, int j) {
        Token declaration = boundAt(place);
        if (declaration == null || j < 0) {
            return "NoSuchElementException";
        }
        List<Token> references = references(declaration);
        return String.valueOf(j < references.size() ? references.get(j).start : -1);
    }

    /** The answer of a change, with the text behind it. */
    static final class Change {
        final String answer;
        final String text;

        Change(String answer, String text) {
            this.answer = answer;
            this.text = text;
        }
    }

    private Change refuse(String exception) {
        return new Change(exception, text);
    }

    Change rename(int place, String name) {
        if (kindOf(name) != 2) {
            return refuse("IllegalArgumentException");
        }
        if (!faultAt.isEmpty()) {
            return refuse("IllegalStateException");
        }
        Token declaration = boundAt(place);
        if (declaration == null) {
            return refuse("NoSuchElementException");
        }
        StringBuilder changed = new StringBuilder(text);
        List<Token> references = references(declaration);
        for (int r = references.size() - 1; r >= 0; r--) {
            changed.replace(references.get(r).start, references.get(r).end, name);
        }
        if (changed.length() > 240) {
            return refuse("IllegalStateException");
        }
        Model then = new Model(changed.toString());
        if (!then.faultAt.isEmpty() || !then.bindings().equals(bindings()) || then.mainIndex() != mainIndex()) {
            return refuse("UnsupportedOperationException");
        }
        return new Change(String.valueOf(references.size()), changed.toString());
    }

    private List<Integer> bindings() {
        List<Integer> bindings = new ArrayList<>();
        for (Token token : tokens) {
            bindings.add(token.declaration == null ? -1 : token.declaration.index);
        }
        return bindings;
    }

    private int mainIndex() {
        Function main = functionOf("main");
        return main == null ? -1 : main.name.index;
    }

    Change inline(int place) {
        if (!faultAt.isEmpty()) {
            return refuse("IllegalStateException");
        }
        Token variable = boundAt(place);
        if (variable == null || !tokens.get(variable.index - 1).word.equals("let")) {
            return refuse("NoSuchElementException");
        }
        int semicolon = variable.index;
        while (!tokens.get(semicolon).word.equals(";")) {
            semicolon++;
        }
        List<Token> expression = tokens.subList(variable.index + 2, semicolon);
        List<Token> uses = references(variable).subList(1, references(variable).size());
        if (isUnsafe(variable, expression, uses, semicolon)) {
            return refuse("UnsupportedOperationException");
        }
        String value = text.substring(expression.get(0).start, expression.get(expression.size() - 1).end);
        StringBuilder changed = new StringBuilder(text);
        for (int u = uses.size() - 1; u >= 0; u--) {
            changed.replace(uses.get(u).start, uses.get(u).end, "(" + value + ")");
        }
        changed.delete(tokens.get(variable.index - 1).start, tokens.get(semicolon).end);
        if (changed.length() > 240) {
            return refuse("IllegalStateException");
        }
        if (!new Model(changed.toString()).faultAt.isEmpty()) {
            return refuse("UnsupportedOperationException");
        }
        return new Change(String.valueOf(uses.size()), changed.toString());
    }

    private boolean isUnsafe(Token variable, List<Token> expression, List<Token> uses, int semicolon) {
        List<Token> names = new ArrayList<>();
        for (Token token : expression) {
            if (token.kind == 2) {
                names.add(token);
                if (token.inForce == null) {
                    return true;
                }
            }
        }
        int depth = 1;
        for (int k = semicolon + 1; depth > 0; k++) {
            Token token = tokens.get(k);
            depth += token.word.equals("{") ? 1 : token.word.equals("}") ? -1 : 0;
            boolean assigned = token.kind == 2 && tokens.get(k + 1).word.equals("=") && !tokens.get(k - 1).word.equals("let");
            if (assigned && token.declaration == variable) {
                return true;
            }
            for (Token name : names) {
                if (assigned && token.declaration == name.declaration) {
                    return true;
                }
            }
        }
        for (Token use : uses) {
            for (Token name : names) {
                if (use.inForce.get(name.word) != name.declaration) {
                    return true;
                }
            }
        }
        return false;
    }

    // Running.

    final List<Integer> printed = new ArrayList<>();
    int given;
    private int counted;
    private int open;
    private boolean returned;

    /** The answer of run(). */
    String run(int x) {
        if (!faultAt.isEmpty()) {
            return "IllegalStateException";
        }
        Function main = functionOf("main");
        if (main == null) {
            return "NoSuchElementException";
        }
        printed.clear();
        given = 0;
        counted = 0;
        open = 0;
        List<Integer> values = new ArrayList<>();
        for (int p = 0; p < main.parameters.size(); p++) {
            values.add(p == 0 ? x : 0);
        }
        try {
            given = call(main, values);
            return "0";
        } catch (Ended e) {
            return String.valueOf(e.outcome);
        }
    }

    private void count() {
        if (counted == 300) {
            throw new Ended(1);
        }
        counted++;
    }

    private int call(Function function, List<Integer> values) {
        if (open == 8) {
            throw new Ended(2);
        }
        count();
        open++;
        Map<Token, Integer> variables = new HashMap<>();
        for (int p = 0; p < values.size(); p++) {
            variables.put(function.parameters.get(p), values.get(p));
        }
        returned = false;
        int value = doNode(function.body, variables);
        boolean byReturn = returned;
        returned = false;
        open--;
        return byReturn ? value : 0;
    }

    /** Does a statement; the value counts if it returned. */
    private int doNode(Node node, Map<Token, Integer> variables) {
        switch (node.what) {
            case "block":
                int value = 0;
                for (int n = 0; n < node.nodes.size() && !returned; n++) {
                    value = doNode(node.nodes.get(n), variables);
                }
                return value;
            case "let":
            case "assign":
                variables.put(node.token.declaration, value(node.nodes.get(0), variables));
                return 0;
            case "print":
                printed.add(value(node.nodes.get(0), variables));
                return 0;
            case "return":
                int result = value(node.nodes.get(0), variables);
                returned = true;
                return result;
            case "if":
                return value(node.nodes.get(0), variables) != 0 ? doNode(node.nodes.get(1), variables) : 0;
            default:
                int last = 0;
                while (!returned && value(node.nodes.get(0), variables) != 0) {
                    count();
                    last = doNode(node.nodes.get(1), variables);
                }
                return last;
        }
    }

    private int value(Node node, Map<Token, Integer> variables) {
        switch (node.what) {
            case "number":
                return Integer.parseInt(node.token.word);
            case "variable":
                return variables.get(node.token.declaration);
            case "call":
                List<Integer> values = new ArrayList<>();
                for (Node inner : node.nodes) {
                    values.add(value(inner, variables));
                }
                return call(functionOf(node.token.word), values);
            default:
                int left = value(node.nodes.get(0), variables);
                int right = value(node.nodes.get(1), variables);
                switch (node.what) {
                    case "+":
                        return left + right;
                    case "-":
                        return left - right;
                    case "*":
                        return left * right;
                    default:
                        return left < right ? 1 : 0;
                }
        }
    }
}
