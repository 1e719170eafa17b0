import java.io.IOException;
import java.lang.reflect.Constructor;
import java.lang.reflect.Field;
import java.lang.reflect.Method;
import java.lang.reflect.Modifier;
import java.nio.file.Files;
import java.nio.file.Path;
import java.util.ArrayList;
import java.util.List;
import java.util.Set;
import java.util.TreeMap;
import java.util.TreeSet;
import java.util.regex.Matcher;
import java.util.regex.Pattern;

/** The document's section 'The public face', and those rules of LANGUAGE.md that the text of the class shows. */
public final class LanguageTest {
    private static final int LONGEST_METHOD = 60;

    private static final Checks checks = new Checks();

    private static final Set<String> WORDS_LEFT_OUT = Set.of(
            "package", "import", "float", "double", "String", "Math", "Integer", "Long", "System", "Arrays", "Object",
            "null", "throw", "throws", "try", "catch", "finally", "synchronized", "assert", "instanceof",
            "interface", "enum", "record", "var", "volatile", "native", "extends", "implements");

    private static final Set<String> NUMBER_TYPES = Set.of("int", "long", "short", "byte", "char", "boolean");
    private static final Set<String> NO_CALLS = Set.of("if", "for", "while", "switch", "return", "catch");

    public static void main(String[] args) throws IOException {
        String text = Files.readString(Path.of("src/main/java/SmithForms.java"));
        String code = text.replaceAll("(?s)/\\*.*?\\*/", " ").replaceAll("//[^\n]*", " ");
        List<String> tokens = tokensOf(code);
        checks.begin("The public face");
        theFaceAsWritten(text);
        theFaceAsCompiled();
        checks.begin("LANGUAGE.md, rules 1 and 5");
        theMembers();
        theFields();
        checks.begin("LANGUAGE.md, rules 2, 3 and 6");
        theWords(tokens);
        checks.begin("LANGUAGE.md, rule 4");
        whereArraysAreMade(tokens);
        checks.begin("LANGUAGE.md, rule 8");
        everyLoopCounts(tokens);
        checks.begin("LANGUAGE.md, rules 8 and 10");
        noCallInsideArguments(tokens);
        noRecursionAndNoDeepCalls(tokens);
        noLongMethod(code);
        checks.end();
    }

    // ---- the public face

    /** The lines of the document's class, without the class's own first and last. */
    private static Set<String> faceOfTheDocument() {
        Matcher block = Pattern.compile("(?s)public final class SmithForms \\{(.*?)\\}")
                .matcher(Sentences.documentText());
        Set<String> face = new TreeSet<>();
        checks.holds("the document has the class's face", block.find());
        for (String line : block.group(1).trim().split(";\\s*")) {
            face.add(line.trim());
        }
        return face;
    }

    private static void theFaceAsWritten(String text) {
        Set<String> written = new TreeSet<>();
        Matcher header = Pattern.compile("(?m)^    (public [^{;=]*)").matcher(text);
        while (header.find()) {
            written.add(header.group(1).trim());
        }
        checks.holds("the first line is the document's", text.startsWith("public final class SmithForms {"));
        checks.holds("the public members are written as in the document: " + written,
                written.equals(faceOfTheDocument()));
    }

    private static void theFaceAsCompiled() {
        Set<String> compiled = new TreeSet<>();
        for (Method method : SmithForms.class.getDeclaredMethods()) {
            if (Modifier.isPublic(method.getModifiers())) {
                compiled.add(Modifier.toString(method.getModifiers()) + " " + method.getReturnType() + " "
                        + method.getName() + parameters(method.getParameterTypes()));
            }
        }
        for (Constructor<?> constructor : SmithForms.class.getDeclaredConstructors()) {
            compiled.add(Modifier.toString(constructor.getModifiers()) + " " + constructor.getName()
                    + parameters(constructor.getParameterTypes()));
        }
        Set<String> due = new TreeSet<>();
        for (String line : faceOfTheDocument()) {
            due.add(line.replaceAll("(int|long) \\w+(?=[,)])", "$1").replace(", ", ","));
        }
        checks.holds("the public members are compiled as in the document: " + compiled, compiled.equals(due));
    }

    private static String parameters(Class<?>[] types) {
        List<String> names = new ArrayList<>();
        for (Class<?> type : types) {
            names.add(type.getSimpleName());
        }
        return "(" + String.join(",", names) + ")";
    }

    // ---- members and fields

    private static void theMembers() {
        checks.holds("the class is public and final",
                Modifier.isPublic(SmithForms.class.getModifiers()) && Modifier.isFinal(SmithForms.class.getModifiers()));
        checks.due("nested classes", SmithForms.class.getDeclaredClasses().length, 0);
        Set<String> publicNames = new TreeSet<>();
        for (Method method : SmithForms.class.getDeclaredMethods()) {
            if (!Modifier.isPrivate(method.getModifiers())) {
                checks.holds(method + " is public", Modifier.isPublic(method.getModifiers()));
                publicNames.add(method.getName());
            }
            checks.holds(method + " takes at most seven parameters", method.getParameterCount() <= 7);
        }
        for (Method method : SmithForms.class.getDeclaredMethods()) {
            checks.holds(method + " has a name of its own",
                    Modifier.isPublic(method.getModifiers()) || !publicNames.contains(method.getName()));
        }
    }

    private static void theFields() {
        int fields = 0;
        for (Field field : SmithForms.class.getDeclaredFields()) {
            Class<?> type = field.getType();
            checks.holds(field + " is private", Modifier.isPrivate(field.getModifiers()));
            if (Modifier.isStatic(field.getModifiers())) {
                checks.holds(field + " is a constant of int or long",
                        Modifier.isFinal(field.getModifiers()) && (type == int.class || type == long.class));
            } else {
                fields++;
                checks.holds(field + " is a number or a row of numbers",
                        type.isPrimitive() || type.isArray() && type.getComponentType().isPrimitive());
            }
        }
        checks.holds("at most forty fields", fields <= 40);
    }

    // ---- words and arrays

    private static List<String> tokensOf(String code) {
        List<String> tokens = new ArrayList<>();
        Matcher matcher = Pattern.compile("[A-Za-z_][A-Za-z_0-9]*|[0-9][A-Za-z_0-9]*|->|::|\\S").matcher(code);
        while (matcher.find()) {
            tokens.add(matcher.group());
        }
        return tokens;
    }

    private static void theWords(List<String> tokens) {
        for (int i = 0; i < tokens.size(); i++) {
            String token = tokens.get(i);
            checks.holds("no word '" + token + "'", !WORDS_LEFT_OUT.contains(token));
            checks.holds("no method reference", !token.equals("::"));
            checks.holds("no lambda", !token.equals("->") || isCaseArrow(tokens, i));
            if (token.equals(".")) {
                checks.holds("a dot stands only in this.field and array.length",
                        tokens.get(i - 1).equals("this") || tokens.get(i + 1).equals("length"));
            }
        }
    }

    private static boolean isCaseArrow(List<String> tokens, int arrow) {
        int i = arrow;
        while (!Set.of("case", "default", ";", "{", "}", "(").contains(tokens.get(i))) {
            i--;
        }
        return Set.of("case", "default").contains(tokens.get(i));
    }

    private static void whereArraysAreMade(List<String> tokens) {
        int depth = 0;
        String method = "";
        for (int i = 0; i < tokens.size(); i++) {
            depth += deeperBy(tokens.get(i));
            if (depth == 1 && isCall(tokens, i)) {
                method = tokens.get(i);
            }
            if (tokens.get(i).equals("new")) {
                checks.holds("arrays are made in a field's initialiser, or in the constructor outside all blocks",
                        depth == 1 || depth == 2 && method.equals("SmithForms"));
                checks.holds("an array is one of numbers: " + tokens.get(i + 1),
                        NUMBER_TYPES.contains(tokens.get(i + 1)) && tokens.get(i + 2).equals("["));
                checks.holds("its length is a literal, 1 or more, or a constant: " + tokens.get(i + 3),
                        tokens.get(i + 3).matches("[1-9][0-9]*|[A-Z][A-Z_0-9]*") && tokens.get(i + 4).equals("]"));
            }
            checks.holds("an array has one dimension", !(tokens.get(i).equals("]") && tokens.get(i + 1).equals("[")));
        }
    }

    private static int deeperBy(String token) {
        return token.equals("{") ? 1 : token.equals("}") ? -1 : 0;
    }

    // ---- loops

    /**
     * Rule 8 allows other loops as well. The class gets along with one kind, whose end a test can see: for (int i =
     * ..; i < bound; i++), with nothing in the body that sets i or what bound is made of.
     */
    private static void everyLoopCounts(List<String> tokens) {
        for (int i = 0; i < tokens.size(); i++) {
            checks.holds("every loop is a for loop", !Set.of("while", "do").contains(tokens.get(i)));
            if (tokens.get(i).equals("for")) {
                int headEnd = closing(tokens, i + 1, "(", ")");
                String head = String.join(" ", tokens.subList(i + 2, headEnd));
                Matcher counted = Pattern.compile("int (\\w+) = [^;]*; \\1 < =? ?([^;&]*)(&[^;|]*)?; \\1 \\+ \\+")
                        .matcher(head);
                checks.holds("a counter against a bound: " + head, counted.matches());
                checks.holds("a body in braces: " + head, tokens.get(headEnd + 1).equals("{"));
                if (counted.matches()) {
                    List<String> body = tokens.subList(headEnd + 1, closing(tokens, headEnd + 1, "{", "}"));
                    for (String name : (counted.group(1) + " " + counted.group(2)).split("\\W+")) {
                        checks.holds(name + " stays as it is in the body of: " + head, !isSet(body, name));
                    }
                }
            }
        }
    }

    private static int closing(List<String> tokens, int from, String open, String close) {
        int opened = 0;
        for (int i = from; i < tokens.size(); i++) {
            opened += tokens.get(i).equals(open) ? 1 : tokens.get(i).equals(close) ? -1 : 0;
            if (opened == 0) {
                return i;
            }
        }
        return tokens.size();
    }

    private static boolean isSet(List<String> body, String name) {
        String text = " " + String.join(" ", body) + " ";
        String named = Pattern.quote(name);
        return Pattern.compile(" " + named + " ([-+*/%&|^]|< <|> >|> > >)? ?= (?!=)").matcher(text).find()
                || Pattern.compile(" " + named + " (\\+ \\+|- -) ").matcher(text).find()
                || Pattern.compile(" (\\+ \\+|- -) " + named + " ").matcher(text).find();
    }

    // ---- calls and methods

    private static boolean isCall(List<String> tokens, int i) {
        return i + 1 < tokens.size() && tokens.get(i + 1).equals("(")
                && Character.isLetter(tokens.get(i).charAt(0)) && !NO_CALLS.contains(tokens.get(i));
    }

    private static void noCallInsideArguments(List<String> tokens) {
        for (int i = 0; i < tokens.size(); i++) {
            if (isCall(tokens, i)) {
                int end = closing(tokens, i + 1, "(", ")");
                for (int j = i + 1; j < end; j++) {
                    checks.holds("no call in the arguments of " + tokens.get(i), !isCall(tokens, j));
                }
            }
        }
    }

    private static void noRecursionAndNoDeepCalls(List<String> tokens) {
        TreeMap<String, Set<String>> called = new TreeMap<>();
        String method = "";
        int depth = 0;
        for (int i = 0; i < tokens.size(); i++) {
            depth += deeperBy(tokens.get(i));
            if (isCall(tokens, i) && depth == 1) {
                method = tokens.get(i);
                called.put(method, new TreeSet<>());
            } else if (isCall(tokens, i) && depth > 1) {
                called.get(method).add(tokens.get(i));
            }
        }
        for (String start : called.keySet()) {
            Set<String> level = Set.of(start);
            int deep = 0;
            while (!level.isEmpty() && deep <= 6) {
                deep++;
                Set<String> next = new TreeSet<>();
                for (String name : level) {
                    checks.holds(start + " calls a method of the class: " + name, called.containsKey(name));
                    next.addAll(called.getOrDefault(name, Set.of()));
                }
                level = next;
            }
            checks.holds("calls from " + start + " go at most six deep, and none comes back", level.isEmpty());
        }
    }

    private static void noLongMethod(String code) {
        int depth = 0;
        int lines = 0;
        String first = "";
        for (String line : code.split("\n")) {
            if (depth == 1) {
                first = line.trim();
                lines = 0;
            }
            lines++;
            for (String token : tokensOf(line)) {
                depth += deeperBy(token);
            }
            checks.holds(first + " has at most " + LONGEST_METHOD + " lines", depth < 2 || lines <= LONGEST_METHOD);
        }
    }
}
