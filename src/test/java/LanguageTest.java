import com.sun.source.tree.CompilationUnitTree;
import com.sun.source.tree.Tree;
import com.sun.source.util.JavacTask;
import com.sun.source.util.Trees;
import java.io.IOException;
import java.nio.file.Files;
import java.nio.file.Path;
import java.util.List;
import java.util.Map;
import java.util.Set;
import java.util.TreeMap;
import javax.lang.model.element.Modifier;
import javax.tools.JavaCompiler;
import javax.tools.StandardJavaFileManager;
import javax.tools.ToolProvider;

/** The rules of LANGUAGE.md, looked up in the tree that javac makes of the class; LanguageScan walks through it. */
public final class LanguageTest {
    // both are narrower than the rules, as the class needs no more: whoever needs more that the rules leave adds it here
    private static final Set<String> LIBRARY = Set.of("String.length", "String.charAt", "String.isEmpty", "String.equals",
            "Math.min", "Math.max", "Math.abs", "Integer.bitCount", "System.arraycopy", "Object.<init>", "Enum.<init>");
    private static final Set<Tree.Kind> NEVER = Set.of(Tree.Kind.LAMBDA_EXPRESSION, Tree.Kind.MEMBER_REFERENCE, Tree.Kind.THROW,
            Tree.Kind.TRY, Tree.Kind.CATCH, Tree.Kind.SYNCHRONIZED, Tree.Kind.ASSERT, Tree.Kind.IMPORT, Tree.Kind.PACKAGE,
            Tree.Kind.WHILE_LOOP, Tree.Kind.DO_WHILE_LOOP, Tree.Kind.NULL_LITERAL, Tree.Kind.SWITCH_EXPRESSION,
            Tree.Kind.INSTANCE_OF, Tree.Kind.DOUBLE_LITERAL, Tree.Kind.FLOAT_LITERAL, Tree.Kind.ANNOTATION);

    public static void main(String[] args) throws IOException {
        Path file = Path.of("src/main/java/IvyHouse.java");
        Check.due("only plain signs", Files.readString(file).chars().allMatch(c -> c == 10 || c >= 32 && c < 127), true);
        LanguageScan scan = scan(file);
        shape(scan);
        members(scan);
        bodies(scan);
        recursion(scan);
        depth(scan);
        Check.end();
    }

    private static LanguageScan scan(Path file) throws IOException {
        JavaCompiler compiler = ToolProvider.getSystemJavaCompiler();
        try (StandardJavaFileManager files = compiler.getStandardFileManager(null, null, null)) {
            JavacTask task = (JavacTask) compiler.getTask(null, files, null, List.of("--release", "17"), null,
                    files.getJavaFileObjects(file));
            CompilationUnitTree unit = task.parse().iterator().next();
            task.analyze();
            LanguageScan scan = new LanguageScan(Trees.instance(task), unit);
            scan.scan(unit, null);
            return scan;
        }
    }

    private static void none(String rule, List<String> found) {
        Check.same(rule, found, List.of());
    }

    private static void shape(LanguageScan scan) {
        Check.sentence("rule 2: static nested classes, records, enums; no local or anonymous class; 11: at most some twelve classes");
        none("classes that are not static, private and in the one class", scan.oddClasses);
        Check.due(scan.classes.size() + " classes are too many", scan.classes.size() > 12, false);
        Check.sentence("rules 2, 4, 6: what is never used");
        for (Tree.Kind kind : NEVER) {
            Check.due("how often there is " + kind, scan.kinds.getOrDefault(kind, 0), 0);
        }
    }

    private static void members(LanguageScan scan) {
        Check.sentence("rule 1: no private method bears the name of a public one; 5: static fields; 11: fields, parameters, lines");
        none("names that are public ones too", scan.methods.stream().filter(m -> !m.is(Modifier.PUBLIC) && scan.isFaceName(m.name))
                .map(LanguageScan.Body::toString).toList());
        none("static fields that are no constants", scan.oddStatics);
        for (Map.Entry<String, Integer> fields : new TreeMap<>(scan.fields).entrySet()) {
            Check.due(fields + " fields are too many", fields.getValue() > 20, false);
        }
        for (LanguageScan.Body m : scan.methods) {
            Check.due(m + " has too many parameters", m.parameters > 7, false);
            Check.due(m + " has too many lines", m.lines > 60, false);
        }
    }

    private static void bodies(LanguageScan scan) {
        Check.sentence("rule 4: only what stands there; 9: every loop has an end; 10: no texts joined by +; 12: objects");
        none("calls of a library that is not told", scan.libraryCalls.stream().filter(c -> !LIBRARY.contains(c)).distinct().toList());
        none("types that are not told", scan.oddTypes);
        none("loops without a counter against a bound", scan.oddLoops);
        none("texts joined by +", scan.joinedTexts);
        none("objects made outside constructors and rows", scan.madeInMethods);
        none("casts to classes", scan.oddCasts);
    }

    private static void recursion(LanguageScan scan) {
        Check.sentence("rule 8: a private static method that calls itself, private methods that call one another");
        none("methods that call themselves and are not private and static", scan.methods.stream()
                .filter(m -> m.calls.contains(m.element) && !m.is(Modifier.PRIVATE, Modifier.STATIC))
                .map(LanguageScan.Body::toString).toList());
        none("methods that come back to themselves and are not private", scan.methods.stream()
                .filter(m -> scan.comesBack(m) && !m.is(Modifier.PRIVATE)).map(LanguageScan.Body::toString).toList());
    }

    /** Recursion is counted once: a method that is open already is not gone into again. */
    private static void depth(LanguageScan scan) {
        Check.sentence("rule 11: calls that are no recursion go at most eight deep");
        for (LanguageScan.Body m : scan.methods) {
            if (m.is(Modifier.PUBLIC)) {
                List<String> way = scan.deepestWay(m);
                Check.due(way + " is too deep", way.size() > 8, false);
            }
        }
    }
}
