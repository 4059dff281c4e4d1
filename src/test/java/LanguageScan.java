import com.sun.source.tree.BinaryTree;
import com.sun.source.tree.ClassTree;
import com.sun.source.tree.CompilationUnitTree;
import com.sun.source.tree.EnhancedForLoopTree;
import com.sun.source.tree.ForLoopTree;
import com.sun.source.tree.LineMap;
import com.sun.source.tree.MethodInvocationTree;
import com.sun.source.tree.MethodTree;
import com.sun.source.tree.NewArrayTree;
import com.sun.source.tree.NewClassTree;
import com.sun.source.tree.Tree;
import com.sun.source.tree.TypeCastTree;
import com.sun.source.tree.VariableTree;
import com.sun.source.util.TreePath;
import com.sun.source.util.TreePathScanner;
import com.sun.source.util.Trees;
import java.util.ArrayList;
import java.util.EnumMap;
import java.util.HashMap;
import java.util.LinkedHashSet;
import java.util.List;
import java.util.Map;
import java.util.Set;
import javax.lang.model.element.Element;
import javax.lang.model.element.ElementKind;
import javax.lang.model.element.Modifier;
import javax.lang.model.element.VariableElement;
import javax.lang.model.type.TypeKind;
import javax.lang.model.type.TypeMirror;

/** Gathers what LanguageTest asks of: classes, fields, methods and whom they call, and all that stands outside the rules. */
final class LanguageScan extends TreePathScanner<Void, Void> {
    /** A method or constructor. */
    static final class Body {
        final Element element;
        final String name;
        final int parameters;
        final int lines;
        final Set<Element> calls = new LinkedHashSet<>();

        Body(Element element, MethodTree tree, int lines) {
            this.element = element;
            this.name = tree.getName().toString();
            this.parameters = tree.getParameters().size();
            this.lines = lines;
        }

        boolean is(Modifier... modifiers) {
            return element.getModifiers().containsAll(List.of(modifiers));
        }

        @Override
        public String toString() {
            return element.getEnclosingElement().getSimpleName() + "." + name;
        }
    }

    private static final Set<String> TYPES = Set.of("int", "long", "short", "byte", "char", "boolean", "void", "String");

    final Map<Tree.Kind, Integer> kinds = new EnumMap<>(Tree.Kind.class);
    final Map<String, Integer> fields = new HashMap<>();
    final List<Body> methods = new ArrayList<>();
    final List<String> classes = new ArrayList<>();
    final List<String> oddClasses = new ArrayList<>();
    final List<String> oddStatics = new ArrayList<>();
    final List<String> oddTypes = new ArrayList<>();
    final List<String> oddLoops = new ArrayList<>();
    final List<String> oddCasts = new ArrayList<>();
    final List<String> libraryCalls = new ArrayList<>();
    final List<String> joinedTexts = new ArrayList<>();
    final List<String> madeInMethods = new ArrayList<>();
    private final Trees trees;
    private final CompilationUnitTree unit;
    private final LineMap lineMap;
    private Body now;

    LanguageScan(Trees trees, CompilationUnitTree unit) {
        this.trees = trees;
        this.unit = unit;
        this.lineMap = unit.getLineMap();
    }

    private long lineOf(long position) {
        return lineMap.getLineNumber(position);
    }

    private String where(Tree tree) {
        return "line " + lineOf(trees.getSourcePositions().getStartPosition(unit, tree)) + ": " + tree;
    }

    @Override
    public Void scan(Tree tree, Void none) {
        if (tree != null) {
            kinds.merge(tree.getKind(), 1, Integer::sum);
        }
        return super.scan(tree, none);
    }

    @Override
    public Void visitClass(ClassTree tree, Void none) {
        Element element = trees.getElement(getCurrentPath());
        Set<Modifier> modifiers = element.getModifiers();
        boolean outer = getCurrentPath().getParentPath().getLeaf() == unit;
        boolean inOuter = element.getEnclosingElement().getKind() == ElementKind.CLASS && modifiers.contains(Modifier.STATIC)
                && modifiers.contains(Modifier.PRIVATE);
        boolean face = modifiers.equals(Set.of(Modifier.PUBLIC, Modifier.FINAL)) && tree.getSimpleName().contentEquals("IvyHouse");
        if (outer ? !face : !inOuter) {
            oddClasses.add(tree.getSimpleName().toString());
        }
        classes.add(tree.getSimpleName().toString());
        return super.visitClass(tree, none);
    }

    @Override
    public Void visitMethod(MethodTree tree, Void none) {
        Element element = trees.getElement(getCurrentPath());
        long begin = trees.getSourcePositions().getStartPosition(unit, tree);
        long end = trees.getSourcePositions().getEndPosition(unit, tree);
        now = new Body(element, tree, end < 0 ? 0 : (int) (lineOf(end) - lineOf(begin) + 1));
        methods.add(now);
        super.visitMethod(tree, none);
        now = null;
        return null;
    }

    @Override
    public Void visitVariable(VariableTree tree, Void none) {
        Element element = trees.getElement(getCurrentPath());
        lookAtType(tree, element.asType());
        if (element.getKind() == ElementKind.FIELD) {
            Set<Modifier> modifiers = element.getModifiers();
            if (modifiers.contains(Modifier.STATIC)) {
                lookAtStatic(tree, element);
            } else {
                fields.merge(element.getEnclosingElement().getSimpleName().toString(), 1, Integer::sum);
            }
        }
        return super.visitVariable(tree, none);
    }

    private void lookAtStatic(VariableTree tree, Element element) {
        Set<Modifier> modifiers = element.getModifiers();
        boolean constant = element instanceof VariableElement v && v.getConstantValue() != null;
        boolean writtenOut = tree.getInitializer() instanceof NewArrayTree row && row.getInitializers() != null;
        boolean allOfAnEnum = tree.getInitializer() != null && tree.getInitializer().toString().endsWith("values()")
                && modifiers.contains(Modifier.PRIVATE);
        if (!modifiers.contains(Modifier.FINAL) || !(constant || writtenOut || allOfAnEnum)) {
            oddStatics.add(where(tree));
        }
    }

    private void lookAtType(VariableTree tree, TypeMirror type) {
        String name = type.toString().replace("java.lang.", "");
        boolean row = name.endsWith("[]");
        String bare = row ? name.substring(0, name.length() - 2) : name;
        if (!TYPES.contains(bare) && !bare.startsWith("IvyHouse.")) {
            oddTypes.add(where(tree));
        }
    }

    @Override
    public Void visitMethodInvocation(MethodInvocationTree tree, Void none) {
        call(trees.getElement(getCurrentPath()));
        return super.visitMethodInvocation(tree, none);
    }

    @Override
    public Void visitNewClass(NewClassTree tree, Void none) {
        Element made = trees.getElement(getCurrentPath());
        // a constant of an enum is made by the machine, not by a method
        if (now != null && now.element.getKind() == ElementKind.METHOD) {
            madeInMethods.add(where(tree));
        }
        call(made);
        return super.visitNewClass(tree, none);
    }

    @Override
    public Void visitNewArray(NewArrayTree tree, Void none) {
        if (now != null && now.element.getKind() == ElementKind.METHOD) {
            madeInMethods.add(where(tree));
        }
        return super.visitNewArray(tree, none);
    }

    private void call(Element called) {
        String owner = called.getEnclosingElement().toString();
        if (!owner.startsWith("IvyHouse")) {
            libraryCalls.add(owner.replace("java.lang.", "").replaceAll("<.*", "") + "." + called.getSimpleName());
        } else if (now != null) {
            now.calls.add(called);
        }
    }

    @Override
    public Void visitForLoop(ForLoopTree tree, Void none) {
        boolean counts = tree.getInitializer().size() == 1 && tree.getUpdate().size() == 1 && tree.getCondition() != null;
        String counter = counts && tree.getInitializer().get(0) instanceof VariableTree v ? v.getName().toString() : " ";
        // the counter stands first in the condition, by itself, and it is what is counted on
        if (!counts || !tree.getCondition().toString().replace("(", "").matches("(?s)" + counter + " (<|<=|>=) .*")
                || !tree.getUpdate().get(0).toString().startsWith(counter)) {
            oddLoops.add(where(tree));
        }
        return super.visitForLoop(tree, none);
    }

    @Override
    public Void visitEnhancedForLoop(EnhancedForLoopTree tree, Void none) {
        TypeMirror type = trees.getTypeMirror(new TreePath(getCurrentPath(), tree.getExpression()));
        if (type.getKind() != TypeKind.ARRAY) {
            oddLoops.add(where(tree));
        }
        return super.visitEnhancedForLoop(tree, none);
    }

    @Override
    public Void visitTypeCast(TypeCastTree tree, Void none) {
        if (!trees.getTypeMirror(new TreePath(getCurrentPath(), tree.getType())).getKind().isPrimitive()) {
            oddCasts.add(where(tree));
        }
        return super.visitTypeCast(tree, none);
    }

    @Override
    public Void visitBinary(BinaryTree tree, Void none) {
        if (trees.getTypeMirror(getCurrentPath()).getKind() == TypeKind.DECLARED) {
            joinedTexts.add(where(tree));
        }
        return super.visitBinary(tree, none);
    }

    boolean isFaceName(String name) {
        return methods.stream().anyMatch(m -> m.is(Modifier.PUBLIC) && m.name.equals(name) && !name.equals("<init>"));
    }

    private Body bodyOf(Element element) {
        return methods.stream().filter(m -> m.element.equals(element)).findFirst().orElse(null);
    }

    boolean comesBack(Body method) {
        Set<Element> reached = new LinkedHashSet<>(method.calls);
        List<Element> all = new ArrayList<>(reached);
        for (int i = 0; i < all.size(); i++) {
            Body body = bodyOf(all.get(i));
            for (Element called : body == null ? Set.<Element>of() : body.calls) {
                if (reached.add(called)) {
                    all.add(called);
                }
            }
        }
        return reached.contains(method.element);
    }

    /** The longest row of calls from a method on, itself first. */
    List<String> deepestWay(Body from) {
        return deepestWay(from, new LinkedHashSet<>());
    }

    private List<String> deepestWay(Body from, Set<Body> open) {
        List<String> longest = new ArrayList<>();
        open.add(from);
        for (Element called : from.calls) {
            Body body = bodyOf(called);
            if (body != null && !open.contains(body)) {
                List<String> way = deepestWay(body, open);
                longest = way.size() > longest.size() ? way : longest;
            }
        }
        open.remove(from);
        longest.add(0, from.toString());
        return longest;
    }
}
