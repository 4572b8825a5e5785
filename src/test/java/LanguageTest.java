import com.sun.source.tree.BinaryTree;
import com.sun.source.tree.BlockTree;
import com.sun.source.tree.ClassTree;
import com.sun.source.tree.CompilationUnitTree;
import com.sun.source.tree.CompoundAssignmentTree;
import com.sun.source.tree.ImportTree;
import com.sun.source.tree.MethodInvocationTree;
import com.sun.source.tree.MethodTree;
import com.sun.source.tree.NewArrayTree;
import com.sun.source.tree.NewClassTree;
import com.sun.source.tree.Tree;
import com.sun.source.tree.VariableTree;
import com.sun.source.util.JavacTask;
import com.sun.source.util.SourcePositions;
import com.sun.source.util.TreePath;
import com.sun.source.util.TreePathScanner;
import com.sun.source.util.Trees;
import java.io.File;
import java.io.IOException;
import java.util.ArrayList;
import java.util.HashSet;
import java.util.LinkedHashMap;
import java.util.LinkedHashSet;
import java.util.List;
import java.util.Map;
import java.util.Set;
import javax.lang.model.element.Element;
import javax.lang.model.element.ElementKind;
import javax.lang.model.element.Modifier;
import javax.lang.model.element.VariableElement;
import javax.lang.model.type.TypeMirror;
import javax.tools.JavaCompiler;
import javax.tools.StandardJavaFileManager;
import javax.tools.ToolProvider;

/**
 * The rules of LANGUAGE.md that can be read off the source of the program, as far as the program uses what they
 * are about: the face, what is not there at all, the library, static fields, sizes, names and the depth of calls.
 * The argument is the path of CrewPairer.java.
 */
public final class LanguageTest extends TreePathScanner<Void, Void> {
    private static final int MOST_LINES = 60;
    private static final int MOST_PARAMETERS = 7;
    private static final int MOST_CLASSES = 12;
    private static final int MOST_FIELDS = 20;
    private static final int DEEPEST_CALLS = 8;
    private static final Set<Tree.Kind> REFUSED = Set.of(Tree.Kind.THROW, Tree.Kind.TRY, Tree.Kind.SYNCHRONIZED,
            Tree.Kind.ASSERT, Tree.Kind.LAMBDA_EXPRESSION, Tree.Kind.MEMBER_REFERENCE, Tree.Kind.INSTANCE_OF,
            Tree.Kind.DOUBLE_LITERAL, Tree.Kind.FLOAT_LITERAL, Tree.Kind.ANNOTATION);
    private static final Set<String> LIBRARY = Set.of("java.lang.System.arraycopy", "java.lang.String.length",
            "java.lang.String.charAt");
    private static final Set<String> FACE = Set.of("addLeg", "addCrew", "legCount", "crewCount", "leg", "setRule", "rule",
            "fly", "ride", "drop", "reason", "place", "itemCount", "item", "dutyCount", "duty", "violationCount", "violation",
            "minutes", "within", "home", "pairings", "cost", "openCount", "open", "delay", "cancel", "setReserve", "reserve",
            "called", "pair", "offer", "repair", "repaired", "bestMinutes", "bestLeg", "takeBest", "letter", "feed", "execute",
            "save", "restore", "undo", "BAD", "NONE", "FULL", "DUPLICATE", "RANGE");

    private final Check check = new Check();
    private final Trees trees;
    private final CompilationUnitTree unit;
    private final Map<Element, Set<Element>> calls = new LinkedHashMap<>();
    private final Set<String> face = new HashSet<>();
    private final Set<String> hidden = new LinkedHashSet<>();
    private int classes;

    private LanguageTest(Trees trees, CompilationUnitTree unit) {
        this.trees = trees;
        this.unit = unit;
    }

    public static void main(String[] args) throws IOException {
        JavaCompiler compiler = ToolProvider.getSystemJavaCompiler();
        StandardJavaFileManager files = compiler.getStandardFileManager(null, null, null);
        JavacTask task = (JavacTask) compiler.getTask(null, files, null, List.of("-proc:none"), null,
                files.getJavaFileObjects(new File(args[0])));
        CompilationUnitTree unit = task.parse().iterator().next();
        task.analyze();
        LanguageTest test = new LanguageTest(Trees.instance(task), unit);
        test.scan(unit, null);
        test.judge();
        test.check.end("LanguageTest");
    }

    private void judge() {
        demand(unit.getPackageName() == null, unit, "1: a package line");
        demand(face.equals(FACE), unit, "1: the face is " + face);
        for (String name : hidden) {
            demand(!face.contains(name), unit, "1: a method that is not public bears the public name " + name);
        }
        demand(classes <= MOST_CLASSES, unit, "11: " + classes + " classes");
        for (Element method : calls.keySet()) {
            int depth = depth(method, new ArrayList<>());
            demand(depth <= DEEPEST_CALLS, unit, "11: calls from " + method + " go " + depth + " deep");
        }
    }

    /** The longest chain of calls from a method; a method that calls itself counts once. */
    private int depth(Element method, List<Element> above) {
        int deepest = 0;
        for (Element callee : calls.getOrDefault(method, Set.of())) {
            if (callee.equals(method)) {
                demand(method.getModifiers().contains(Modifier.STATIC), unit, "8: recursion of " + method);
            } else if (above.contains(callee)) {
                check.wrong("8: a circle of calls through " + callee);
            } else {
                above.add(method);
                deepest = Math.max(deepest, depth(callee, above));
                above.remove(above.size() - 1);
            }
        }
        return deepest + 1;
    }

    private void demand(boolean holds, Tree tree, String rule) {
        if (!holds) {
            check.wrong("line " + line(tree, true) + ": rule " + rule);
        } else {
            check.is(rule, 1, 1);
        }
    }

    private long line(Tree tree, boolean start) {
        SourcePositions positions = trees.getSourcePositions();
        long at = start ? positions.getStartPosition(unit, tree) : positions.getEndPosition(unit, tree);
        return at < 0 ? -1 : unit.getLineMap().getLineNumber(at);
    }

    private Element element(Tree tree) {
        return trees.getElement(new TreePath(getCurrentPath(), tree));
    }

    private boolean isText(Tree tree) {
        TypeMirror type = trees.getTypeMirror(new TreePath(getCurrentPath(), tree));
        return type != null && type.toString().equals("java.lang.String");
    }

    @Override
    public Void visitImport(ImportTree tree, Void none) {
        demand(false, tree, "4: an import");
        return super.visitImport(tree, none);
    }

    @Override
    public Void visitClass(ClassTree tree, Void none) {
        classes++;
        Set<Modifier> modifiers = tree.getModifiers().getFlags();
        boolean outer = getCurrentPath().getParentPath().getLeaf() == unit;
        boolean inner = getCurrentPath().getParentPath().getLeaf() instanceof ClassTree;
        demand(outer || inner && modifiers.contains(Modifier.STATIC) && !modifiers.contains(Modifier.PUBLIC)
                && !modifiers.contains(Modifier.PROTECTED), tree, "2: the class " + tree.getSimpleName());
        int fields = 0;
        for (Tree member : tree.getMembers()) {
            if (member instanceof BlockTree) {
                demand(false, member, "5: an initialiser block");
            }
            if (member instanceof VariableTree field && !field.getModifiers().getFlags().contains(Modifier.STATIC)) {
                fields++;
            }
            if (outer) {
                note(member);
            } else if (member instanceof MethodTree method && method.getReturnType() != null) {
                hidden.add(method.getName().toString());
            }
        }
        demand(fields <= MOST_FIELDS, tree, "11: " + fields + " fields");
        return super.visitClass(tree, none);
    }

    private void note(Tree member) {
        if (member instanceof ClassTree) {
            return;
        }
        boolean method = member instanceof MethodTree;
        Set<Modifier> flags = (method ? ((MethodTree) member).getModifiers() : ((VariableTree) member).getModifiers()).getFlags();
        String name = method ? ((MethodTree) member).getName().toString() : ((VariableTree) member).getName().toString();
        demand(flags.contains(Modifier.PUBLIC) || flags.contains(Modifier.PRIVATE), member, "1: " + name + " is not private");
        if (method && ((MethodTree) member).getReturnType() == null) {
            return;
        }
        if (flags.contains(Modifier.PUBLIC)) {
            face.add(name);
        } else if (method) {
            hidden.add(name);
        }
    }

    @Override
    public Void visitVariable(VariableTree tree, Void none) {
        Element variable = trees.getElement(getCurrentPath());
        if (variable.getKind() == ElementKind.FIELD && variable.getModifiers().contains(Modifier.STATIC)) {
            boolean written = tree.getInitializer() instanceof NewArrayTree array && array.getInitializers() != null;
            demand(variable.getModifiers().contains(Modifier.FINAL)
                    && (((VariableElement) variable).getConstantValue() != null || written), tree, "5: the field " + variable);
        }
        return super.visitVariable(tree, none);
    }

    @Override
    public Void visitMethod(MethodTree tree, Void none) {
        Element method = trees.getElement(getCurrentPath());
        calls.putIfAbsent(method, new LinkedHashSet<>());
        demand(tree.getParameters().size() <= MOST_PARAMETERS, tree, "11: parameters of " + method);
        demand(tree.getThrows().isEmpty(), tree, "6: throws of " + method);
        if (line(tree, false) > 0) {
            demand(line(tree, false) - line(tree, true) < MOST_LINES, tree, "11: lines of " + method);
        }
        return super.visitMethod(tree, none);
    }

    private Element caller() {
        for (TreePath path = getCurrentPath(); path != null; path = path.getParentPath()) {
            if (path.getLeaf() instanceof MethodTree) {
                return trees.getElement(path);
            }
        }
        return null;
    }

    @Override
    public Void visitMethodInvocation(MethodInvocationTree tree, Void none) {
        Element callee = element(tree.getMethodSelect());
        Element owner = callee.getEnclosingElement();
        boolean own = owner.toString().startsWith("CrewPairer");
        boolean implied = callee.getKind() == ElementKind.CONSTRUCTOR;
        demand(own || implied || LIBRARY.contains(owner + "." + callee.getSimpleName()), tree, "4: a call of " + owner + "." + callee);
        if (own && caller() != null) {
            calls.computeIfAbsent(caller(), c -> new LinkedHashSet<>()).add(callee);
        }
        return super.visitMethodInvocation(tree, none);
    }

    @Override
    public Void visitNewClass(NewClassTree tree, Void none) {
        demand(tree.getClassBody() == null, tree, "2: an anonymous class");
        demand(caller() == null || caller().getKind() == ElementKind.CONSTRUCTOR, tree, "12: an object that a call makes");
        return super.visitNewClass(tree, none);
    }

    @Override
    public Void visitNewArray(NewArrayTree tree, Void none) {
        demand(caller() == null || caller().getKind() == ElementKind.CONSTRUCTOR, tree, "12: an array that a call makes");
        return super.visitNewArray(tree, none);
    }

    @Override
    public Void visitBinary(BinaryTree tree, Void none) {
        boolean texts = isText(tree.getLeftOperand()) || isText(tree.getRightOperand());
        demand(!texts, tree, "6 or 10: " + tree.getKind() + " of texts");
        return super.visitBinary(tree, none);
    }

    @Override
    public Void visitCompoundAssignment(CompoundAssignmentTree tree, Void none) {
        demand(!isText(tree.getVariable()), tree, "10: " + tree.getKind() + " of texts");
        return super.visitCompoundAssignment(tree, none);
    }

    @Override
    public Void scan(Tree tree, Void none) {
        if (tree != null) {
            demand(!REFUSED.contains(tree.getKind()), tree, "2, 6 or 10: " + tree.getKind());
        }
        return super.scan(tree, none);
    }
}
