import com.sun.source.tree.AssertTree;
import com.sun.source.tree.BinaryTree;
import com.sun.source.tree.BlockTree;
import com.sun.source.tree.ClassTree;
import com.sun.source.tree.CompilationUnitTree;
import com.sun.source.tree.CompoundAssignmentTree;
import com.sun.source.tree.DoWhileLoopTree;
import com.sun.source.tree.ForLoopTree;
import com.sun.source.tree.ImportTree;
import com.sun.source.tree.LambdaExpressionTree;
import com.sun.source.tree.LiteralTree;
import com.sun.source.tree.MemberReferenceTree;
import com.sun.source.tree.MemberSelectTree;
import com.sun.source.tree.MethodInvocationTree;
import com.sun.source.tree.MethodTree;
import com.sun.source.tree.NewClassTree;
import com.sun.source.tree.SynchronizedTree;
import com.sun.source.tree.ThrowTree;
import com.sun.source.tree.Tree;
import com.sun.source.tree.TryTree;
import com.sun.source.tree.VariableTree;
import com.sun.source.tree.WhileLoopTree;
import com.sun.source.util.JavacTask;
import com.sun.source.util.TreePath;
import com.sun.source.util.TreePathScanner;
import com.sun.source.util.Trees;
import java.io.IOException;
import java.net.URI;
import java.util.ArrayList;
import java.util.HashSet;
import java.util.LinkedHashMap;
import java.util.LinkedHashSet;
import java.util.List;
import java.util.Map;
import java.util.Set;
import javax.lang.model.element.Element;
import javax.lang.model.element.ElementKind;
import javax.lang.model.element.ExecutableElement;
import javax.lang.model.element.Modifier;
import javax.lang.model.element.TypeElement;
import javax.lang.model.type.ArrayType;
import javax.lang.model.type.DeclaredType;
import javax.lang.model.type.TypeKind;
import javax.lang.model.type.TypeMirror;
import javax.tools.Diagnostic;
import javax.tools.DiagnosticCollector;
import javax.tools.JavaCompiler;
import javax.tools.JavaFileObject;
import javax.tools.SimpleJavaFileObject;
import javax.tools.ToolProvider;

/** What of ../shared/LANGUAGE.md can be seen in a source: each break is told with the rule's number and the line. */
final class Rules extends TreePathScanner<Void, Void> {
    private static final int MOST_PARAMETERS = 7, MOST_LINES = 60, MOST_DEEP = 8, MOST_CLASSES = 12, MOST_FIELDS = 20;
    private static final Set<String> IMPORTS = Set.of("java.util.Arrays", "java.util.ArrayList", "java.util.List",
        "java.util.Iterator");
    private static final Map<String, Set<String>> LIBRARY = Map.of(
        "java.lang.String", Set.of("length", "charAt", "isEmpty", "equals", "indexOf", "substring", "toCharArray"),
        "java.lang.StringBuilder", Set.of("append", "charAt", "setCharAt", "setLength", "deleteCharAt", "reverse",
            "length", "toString"),
        "java.util.ArrayList", Set.of("add", "get", "set", "remove", "size", "isEmpty", "clear"),
        "java.util.List", Set.of("add", "get", "set", "remove", "size", "isEmpty", "clear", "of"),
        "java.lang.Integer", Set.of("compare", "max", "min", "abs", "bitCount", "signum", "numberOfTrailingZeros",
            "numberOfLeadingZeros", "highestOneBit", "lowestOneBit"),
        "java.lang.Long", Set.of("compare", "max", "min", "abs", "bitCount", "signum", "numberOfTrailingZeros",
            "numberOfLeadingZeros", "highestOneBit", "lowestOneBit"),
        "java.lang.Math", Set.of("max", "min", "abs", "floorDiv", "floorMod"),
        "java.lang.System", Set.of("arraycopy"),
        "java.util.Arrays", Set.of("copyOf", "copyOfRange", "fill"));
    private static final Set<String> MADE = Set.of("java.lang.String", "java.lang.StringBuilder",
        "java.util.ArrayList");
    private static final Set<String> LISTS = Set.of("java.util.ArrayList", "java.util.List");

    private final Trees trees;
    private final CompilationUnitTree unit;
    private final List<String> broken = new ArrayList<>();
    private final Set<String> publicNames = new HashSet<>();
    private final Map<Element, Set<Element>> calls = new LinkedHashMap<>();
    private Element method = null;
    private int classes = 0;

    private Rules(Trees trees, CompilationUnitTree unit) {
        this.trees = trees;
        this.unit = unit;
    }

    /** Every break of a rule in a source, such as "rule 6, line 12: throw". */
    static List<String> brokenIn(String source) throws IOException {
        JavaCompiler compiler = ToolProvider.getSystemJavaCompiler();
        DiagnosticCollector<JavaFileObject> told = new DiagnosticCollector<>();
        List<String> options = List.of("--release", "17", "-proc:none", "-Xlint:none");
        List<Source> sources = List.of(new Source(source));
        JavacTask task = (JavacTask) compiler.getTask(null, null, told, options, null, sources);
        CompilationUnitTree unit = task.parse().iterator().next();
        task.analyze();
        Rules rules = new Rules(Trees.instance(task), unit);
        for (Diagnostic<?> one : told.getDiagnostics()) {
            if (one.getKind() == Diagnostic.Kind.ERROR) {
                rules.broken.add("does not compile, line " + one.getLineNumber() + ": " + one.getMessage(null));
            }
        }
        if (rules.broken.isEmpty()) {
            rules.look();
        }
        return rules.broken;
    }

    private void look() {
        if (unit.getPackage() != null) {
            breaks(1, unit, "a package");
        }
        gatherPublicNames();
        scan(unit, null);
        if (classes > MOST_CLASSES) {
            breaks(11, unit, classes + " classes");
        }
        for (Element one : calls.keySet()) {
            lookAtRecursion(one);
            if (deep(one, new HashSet<>()) > MOST_DEEP) {
                breaks(11, trees.getTree(one), "calls go deeper than " + MOST_DEEP + " from " + one);
            }
        }
    }

    private void gatherPublicNames() {
        for (Tree type : unit.getTypeDecls()) {
            for (Tree member : type instanceof ClassTree ? ((ClassTree) type).getMembers() : List.<Tree>of()) {
                if (member instanceof MethodTree && has((MethodTree) member, Modifier.PUBLIC)) {
                    publicNames.add(((MethodTree) member).getName().toString());
                }
            }
        }
        publicNames.remove("<init>");
    }

    private static boolean has(MethodTree tree, Modifier modifier) {
        return tree.getModifiers().getFlags().contains(modifier);
    }

    private void breaks(int rule, Tree tree, String what) {
        long line = unit.getLineMap().getLineNumber(Math.max(0, start(tree)));
        broken.add("rule " + rule + ", line " + line + ": " + what);
    }

    private long start(Tree tree) {
        return tree == null ? 0 : trees.getSourcePositions().getStartPosition(unit, tree);
    }

    private Element element() {
        return trees.getElement(getCurrentPath());
    }

    // ---- classes, methods, fields

    @Override
    public Void visitClass(ClassTree tree, Void nothing) {
        classes++;
        Set<Modifier> flags = tree.getModifiers().getFlags();
        boolean top = getCurrentPath().getParentPath().getLeaf() instanceof CompilationUnitTree;
        boolean inside = getCurrentPath().getParentPath().getLeaf() instanceof ClassTree;
        if (top && !(flags.contains(Modifier.PUBLIC) && flags.contains(Modifier.FINAL))) {
            breaks(1, tree, "a class that is not public and final: " + tree.getSimpleName());
        }
        if (!top && !inside) {
            breaks(2, tree, "a local or anonymous class");
        }
        if (inside && !element().getModifiers().contains(Modifier.STATIC)) {
            breaks(2, tree, "a class inside that is not static: " + tree.getSimpleName());
        }
        if (inside && (flags.contains(Modifier.PUBLIC) || flags.contains(Modifier.PROTECTED))) {
            breaks(1, tree, "a class inside that can be seen: " + tree.getSimpleName());
        }
        lookAtMembers(tree);
        return super.visitClass(tree, nothing);
    }

    private void lookAtMembers(ClassTree tree) {
        int fields = 0;
        for (Tree member : tree.getMembers()) {
            if (member instanceof BlockTree) {
                breaks(5, member, "an initialiser block");
            }
            if (member instanceof VariableTree
                && !((VariableTree) member).getModifiers().getFlags().contains(Modifier.STATIC)) {
                fields++;
            }
        }
        if (fields > MOST_FIELDS) {
            breaks(11, tree, fields + " fields in " + tree.getSimpleName());
        }
    }

    @Override
    public Void visitMethod(MethodTree tree, Void nothing) {
        Element before = method;
        method = element();
        calls.putIfAbsent(method, new LinkedHashSet<>());
        String name = tree.getName().toString();
        if (!has(tree, Modifier.PUBLIC) && publicNames.contains(name)) {
            breaks(1, tree, "bears the name of a public one: " + name);
        }
        if (isTop(method.getEnclosingElement()) && !has(tree, Modifier.PUBLIC) && !has(tree, Modifier.PRIVATE)) {
            breaks(1, tree, "neither public nor private: " + name);
        }
        if (Set.of("equals", "hashCode", "toString").contains(name) || !tree.getThrows().isEmpty()) {
            breaks(6, tree, name);
        }
        if (tree.getParameters().size() > MOST_PARAMETERS) {
            breaks(11, tree, tree.getParameters().size() + " parameters of " + name);
        }
        long end = trees.getSourcePositions().getEndPosition(unit, tree);
        if (unit.getLineMap().getLineNumber(end) - unit.getLineMap().getLineNumber(start(tree)) >= MOST_LINES) {
            breaks(11, tree, "more than " + MOST_LINES + " lines in " + name);
        }
        if (tree.getReturnType() != null) {
            lookAtType(tree, ((ExecutableElement) method).getReturnType());
        }
        super.visitMethod(tree, nothing);
        method = before;
        return null;
    }

    private boolean isTop(Element type) {
        return type.getEnclosingElement().getKind() == ElementKind.PACKAGE;
    }

    @Override
    public Void visitVariable(VariableTree tree, Void nothing) {
        Element variable = element();
        Set<Modifier> flags = variable.getModifiers();
        lookAtType(tree, variable.asType());
        if (variable.getKind() == ElementKind.FIELD) {
            if (isTop(variable.getEnclosingElement())
                && !flags.contains(Modifier.PRIVATE) && !flags.contains(Modifier.PUBLIC)) {
                breaks(1, tree, "neither public nor private: " + tree.getName());
            }
            if (flags.contains(Modifier.STATIC) && !isConstant(tree, variable)) {
                breaks(5, tree, "no constant: " + tree.getName());
            }
        }
        return super.visitVariable(tree, nothing);
    }

    private boolean isConstant(VariableTree tree, Element field) {
        if (!field.getModifiers().contains(Modifier.FINAL) || tree.getInitializer() == null) {
            return false;
        }
        String type = field.asType().toString();
        if (type.endsWith("[]")) {
            boolean written = tree.getInitializer().getKind() == Tree.Kind.NEW_ARRAY;
            return written && Set.of("int[]", "long[]", "char[]", "byte[]").contains(type);
        }
        return Set.of("int", "long", "boolean", "char", "java.lang.String").contains(type);
    }

    // ---- types

    private void lookAtType(Tree tree, TypeMirror type) {
        if (!isInLanguage(type)) {
            breaks(3, tree, "the type " + type);
        }
    }

    private boolean isInLanguage(TypeMirror type) {
        if (type.getKind().isPrimitive() || type.getKind() == TypeKind.VOID || type.getKind() == TypeKind.TYPEVAR) {
            return true;
        }
        if (type.getKind() == TypeKind.ARRAY) {
            TypeMirror part = ((ArrayType) type).getComponentType();
            boolean ofNumbers = part.getKind() == TypeKind.ARRAY
                && ((ArrayType) part).getComponentType().getKind().isPrimitive();
            return part.getKind().isPrimitive() || isOwn(part) || ofNumbers;
        }
        if (isOwn(type) || isNamed(type, Set.of("java.lang.String", "java.lang.StringBuilder"))) {
            return true;
        }
        return isNamed(type, LISTS) && ((DeclaredType) type).getTypeArguments().stream()
            .allMatch(part -> isOwn(part) || isNamed(part, Set.of("java.lang.Integer")));
    }

    private boolean isOwn(TypeMirror type) {
        return type.getKind() == TypeKind.DECLARED && trees.getTree(((DeclaredType) type).asElement()) != null;
    }

    private static boolean isNamed(TypeMirror type, Set<String> names) {
        return type.getKind() == TypeKind.DECLARED
            && names.contains(((TypeElement) ((DeclaredType) type).asElement()).getQualifiedName().toString());
    }

    private TypeMirror typeOf(Tree part) {
        return trees.getTypeMirror(new TreePath(getCurrentPath(), part));
    }

    private boolean isText(Tree part) {
        TypeMirror type = typeOf(part);
        return type != null && isNamed(type, Set.of("java.lang.String"));
    }

    private boolean isInteger(Tree part) {
        TypeMirror type = typeOf(part);
        return type != null && isNamed(type, Set.of("java.lang.Integer"));
    }

    // ---- the library

    @Override
    public Void visitImport(ImportTree tree, Void nothing) {
        if (tree.isStatic() || !IMPORTS.contains(tree.getQualifiedIdentifier().toString())) {
            breaks(4, tree, "imports " + tree.getQualifiedIdentifier());
        }
        return null;
    }

    @Override
    public Void visitMethodInvocation(MethodInvocationTree tree, Void nothing) {
        Element called = element();
        String name = called.getSimpleName().toString();
        boolean isSuper = name.equals("<init>");
        if (trees.getTree(called) != null) {
            addCall(called);
        } else if (!isSuper && !isInLibrary(called.getEnclosingElement(), name) && !isArrayClone(tree, name)) {
            breaks(4, tree, "calls " + called.getEnclosingElement() + "." + name);
        }
        return super.visitMethodInvocation(tree, nothing);
    }

    private void addCall(Element called) {
        if (method != null) {
            calls.get(method).add(called);
        }
    }

    private static boolean isInLibrary(Element type, String name) {
        return LIBRARY.getOrDefault(type.toString().replaceAll("<.*", ""), Set.of()).contains(name);
    }

    private boolean isArrayClone(MethodInvocationTree tree, String name) {
        if (!name.equals("clone") || !(tree.getMethodSelect() instanceof MemberSelectTree)) {
            return false;
        }
        TypeMirror type = typeOf(((MemberSelectTree) tree.getMethodSelect()).getExpression());
        return type != null && type.getKind() == TypeKind.ARRAY;
    }

    @Override
    public Void visitNewClass(NewClassTree tree, Void nothing) {
        Element made = element();
        String type = made.getEnclosingElement().toString().replaceAll("<.*", "");
        if (trees.getTree(made.getEnclosingElement()) != null) {
            if (trees.getTree(made) != null) {
                addCall(made);
            }
        } else if (!MADE.contains(type)) {
            breaks(4, tree, "makes " + type);
        }
        return super.visitNewClass(tree, nothing);
    }

    @Override
    public Void visitMemberSelect(MemberSelectTree tree, Void nothing) {
        Element selected = element();
        boolean field = selected != null && selected.getKind() == ElementKind.FIELD;
        boolean length = tree.getIdentifier().contentEquals("length");
        if (field && !length && trees.getTree(selected) == null) {
            breaks(4, tree, tree.toString());
        }
        return super.visitMemberSelect(tree, nothing);
    }

    @Override
    public Void visitLiteral(LiteralTree tree, Void nothing) {
        if (tree.getValue() instanceof String
            && ((String) tree.getValue()).chars().anyMatch(sign -> sign < 1 || sign > 127)) {
            breaks(4, tree, "a sign beyond 127");
        }
        return null;
    }

    // ---- what the language leaves out

    @Override
    public Void visitLambdaExpression(LambdaExpressionTree tree, Void nothing) {
        breaks(2, tree, "a lambda");
        return super.visitLambdaExpression(tree, nothing);
    }

    @Override
    public Void visitMemberReference(MemberReferenceTree tree, Void nothing) {
        breaks(2, tree, "a method reference");
        return super.visitMemberReference(tree, nothing);
    }

    @Override
    public Void visitThrow(ThrowTree tree, Void nothing) {
        breaks(6, tree, "throw");
        return super.visitThrow(tree, nothing);
    }

    @Override
    public Void visitTry(TryTree tree, Void nothing) {
        breaks(6, tree, "try");
        return super.visitTry(tree, nothing);
    }

    @Override
    public Void visitSynchronized(SynchronizedTree tree, Void nothing) {
        breaks(6, tree, "synchronized");
        return super.visitSynchronized(tree, nothing);
    }

    @Override
    public Void visitAssert(AssertTree tree, Void nothing) {
        breaks(6, tree, "assert");
        return super.visitAssert(tree, nothing);
    }

    @Override
    public Void visitBinary(BinaryTree tree, Void nothing) {
        boolean texts = isText(tree.getLeftOperand()) || isText(tree.getRightOperand());
        boolean both = isText(tree.getLeftOperand()) && isText(tree.getRightOperand())
            || isInteger(tree.getLeftOperand()) && isInteger(tree.getRightOperand());
        if (tree.getKind() == Tree.Kind.PLUS && texts) {
            breaks(10, tree, "joins texts by +");
        }
        if (both && (tree.getKind() == Tree.Kind.EQUAL_TO || tree.getKind() == Tree.Kind.NOT_EQUAL_TO)) {
            breaks(6, tree, tree.toString());
        }
        return super.visitBinary(tree, nothing);
    }

    @Override
    public Void visitCompoundAssignment(CompoundAssignmentTree tree, Void nothing) {
        if (tree.getKind() == Tree.Kind.PLUS_ASSIGNMENT && isText(tree.getVariable())) {
            breaks(10, tree, "joins texts by +=");
        }
        return super.visitCompoundAssignment(tree, nothing);
    }

    // ---- loops and recursion

    /** A counter's bound is a comparison of size in the condition, and a step. */
    @Override
    public Void visitForLoop(ForLoopTree tree, Void nothing) {
        String condition = tree.getCondition() == null ? "" : tree.getCondition().toString();
        if (tree.getUpdate().isEmpty() || !condition.matches(".*[<>].*")) {
            breaks(9, tree, "a loop without a counter against a bound");
        }
        return super.visitForLoop(tree, nothing);
    }

    /** The class needs none; whether one ends can't be seen here. */
    @Override
    public Void visitWhileLoop(WhileLoopTree tree, Void nothing) {
        breaks(9, tree, "while");
        return super.visitWhileLoop(tree, nothing);
    }

    @Override
    public Void visitDoWhileLoop(DoWhileLoopTree tree, Void nothing) {
        breaks(9, tree, "do");
        return super.visitDoWhileLoop(tree, nothing);
    }

    private void lookAtRecursion(Element one) {
        if (!reaches(one, one, new HashSet<>())) {
            return;
        }
        MethodTree tree = (MethodTree) trees.getTree(one);
        boolean carriesDepth = tree.getParameters().stream()
            .anyMatch(parameter -> parameter.getName().contentEquals("depth"));
        if (!has(tree, Modifier.PRIVATE) || !carriesDepth) {
            breaks(8, tree, "calls itself, not private or without a depth: " + one);
        }
    }

    private boolean reaches(Element from, Element to, Set<Element> seen) {
        for (Element next : calls.getOrDefault(from, Set.of())) {
            if (next.equals(to) || seen.add(next) && reaches(next, to, seen)) {
                return true;
            }
        }
        return false;
    }

    /** How many calls stand open at most, recursion counted once. */
    private int deep(Element one, Set<Element> open) {
        if (!open.add(one)) {
            return 0;
        }
        int most = 0;
        for (Element next : calls.getOrDefault(one, Set.of())) {
            most = Math.max(most, deep(next, open));
        }
        open.remove(one);
        return 1 + most;
    }

    /** A source that stands in no file. */
    private static final class Source extends SimpleJavaFileObject {
        private final String text;

        Source(String text) {
            super(URI.create("string:///GooseTrain.java"), Kind.SOURCE);
            this.text = text;
        }

        @Override
        public CharSequence getCharContent(boolean ignoreErrors) {
            return text;
        }
    }
}
