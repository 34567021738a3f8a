import com.sun.source.tree.AssertTree;
import com.sun.source.tree.CatchTree;
import com.sun.source.tree.ClassTree;
import com.sun.source.tree.CompilationUnitTree;
import com.sun.source.tree.ExpressionTree;
import com.sun.source.tree.ImportTree;
import com.sun.source.tree.InstanceOfTree;
import com.sun.source.tree.LambdaExpressionTree;
import com.sun.source.tree.MemberReferenceTree;
import com.sun.source.tree.MethodInvocationTree;
import com.sun.source.tree.MethodTree;
import com.sun.source.tree.NewArrayTree;
import com.sun.source.tree.NewClassTree;
import com.sun.source.tree.SynchronizedTree;
import com.sun.source.tree.ThrowTree;
import com.sun.source.tree.Tree;
import com.sun.source.tree.TryTree;
import com.sun.source.tree.TypeCastTree;
import com.sun.source.tree.VariableTree;
import com.sun.source.util.JavacTask;
import com.sun.source.util.SourcePositions;
import com.sun.source.util.TreePathScanner;
import com.sun.source.util.Trees;
import java.io.IOException;
import java.lang.reflect.Constructor;
import java.lang.reflect.Field;
import java.lang.reflect.Method;
import java.lang.reflect.Modifier;
import java.nio.file.Files;
import java.nio.file.Path;
import java.util.HashMap;
import java.util.HashSet;
import java.util.LinkedHashMap;
import java.util.LinkedHashSet;
import java.util.List;
import java.util.Map;
import java.util.Set;
import java.util.TreeSet;
import javax.lang.model.element.Element;
import javax.lang.model.element.ElementKind;
import javax.lang.model.element.ExecutableElement;
import javax.lang.model.element.TypeElement;
import javax.lang.model.type.ArrayType;
import javax.lang.model.type.TypeKind;
import javax.lang.model.type.TypeMirror;
import javax.tools.JavaCompiler;
import javax.tools.StandardJavaFileManager;
import javax.tools.ToolProvider;

/** The rules of LANGUAGE.md that a program can look at, by javac's own trees of the class; each is told by its number. */
public final class RulesTest {
    private static final Path SOURCE = Path.of("src", "main", "java", "TuskLedger.java");
    private static final Path DOCUMENT = Path.of("..", "shared", "DOC.md");
    /** Of the library only this is used; what LANGUAGE.md allows beside it may be added here when it is needed. */
    private static final Set<String> LIBRARY = Set.of("java.lang.System.arraycopy", "java.lang.Integer.bitCount",
        "java.lang.Math.max", "java.lang.Math.min", "java.lang.Math.abs", "java.lang.String.charAt",
        "java.lang.String.length");
    private static final Set<String> EXCEPTIONS = Set.of("IllegalStateException", "IllegalArgumentException",
        "IndexOutOfBoundsException", "ArithmeticException", "UnsupportedOperationException", "NoSuchElementException",
        "RuntimeException");
    private static final int MOST_PARAMETERS = 7;
    private static final int MOST_LINES = 60;
    private static final int MOST_DEPTH = 8;
    private static final int MOST_CLASSES = 12;
    private static final int MOST_FIELDS = 20;

    private static final Probe PROBE = new Probe();

    public static void main(String[] args) throws IOException {
        dueFace();
        JavaCompiler compiler = ToolProvider.getSystemJavaCompiler();
        try (StandardJavaFileManager files = compiler.getStandardFileManager(null, null, null)) {
            JavacTask task = (JavacTask) compiler.getTask(null, files, null, List.of("-proc:none"), null,
                files.getJavaFileObjects(SOURCE));
            CompilationUnitTree unit = task.parse().iterator().next();
            task.analyze();
            Looker looker = new Looker(Trees.instance(task), unit);
            looker.scan(unit, null);
            looker.dueAll();
        }
        PROBE.end();
    }

    private static void refuse(int rule, String what) {
        PROBE.due("rule " + rule + ": " + what, 1, 0);
    }

    /** What the class shows to others must be what the document's code block tells, and nothing more. */
    private static void dueFace() throws IOException {
        Set<String> face = new TreeSet<>();
        for (Method method : TuskLedger.class.getDeclaredMethods()) {
            if (!Modifier.isPrivate(method.getModifiers())) {
                face.add(method.toGenericString().replace("TuskLedger.", "").replaceAll("java\\.\\w+\\.", ""));
            }
        }
        for (Field field : TuskLedger.class.getDeclaredFields()) {
            if (!Modifier.isPrivate(field.getModifiers())) {
                face.add(field.toGenericString().replace("TuskLedger.", ""));
            }
        }
        for (Constructor<?> constructor : TuskLedger.class.getDeclaredConstructors()) {
            face.add(constructor.toGenericString());
        }
        String document = Files.readString(DOCUMENT);
        int from = document.indexOf("public final class TuskLedger {");
        Set<String> due = new TreeSet<>();
        for (String line : document.substring(from, document.indexOf("```", from)).split("\n")) {
            if (line.endsWith(";")) {
                due.add(plain(line.trim()));
            }
        }
        PROBE.due("the document's face has more than 30 members", due.size() > 30, true);
        PROBE.due("rule 1: the face " + face + " is the document's " + due, face.equals(due), true);
        int both = Modifier.PUBLIC | Modifier.FINAL;
        PROBE.due("rule 1: public and final", TuskLedger.class.getModifiers() & both, both);
    }

    /** A line of the face as reflection tells it: without names of parameters, values and blanks behind commas. */
    private static String plain(String line) {
        return line.replaceAll(" = .*;|;", "").replaceAll("(int|boolean|long) \\w+(?=[,)])", "$1").replace(", ", ",");
    }

    /** Goes through the trees of the class once and keeps what the rules ask for. */
    private static final class Looker extends TreePathScanner<Void, Void> {
        private final Trees trees;
        private final CompilationUnitTree unit;
        private final SourcePositions places;
        private final Map<String, Set<String>> calls = new LinkedHashMap<>();
        private final Map<String, Integer> fields = new HashMap<>();
        private final Set<String> faceNames = new HashSet<>();
        private final Map<String, Integer> otherMethods = new HashMap<>();
        private String method = "";
        private boolean isConstructor;
        private int classes;

        Looker(Trees trees, CompilationUnitTree unit) {
            this.trees = trees;
            this.unit = unit;
            places = trees.getSourcePositions();
        }

        private Element element() {
            return trees.getElement(getCurrentPath());
        }

        private int lineOf(Tree tree) {
            return (int) unit.getLineMap().getLineNumber(places.getStartPosition(unit, tree));
        }

        private int lastLineOf(Tree tree) {
            return (int) unit.getLineMap().getLineNumber(places.getEndPosition(unit, tree));
        }

        @Override
        public Void visitImport(ImportTree tree, Void nothing) {
            String name = tree.getQualifiedIdentifier().toString();
            PROBE.due("rule 4: import " + name, name.equals("java.util.NoSuchElementException"), true);
            return super.visitImport(tree, nothing);
        }

        @Override
        public Void visitClass(ClassTree tree, Void nothing) {
            classes++;
            boolean isOuter = getCurrentPath().getParentPath().getLeaf() == unit;
            boolean isStatic = tree.getModifiers().getFlags().contains(javax.lang.model.element.Modifier.STATIC);
            PROBE.due("rule 1: " + tree.getSimpleName() + " is static", isOuter || isStatic, true);
            PROBE.due("rule 2: " + tree.getSimpleName() + " is local", method.isEmpty(), true);
            return super.visitClass(tree, nothing);
        }

        @Override
        public Void visitMethod(MethodTree tree, Void nothing) {
            ExecutableElement element = (ExecutableElement) element();
            int lines = lastLineOf(tree) - lineOf(tree) + 1;
            method = nameOf(element);
            isConstructor = element.getKind() == ElementKind.CONSTRUCTOR;
            PROBE.due("rule 11: parameters of " + method, tree.getParameters().size() <= MOST_PARAMETERS, true);
            PROBE.due("rule 11: lines of " + method + " are " + lines, lines <= MOST_LINES, true);
            boolean isPublic = element.getModifiers().contains(javax.lang.model.element.Modifier.PUBLIC);
            if (isPublic) {
                faceNames.add(tree.getName().toString());
            } else if (!isConstructor) {
                otherMethods.put(tree.getName().toString(), lineOf(tree));
            }
            calls.putIfAbsent(method, new LinkedHashSet<>());
            super.visitMethod(tree, nothing);
            method = "";
            isConstructor = false;
            return null;
        }

        private static String nameOf(ExecutableElement element) {
            return element.getEnclosingElement() + "." + element;
        }

        @Override
        public Void visitVariable(VariableTree tree, Void nothing) {
            Element element = element();
            Set<javax.lang.model.element.Modifier> flags = tree.getModifiers().getFlags();
            PROBE.due("rule 3: the type of " + tree, isAllowed(element.asType()), true);
            if (element.getKind() == ElementKind.FIELD) {
                if (flags.contains(javax.lang.model.element.Modifier.STATIC)) {
                    boolean isFinal = flags.contains(javax.lang.model.element.Modifier.FINAL);
                    PROBE.due("rule 5: " + tree, isFinal && isConstant(element.asType()), true);
                } else {
                    fields.merge(element.getEnclosingElement().toString(), 1, Integer::sum);
                }
            }
            return super.visitVariable(tree, nothing);
        }

        private static boolean isConstant(TypeMirror type) {
            return type.getKind() == TypeKind.INT || type.getKind() == TypeKind.LONG
                || type.getKind() == TypeKind.BOOLEAN || type.getKind() == TypeKind.CHAR
                || type.toString().equals("java.lang.String");
        }

        private static boolean isAllowed(TypeMirror type) {
            TypeMirror part = type.getKind() == TypeKind.ARRAY ? ((ArrayType) type).getComponentType() : type;
            return part.getKind().isPrimitive() || part.toString().startsWith("TuskLedger")
                || type.toString().equals("java.lang.String");
        }

        @Override
        public Void visitMethodInvocation(MethodInvocationTree tree, Void nothing) {
            if (element() instanceof ExecutableElement) {
                ExecutableElement called = (ExecutableElement) element();
                String owner = ((TypeElement) called.getEnclosingElement()).getQualifiedName().toString();
                if (owner.startsWith("TuskLedger")) {
                    calls.computeIfAbsent(method, name -> new LinkedHashSet<>()).add(nameOf(called));
                } else if (called.getKind() == ElementKind.METHOD) {
                    String name = owner + "." + called.getSimpleName();
                    PROBE.due("rule 4: " + name + " in line " + lineOf(tree), LIBRARY.contains(name), true);
                }
            }
            return super.visitMethodInvocation(tree, nothing);
        }

        @Override
        public Void visitThrow(ThrowTree tree, Void nothing) {
            ExpressionTree thrown = tree.getExpression();
            boolean isRight = thrown instanceof NewClassTree
                && EXCEPTIONS.contains(((NewClassTree) thrown).getIdentifier().toString());
            PROBE.due("rule 6: " + tree, isRight && !isConstructor, true);
            PROBE.due("rule 6: only debt() throws, not " + method, method.endsWith(".debt(int,int)"), true);
            return super.visitThrow(tree, nothing);
        }

        @Override
        public Void visitNewClass(NewClassTree tree, Void nothing) {
            boolean isThrown = getCurrentPath().getParentPath().getLeaf() instanceof ThrowTree;
            PROBE.due("rule 12: " + method + " makes " + tree, isThrown || isConstructor || method.isEmpty(), true);
            return super.visitNewClass(tree, nothing);
        }

        @Override
        public Void visitNewArray(NewArrayTree tree, Void nothing) {
            PROBE.due("rule 12: " + method + " makes " + tree, isConstructor || method.isEmpty(), true);
            return super.visitNewArray(tree, nothing);
        }

        @Override
        public Void visitLambdaExpression(LambdaExpressionTree tree, Void nothing) {
            refuse(2, "a lambda in line " + lineOf(tree));
            return super.visitLambdaExpression(tree, nothing);
        }

        @Override
        public Void visitMemberReference(MemberReferenceTree tree, Void nothing) {
            refuse(2, "a method reference in line " + lineOf(tree));
            return super.visitMemberReference(tree, nothing);
        }

        @Override
        public Void visitTry(TryTree tree, Void nothing) {
            refuse(6, "nothing that is thrown needs a try, line " + lineOf(tree));
            return super.visitTry(tree, nothing);
        }

        @Override
        public Void visitCatch(CatchTree tree, Void nothing) {
            refuse(6, "a catch in line " + lineOf(tree));
            return super.visitCatch(tree, nothing);
        }

        @Override
        public Void visitSynchronized(SynchronizedTree tree, Void nothing) {
            refuse(6, "synchronized in line " + lineOf(tree));
            return super.visitSynchronized(tree, nothing);
        }

        @Override
        public Void visitAssert(AssertTree tree, Void nothing) {
            refuse(6, "assert in line " + lineOf(tree));
            return super.visitAssert(tree, nothing);
        }

        @Override
        public Void visitInstanceOf(InstanceOfTree tree, Void nothing) {
            refuse(6, "instanceof in line " + lineOf(tree));
            return super.visitInstanceOf(tree, nothing);
        }

        @Override
        public Void visitTypeCast(TypeCastTree tree, Void nothing) {
            PROBE.due("rule 6: " + tree, tree.getType().getKind() == Tree.Kind.PRIMITIVE_TYPE, true);
            return super.visitTypeCast(tree, nothing);
        }

        void dueAll() {
            PROBE.due("rule 11: classes are " + classes, classes <= MOST_CLASSES, true);
            fields.forEach((name, count) ->
                PROBE.due("rule 11: fields of " + name + " are " + count, count <= MOST_FIELDS, true));
            otherMethods.forEach((name, line) ->
                PROBE.due("rule 1: line " + line + " bears the face's name " + name, faceNames.contains(name), false));
            PROBE.due("rule 11: calls are seen", calls.size() > 100, true);
            for (String name : calls.keySet()) {
                dueDepth(name, new LinkedHashSet<>());
            }
        }

        /** What calls itself again isn't followed: only calls that are no recursion are counted. */
        private void dueDepth(String name, Set<String> path) {
            if (!path.add(name)) {
                return;
            }
            PROBE.due("rule 11: deep calls " + path, path.size() <= MOST_DEPTH, true);
            for (String called : calls.getOrDefault(name, Set.of())) {
                dueDepth(called, path);
            }
            path.remove(name);
        }
    }
}
