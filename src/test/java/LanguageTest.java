import com.sun.source.tree.ArrayTypeTree;
import com.sun.source.tree.AssertTree;
import com.sun.source.tree.BinaryTree;
import com.sun.source.tree.BlockTree;
import com.sun.source.tree.ClassTree;
import com.sun.source.tree.CompilationUnitTree;
import com.sun.source.tree.CompoundAssignmentTree;
import com.sun.source.tree.DoWhileLoopTree;
import com.sun.source.tree.ExpressionTree;
import com.sun.source.tree.ForLoopTree;
import com.sun.source.tree.ImportTree;
import com.sun.source.tree.LambdaExpressionTree;
import com.sun.source.tree.MemberReferenceTree;
import com.sun.source.tree.MethodInvocationTree;
import com.sun.source.tree.MethodTree;
import com.sun.source.tree.NewClassTree;
import com.sun.source.tree.SynchronizedTree;
import com.sun.source.tree.ThrowTree;
import com.sun.source.tree.Tree;
import com.sun.source.tree.TryTree;
import com.sun.source.tree.VariableTree;
import com.sun.source.tree.WhileLoopTree;
import com.sun.source.util.JavacTask;
import com.sun.source.util.TreePath;
import com.sun.source.util.TreePathScanner;
import com.sun.source.util.Trees;
import java.io.File;
import java.lang.reflect.Field;
import java.lang.reflect.Method;
import java.lang.reflect.Modifier;
import java.util.ArrayDeque;
import java.util.HashMap;
import java.util.HashSet;
import java.util.LinkedHashMap;
import java.util.LinkedHashSet;
import java.util.List;
import java.util.Map;
import java.util.Set;
import java.util.TreeSet;
import javax.lang.model.element.Element;
import javax.lang.model.type.TypeKind;
import javax.tools.JavaCompiler;
import javax.tools.StandardJavaFileManager;
import javax.tools.ToolProvider;

/** Holds src/main/java/WindJump.java against the rules of LANGUAGE.md that a tree of it shows, and its face against DOC.md. */
public final class LanguageTest {
    private static final Set<String> LIBRARY = Set.of("java.lang.String.length", "java.lang.String.charAt",
        "java.lang.String.indexOf", "java.lang.Math.max", "java.lang.Math.min", "java.lang.Math.abs",
        "java.util.Arrays.fill", "java.lang.System.arraycopy", "java.lang.Object.<init>");
    private static final Set<String> FACE = new TreeSet<>(List.of(
        "int feed(int,int,int,int,int)", "int back(int)", "int read()", "int place()", "int now(int)", "int wind(int,int)",
        "int jump(int,int,int)", "int mark(int,int,int)", "int points(int)", "int rank(int)", "int ranked(int)",
        "int start(int)", "int letGo(int)", "boolean gate(int)", "int pause(int)", "boolean undo()",
        "int attempt(int,int,int,int)", "int wait(int,int)", "int cost(int,int,boolean)", "int pound(int,int,int)",
        "int gain(int)", "int number(int)", "int gates(int)", "int crown(int,int)", "int without(int,int)", "int needs(int)",
        "int spread(int)", "int atGate(int,int,boolean)", "int lead(int)", "int reversed(int)", "int harsh(boolean,int)",
        "int calm(int,int)", "int windiest(int)", "int progress(int)", "int himself(int)", "int tell(int,int,int)",
        "int forget()", "int slips(int,int,int)", "boolean hold(int)", "boolean restore(int)", "int count(int)"));

    private final Check check = new Check();
    private final Map<String, Set<String>> calls = new LinkedHashMap<>();
    private final Set<String> recursive = new HashSet<>();
    private CompilationUnitTree unit;
    private Trees trees;
    private String source;

    public static void main(String[] args) throws Exception {
        LanguageTest test = new LanguageTest();
        test.checkFace();
        test.checkTree(new File(args.length > 0 ? args[0] : "src/main/java/WindJump.java"));
        test.check.end("LanguageTest");
    }

    private void rule(int number, String what, boolean kept) {
        check.due("rule " + number + ": " + what, true, kept);
    }

    private void checkFace() {
        Set<String> face = new TreeSet<>();
        for (Method m : WindJump.class.getDeclaredMethods()) {
            if (!Modifier.isPrivate(m.getModifiers()) && !m.isSynthetic()) {
                StringBuilder parameters = new StringBuilder();
                for (Class<?> p : m.getParameterTypes()) {
                    parameters.append(parameters.length() == 0 ? "" : ",").append(p);
                }
                face.add(m.getReturnType() + " " + m.getName() + "(" + parameters + ")");
            }
        }
        rule(1, "the face is " + face, face.equals(FACE));
        rule(1, "public and final", Modifier.isPublic(WindJump.class.getModifiers()) && Modifier.isFinal(WindJump.class.getModifiers()));
        rule(1, "one public constructor that takes nothing", WindJump.class.getDeclaredConstructors().length == 1
            && WindJump.class.getConstructors().length == 1 && WindJump.class.getConstructors()[0].getParameterCount() == 0);
        for (Field field : WindJump.class.getDeclaredFields()) {
            rule(1, field + " is private", Modifier.isPrivate(field.getModifiers()) != field.getName().equals("NONE"));
        }
        rule(1, "NONE is -1", WindJump.NONE == -1);
    }

    private void checkTree(File file) throws Exception {
        JavaCompiler compiler = ToolProvider.getSystemJavaCompiler();
        StandardJavaFileManager files = compiler.getStandardFileManager(null, null, null);
        JavacTask task = (JavacTask) compiler.getTask(null, files, null, List.of("-proc:none"), null,
            files.getJavaFileObjects(file));
        unit = task.parse().iterator().next();
        task.analyze();
        trees = Trees.instance(task);
        rule(1, "no package line", unit.getPackageName() == null);
        rule(1, "one class in the file", unit.getTypeDecls().size() == 1);
        source = unit.getSourceFile().getCharContent(true).toString();
        new Walk().scan(unit, null);
        findRecursive();
        Map<String, Integer> depths = new HashMap<>();
        for (String method : calls.keySet()) {
            int deep = depth(method, depths, new ArrayDeque<>());
            rule(11, method + " goes " + deep + " calls deep", deep <= 8);
        }
    }

    /** Which methods can come to be open twice at once. */
    private void findRecursive() {
        for (String method : calls.keySet()) {
            Set<String> reached = new LinkedHashSet<>();
            ArrayDeque<String> open = new ArrayDeque<>(calls.get(method));
            while (!open.isEmpty()) {
                String next = open.pop();
                if (reached.add(next)) {
                    open.addAll(calls.getOrDefault(next, Set.of()));
                }
            }
            if (reached.contains(method)) {
                recursive.add(method);
            }
        }
        Set<String> allowed = Set.of("Parser.readSum", "Parser.readProduct", "Parser.readUnit");
        rule(8, "recursion in " + recursive, allowed.containsAll(recursive));
    }

    /** How many methods are open at once at most, each that is recursive counted once. */
    private int depth(String method, Map<String, Integer> known, ArrayDeque<String> open) {
        if (known.containsKey(method)) {
            return known.get(method);
        }
        if (open.contains(method)) {
            return 0;
        }
        open.push(method);
        int deepest = 0;
        for (String called : calls.getOrDefault(method, Set.of())) {
            deepest = Math.max(deepest, depth(called, known, open));
        }
        open.pop();
        if (!recursive.contains(method)) {
            known.put(method, deepest + 1);
        }
        return deepest + 1;
    }

    private final class Walk extends TreePathScanner<Void, Void> {
        private int classes;
        private String method = "";

        private void never(int rule, Tree tree) {
            rule(rule, tree.getKind() + " in line " + unit.getLineMap().getLineNumber(
                trees.getSourcePositions().getStartPosition(unit, tree)), false);
        }

        private int lines(Tree tree) {
            long from = trees.getSourcePositions().getStartPosition(unit, tree);
            long to = trees.getSourcePositions().getEndPosition(unit, tree);
            // A constructor that javac adds stands nowhere.
            return to < 0 ? 0 : (int) source.substring((int) from, (int) to).lines().count();
        }

        @Override
        public Void visitImport(ImportTree tree, Void v) {
            rule(4, tree.toString(), Set.of("java.util.Arrays", "java.util.ArrayList", "java.util.List", "java.util.Iterator")
                .contains(tree.getQualifiedIdentifier().toString()));
            return null;
        }

        @Override
        public Void visitClass(ClassTree tree, Void v) {
            classes++;
            rule(11, classes + " classes", classes <= 12);
            Set<javax.lang.model.element.Modifier> flags = tree.getModifiers().getFlags();
            boolean outer = classes == 1;
            boolean hidden = flags.contains(javax.lang.model.element.Modifier.STATIC)
                && !flags.contains(javax.lang.model.element.Modifier.PUBLIC);
            rule(2, tree.getSimpleName() + " is static inside", outer || hidden);
            int fields = 0;
            for (Tree member : tree.getMembers()) {
                if (member instanceof VariableTree field) {
                    fields += isStatic(field) ? 0 : 1;
                    checkStatic(field);
                    checkHidden(field, outer);
                } else if (member instanceof BlockTree) {
                    never(5, member);
                }
            }
            rule(11, tree.getSimpleName() + " has " + fields + " fields", fields <= 20);
            return super.visitClass(tree, v);
        }

        private boolean isStatic(VariableTree field) {
            return field.getModifiers().getFlags().contains(javax.lang.model.element.Modifier.STATIC);
        }

        private void checkStatic(VariableTree field) {
            if (isStatic(field)) {
                rule(5, field.getName() + " is a constant", field.getModifiers().getFlags()
                    .contains(javax.lang.model.element.Modifier.FINAL)
                    && Set.of("int", "long", "boolean", "char", "String").contains(field.getType().toString()));
            }
        }

        private void checkHidden(VariableTree field, boolean outer) {
            boolean hidden = field.getModifiers().getFlags().contains(javax.lang.model.element.Modifier.PRIVATE);
            rule(1, field.getName() + " is private", !outer || hidden || field.getName().contentEquals("NONE"));
        }

        @Override
        public Void visitMethod(MethodTree tree, Void v) {
            Element element = trees.getElement(getCurrentPath());
            method = element.getEnclosingElement().getSimpleName() + "." + tree.getName();
            calls.computeIfAbsent(method, m -> new LinkedHashSet<>());
            rule(11, method + " takes " + tree.getParameters().size(), tree.getParameters().size() <= 7);
            rule(11, method + " has " + lines(tree) + " lines", lines(tree) <= 60);
            rule(6, method, !Set.of("equals", "hashCode", "toString").contains(tree.getName().toString()));
            boolean open = tree.getModifiers().getFlags().contains(javax.lang.model.element.Modifier.PUBLIC);
            boolean named = FACE.stream().anyMatch(f -> f.contains(" " + tree.getName() + "("));
            rule(1, method + " bears a public name", open == named || method.equals("WindJump.<init>"));
            super.visitMethod(tree, v);
            method = "";
            return null;
        }

        @Override
        public Void visitMethodInvocation(MethodInvocationTree tree, Void v) {
            Element called = trees.getElement(getCurrentPath());
            enters(called);
            return super.visitMethodInvocation(tree, v);
        }

        @Override
        public Void visitNewClass(NewClassTree tree, Void v) {
            if (tree.getClassBody() != null) {
                never(2, tree);
            }
            enters(trees.getElement(getCurrentPath()));
            return super.visitNewClass(tree, v);
        }

        private void enters(Element called) {
            String owner = called.getEnclosingElement().toString();
            if (owner.startsWith("WindJump")) {
                calls.computeIfAbsent(method, m -> new LinkedHashSet<>())
                    .add(called.getEnclosingElement().getSimpleName() + "." + called.getSimpleName());
            } else {
                rule(4, owner + "." + called.getSimpleName(), LIBRARY.contains(owner + "." + called.getSimpleName()));
            }
        }

        @Override
        public Void visitBinary(BinaryTree tree, Void v) {
            boolean texts = isText(tree.getLeftOperand()) || isText(tree.getRightOperand());
            rule(10, tree + " joins texts", !texts);
            return super.visitBinary(tree, v);
        }

        @Override
        public Void visitCompoundAssignment(CompoundAssignmentTree tree, Void v) {
            rule(10, tree + " joins texts", !isText(tree.getVariable()));
            return super.visitCompoundAssignment(tree, v);
        }

        private boolean isText(ExpressionTree tree) {
            var type = trees.getTypeMirror(new TreePath(getCurrentPath(), tree));
            return type != null && type.getKind() == TypeKind.DECLARED && type.toString().equals("java.lang.String");
        }

        @Override
        public Void visitArrayType(ArrayTypeTree tree, Void v) {
            rule(3, tree.toString(), tree.toString().matches("(int|long|short|byte|char)\\[\\](\\[\\])?|boolean\\[\\]"));
            return null;
        }

        @Override
        public Void visitForLoop(ForLoopTree tree, Void v) {
            rule(9, "an end of the loop " + tree, tree.getCondition() != null && !tree.getCondition().toString().equals("true")
                && !tree.getUpdate().isEmpty());
            return super.visitForLoop(tree, v);
        }

        @Override
        public Void visitWhileLoop(WhileLoopTree tree, Void v) {
            rule(9, "an end of the loop " + tree, !tree.getCondition().toString().equals("(true)"));
            return super.visitWhileLoop(tree, v);
        }

        @Override
        public Void visitDoWhileLoop(DoWhileLoopTree tree, Void v) {
            rule(9, "an end of the loop " + tree, !tree.getCondition().toString().equals("(true)"));
            return super.visitDoWhileLoop(tree, v);
        }

        @Override
        public Void visitThrow(ThrowTree tree, Void v) {
            never(6, tree);
            return null;
        }

        @Override
        public Void visitTry(TryTree tree, Void v) {
            never(6, tree);
            return null;
        }

        @Override
        public Void visitSynchronized(SynchronizedTree tree, Void v) {
            never(6, tree);
            return null;
        }

        @Override
        public Void visitAssert(AssertTree tree, Void v) {
            never(6, tree);
            return null;
        }

        @Override
        public Void visitLambdaExpression(LambdaExpressionTree tree, Void v) {
            never(2, tree);
            return null;
        }

        @Override
        public Void visitMemberReference(MemberReferenceTree tree, Void v) {
            never(2, tree);
            return null;
        }
    }
}
