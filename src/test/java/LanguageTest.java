import com.sun.source.tree.BlockTree;
import com.sun.source.tree.ClassTree;
import com.sun.source.tree.CompilationUnitTree;
import com.sun.source.tree.ExpressionTree;
import com.sun.source.tree.IdentifierTree;
import com.sun.source.tree.MethodInvocationTree;
import com.sun.source.tree.MethodTree;
import com.sun.source.tree.NewArrayTree;
import com.sun.source.tree.Tree;
import com.sun.source.tree.VariableTree;
import com.sun.source.util.JavacTask;
import com.sun.source.util.SourcePositions;
import com.sun.source.util.TreeScanner;
import com.sun.source.util.Trees;
import java.nio.file.Path;
import java.util.HashMap;
import java.util.HashSet;
import java.util.List;
import java.util.Map;
import java.util.Set;
import javax.lang.model.element.Modifier;
import javax.tools.JavaCompiler;
import javax.tools.ToolProvider;

/** The rules of LANGUAGE.md that can be read off the source: 1 to 6, and 8 and 10 in part. */
public final class LanguageTest {
    private static final Path SOURCE = Path.of("src/main/java/ChannelProgramRunner.java");
    private static final Set<String> FACE = Set.of("<init>", "line", "clear", "check", "badLine", "run", "printed",
            "output", "panicValue", "clock", "waitsAt", "variable", "channel", "notes", "panicking");
    private static final Set<String> CONSTANTS = Set.of("OK", "FORM", "CALLEE", "UNSET", "IDLE", "RUNNING", "EXITED",
            "PANICKED", "STUCK", "OVERFLOW");
    private static final Set<String> TYPES = Set.of("int", "long", "short", "byte", "char", "boolean");
    private static final Set<Tree.Kind> FORBIDDEN = Set.of(Tree.Kind.THROW, Tree.Kind.TRY, Tree.Kind.SYNCHRONIZED,
            Tree.Kind.ASSERT, Tree.Kind.INSTANCE_OF, Tree.Kind.LAMBDA_EXPRESSION, Tree.Kind.MEMBER_REFERENCE,
            Tree.Kind.NEW_CLASS, Tree.Kind.STRING_LITERAL, Tree.Kind.NULL_LITERAL, Tree.Kind.MEMBER_SELECT,
            Tree.Kind.IMPORT, Tree.Kind.FLOAT_LITERAL, Tree.Kind.DOUBLE_LITERAL, Tree.Kind.ENHANCED_FOR_LOOP);

    private static final Answers answers = new Answers();
    private static final Map<String, Set<String>> calls = new HashMap<>();

    public static void main(String[] args) throws Exception {
        JavaCompiler compiler = ToolProvider.getSystemJavaCompiler();
        var files = compiler.getStandardFileManager(null, null, null);
        JavacTask task = (JavacTask) compiler.getTask(null, files, null, List.of("-proc:none"), null,
                files.getJavaFileObjects(SOURCE));
        CompilationUnitTree unit = task.parse().iterator().next();
        SourcePositions positions = Trees.instance(task).getSourcePositions();
        rule("one type in the file", unit.getTypeDecls().size() == 1);
        rule("no package and no import", unit.getPackageName() == null && unit.getImports().isEmpty());
        ClassTree type = (ClassTree) unit.getTypeDecls().get(0);
        rule("public and final", type.getModifiers().getFlags().equals(Set.of(Modifier.PUBLIC, Modifier.FINAL)));
        int fields = 0;
        for (Tree member : type.getMembers()) {
            if (member instanceof VariableTree field) {
                fields += field.getModifiers().getFlags().contains(Modifier.STATIC) ? 0 : 1;
                lookAtField(field);
            } else if (member instanceof MethodTree method) {
                lookAtMethod(method, unit, positions);
            } else {
                rule("no member of kind " + member.getKind(), false);
            }
        }
        rule(fields + " fields are some forty at most", fields <= 42);
        lookAtDepth();
        answers.finish();
    }

    private static void rule(String what, boolean holds) {
        answers.due(what, true, holds);
    }

    private static void lookAtField(VariableTree field) {
        String name = field.getName().toString();
        Set<Modifier> flags = field.getModifiers().getFlags();
        rule(name + " is public only if the document has it",
                flags.contains(Modifier.PUBLIC) == CONSTANTS.contains(name));
        rule(name + " is public or private", flags.contains(Modifier.PUBLIC) || flags.contains(Modifier.PRIVATE));
        String typeName = field.getType().toString();
        if (flags.contains(Modifier.STATIC)) {
            rule(name + " is a constant of int or long", flags.contains(Modifier.FINAL) && typeName.matches("int|long"));
        }
        if (typeName.endsWith("[]")) {
            rule(name + " is final and made at once", flags.contains(Modifier.FINAL) && field.getInitializer() instanceof NewArrayTree);
        }
        rule(name + " has an allowed type", TYPES.contains(typeName.replaceFirst("\\[\\]$", "")));
    }

    private static void lookAtMethod(MethodTree method, CompilationUnitTree unit, SourcePositions positions) {
        String name = method.getName().toString();
        Set<Modifier> flags = method.getModifiers().getFlags();
        rule(name + " is public only if the document has it", flags.contains(Modifier.PUBLIC) == FACE.contains(name));
        rule(name + " is public or private", flags.contains(Modifier.PUBLIC) || flags.contains(Modifier.PRIVATE));
        rule(name + " is there once", !calls.containsKey(name));
        rule(name + " takes at most seven parameters", method.getParameters().size() <= 7);
        rule(name + " answers no array", method.getReturnType() == null || !method.getReturnType().toString().endsWith("]"));
        var map = unit.getLineMap();
        long first = map.getLineNumber(positions.getStartPosition(unit, method));
        long last = map.getLineNumber(positions.getEndPosition(unit, method));
        rule(name + " is short", last - first <= 65);
        Set<String> called = new HashSet<>();
        calls.put(name, called);
        lookAtBody(name, method.getBody(), called);
    }

    private static void lookAtBody(String name, BlockTree body, Set<String> called) {
        new TreeScanner<Void, Boolean>() {
            @Override
            public Void scan(Tree tree, Boolean inArguments) {
                if (tree != null) {
                    rule(name + " has nothing of kind " + tree.getKind(), !FORBIDDEN.contains(tree.getKind()));
                    rule(name + " makes no array", tree.getKind() != Tree.Kind.NEW_ARRAY);
                    rule(name + " has loops with a counter", tree.getKind() != Tree.Kind.WHILE_LOOP
                            && tree.getKind() != Tree.Kind.DO_WHILE_LOOP);
                }
                return super.scan(tree, inArguments);
            }

            @Override
            public Void visitMethodInvocation(MethodInvocationTree call, Boolean inArguments) {
                rule(name + " has no call inside a call's arguments", !inArguments);
                rule(name + " calls only what has a plain name", call.getMethodSelect() instanceof IdentifierTree);
                called.add(call.getMethodSelect().toString());
                for (ExpressionTree argument : call.getArguments()) {
                    scan(argument, true);
                }
                return null;
            }

            @Override
            public Void visitVariable(VariableTree local, Boolean inArguments) {
                rule(name + " has locals of allowed types", TYPES.contains(local.getType().toString()));
                return super.visitVariable(local, inArguments);
            }
        }.scan(body, false);
    }

    /** Calls that go deeper than six are told; a recursion would go deeper than any bound. */
    private static void lookAtDepth() {
        for (String name : FACE) {
            rule(name + " is there", calls.containsKey(name));
        }
        Set<String> reached = new HashSet<>(FACE);
        for (int depth = 1; depth <= 6; depth++) {
            Set<String> next = new HashSet<>();
            for (String name : reached) {
                next.addAll(calls.getOrDefault(name, Set.of()));
            }
            reached = next;
        }
        rule("no call is deeper than six, but " + reached + " is", reached.isEmpty());
    }
}
